set_option maxHeartbeats 4000000 in
theorem vc_Mo_flood_3_0 (x1 : Int) (x2 : Int) (x4 : Int) (x5 : Int) (x6 : Int) (x7 : Int) (x9 : Int) (x10 : Int) (pt_0 : Int → Int) (ph_0 : Int → Int) (pn_0 : Int) (pm_0 : Int) (pn_1 : Int) (pt_1 : Int → Int) (ph_1 : Int → Int) (pm_1 : Int) (seen_1 : Int → Int) (seen_0 : Int → Int) (k1 : 0 ≤ x1 ∧ x1 ≤ 24) (k2 : (-1) ≤ x2 ∧ x2 ≤ 24) (k4 : 0 ≤ x4 ∧ x4 ≤ 24) (k5 : (-1) ≤ x5 ∧ x5 ≤ 24) (k6 : 0 ≤ x6 ∧ x6 ≤ 24) (k7 : 1 ≤ x7 ∧ x7 ≤ 25) (k9 : 1 ≤ x9 ∧ x9 ≤ 1) (k10 : 1 ≤ x10 ∧ x10 ≤ 25) (d0 : x6 + 1 ≤ x10 ∧ x10 ≤ x6 + 1) (d1 : x4 + 1 ≤ x10 ∧ x10 ≤ x4 + 1) (d2 : x7 + (-4294967296) ≤ x10 ∧ x10 ≤ x7 + 0) (d3 : x4 + 0 ≤ x6 ∧ x6 ≤ x4 + 0) (d4 : x7 + (-4294967296) ≤ x6 ∧ x6 ≤ x7 + (-1)) (d5 : x4 + (-4294967296) ≤ x1 ∧ x1 ≤ x4 + 0) (d6 : x5 + (-4294967296) ≤ x2 ∧ x2 ≤ x5 + 0) (d7 : x1 + (-4294967296) ≤ x4 ∧ x4 ≤ x1 + 0) (d8 : x2 + (-4294967296) ≤ x5 ∧ x5 ≤ x2 + 0) (f0 : x10 = x6 + 1) (f1 : GOK (pn_0) (pm_0) (pt_0) (ph_0)) (f2 : 1 * x1 + ((-1) * pn_0 + 0) ≤ (-1)) (f7 : x6 = x1) (f9 : x6 < x7) (g10 : x7 = pn_1) (f11 : GOK (pn_1) (pm_1) (pt_1) (ph_1)) (f12 : 1 * x1 + ((-1) * pn_1 + 0) ≤ (-1)) (f13 : FL0 (seen_1) (x1) (x6)) (fe_0_31_1 : pn_0 = pn_1) (fe_0_32_1 : pm_0 = pm_1) (hE_0_33_1 : ∀ j : Int, pt_0 j = pt_1 j) (hK_0_33 : ∀ j : Int, 0 ≤ j → j < 80 → 0 ≤ pt_0 j ∧ pt_0 j ≤ 24) (hE_0_34_1 : ∀ j : Int, ph_0 j = ph_1 j) (hK_0_34 : ∀ j : Int, 0 ≤ j → j < 80 → 0 ≤ ph_0 j ∧ ph_0 j ≤ 24) (hE_0_38_1 : ∀ j : Int, 0 ≤ j → (j = x6 → seen_0 j = x9) ∧ (j ≠ x6 → seen_0 j = seen_1 j)) (hK_0_38 : ∀ j : Int, 0 ≤ j → j < 26 → 0 ≤ seen_0 j ∧ seen_0 j ≤ 1) (kz_0_31 : 0 ≤ pn_0 ∧ pn_0 ≤ 25) (kz_0_32 : 0 ≤ pm_0 ∧ pm_0 ≤ 80) : FL0 (seen_0) (x1) (x10) := by
  subst fe_0_31_1
  subst fe_0_32_1
  have e_hE_0_33_1 := funext hE_0_33_1; subst e_hE_0_33_1
  have e_hE_0_34_1 := funext hE_0_34_1; subst e_hE_0_34_1
  first
    | (intro j a b; omega)
    | (intro j a b
       by_cases e : j = x6
       · rw [((by assumption : ∀ j : Int, 0 ≤ j → (j = x6 → seen_0 j = _) ∧ (j ≠ x6 → seen_0 j = seen_1 j)) j a).1 e]; omega
       · rw [((by assumption : ∀ j : Int, 0 ≤ j → (j = x6 → seen_0 j = _) ∧ (j ≠ x6 → seen_0 j = seen_1 j)) j a).2 e]; exact ‹FL0 _ _ _› j a (by omega))
def o_Mo_flood_3 : or_T := (2, 11, [(0, (2, 0, 0, [165])), (1, (0, 0, 24, [])), (2, (0, -1, 24, [])), (3, (2, 0, 0, [165])), (4, (0, 0, 24, [])), (5, (0, -1, 24, [])), (6, (0, 0, 24, [])), (7, (0, 1, 25, [])), (8, (2, 0, 0, [185])), (9, (0, 1, 1, [])), (10, (0, 1, 25, []))], [(6, [10, 6], [1]), (20, [3], [60, 2, 2, 75, 31, 32, 33, 34]), (20, [4, 3], [30, -1, 1, 0, 0, -1, 1, 31]), (24, [0, 3], []), (24, [1, 4], []), (24, [2, 5], []), (100, [8, 6, 9], []), (7, [6, 4], [0]), (9, [8, 3], [38]), (7, [6, 7], [2]), (9, [7, 3], [31]), (20, [3], [60, 2, 2, 75, 31, 32, 33, 34]), (20, [4, 3], [30, -1, 1, 0, 0, -1, 1, 31]), (20, [3, 4, 6], [60, 0, 1, 76, 38])], [], [], [(20, [3, 4, 10], [60, 0, 1, 76, 38])], [], [(10, 6, 1, 1), (10, 4, 1, 1), (10, 7, -4294967296, 0), (6, 4, 0, 0), (6, 7, -4294967296, -1), (1, 4, -4294967296, 0), (2, 5, -4294967296, 0), (4, 1, -4294967296, 0), (5, 2, -4294967296, 0)])
theorem oo_Mo_flood_3 {kA : Nat → ClassId} : or_ok PRD kA GG o_Mo_flood_3 := by
  refine or_mk fun A ta ws vs hD hth hl => ?_
  intro t0 r0 t1 k1 t2 k2 t3 r3 t4 k4 t5 k5 t6 k6 t7 k7 t8 r8 t9 k9 t10 k10 d0 d1 d2 d3 d4 d5 d6 d7 d8 f0 f1 f2 f3 f4 f5 ta1 w1 le1 s1 f7 f8 f9 f10 f11 f12 f13
  replace f0 := shm_4 f0
  replace f1 := shm_563 f1
  replace f2 := shm_545 f2
  replace f3 := shm_5 f3
  replace f4 := shm_5 f4
  have s1 : (∀ b j, w_el ws b j = if b = v_ad (n_v vs 8) ∧ j = (v_iv (n_v vs 6)).toNat then v_iv (n_v vs 9) else w_el w1 b j) ∧ ∀ b k, w_fd ws b k = w_fd w1 b k := s1.2
  replace f7 := shm_37 f7
  replace f8 := shm_569 f8
  replace f9 := shm_6 f9
  replace f10 := shm_565 f10
  replace f11 := shm_563 f11
  replace f12 := shm_545 f12
  replace f13 := shm_564 f13
  have q3 : n_v vs 3 = n_v vs 0 := f3.symm
  have q4 : n_v vs 4 = n_v vs 1 := f4.symm
  simp only [q3, q4] at f1 f2 f7 f8 f10 f11 f12 f13
  have ar_0_33_1 : w_ar w1 (n_v vs 0) 33 = w_ar ws (n_v vs 0) 33 := congrArg v_ad (s1.2 _ _).symm
  have cr_0_33 := fdq_116 hD hth r0
  have ar_0_34_1 : w_ar w1 (n_v vs 0) 34 = w_ar ws (n_v vs 0) 34 := congrArg v_ad (s1.2 _ _).symm
  have cr_0_34 := fdq_117 hD hth r0
  have ar_0_38_1 : w_ar w1 (n_v vs 0) 38 = w_ar ws (n_v vs 0) 38 := congrArg v_ad (s1.2 _ _).symm
  have cr_0_38 := fdq_148 hD hth r0
  have ad_8 : v_ad (n_v vs 8) = w_ar ws (n_v vs 0) 38 := (congrArg v_ad f8).trans ar_0_38_1
  have g10 : v_iv (n_v vs 7) = w_fi w1 (n_v vs 0) 31 := congrArg v_iv f10
  simp only [ar_0_33_1, ar_0_34_1, ar_0_38_1] at f11 f13
  have fe_0_31_1 : w_fi ws (n_v vs 0) 31 = w_fi w1 (n_v vs 0) 31 := congrArg v_iv (s1.2 _ _)
  have fe_0_32_1 : w_fi ws (n_v vs 0) 32 = w_fi w1 (n_v vs 0) 32 := congrArg v_iv (s1.2 _ _)
  have hE_0_33_1 : ∀ j : Int, w_ei ws (w_ar ws (n_v vs 0) 33) j = w_ei w1 (w_ar ws (n_v vs 0) 33) j := el_kp s1.1 r8 cr_0_33 (by decide)
  have hK_0_33 := elq_57 hD hth cr_0_33
  have hE_0_34_1 : ∀ j : Int, w_ei ws (w_ar ws (n_v vs 0) 34) j = w_ei w1 (w_ar ws (n_v vs 0) 34) j := el_kp s1.1 r8 cr_0_34 (by decide)
  have hK_0_34 := elq_58 hD hth cr_0_34
  have hE_0_38_1 : ∀ j : Int, 0 ≤ j → (j = v_iv (n_v vs 6) → w_ei ws (w_ar ws (n_v vs 0) 38) j = v_iv (n_v vs 9)) ∧ (j ≠ v_iv (n_v vs 6) → w_ei ws (w_ar ws (n_v vs 0) 38) j = w_ei w1 (w_ar ws (n_v vs 0) 38) j) := fun j hj => ⟨fun h => by unfold w_ei; rw [s1.1, if_pos ⟨ad_8.symm, by rw [h]⟩], fun h => by unfold w_ei; rw [s1.1, if_neg (fun e => h (by have := e.2; omega))]⟩
  have hK_0_38 := elq_80 hD hth cr_0_38
  have kz_0_31 := fdq_144 hD hth r0
  have kz_0_32 := fdq_139 hD hth r0
  have nf0 : fc_1 PRD (20, [3, 4, 10], [60, 0, 1, 76, 38]) ws (vs) := by
    refine ⟨nf_in hl rfl, sgq_564 ?_⟩
    · show FL0 (w_ei ws (w_ar ws (n_v vs 3) 38)) (v_iv (n_v vs 4)) (v_iv (n_v vs 10))
      simp only [q3, q4]
      exact vc_Mo_flood_3_0 (v_iv (n_v vs 1)) (v_iv (n_v vs 2)) (v_iv (n_v vs 4)) (v_iv (n_v vs 5)) (v_iv (n_v vs 6)) (v_iv (n_v vs 7)) (v_iv (n_v vs 9)) (v_iv (n_v vs 10)) (w_ei ws (w_ar ws (n_v vs 0) 33)) (w_ei ws (w_ar ws (n_v vs 0) 34)) (w_fi ws (n_v vs 0) 31) (w_fi ws (n_v vs 0) 32) (w_fi w1 (n_v vs 0) 31) (w_ei w1 (w_ar ws (n_v vs 0) 33)) (w_ei w1 (w_ar ws (n_v vs 0) 34)) (w_fi w1 (n_v vs 0) 32) (w_ei w1 (w_ar ws (n_v vs 0) 38)) (w_ei ws (w_ar ws (n_v vs 0) 38)) k1 k2 k4 k5 k6 k7 k9 k10 d0 d1 d2 d3 d4 d5 d6 d7 d8 f0 f1 f2 f7 f9 g10 f11 f12 f13 fe_0_31_1 fe_0_32_1 hE_0_33_1 hK_0_33 hE_0_34_1 hK_0_34 hE_0_38_1 hK_0_38 kz_0_31 kz_0_32
  refine ⟨(fun _ h => (by cases h)), [], trivial, ?_, (fun _ h => (by cases h))⟩
  rw [List.append_nil]
  exact List.forall_mem_cons.mpr ⟨⟨show (20 : Nat) < 100 from by decide, nf0⟩, (fun _ h => (by cases h))⟩
set_option maxHeartbeats 4000000 in
theorem vc_Mo_flood_4_0 (x1 : Int) (x2 : Int) (x4 : Int) (x5 : Int) (x6 : Int) (x7 : Int) (pt_0 : Int → Int) (ph_0 : Int → Int) (pn_0 : Int) (pm_0 : Int) (alive_0 : Int → Int) (seen_0 : Int → Int) (k1 : 0 ≤ x1 ∧ x1 ≤ 24) (k2 : (-1) ≤ x2 ∧ x2 ≤ 24) (k4 : 0 ≤ x4 ∧ x4 ≤ 24) (k5 : (-1) ≤ x5 ∧ x5 ≤ 24) (k6 : 0 ≤ x6 ∧ x6 ≤ 0) (k7 : (-2) ≤ x7 ∧ x7 ≤ 60) (d0 : x4 + (-4294967296) ≤ x1 ∧ x1 ≤ x4 + 0) (d1 : x5 + (-4294967296) ≤ x2 ∧ x2 ≤ x5 + 0) (d2 : x1 + (-4294967296) ≤ x4 ∧ x4 ≤ x1 + 0) (d3 : x2 + (-4294967296) ≤ x5 ∧ x5 ≤ x2 + 0) (f0 : x6 = 0) (f1 : GOK (pn_0) (pm_0) (pt_0) (ph_0)) (f2 : 1 * x1 + ((-1) * pn_0 + 0) ≤ (-1)) (f3 : FL1 (pn_0) (pm_0) (pt_0) (ph_0) (alive_0) (seen_0) (x1) (x2)) (f4 : FL3 (pm_0) (pt_0) (ph_0) (alive_0) (seen_0) (x2) (x6)) (f5 : FLM (seen_0) (x6) (x7)) (hK_0_33 : ∀ j : Int, 0 ≤ j → j < 80 → 0 ≤ pt_0 j ∧ pt_0 j ≤ 24) (hK_0_34 : ∀ j : Int, 0 ≤ j → j < 80 → 0 ≤ ph_0 j ∧ ph_0 j ≤ 24) (hK_0_35 : ∀ j : Int, 0 ≤ j → j < 80 → 0 ≤ alive_0 j ∧ alive_0 j ≤ 1) (hK_0_38 : ∀ j : Int, 0 ≤ j → j < 26 → 0 ≤ seen_0 j ∧ seen_0 j ≤ 1) (kz_0_31 : 0 ≤ pn_0 ∧ pn_0 ≤ 25) (kz_0_32 : 0 ≤ pm_0 ∧ pm_0 ≤ 80) : FLD (pn_0) (pm_0) (pt_0) (ph_0) (alive_0) (seen_0) (x1) (x2) := by
  exact fl_end ‹GOK _ _ _ _› ‹FL1 _ _ _ _ _ _ _ _› (by have h := ‹FL3 _ _ _ _ _ _ _›; rw [show x6 = 0 by omega] at h; exact h)
def o_Mo_flood_4 : or_T := (151, 8, [(0, (2, 0, 0, [165])), (1, (0, 0, 24, [])), (2, (0, -1, 24, [])), (4, (0, 0, 24, [])), (5, (0, -1, 24, [])), (6, (0, 0, 0, [])), (7, (0, -2, 60, []))], [(8, [6], [0]), (20, [3], [60, 2, 2, 75, 31, 32, 33, 34]), (20, [4, 3], [30, -1, 1, 0, 0, -1, 1, 31]), (20, [3, 4, 5], [60, 2, 4, 77, 31, 32, 33, 34, 35, 38]), (20, [3, 5, 6], [60, 1, 4, 79, 32, 33, 34, 35, 38]), (20, [3, 6, 7], [60, 0, 1, 81, 38]), (24, [0, 3], []), (24, [1, 4], []), (24, [2, 5], [])], [], [], [(20, [0, 1, 2], [60, 2, 4, 80, 31, 32, 33, 34, 35, 38])], [], [(1, 4, -4294967296, 0), (2, 5, -4294967296, 0), (4, 1, -4294967296, 0), (5, 2, -4294967296, 0)])
theorem oo_Mo_flood_4 {kA : Nat → ClassId} : or_ok PRD kA GG o_Mo_flood_4 := by
  refine or_mk fun A ta ws vs hD hth hl => ?_
  intro t0 r0 t1 k1 t2 k2 t4 k4 t5 k5 t6 k6 t7 k7 d0 d1 d2 d3 f0 f1 f2 f3 f4 f5 f6 f7 f8
  replace f1 := shm_563 f1
  replace f2 := shm_545 f2
  replace f3 := shm_566 f3
  replace f4 := shm_567 f4
  replace f5 := shm_568 f5
  replace f6 := shm_5 f6
  replace f7 := shm_5 f7
  replace f8 := shm_5 f8
  have q3 : n_v vs 3 = n_v vs 0 := f6.symm
  have q4 : n_v vs 4 = n_v vs 1 := f7.symm
  have q5 : n_v vs 5 = n_v vs 2 := f8.symm
  simp only [q3, q4, q5] at f1 f2 f3 f4 f5
  have cr_0_33 := fdq_116 hD hth r0
  have cr_0_34 := fdq_117 hD hth r0
  have cr_0_35 := fdq_131 hD hth r0
  have cr_0_38 := fdq_148 hD hth r0
  have hK_0_33 := elq_57 hD hth cr_0_33
  have hK_0_34 := elq_58 hD hth cr_0_34
  have hK_0_35 := elq_69 hD hth cr_0_35
  have hK_0_38 := elq_80 hD hth cr_0_38
  have kz_0_31 := fdq_144 hD hth r0
  have kz_0_32 := fdq_139 hD hth r0
  have nf0 : fc_1 PRD (20, [0, 1, 2], [60, 2, 4, 80, 31, 32, 33, 34, 35, 38]) ws (vs) := ⟨nf_in hl rfl, sgq_570 (vc_Mo_flood_4_0 (v_iv (n_v vs 1)) (v_iv (n_v vs 2)) (v_iv (n_v vs 4)) (v_iv (n_v vs 5)) (v_iv (n_v vs 6)) (v_iv (n_v vs 7)) (w_ei ws (w_ar ws (n_v vs 0) 33)) (w_ei ws (w_ar ws (n_v vs 0) 34)) (w_fi ws (n_v vs 0) 31) (w_fi ws (n_v vs 0) 32) (w_ei ws (w_ar ws (n_v vs 0) 35)) (w_ei ws (w_ar ws (n_v vs 0) 38)) k1 k2 k4 k5 k6 k7 d0 d1 d2 d3 (shm_210 f0) f1 f2 f3 f4 f5 hK_0_33 hK_0_34 hK_0_35 hK_0_38 kz_0_31 kz_0_32)⟩
  refine ⟨(fun _ h => (by cases h)), [], trivial, ?_, (fun _ h => (by cases h))⟩
  rw [List.append_nil]
  exact List.forall_mem_cons.mpr ⟨⟨show (20 : Nat) < 100 from by decide, nf0⟩, (fun _ h => (by cases h))⟩
set_option maxHeartbeats 4000000 in
theorem vc_Mo_flood_5_0 (x1 : Int) (x2 : Int) (x4 : Int) (x5 : Int) (x6 : Int) (x7 : Int) (x8 : Int) (x9 : Int) (pt_0 : Int → Int) (ph_0 : Int → Int) (pn_0 : Int) (pm_0 : Int) (alive_0 : Int → Int) (seen_0 : Int → Int) (gx : Int) (k1 : 0 ≤ x1 ∧ x1 ≤ 24) (k2 : (-1) ≤ x2 ∧ x2 ≤ 24) (k4 : 0 ≤ x4 ∧ x4 ≤ 24) (k5 : (-1) ≤ x5 ∧ x5 ≤ 24) (k6 : 1 ≤ x6 ∧ x6 ≤ 1) (k7 : (-2) ≤ x7 ∧ x7 ≤ 60) (k8 : 0 ≤ x8 ∧ x8 ≤ 0) (k9 : 0 ≤ x9 ∧ x9 ≤ 0) (d0 : x4 + (-4294967296) ≤ x1 ∧ x1 ≤ x4 + 0) (d1 : x5 + (-4294967296) ≤ x2 ∧ x2 ≤ x5 + 0) (d2 : x1 + (-4294967296) ≤ x4 ∧ x4 ≤ x1 + 0) (d3 : x2 + (-4294967296) ≤ x5 ∧ x5 ≤ x2 + 0) (f0 : x6 ≠ 0) (f1 : GOK (pn_0) (pm_0) (pt_0) (ph_0)) (f2 : 1 * x1 + ((-1) * pn_0 + 0) ≤ (-1)) (f3 : FL1 (pn_0) (pm_0) (pt_0) (ph_0) (alive_0) (seen_0) (x1) (x2)) (f4 : FL3 (pm_0) (pt_0) (ph_0) (alive_0) (seen_0) (x2) (x6)) (f5 : FLM (seen_0) (x6) (x7)) (hK_0_33 : ∀ j : Int, 0 ≤ j → j < 80 → 0 ≤ pt_0 j ∧ pt_0 j ≤ 24) (hK_0_34 : ∀ j : Int, 0 ≤ j → j < 80 → 0 ≤ ph_0 j ∧ ph_0 j ≤ 24) (hK_0_35 : ∀ j : Int, 0 ≤ j → j < 80 → 0 ≤ alive_0 j ∧ alive_0 j ≤ 1) (hK_0_38 : ∀ j : Int, 0 ≤ j → j < 26 → 0 ≤ seen_0 j ∧ seen_0 j ≤ 1) (kz_0_31 : 0 ≤ pn_0 ∧ pn_0 ≤ 25) (kz_0_32 : 0 ≤ pm_0 ∧ pm_0 ≤ 80) (ex2 : gx = 0 + (1 * x7 + 0)) (ex3 : (-2) ≤ gx ∧ gx ≤ 60) : GOK (pn_0) (pm_0) (pt_0) (ph_0) := by
  first | assumption
set_option maxHeartbeats 4000000 in
theorem vc_Mo_flood_5_2 (x1 : Int) (x2 : Int) (x4 : Int) (x5 : Int) (x6 : Int) (x7 : Int) (x8 : Int) (x9 : Int) (pt_0 : Int → Int) (ph_0 : Int → Int) (pn_0 : Int) (pm_0 : Int) (alive_0 : Int → Int) (seen_0 : Int → Int) (gx : Int) (k1 : 0 ≤ x1 ∧ x1 ≤ 24) (k2 : (-1) ≤ x2 ∧ x2 ≤ 24) (k4 : 0 ≤ x4 ∧ x4 ≤ 24) (k5 : (-1) ≤ x5 ∧ x5 ≤ 24) (k6 : 1 ≤ x6 ∧ x6 ≤ 1) (k7 : (-2) ≤ x7 ∧ x7 ≤ 60) (k8 : 0 ≤ x8 ∧ x8 ≤ 0) (k9 : 0 ≤ x9 ∧ x9 ≤ 0) (d0 : x4 + (-4294967296) ≤ x1 ∧ x1 ≤ x4 + 0) (d1 : x5 + (-4294967296) ≤ x2 ∧ x2 ≤ x5 + 0) (d2 : x1 + (-4294967296) ≤ x4 ∧ x4 ≤ x1 + 0) (d3 : x2 + (-4294967296) ≤ x5 ∧ x5 ≤ x2 + 0) (f0 : x6 ≠ 0) (f1 : GOK (pn_0) (pm_0) (pt_0) (ph_0)) (f2 : 1 * x1 + ((-1) * pn_0 + 0) ≤ (-1)) (f3 : FL1 (pn_0) (pm_0) (pt_0) (ph_0) (alive_0) (seen_0) (x1) (x2)) (f4 : FL3 (pm_0) (pt_0) (ph_0) (alive_0) (seen_0) (x2) (x6)) (f5 : FLM (seen_0) (x6) (x7)) (hK_0_33 : ∀ j : Int, 0 ≤ j → j < 80 → 0 ≤ pt_0 j ∧ pt_0 j ≤ 24) (hK_0_34 : ∀ j : Int, 0 ≤ j → j < 80 → 0 ≤ ph_0 j ∧ ph_0 j ≤ 24) (hK_0_35 : ∀ j : Int, 0 ≤ j → j < 80 → 0 ≤ alive_0 j ∧ alive_0 j ≤ 1) (hK_0_38 : ∀ j : Int, 0 ≤ j → j < 26 → 0 ≤ seen_0 j ∧ seen_0 j ≤ 1) (kz_0_31 : 0 ≤ pn_0 ∧ pn_0 ≤ 25) (kz_0_32 : 0 ≤ pm_0 ∧ pm_0 ≤ 80) (ex2 : gx = 0 + (1 * x7 + 0)) (ex3 : (-2) ≤ gx ∧ gx ≤ 60) : FL1 (pn_0) (pm_0) (pt_0) (ph_0) (alive_0) (seen_0) (x1) (x2) := by
  first
    | assumption
    | (refine fl_step (e := x7) ‹GOK _ _ _ _› ‹FL1 _ _ _ _ _ seen_2 _ _› (by omega) (by omega) (by omega) (by omega) (by omega) ?_ (by omega) ?_ ?_ ?_
       · rw [← h19, ← h17, ← h18, ← h16]; exact f15
       · intro y hy h1 h2
         rw [(hE_0_38_1 y hy).2 (by omega), (hE_0_38_2 y hy).2 (by omega)]
       · by_cases q : x21 = x23
         · have := (hE_0_38_1 (pt_0 x7) (by omega)).1 (by omega); omega
         · have := (hE_0_38_1 (pt_0 x7) (by omega)).2 (by omega); have := (hE_0_38_2 (pt_0 x7) (by omega)).1 (by omega); omega
       · have := (hE_0_38_1 (ph_0 x7) (by omega)).1 (by omega); omega)
set_option maxHeartbeats 4000000 in
theorem vc_Mo_flood_5_3 (x1 : Int) (x2 : Int) (x4 : Int) (x5 : Int) (x6 : Int) (x7 : Int) (x8 : Int) (x9 : Int) (pt_0 : Int → Int) (ph_0 : Int → Int) (pn_0 : Int) (pm_0 : Int) (alive_0 : Int → Int) (seen_0 : Int → Int) (gx : Int) (k1 : 0 ≤ x1 ∧ x1 ≤ 24) (k2 : (-1) ≤ x2 ∧ x2 ≤ 24) (k4 : 0 ≤ x4 ∧ x4 ≤ 24) (k5 : (-1) ≤ x5 ∧ x5 ≤ 24) (k6 : 1 ≤ x6 ∧ x6 ≤ 1) (k7 : (-2) ≤ x7 ∧ x7 ≤ 60) (k8 : 0 ≤ x8 ∧ x8 ≤ 0) (k9 : 0 ≤ x9 ∧ x9 ≤ 0) (d0 : x4 + (-4294967296) ≤ x1 ∧ x1 ≤ x4 + 0) (d1 : x5 + (-4294967296) ≤ x2 ∧ x2 ≤ x5 + 0) (d2 : x1 + (-4294967296) ≤ x4 ∧ x4 ≤ x1 + 0) (d3 : x2 + (-4294967296) ≤ x5 ∧ x5 ≤ x2 + 0) (f0 : x6 ≠ 0) (f1 : GOK (pn_0) (pm_0) (pt_0) (ph_0)) (f2 : 1 * x1 + ((-1) * pn_0 + 0) ≤ (-1)) (f3 : FL1 (pn_0) (pm_0) (pt_0) (ph_0) (alive_0) (seen_0) (x1) (x2)) (f4 : FL3 (pm_0) (pt_0) (ph_0) (alive_0) (seen_0) (x2) (x6)) (f5 : FLM (seen_0) (x6) (x7)) (hK_0_33 : ∀ j : Int, 0 ≤ j → j < 80 → 0 ≤ pt_0 j ∧ pt_0 j ≤ 24) (hK_0_34 : ∀ j : Int, 0 ≤ j → j < 80 → 0 ≤ ph_0 j ∧ ph_0 j ≤ 24) (hK_0_35 : ∀ j : Int, 0 ≤ j → j < 80 → 0 ≤ alive_0 j ∧ alive_0 j ≤ 1) (hK_0_38 : ∀ j : Int, 0 ≤ j → j < 26 → 0 ≤ seen_0 j ∧ seen_0 j ≤ 1) (kz_0_31 : 0 ≤ pn_0 ∧ pn_0 ≤ 25) (kz_0_32 : 0 ≤ pm_0 ∧ pm_0 ≤ 80) (ex2 : gx = 0 + (1 * x7 + 0)) (ex3 : (-2) ≤ gx ∧ gx ≤ 60) : FL2 (pt_0) (ph_0) (alive_0) (seen_0) (x2) (x9) (x8) := by
  first
    | (intro h f a b; omega)
    | (have h := ‹FL2 _ _ _ _ _ _ _›
       intro h0 f a b c d e
       by_cases q : f = x7
       · subst q; first | omega | (rw [← h12, ← h10]; rw [h7, h3] at *; omega) | (rw [← h7, ← h3, ← h6, ← h2]; exact f1)
       · exact h h0 f a (by omega) c d e)
set_option maxHeartbeats 4000000 in
theorem vc_Mo_flood_5_4 (x1 : Int) (x2 : Int) (x4 : Int) (x5 : Int) (x6 : Int) (x7 : Int) (x8 : Int) (x9 : Int) (pt_0 : Int → Int) (ph_0 : Int → Int) (pn_0 : Int) (pm_0 : Int) (alive_0 : Int → Int) (seen_0 : Int → Int) (gx : Int) (k1 : 0 ≤ x1 ∧ x1 ≤ 24) (k2 : (-1) ≤ x2 ∧ x2 ≤ 24) (k4 : 0 ≤ x4 ∧ x4 ≤ 24) (k5 : (-1) ≤ x5 ∧ x5 ≤ 24) (k6 : 1 ≤ x6 ∧ x6 ≤ 1) (k7 : (-2) ≤ x7 ∧ x7 ≤ 60) (k8 : 0 ≤ x8 ∧ x8 ≤ 0) (k9 : 0 ≤ x9 ∧ x9 ≤ 0) (d0 : x4 + (-4294967296) ≤ x1 ∧ x1 ≤ x4 + 0) (d1 : x5 + (-4294967296) ≤ x2 ∧ x2 ≤ x5 + 0) (d2 : x1 + (-4294967296) ≤ x4 ∧ x4 ≤ x1 + 0) (d3 : x2 + (-4294967296) ≤ x5 ∧ x5 ≤ x2 + 0) (f0 : x6 ≠ 0) (f1 : GOK (pn_0) (pm_0) (pt_0) (ph_0)) (f2 : 1 * x1 + ((-1) * pn_0 + 0) ≤ (-1)) (f3 : FL1 (pn_0) (pm_0) (pt_0) (ph_0) (alive_0) (seen_0) (x1) (x2)) (f4 : FL3 (pm_0) (pt_0) (ph_0) (alive_0) (seen_0) (x2) (x6)) (f5 : FLM (seen_0) (x6) (x7)) (hK_0_33 : ∀ j : Int, 0 ≤ j → j < 80 → 0 ≤ pt_0 j ∧ pt_0 j ≤ 24) (hK_0_34 : ∀ j : Int, 0 ≤ j → j < 80 → 0 ≤ ph_0 j ∧ ph_0 j ≤ 24) (hK_0_35 : ∀ j : Int, 0 ≤ j → j < 80 → 0 ≤ alive_0 j ∧ alive_0 j ≤ 1) (hK_0_38 : ∀ j : Int, 0 ≤ j → j < 26 → 0 ≤ seen_0 j ∧ seen_0 j ≤ 1) (kz_0_31 : 0 ≤ pn_0 ∧ pn_0 ≤ 25) (kz_0_32 : 0 ≤ pm_0 ∧ pm_0 ≤ 80) (ex2 : gx = 0 + (1 * x7 + 0)) (ex3 : (-2) ≤ gx ∧ gx ≤ 60) : FLN (seen_0) (x8) (gx) := by
  first
    | (have := ‹FLM _ _ _›; unfold FLM FLN at *; omega)
    | assumption
    | (have h := ‹FLN _ _ _›
       unfold FLN at *
       have hq : seen_2 x21 ≠ seen_2 x23 := by intro e; apply f15; rw [h18, h16, h19, h17, ← h13, ← h7]; exact e
       have hle : ∀ j : Int, 0 ≤ j → j < 26 → seen_0 j = 0 → seen_2 j = 0 := by
         intro j a b c
         have h1 := hE_0_38_1 j a
         have h2 := hE_0_38_2 j a
         by_cases q : j = x23
         · have := h1.1 q; omega
         · by_cases q2 : j = x21
           · have := h1.2 q; have := h2.1 q2; omega
           · rw [← h2.2 q2, ← h1.2 q]; exact c
       have z1 : seen_0 x23 ≠ 0 := by have := (hE_0_38_1 x23 (by omega)).1 rfl; omega
       have z2 : seen_0 x21 ≠ 0 := by
         by_cases q : x21 = x23
         · rw [q]; exact z1
         · have := (hE_0_38_1 x21 (by omega)).2 q; have := (hE_0_38_2 x21 (by omega)).1 rfl; omega
       have hb1 := hK_0_38 x21 (by omega) (by omega)
       by_cases q : seen_2 x21 = 0
       · have := czlt (n := 26) (i := x21) (by omega) (by omega) hle q z2; omega
       · rw [show x21 = x17 by omega] at q; have := czlt (n := 26) (i := x23) (f := seen_0) (g := seen_2) (by omega) (by omega) hle (by rw [show x23 = x19 by omega]; omega) z1; omega)
def o_Mo_flood_5 : or_T := (43, 10, [(0, (2, 0, 0, [165])), (1, (0, 0, 24, [])), (2, (0, -1, 24, [])), (3, (2, 0, 0, [165])), (4, (0, 0, 24, [])), (5, (0, -1, 24, [])), (6, (0, 1, 1, [])), (7, (0, -2, 60, [])), (8, (0, 0, 0, [])), (9, (0, 0, 0, []))], [(8, [6], [1]), (20, [3], [60, 2, 2, 75, 31, 32, 33, 34]), (20, [4, 3], [30, -1, 1, 0, 0, -1, 1, 31]), (20, [3, 4, 5], [60, 2, 4, 77, 31, 32, 33, 34, 35, 38]), (20, [3, 5, 6], [60, 1, 4, 79, 32, 33, 34, 35, 38]), (20, [3, 6, 7], [60, 0, 1, 81, 38]), (24, [0, 3], []), (24, [1, 4], []), (24, [2, 5], [])], [], [(0, -2, 60, [])], [(20, [3], [60, 2, 2, 75, 31, 32, 33, 34]), (20, [4, 3], [30, -1, 1, 0, 0, -1, 1, 31]), (20, [3, 4, 5], [60, 2, 4, 77, 31, 32, 33, 34, 35, 38]), (20, [3, 5, 9, 8], [60, 0, 4, 78, 33, 34, 35, 38]), (20, [3, 8, 10], [60, 0, 1, 82, 38]), (24, [0, 3], []), (24, [1, 4], []), (24, [2, 5], [])], [(10, 7, 0, 0)], [(1, 4, -4294967296, 0), (2, 5, -4294967296, 0), (4, 1, -4294967296, 0), (5, 2, -4294967296, 0)])
theorem oo_Mo_flood_5 {kA : Nat → ClassId} : or_ok PRD kA GG o_Mo_flood_5 := by
  refine or_mk fun A ta ws vs hD hth hl => ?_
  intro t0 r0 t1 k1 t2 k2 t3 r3 t4 k4 t5 k5 t6 k6 t7 k7 t8 k8 t9 k9 d0 d1 d2 d3 f0 f1 f2 f3 f4 f5 f6 f7 f8
  replace f0 := shm_154 f0
  replace f1 := shm_563 f1
  replace f2 := shm_545 f2
  replace f3 := shm_566 f3
  replace f4 := shm_567 f4
  replace f5 := shm_568 f5
  replace f6 := shm_5 f6
  replace f7 := shm_5 f7
  replace f8 := shm_5 f8
  have q3 : n_v vs 3 = n_v vs 0 := f6.symm
  have q4 : n_v vs 4 = n_v vs 1 := f7.symm
  have q5 : n_v vs 5 = n_v vs 2 := f8.symm
  simp only [q3, q4, q5] at f1 f2 f3 f4 f5
  have cr_0_33 := fdq_116 hD hth r0
  have cr_0_34 := fdq_117 hD hth r0
  have cr_0_35 := fdq_131 hD hth r0
  have cr_0_38 := fdq_148 hD hth r0
  have hK_0_33 := elq_57 hD hth cr_0_33
  have hK_0_34 := elq_58 hD hth cr_0_34
  have hK_0_35 := elq_69 hD hth cr_0_35
  have hK_0_38 := elq_80 hD hth cr_0_38
  have kz_0_31 := fdq_144 hD hth r0
  have kz_0_32 := fdq_139 hD hth r0
  obtain ⟨x, ex, hx⟩ := iv_ex (ta := ta) (lo := (-2)) (hi := 60) (z := 0 + (1 * v_iv (n_v vs 7) + 0)) (by omega) (by omega) (by omega) (by omega)
  have ex2 : v_iv (Value.int x) = 0 + (1 * v_iv (n_v vs 7) + 0) := ex
  have ex3 : (-2) ≤ v_iv (Value.int x) ∧ v_iv (Value.int x) ≤ 60 := tv_rng hx
  have e_0 : n_v (vs ++ [Value.int x]) 0 = n_v vs 0 := n_v_old (by rw [hl]; decide)
  have e_1 : n_v (vs ++ [Value.int x]) 1 = n_v vs 1 := n_v_old (by rw [hl]; decide)
  have e_2 : n_v (vs ++ [Value.int x]) 2 = n_v vs 2 := n_v_old (by rw [hl]; decide)
  have e_3 : n_v (vs ++ [Value.int x]) 3 = n_v vs 3 := n_v_old (by rw [hl]; decide)
  have e_4 : n_v (vs ++ [Value.int x]) 4 = n_v vs 4 := n_v_old (by rw [hl]; decide)
  have e_5 : n_v (vs ++ [Value.int x]) 5 = n_v vs 5 := n_v_old (by rw [hl]; decide)
  have e_8 : n_v (vs ++ [Value.int x]) 8 = n_v vs 8 := n_v_old (by rw [hl]; decide)
  have e_9 : n_v (vs ++ [Value.int x]) 9 = n_v vs 9 := n_v_old (by rw [hl]; decide)
  have e_10 : n_v (vs ++ [Value.int x]) 10 = Value.int x := n_v_new hl
  have nf0 : fc_1 PRD (20, [3], [60, 2, 2, 75, 31, 32, 33, 34]) ws (vs ++ [Value.int x]) := by
    refine ⟨nf_inA hl rfl, sgq_563 ?_⟩
    · show GOK (w_fi ws (n_v (vs ++ [Value.int x]) 3) 31) (w_fi ws (n_v (vs ++ [Value.int x]) 3) 32) (w_ei ws (w_ar ws (n_v (vs ++ [Value.int x]) 3) 33)) (w_ei ws (w_ar ws (n_v (vs ++ [Value.int x]) 3) 34))
      simp only [e_3, q3]
      exact vc_Mo_flood_5_0 (v_iv (n_v vs 1)) (v_iv (n_v vs 2)) (v_iv (n_v vs 4)) (v_iv (n_v vs 5)) (v_iv (n_v vs 6)) (v_iv (n_v vs 7)) (v_iv (n_v vs 8)) (v_iv (n_v vs 9)) (w_ei ws (w_ar ws (n_v vs 0) 33)) (w_ei ws (w_ar ws (n_v vs 0) 34)) (w_fi ws (n_v vs 0) 31) (w_fi ws (n_v vs 0) 32) (w_ei ws (w_ar ws (n_v vs 0) 35)) (w_ei ws (w_ar ws (n_v vs 0) 38)) (v_iv (Value.int x)) k1 k2 k4 k5 k6 k7 k8 k9 d0 d1 d2 d3 f0 f1 f2 f3 f4 f5 hK_0_33 hK_0_34 hK_0_35 hK_0_38 kz_0_31 kz_0_32 ex2 ex3
  have nf1 : fc_1 PRD (20, [4, 3], [30, -1, 1, 0, 0, -1, 1, 31]) ws (vs ++ [Value.int x]) := by
    refine ⟨nf_inA hl rfl, sgq_545 ?_⟩
    · show 1 * v_iv (n_v (vs ++ [Value.int x]) 4) + ((-1) * w_fi ws (n_v (vs ++ [Value.int x]) 3) 31 + 0) ≤ (-1)
      simp only [e_3, e_4, q3, q4]
      omega
  have nf2 : fc_1 PRD (20, [3, 4, 5], [60, 2, 4, 77, 31, 32, 33, 34, 35, 38]) ws (vs ++ [Value.int x]) := by
    refine ⟨nf_inA hl rfl, sgq_566 ?_⟩
    · show FL1 (w_fi ws (n_v (vs ++ [Value.int x]) 3) 31) (w_fi ws (n_v (vs ++ [Value.int x]) 3) 32) (w_ei ws (w_ar ws (n_v (vs ++ [Value.int x]) 3) 33)) (w_ei ws (w_ar ws (n_v (vs ++ [Value.int x]) 3) 34)) (w_ei ws (w_ar ws (n_v (vs ++ [Value.int x]) 3) 35)) (w_ei ws (w_ar ws (n_v (vs ++ [Value.int x]) 3) 38)) (v_iv (n_v (vs ++ [Value.int x]) 4)) (v_iv (n_v (vs ++ [Value.int x]) 5))
      simp only [e_3, e_4, e_5, q3, q4, q5]
      exact vc_Mo_flood_5_2 (v_iv (n_v vs 1)) (v_iv (n_v vs 2)) (v_iv (n_v vs 4)) (v_iv (n_v vs 5)) (v_iv (n_v vs 6)) (v_iv (n_v vs 7)) (v_iv (n_v vs 8)) (v_iv (n_v vs 9)) (w_ei ws (w_ar ws (n_v vs 0) 33)) (w_ei ws (w_ar ws (n_v vs 0) 34)) (w_fi ws (n_v vs 0) 31) (w_fi ws (n_v vs 0) 32) (w_ei ws (w_ar ws (n_v vs 0) 35)) (w_ei ws (w_ar ws (n_v vs 0) 38)) (v_iv (Value.int x)) k1 k2 k4 k5 k6 k7 k8 k9 d0 d1 d2 d3 f0 f1 f2 f3 f4 f5 hK_0_33 hK_0_34 hK_0_35 hK_0_38 kz_0_31 kz_0_32 ex2 ex3
  have nf3 : fc_1 PRD (20, [3, 5, 9, 8], [60, 0, 4, 78, 33, 34, 35, 38]) ws (vs ++ [Value.int x]) := by
    refine ⟨nf_inA hl rfl, sgq_571 ?_⟩
    · show FL2 (w_ei ws (w_ar ws (n_v (vs ++ [Value.int x]) 3) 33)) (w_ei ws (w_ar ws (n_v (vs ++ [Value.int x]) 3) 34)) (w_ei ws (w_ar ws (n_v (vs ++ [Value.int x]) 3) 35)) (w_ei ws (w_ar ws (n_v (vs ++ [Value.int x]) 3) 38)) (v_iv (n_v (vs ++ [Value.int x]) 5)) (v_iv (n_v (vs ++ [Value.int x]) 9)) (v_iv (n_v (vs ++ [Value.int x]) 8))
      simp only [e_3, e_5, e_8, e_9, q3, q5]
      exact vc_Mo_flood_5_3 (v_iv (n_v vs 1)) (v_iv (n_v vs 2)) (v_iv (n_v vs 4)) (v_iv (n_v vs 5)) (v_iv (n_v vs 6)) (v_iv (n_v vs 7)) (v_iv (n_v vs 8)) (v_iv (n_v vs 9)) (w_ei ws (w_ar ws (n_v vs 0) 33)) (w_ei ws (w_ar ws (n_v vs 0) 34)) (w_fi ws (n_v vs 0) 31) (w_fi ws (n_v vs 0) 32) (w_ei ws (w_ar ws (n_v vs 0) 35)) (w_ei ws (w_ar ws (n_v vs 0) 38)) (v_iv (Value.int x)) k1 k2 k4 k5 k6 k7 k8 k9 d0 d1 d2 d3 f0 f1 f2 f3 f4 f5 hK_0_33 hK_0_34 hK_0_35 hK_0_38 kz_0_31 kz_0_32 ex2 ex3
  have nf4 : fc_1 PRD (20, [3, 8, 10], [60, 0, 1, 82, 38]) ws (vs ++ [Value.int x]) := by
    refine ⟨nf_inA hl rfl, sgq_572 ?_⟩
    · show FLN (w_ei ws (w_ar ws (n_v (vs ++ [Value.int x]) 3) 38)) (v_iv (n_v (vs ++ [Value.int x]) 8)) (v_iv (n_v (vs ++ [Value.int x]) 10))
      simp only [e_3, e_8, e_10, q3]
      exact vc_Mo_flood_5_4 (v_iv (n_v vs 1)) (v_iv (n_v vs 2)) (v_iv (n_v vs 4)) (v_iv (n_v vs 5)) (v_iv (n_v vs 6)) (v_iv (n_v vs 7)) (v_iv (n_v vs 8)) (v_iv (n_v vs 9)) (w_ei ws (w_ar ws (n_v vs 0) 33)) (w_ei ws (w_ar ws (n_v vs 0) 34)) (w_fi ws (n_v vs 0) 31) (w_fi ws (n_v vs 0) 32) (w_ei ws (w_ar ws (n_v vs 0) 35)) (w_ei ws (w_ar ws (n_v vs 0) 38)) (v_iv (Value.int x)) k1 k2 k4 k5 k6 k7 k8 k9 d0 d1 d2 d3 f0 f1 f2 f3 f4 f5 hK_0_33 hK_0_34 hK_0_35 hK_0_38 kz_0_31 kz_0_32 ex2 ex3
  have nf5 : fc_1 PRD (24, [0, 3], []) ws (vs ++ [Value.int x]) := by
    refine ⟨nf_inA hl rfl, sgq_5 ?_⟩
    · show n_v (vs ++ [Value.int x]) 0 = n_v (vs ++ [Value.int x]) 3
      first | rfl | simp only [e_0, e_3, q3, q4, q5]
  have nf6 : fc_1 PRD (24, [1, 4], []) ws (vs ++ [Value.int x]) := by
    refine ⟨nf_inA hl rfl, sgq_5 ?_⟩
    · show n_v (vs ++ [Value.int x]) 1 = n_v (vs ++ [Value.int x]) 4
      first | rfl | simp only [e_1, e_4, q3, q4, q5]
  have nf7 : fc_1 PRD (24, [2, 5], []) ws (vs ++ [Value.int x]) := by
    refine ⟨nf_inA hl rfl, sgq_5 ?_⟩
    · show n_v (vs ++ [Value.int x]) 2 = n_v (vs ++ [Value.int x]) 5
      first | rfl | simp only [e_2, e_5, q3, q4, q5]
  obtain ⟨x0, e0, _, _⟩ := tv_int t7 rfl
  have e1 : v_iv (n_v vs 7) = x0.toInt := by rw [e0]; rfl
  have ho : sy_ofs (vs ++ [Value.int x]) (10, 7, 0, 0) := by
    refine ⟨x, x0, by rw [List.getElem?_append_right (by rw [hl]; decide), hl]; rfl, ?_, ?_, ?_⟩
    · rw [List.getElem?_append_left (by rw [hl]; decide)]; exact n_v_some (by rw [hl]; decide) e0
    · show x0.toInt + 0 ≤ x.toInt; omega
    · show x.toInt ≤ x0.toInt + 0; omega
  exact ⟨(fun _ h => (by cases h)), [Value.int x], ag_one hx, List.forall_mem_cons.mpr ⟨⟨show (20 : Nat) < 100 from by decide, nf0⟩, List.forall_mem_cons.mpr ⟨⟨show (20 : Nat) < 100 from by decide, nf1⟩, List.forall_mem_cons.mpr ⟨⟨show (20 : Nat) < 100 from by decide, nf2⟩, List.forall_mem_cons.mpr ⟨⟨show (20 : Nat) < 100 from by decide, nf3⟩, List.forall_mem_cons.mpr ⟨⟨show (20 : Nat) < 100 from by decide, nf4⟩, List.forall_mem_cons.mpr ⟨⟨show (24 : Nat) < 100 from by decide, nf5⟩, List.forall_mem_cons.mpr ⟨⟨show (24 : Nat) < 100 from by decide, nf6⟩, List.forall_mem_cons.mpr ⟨⟨show (24 : Nat) < 100 from by decide, nf7⟩, (fun _ h => (by cases h))⟩⟩⟩⟩⟩⟩⟩⟩, List.forall_mem_cons.mpr ⟨ho, (fun _ h => (by cases h))⟩⟩
set_option maxHeartbeats 4000000 in
theorem vc_Mo_flood_6_0 (x1 : Int) (x2 : Int) (x4 : Int) (x5 : Int) (x6 : Int) (x7 : Int) (x8 : Int) (x9 : Int) (pm_0 : Int) (pt_0 : Int → Int) (ph_0 : Int → Int) (pn_0 : Int) (alive_0 : Int → Int) (seen_0 : Int → Int) (gx : Int) (k1 : 0 ≤ x1 ∧ x1 ≤ 24) (k2 : (-1) ≤ x2 ∧ x2 ≤ 24) (k4 : 0 ≤ x4 ∧ x4 ≤ 24) (k5 : (-1) ≤ x5 ∧ x5 ≤ 24) (k6 : 0 ≤ x6 ∧ x6 ≤ 1) (k7 : 0 ≤ x7 ∧ x7 ≤ 80) (k8 : (-2) ≤ x8 ∧ x8 ≤ 60) (k9 : 0 ≤ x9 ∧ x9 ≤ 80) (d0 : x9 + 0 ≤ x7 ∧ x7 ≤ x9 + 4294967296) (d1 : x4 + (-4294967296) ≤ x1 ∧ x1 ≤ x4 + 0) (d2 : x5 + (-4294967296) ≤ x2 ∧ x2 ≤ x5 + 0) (d3 : x1 + (-4294967296) ≤ x4 ∧ x4 ≤ x1 + 0) (d4 : x2 + (-4294967296) ≤ x5 ∧ x5 ≤ x2 + 0) (d5 : x7 + (-4294967296) ≤ x6 ∧ x6 ≤ x7 + 0) (f0 : x9 ≤ x7) (g1 : x9 = pm_0) (f2 : GOK (pn_0) (pm_0) (pt_0) (ph_0)) (f3 : 1 * x1 + ((-1) * pn_0 + 0) ≤ (-1)) (f4 : FL1 (pn_0) (pm_0) (pt_0) (ph_0) (alive_0) (seen_0) (x1) (x2)) (f5 : FL2 (pt_0) (ph_0) (alive_0) (seen_0) (x2) (x7) (x6)) (f6 : FLN (seen_0) (x6) (x8)) (hK_0_33 : ∀ j : Int, 0 ≤ j → j < 80 → 0 ≤ pt_0 j ∧ pt_0 j ≤ 24) (hK_0_34 : ∀ j : Int, 0 ≤ j → j < 80 → 0 ≤ ph_0 j ∧ ph_0 j ≤ 24) (hK_0_35 : ∀ j : Int, 0 ≤ j → j < 80 → 0 ≤ alive_0 j ∧ alive_0 j ≤ 1) (hK_0_38 : ∀ j : Int, 0 ≤ j → j < 26 → 0 ≤ seen_0 j ∧ seen_0 j ≤ 1) (kz_0_31 : 0 ≤ pn_0 ∧ pn_0 ≤ 25) (kz_0_32 : 0 ≤ pm_0 ∧ pm_0 ≤ 80) (ex2 : gx = (-1) + (1 * x8 + 0)) (ex3 : (-2) ≤ gx ∧ gx ≤ 60) : GOK (pn_0) (pm_0) (pt_0) (ph_0) := by
  first | assumption
set_option maxHeartbeats 4000000 in
theorem vc_Mo_flood_6_2 (x1 : Int) (x2 : Int) (x4 : Int) (x5 : Int) (x6 : Int) (x7 : Int) (x8 : Int) (x9 : Int) (pm_0 : Int) (pt_0 : Int → Int) (ph_0 : Int → Int) (pn_0 : Int) (alive_0 : Int → Int) (seen_0 : Int → Int) (gx : Int) (k1 : 0 ≤ x1 ∧ x1 ≤ 24) (k2 : (-1) ≤ x2 ∧ x2 ≤ 24) (k4 : 0 ≤ x4 ∧ x4 ≤ 24) (k5 : (-1) ≤ x5 ∧ x5 ≤ 24) (k6 : 0 ≤ x6 ∧ x6 ≤ 1) (k7 : 0 ≤ x7 ∧ x7 ≤ 80) (k8 : (-2) ≤ x8 ∧ x8 ≤ 60) (k9 : 0 ≤ x9 ∧ x9 ≤ 80) (d0 : x9 + 0 ≤ x7 ∧ x7 ≤ x9 + 4294967296) (d1 : x4 + (-4294967296) ≤ x1 ∧ x1 ≤ x4 + 0) (d2 : x5 + (-4294967296) ≤ x2 ∧ x2 ≤ x5 + 0) (d3 : x1 + (-4294967296) ≤ x4 ∧ x4 ≤ x1 + 0) (d4 : x2 + (-4294967296) ≤ x5 ∧ x5 ≤ x2 + 0) (d5 : x7 + (-4294967296) ≤ x6 ∧ x6 ≤ x7 + 0) (f0 : x9 ≤ x7) (g1 : x9 = pm_0) (f2 : GOK (pn_0) (pm_0) (pt_0) (ph_0)) (f3 : 1 * x1 + ((-1) * pn_0 + 0) ≤ (-1)) (f4 : FL1 (pn_0) (pm_0) (pt_0) (ph_0) (alive_0) (seen_0) (x1) (x2)) (f5 : FL2 (pt_0) (ph_0) (alive_0) (seen_0) (x2) (x7) (x6)) (f6 : FLN (seen_0) (x6) (x8)) (hK_0_33 : ∀ j : Int, 0 ≤ j → j < 80 → 0 ≤ pt_0 j ∧ pt_0 j ≤ 24) (hK_0_34 : ∀ j : Int, 0 ≤ j → j < 80 → 0 ≤ ph_0 j ∧ ph_0 j ≤ 24) (hK_0_35 : ∀ j : Int, 0 ≤ j → j < 80 → 0 ≤ alive_0 j ∧ alive_0 j ≤ 1) (hK_0_38 : ∀ j : Int, 0 ≤ j → j < 26 → 0 ≤ seen_0 j ∧ seen_0 j ≤ 1) (kz_0_31 : 0 ≤ pn_0 ∧ pn_0 ≤ 25) (kz_0_32 : 0 ≤ pm_0 ∧ pm_0 ≤ 80) (ex2 : gx = (-1) + (1 * x8 + 0)) (ex3 : (-2) ≤ gx ∧ gx ≤ 60) : FL1 (pn_0) (pm_0) (pt_0) (ph_0) (alive_0) (seen_0) (x1) (x2) := by
  first
    | exact ⟨fun y h0 h1 hs => by rw [(‹FL0 _ _ _› y h0 (by omega)).mp hs]; exact rc_refl _ _, (‹FL0 _ _ _› _ (by omega) (by omega)).mpr rfl⟩
    | assumption
set_option maxHeartbeats 4000000 in
theorem vc_Mo_flood_6_3 (x1 : Int) (x2 : Int) (x4 : Int) (x5 : Int) (x6 : Int) (x7 : Int) (x8 : Int) (x9 : Int) (pm_0 : Int) (pt_0 : Int → Int) (ph_0 : Int → Int) (pn_0 : Int) (alive_0 : Int → Int) (seen_0 : Int → Int) (gx : Int) (k1 : 0 ≤ x1 ∧ x1 ≤ 24) (k2 : (-1) ≤ x2 ∧ x2 ≤ 24) (k4 : 0 ≤ x4 ∧ x4 ≤ 24) (k5 : (-1) ≤ x5 ∧ x5 ≤ 24) (k6 : 0 ≤ x6 ∧ x6 ≤ 1) (k7 : 0 ≤ x7 ∧ x7 ≤ 80) (k8 : (-2) ≤ x8 ∧ x8 ≤ 60) (k9 : 0 ≤ x9 ∧ x9 ≤ 80) (d0 : x9 + 0 ≤ x7 ∧ x7 ≤ x9 + 4294967296) (d1 : x4 + (-4294967296) ≤ x1 ∧ x1 ≤ x4 + 0) (d2 : x5 + (-4294967296) ≤ x2 ∧ x2 ≤ x5 + 0) (d3 : x1 + (-4294967296) ≤ x4 ∧ x4 ≤ x1 + 0) (d4 : x2 + (-4294967296) ≤ x5 ∧ x5 ≤ x2 + 0) (d5 : x7 + (-4294967296) ≤ x6 ∧ x6 ≤ x7 + 0) (f0 : x9 ≤ x7) (g1 : x9 = pm_0) (f2 : GOK (pn_0) (pm_0) (pt_0) (ph_0)) (f3 : 1 * x1 + ((-1) * pn_0 + 0) ≤ (-1)) (f4 : FL1 (pn_0) (pm_0) (pt_0) (ph_0) (alive_0) (seen_0) (x1) (x2)) (f5 : FL2 (pt_0) (ph_0) (alive_0) (seen_0) (x2) (x7) (x6)) (f6 : FLN (seen_0) (x6) (x8)) (hK_0_33 : ∀ j : Int, 0 ≤ j → j < 80 → 0 ≤ pt_0 j ∧ pt_0 j ≤ 24) (hK_0_34 : ∀ j : Int, 0 ≤ j → j < 80 → 0 ≤ ph_0 j ∧ ph_0 j ≤ 24) (hK_0_35 : ∀ j : Int, 0 ≤ j → j < 80 → 0 ≤ alive_0 j ∧ alive_0 j ≤ 1) (hK_0_38 : ∀ j : Int, 0 ≤ j → j < 26 → 0 ≤ seen_0 j ∧ seen_0 j ≤ 1) (kz_0_31 : 0 ≤ pn_0 ∧ pn_0 ≤ 25) (kz_0_32 : 0 ≤ pm_0 ∧ pm_0 ≤ 80) (ex2 : gx = (-1) + (1 * x8 + 0)) (ex3 : (-2) ≤ gx ∧ gx ≤ 60) : FL3 (pm_0) (pt_0) (ph_0) (alive_0) (seen_0) (x2) (x6) := by
  first
    | (intro h; omega)
    | (have h := ‹FL2 _ _ _ _ _ _ _›; intro h0 f a b; exact h h0 f a (by omega))
set_option maxHeartbeats 4000000 in
theorem vc_Mo_flood_6_4 (x1 : Int) (x2 : Int) (x4 : Int) (x5 : Int) (x6 : Int) (x7 : Int) (x8 : Int) (x9 : Int) (pm_0 : Int) (pt_0 : Int → Int) (ph_0 : Int → Int) (pn_0 : Int) (alive_0 : Int → Int) (seen_0 : Int → Int) (gx : Int) (k1 : 0 ≤ x1 ∧ x1 ≤ 24) (k2 : (-1) ≤ x2 ∧ x2 ≤ 24) (k4 : 0 ≤ x4 ∧ x4 ≤ 24) (k5 : (-1) ≤ x5 ∧ x5 ≤ 24) (k6 : 0 ≤ x6 ∧ x6 ≤ 1) (k7 : 0 ≤ x7 ∧ x7 ≤ 80) (k8 : (-2) ≤ x8 ∧ x8 ≤ 60) (k9 : 0 ≤ x9 ∧ x9 ≤ 80) (d0 : x9 + 0 ≤ x7 ∧ x7 ≤ x9 + 4294967296) (d1 : x4 + (-4294967296) ≤ x1 ∧ x1 ≤ x4 + 0) (d2 : x5 + (-4294967296) ≤ x2 ∧ x2 ≤ x5 + 0) (d3 : x1 + (-4294967296) ≤ x4 ∧ x4 ≤ x1 + 0) (d4 : x2 + (-4294967296) ≤ x5 ∧ x5 ≤ x2 + 0) (d5 : x7 + (-4294967296) ≤ x6 ∧ x6 ≤ x7 + 0) (f0 : x9 ≤ x7) (g1 : x9 = pm_0) (f2 : GOK (pn_0) (pm_0) (pt_0) (ph_0)) (f3 : 1 * x1 + ((-1) * pn_0 + 0) ≤ (-1)) (f4 : FL1 (pn_0) (pm_0) (pt_0) (ph_0) (alive_0) (seen_0) (x1) (x2)) (f5 : FL2 (pt_0) (ph_0) (alive_0) (seen_0) (x2) (x7) (x6)) (f6 : FLN (seen_0) (x6) (x8)) (hK_0_33 : ∀ j : Int, 0 ≤ j → j < 80 → 0 ≤ pt_0 j ∧ pt_0 j ≤ 24) (hK_0_34 : ∀ j : Int, 0 ≤ j → j < 80 → 0 ≤ ph_0 j ∧ ph_0 j ≤ 24) (hK_0_35 : ∀ j : Int, 0 ≤ j → j < 80 → 0 ≤ alive_0 j ∧ alive_0 j ≤ 1) (hK_0_38 : ∀ j : Int, 0 ≤ j → j < 26 → 0 ≤ seen_0 j ∧ seen_0 j ≤ 1) (kz_0_31 : 0 ≤ pn_0 ∧ pn_0 ≤ 25) (kz_0_32 : 0 ≤ pm_0 ∧ pm_0 ≤ 80) (ex2 : gx = (-1) + (1 * x8 + 0)) (ex3 : (-2) ≤ gx ∧ gx ≤ 60) : FLM (seen_0) (x6) (gx) := by
  first
    | (have := czb seen_0 (n := 26) (by omega); unfold FLM; omega)
    | (have := ‹FLN _ _ _›; unfold FLM FLN at *; omega)
def o_Mo_flood_6 : or_T := (34, 10, [(0, (2, 0, 0, [165])), (1, (0, 0, 24, [])), (2, (0, -1, 24, [])), (3, (2, 0, 0, [165])), (4, (0, 0, 24, [])), (5, (0, -1, 24, [])), (6, (0, 0, 1, [])), (7, (0, 0, 80, [])), (8, (0, -2, 60, [])), (9, (0, 0, 80, []))], [(7, [7, 9], [3]), (9, [9, 3], [32]), (20, [3], [60, 2, 2, 75, 31, 32, 33, 34]), (20, [4, 3], [30, -1, 1, 0, 0, -1, 1, 31]), (20, [3, 4, 5], [60, 2, 4, 77, 31, 32, 33, 34, 35, 38]), (20, [3, 5, 7, 6], [60, 0, 4, 78, 33, 34, 35, 38]), (20, [3, 6, 8], [60, 0, 1, 82, 38]), (24, [0, 3], []), (24, [1, 4], []), (24, [2, 5], [])], [], [(0, -2, 60, [])], [(20, [3], [60, 2, 2, 75, 31, 32, 33, 34]), (20, [4, 3], [30, -1, 1, 0, 0, -1, 1, 31]), (20, [3, 4, 5], [60, 2, 4, 77, 31, 32, 33, 34, 35, 38]), (20, [3, 5, 6], [60, 1, 4, 79, 32, 33, 34, 35, 38]), (20, [3, 6, 10], [60, 0, 1, 81, 38]), (24, [0, 3], []), (24, [1, 4], []), (24, [2, 5], [])], [(10, 8, -1000000000000, -1)], [(7, 9, 0, 4294967296), (1, 4, -4294967296, 0), (2, 5, -4294967296, 0), (4, 1, -4294967296, 0), (5, 2, -4294967296, 0), (6, 7, -4294967296, 0)])
theorem oo_Mo_flood_6 {kA : Nat → ClassId} : or_ok PRD kA GG o_Mo_flood_6 := by
  refine or_mk fun A ta ws vs hD hth hl => ?_
  intro t0 r0 t1 k1 t2 k2 t3 r3 t4 k4 t5 k5 t6 k6 t7 k7 t8 k8 t9 k9 d0 d1 d2 d3 d4 d5 f0 f1 f2 f3 f4 f5 f6 f7 f8 f9
  replace f0 := shm_2 f0
  replace f1 := shm_519 f1
  replace f2 := shm_563 f2
  replace f3 := shm_545 f3
  replace f4 := shm_566 f4
  replace f5 := shm_571 f5
  replace f6 := shm_572 f6
  replace f7 := shm_5 f7
  replace f8 := shm_5 f8
  replace f9 := shm_5 f9
  have q3 : n_v vs 3 = n_v vs 0 := f7.symm
  have q4 : n_v vs 4 = n_v vs 1 := f8.symm
  have q5 : n_v vs 5 = n_v vs 2 := f9.symm
  simp only [q3, q4, q5] at f1 f2 f3 f4 f5 f6
  have cr_0_33 := fdq_116 hD hth r0
  have cr_0_34 := fdq_117 hD hth r0
  have cr_0_35 := fdq_131 hD hth r0
  have cr_0_38 := fdq_148 hD hth r0
  have g1 : v_iv (n_v vs 9) = w_fi ws (n_v vs 0) 32 := congrArg v_iv f1
  have hK_0_33 := elq_57 hD hth cr_0_33
  have hK_0_34 := elq_58 hD hth cr_0_34
  have hK_0_35 := elq_69 hD hth cr_0_35
  have hK_0_38 := elq_80 hD hth cr_0_38
  have kz_0_31 := fdq_144 hD hth r0
  have kz_0_32 := fdq_139 hD hth r0
  first | have hN := fln_pos ‹FLN _ _ _› (by omega) | skip
  obtain ⟨x, ex, hx⟩ := iv_ex (ta := ta) (lo := (-2)) (hi := 60) (z := (-1) + (1 * v_iv (n_v vs 8) + 0)) (by omega) (by omega) (by omega) (by omega)
  have ex2 : v_iv (Value.int x) = (-1) + (1 * v_iv (n_v vs 8) + 0) := ex
  have ex3 : (-2) ≤ v_iv (Value.int x) ∧ v_iv (Value.int x) ≤ 60 := tv_rng hx
  have e_0 : n_v (vs ++ [Value.int x]) 0 = n_v vs 0 := n_v_old (by rw [hl]; decide)
  have e_1 : n_v (vs ++ [Value.int x]) 1 = n_v vs 1 := n_v_old (by rw [hl]; decide)
  have e_2 : n_v (vs ++ [Value.int x]) 2 = n_v vs 2 := n_v_old (by rw [hl]; decide)
  have e_3 : n_v (vs ++ [Value.int x]) 3 = n_v vs 3 := n_v_old (by rw [hl]; decide)
  have e_4 : n_v (vs ++ [Value.int x]) 4 = n_v vs 4 := n_v_old (by rw [hl]; decide)
  have e_5 : n_v (vs ++ [Value.int x]) 5 = n_v vs 5 := n_v_old (by rw [hl]; decide)
  have e_6 : n_v (vs ++ [Value.int x]) 6 = n_v vs 6 := n_v_old (by rw [hl]; decide)
  have e_10 : n_v (vs ++ [Value.int x]) 10 = Value.int x := n_v_new hl
  have nf0 : fc_1 PRD (20, [3], [60, 2, 2, 75, 31, 32, 33, 34]) ws (vs ++ [Value.int x]) := by
    refine ⟨nf_inA hl rfl, sgq_563 ?_⟩
    · show GOK (w_fi ws (n_v (vs ++ [Value.int x]) 3) 31) (w_fi ws (n_v (vs ++ [Value.int x]) 3) 32) (w_ei ws (w_ar ws (n_v (vs ++ [Value.int x]) 3) 33)) (w_ei ws (w_ar ws (n_v (vs ++ [Value.int x]) 3) 34))
      simp only [e_3, q3]
      exact vc_Mo_flood_6_0 (v_iv (n_v vs 1)) (v_iv (n_v vs 2)) (v_iv (n_v vs 4)) (v_iv (n_v vs 5)) (v_iv (n_v vs 6)) (v_iv (n_v vs 7)) (v_iv (n_v vs 8)) (v_iv (n_v vs 9)) (w_fi ws (n_v vs 0) 32) (w_ei ws (w_ar ws (n_v vs 0) 33)) (w_ei ws (w_ar ws (n_v vs 0) 34)) (w_fi ws (n_v vs 0) 31) (w_ei ws (w_ar ws (n_v vs 0) 35)) (w_ei ws (w_ar ws (n_v vs 0) 38)) (v_iv (Value.int x)) k1 k2 k4 k5 k6 k7 k8 k9 d0 d1 d2 d3 d4 d5 f0 g1 f2 f3 f4 f5 f6 hK_0_33 hK_0_34 hK_0_35 hK_0_38 kz_0_31 kz_0_32 ex2 ex3
  have nf1 : fc_1 PRD (20, [4, 3], [30, -1, 1, 0, 0, -1, 1, 31]) ws (vs ++ [Value.int x]) := by
    refine ⟨nf_inA hl rfl, sgq_545 ?_⟩
    · show 1 * v_iv (n_v (vs ++ [Value.int x]) 4) + ((-1) * w_fi ws (n_v (vs ++ [Value.int x]) 3) 31 + 0) ≤ (-1)
      simp only [e_3, e_4, q3, q4]
      omega
  have nf2 : fc_1 PRD (20, [3, 4, 5], [60, 2, 4, 77, 31, 32, 33, 34, 35, 38]) ws (vs ++ [Value.int x]) := by
    refine ⟨nf_inA hl rfl, sgq_566 ?_⟩
    · show FL1 (w_fi ws (n_v (vs ++ [Value.int x]) 3) 31) (w_fi ws (n_v (vs ++ [Value.int x]) 3) 32) (w_ei ws (w_ar ws (n_v (vs ++ [Value.int x]) 3) 33)) (w_ei ws (w_ar ws (n_v (vs ++ [Value.int x]) 3) 34)) (w_ei ws (w_ar ws (n_v (vs ++ [Value.int x]) 3) 35)) (w_ei ws (w_ar ws (n_v (vs ++ [Value.int x]) 3) 38)) (v_iv (n_v (vs ++ [Value.int x]) 4)) (v_iv (n_v (vs ++ [Value.int x]) 5))
      simp only [e_3, e_4, e_5, q3, q4, q5]
      exact vc_Mo_flood_6_2 (v_iv (n_v vs 1)) (v_iv (n_v vs 2)) (v_iv (n_v vs 4)) (v_iv (n_v vs 5)) (v_iv (n_v vs 6)) (v_iv (n_v vs 7)) (v_iv (n_v vs 8)) (v_iv (n_v vs 9)) (w_fi ws (n_v vs 0) 32) (w_ei ws (w_ar ws (n_v vs 0) 33)) (w_ei ws (w_ar ws (n_v vs 0) 34)) (w_fi ws (n_v vs 0) 31) (w_ei ws (w_ar ws (n_v vs 0) 35)) (w_ei ws (w_ar ws (n_v vs 0) 38)) (v_iv (Value.int x)) k1 k2 k4 k5 k6 k7 k8 k9 d0 d1 d2 d3 d4 d5 f0 g1 f2 f3 f4 f5 f6 hK_0_33 hK_0_34 hK_0_35 hK_0_38 kz_0_31 kz_0_32 ex2 ex3
  have nf3 : fc_1 PRD (20, [3, 5, 6], [60, 1, 4, 79, 32, 33, 34, 35, 38]) ws (vs ++ [Value.int x]) := by
    refine ⟨nf_inA hl rfl, sgq_567 ?_⟩
    · show FL3 (w_fi ws (n_v (vs ++ [Value.int x]) 3) 32) (w_ei ws (w_ar ws (n_v (vs ++ [Value.int x]) 3) 33)) (w_ei ws (w_ar ws (n_v (vs ++ [Value.int x]) 3) 34)) (w_ei ws (w_ar ws (n_v (vs ++ [Value.int x]) 3) 35)) (w_ei ws (w_ar ws (n_v (vs ++ [Value.int x]) 3) 38)) (v_iv (n_v (vs ++ [Value.int x]) 5)) (v_iv (n_v (vs ++ [Value.int x]) 6))
      simp only [e_3, e_5, e_6, q3, q5]
      exact vc_Mo_flood_6_3 (v_iv (n_v vs 1)) (v_iv (n_v vs 2)) (v_iv (n_v vs 4)) (v_iv (n_v vs 5)) (v_iv (n_v vs 6)) (v_iv (n_v vs 7)) (v_iv (n_v vs 8)) (v_iv (n_v vs 9)) (w_fi ws (n_v vs 0) 32) (w_ei ws (w_ar ws (n_v vs 0) 33)) (w_ei ws (w_ar ws (n_v vs 0) 34)) (w_fi ws (n_v vs 0) 31) (w_ei ws (w_ar ws (n_v vs 0) 35)) (w_ei ws (w_ar ws (n_v vs 0) 38)) (v_iv (Value.int x)) k1 k2 k4 k5 k6 k7 k8 k9 d0 d1 d2 d3 d4 d5 f0 g1 f2 f3 f4 f5 f6 hK_0_33 hK_0_34 hK_0_35 hK_0_38 kz_0_31 kz_0_32 ex2 ex3
  have nf4 : fc_1 PRD (20, [3, 6, 10], [60, 0, 1, 81, 38]) ws (vs ++ [Value.int x]) := by
    refine ⟨nf_inA hl rfl, sgq_568 ?_⟩
    · show FLM (w_ei ws (w_ar ws (n_v (vs ++ [Value.int x]) 3) 38)) (v_iv (n_v (vs ++ [Value.int x]) 6)) (v_iv (n_v (vs ++ [Value.int x]) 10))
      simp only [e_3, e_6, e_10, q3]
      exact vc_Mo_flood_6_4 (v_iv (n_v vs 1)) (v_iv (n_v vs 2)) (v_iv (n_v vs 4)) (v_iv (n_v vs 5)) (v_iv (n_v vs 6)) (v_iv (n_v vs 7)) (v_iv (n_v vs 8)) (v_iv (n_v vs 9)) (w_fi ws (n_v vs 0) 32) (w_ei ws (w_ar ws (n_v vs 0) 33)) (w_ei ws (w_ar ws (n_v vs 0) 34)) (w_fi ws (n_v vs 0) 31) (w_ei ws (w_ar ws (n_v vs 0) 35)) (w_ei ws (w_ar ws (n_v vs 0) 38)) (v_iv (Value.int x)) k1 k2 k4 k5 k6 k7 k8 k9 d0 d1 d2 d3 d4 d5 f0 g1 f2 f3 f4 f5 f6 hK_0_33 hK_0_34 hK_0_35 hK_0_38 kz_0_31 kz_0_32 ex2 ex3
  have nf5 : fc_1 PRD (24, [0, 3], []) ws (vs ++ [Value.int x]) := by
    refine ⟨nf_inA hl rfl, sgq_5 ?_⟩
    · show n_v (vs ++ [Value.int x]) 0 = n_v (vs ++ [Value.int x]) 3
      first | rfl | simp only [e_0, e_3, q3, q4, q5]
  have nf6 : fc_1 PRD (24, [1, 4], []) ws (vs ++ [Value.int x]) := by
    refine ⟨nf_inA hl rfl, sgq_5 ?_⟩
    · show n_v (vs ++ [Value.int x]) 1 = n_v (vs ++ [Value.int x]) 4
      first | rfl | simp only [e_1, e_4, q3, q4, q5]
  have nf7 : fc_1 PRD (24, [2, 5], []) ws (vs ++ [Value.int x]) := by
    refine ⟨nf_inA hl rfl, sgq_5 ?_⟩
    · show n_v (vs ++ [Value.int x]) 2 = n_v (vs ++ [Value.int x]) 5
      first | rfl | simp only [e_2, e_5, q3, q4, q5]
  obtain ⟨x0, e0, _, _⟩ := tv_int t8 rfl
  have e1 : v_iv (n_v vs 8) = x0.toInt := by rw [e0]; rfl
  have ho : sy_ofs (vs ++ [Value.int x]) (10, 8, -1000000000000, -1) := by
    refine ⟨x, x0, by rw [List.getElem?_append_right (by rw [hl]; decide), hl]; rfl, ?_, ?_, ?_⟩
    · rw [List.getElem?_append_left (by rw [hl]; decide)]; exact n_v_some (by rw [hl]; decide) e0
    · show x0.toInt + (-1000000000000) ≤ x.toInt; omega
    · show x.toInt ≤ x0.toInt + (-1); omega
  exact ⟨(fun _ h => (by cases h)), [Value.int x], ag_one hx, List.forall_mem_cons.mpr ⟨⟨show (20 : Nat) < 100 from by decide, nf0⟩, List.forall_mem_cons.mpr ⟨⟨show (20 : Nat) < 100 from by decide, nf1⟩, List.forall_mem_cons.mpr ⟨⟨show (20 : Nat) < 100 from by decide, nf2⟩, List.forall_mem_cons.mpr ⟨⟨show (20 : Nat) < 100 from by decide, nf3⟩, List.forall_mem_cons.mpr ⟨⟨show (20 : Nat) < 100 from by decide, nf4⟩, List.forall_mem_cons.mpr ⟨⟨show (24 : Nat) < 100 from by decide, nf5⟩, List.forall_mem_cons.mpr ⟨⟨show (24 : Nat) < 100 from by decide, nf6⟩, List.forall_mem_cons.mpr ⟨⟨show (24 : Nat) < 100 from by decide, nf7⟩, (fun _ h => (by cases h))⟩⟩⟩⟩⟩⟩⟩⟩, List.forall_mem_cons.mpr ⟨ho, (fun _ h => (by cases h))⟩⟩
set_option maxHeartbeats 4000000 in
theorem vc_Mo_flood_7_0 (x1 : Int) (x2 : Int) (x4 : Int) (x5 : Int) (x6 : Int) (x7 : Int) (x8 : Int) (x9 : Int) (x11 : Int) (x12 : Int) (alive_0 : Int → Int) (pm_0 : Int) (pt_0 : Int → Int) (ph_0 : Int → Int) (pn_0 : Int) (seen_0 : Int → Int) (k1 : 0 ≤ x1 ∧ x1 ≤ 24) (k2 : (-1) ≤ x2 ∧ x2 ≤ 24) (k4 : 0 ≤ x4 ∧ x4 ≤ 24) (k5 : (-1) ≤ x5 ∧ x5 ≤ 24) (k6 : 0 ≤ x6 ∧ x6 ≤ 1) (k7 : 0 ≤ x7 ∧ x7 ≤ 79) (k8 : (-2) ≤ x8 ∧ x8 ≤ 60) (k9 : 1 ≤ x9 ∧ x9 ≤ 80) (k11 : 0 ≤ x11 ∧ x11 ≤ 0) (k12 : 1 ≤ x12 ∧ x12 ≤ 80) (d0 : x7 + 1 ≤ x12 ∧ x12 ≤ x7 + 1) (d1 : x9 + (-4294967296) ≤ x12 ∧ x12 ≤ x9 + 0) (d2 : x9 + (-4294967296) ≤ x7 ∧ x7 ≤ x9 + (-1)) (d3 : x4 + (-4294967296) ≤ x1 ∧ x1 ≤ x4 + 0) (d4 : x5 + (-4294967296) ≤ x2 ∧ x2 ≤ x5 + 0) (d5 : x1 + (-4294967296) ≤ x4 ∧ x4 ≤ x1 + 0) (d6 : x2 + (-4294967296) ≤ x5 ∧ x5 ≤ x2 + 0) (d7 : x7 + (-4294967296) ≤ x6 ∧ x6 ≤ x7 + 0) (f0 : x12 = x7 + 1) (f1 : x11 = 0) (h2 : x11 = alive_0 (x7)) (f4 : x7 < x9) (g5 : x9 = pm_0) (f6 : GOK (pn_0) (pm_0) (pt_0) (ph_0)) (f7 : 1 * x1 + ((-1) * pn_0 + 0) ≤ (-1)) (f8 : FL1 (pn_0) (pm_0) (pt_0) (ph_0) (alive_0) (seen_0) (x1) (x2)) (f9 : FL2 (pt_0) (ph_0) (alive_0) (seen_0) (x2) (x7) (x6)) (f10 : FLN (seen_0) (x6) (x8)) (hK_0_33 : ∀ j : Int, 0 ≤ j → j < 80 → 0 ≤ pt_0 j ∧ pt_0 j ≤ 24) (hK_0_34 : ∀ j : Int, 0 ≤ j → j < 80 → 0 ≤ ph_0 j ∧ ph_0 j ≤ 24) (hK_0_35 : ∀ j : Int, 0 ≤ j → j < 80 → 0 ≤ alive_0 j ∧ alive_0 j ≤ 1) (hK_0_38 : ∀ j : Int, 0 ≤ j → j < 26 → 0 ≤ seen_0 j ∧ seen_0 j ≤ 1) (kz_0_31 : 0 ≤ pn_0 ∧ pn_0 ≤ 25) (kz_0_32 : 0 ≤ pm_0 ∧ pm_0 ≤ 80) : FL2 (pt_0) (ph_0) (alive_0) (seen_0) (x2) (x12) (x6) := by
  first
    | (intro h f a b; omega)
    | (have h := ‹FL2 _ _ _ _ _ _ _›
       intro h0 f a b c d e
       by_cases q : f = x7
       · subst q; first | omega | (rw [← h12, ← h10]; rw [h7, h3] at *; omega) | (rw [← h7, ← h3, ← h6, ← h2]; exact f1)
       · exact h h0 f a (by omega) c d e)
def o_Mo_flood_7 : or_T := (43, 13, [(0, (2, 0, 0, [165])), (1, (0, 0, 24, [])), (2, (0, -1, 24, [])), (4, (0, 0, 24, [])), (5, (0, -1, 24, [])), (6, (0, 0, 1, [])), (7, (0, 0, 79, [])), (8, (0, -2, 60, [])), (9, (0, 1, 80, [])), (11, (0, 0, 0, [])), (12, (0, 1, 80, []))], [(6, [12, 7], [1]), (8, [11], [0]), (10, [11, 10, 7], []), (9, [10, 3], [35]), (7, [7, 9], [2]), (9, [9, 3], [32]), (20, [3], [60, 2, 2, 75, 31, 32, 33, 34]), (20, [4, 3], [30, -1, 1, 0, 0, -1, 1, 31]), (20, [3, 4, 5], [60, 2, 4, 77, 31, 32, 33, 34, 35, 38]), (20, [3, 5, 7, 6], [60, 0, 4, 78, 33, 34, 35, 38]), (20, [3, 6, 8], [60, 0, 1, 82, 38]), (24, [0, 3], []), (24, [1, 4], []), (24, [2, 5], [])], [], [], [(20, [3, 5, 12, 6], [60, 0, 4, 78, 33, 34, 35, 38])], [], [(12, 7, 1, 1), (12, 9, -4294967296, 0), (7, 9, -4294967296, -1), (1, 4, -4294967296, 0), (2, 5, -4294967296, 0), (4, 1, -4294967296, 0), (5, 2, -4294967296, 0), (6, 7, -4294967296, 0)])
theorem oo_Mo_flood_7 {kA : Nat → ClassId} : or_ok PRD kA GG o_Mo_flood_7 := by
  refine or_mk fun A ta ws vs hD hth hl => ?_
  intro t0 r0 t1 k1 t2 k2 t4 k4 t5 k5 t6 k6 t7 k7 t8 k8 t9 k9 t11 k11 t12 k12 d0 d1 d2 d3 d4 d5 d6 d7 f0 f1 f2 f3 f4 f5 f6 f7 f8 f9 f10 f11 f12 f13
  replace f0 := shm_4 f0
  replace f1 := shm_210 f1
  replace f2 := shm_106 f2
  replace f3 := shm_505 f3
  replace f4 := shm_6 f4
  replace f5 := shm_519 f5
  replace f6 := shm_563 f6
  replace f7 := shm_545 f7
  replace f8 := shm_566 f8
  replace f9 := shm_571 f9
  replace f10 := shm_572 f10
  replace f11 := shm_5 f11
  replace f12 := shm_5 f12
  replace f13 := shm_5 f13
  have q3 : n_v vs 3 = n_v vs 0 := f11.symm
  have q4 : n_v vs 4 = n_v vs 1 := f12.symm
  have q5 : n_v vs 5 = n_v vs 2 := f13.symm
  simp only [q3, q4, q5] at f3 f5 f6 f7 f8 f9 f10
  have cr_0_33 := fdq_116 hD hth r0
  have cr_0_34 := fdq_117 hD hth r0
  have cr_0_35 := fdq_131 hD hth r0
  have cr_0_38 := fdq_148 hD hth r0
  have ad_10 : v_ad (n_v vs 10) = w_ar ws (n_v vs 0) 35 := congrArg v_ad f3
  simp only [ad_10] at f2
  have h2 : v_iv (n_v vs 11) = w_ei ws (w_ar ws (n_v vs 0) 35) (v_iv (n_v vs 7)) := f2
  have g5 : v_iv (n_v vs 9) = w_fi ws (n_v vs 0) 32 := congrArg v_iv f5
  have hK_0_33 := elq_57 hD hth cr_0_33
  have hK_0_34 := elq_58 hD hth cr_0_34
  have hK_0_35 := elq_69 hD hth cr_0_35
  have hK_0_38 := elq_80 hD hth cr_0_38
  have kz_0_31 := fdq_144 hD hth r0
  have kz_0_32 := fdq_139 hD hth r0
  have nf0 : fc_1 PRD (20, [3, 5, 12, 6], [60, 0, 4, 78, 33, 34, 35, 38]) ws (vs) := by
    refine ⟨nf_in hl rfl, sgq_571 ?_⟩
    · show FL2 (w_ei ws (w_ar ws (n_v vs 3) 33)) (w_ei ws (w_ar ws (n_v vs 3) 34)) (w_ei ws (w_ar ws (n_v vs 3) 35)) (w_ei ws (w_ar ws (n_v vs 3) 38)) (v_iv (n_v vs 5)) (v_iv (n_v vs 12)) (v_iv (n_v vs 6))
      simp only [q3, q5]
      exact vc_Mo_flood_7_0 (v_iv (n_v vs 1)) (v_iv (n_v vs 2)) (v_iv (n_v vs 4)) (v_iv (n_v vs 5)) (v_iv (n_v vs 6)) (v_iv (n_v vs 7)) (v_iv (n_v vs 8)) (v_iv (n_v vs 9)) (v_iv (n_v vs 11)) (v_iv (n_v vs 12)) (w_ei ws (w_ar ws (n_v vs 0) 35)) (w_fi ws (n_v vs 0) 32) (w_ei ws (w_ar ws (n_v vs 0) 33)) (w_ei ws (w_ar ws (n_v vs 0) 34)) (w_fi ws (n_v vs 0) 31) (w_ei ws (w_ar ws (n_v vs 0) 38)) k1 k2 k4 k5 k6 k7 k8 k9 k11 k12 d0 d1 d2 d3 d4 d5 d6 d7 f0 f1 h2 f4 g5 f6 f7 f8 f9 f10 hK_0_33 hK_0_34 hK_0_35 hK_0_38 kz_0_31 kz_0_32
  refine ⟨(fun _ h => (by cases h)), [], trivial, ?_, (fun _ h => (by cases h))⟩
  rw [List.append_nil]
  exact List.forall_mem_cons.mpr ⟨⟨show (20 : Nat) < 100 from by decide, nf0⟩, (fun _ h => (by cases h))⟩
set_option maxHeartbeats 4000000 in
theorem vc_Mo_flood_8_0 (x1 : Int) (x2 : Int) (x4 : Int) (x5 : Int) (x6 : Int) (x7 : Int) (x8 : Int) (x9 : Int) (x11 : Int) (x13 : Int) (x14 : Int) (pt_0 : Int → Int) (alive_0 : Int → Int) (pm_0 : Int) (ph_0 : Int → Int) (pn_0 : Int) (seen_0 : Int → Int) (k1 : 0 ≤ x1 ∧ x1 ≤ 24) (k2 : 0 ≤ x2 ∧ x2 ≤ 24) (k4 : 0 ≤ x4 ∧ x4 ≤ 24) (k5 : 0 ≤ x5 ∧ x5 ≤ 24) (k6 : 0 ≤ x6 ∧ x6 ≤ 1) (k7 : 0 ≤ x7 ∧ x7 ≤ 79) (k8 : (-2) ≤ x8 ∧ x8 ≤ 60) (k9 : 1 ≤ x9 ∧ x9 ≤ 80) (k11 : 1 ≤ x11 ∧ x11 ≤ 1) (k13 : 0 ≤ x13 ∧ x13 ≤ 24) (k14 : 1 ≤ x14 ∧ x14 ≤ 80) (d0 : x7 + 1 ≤ x14 ∧ x14 ≤ x7 + 1) (d1 : x9 + (-4294967296) ≤ x14 ∧ x14 ≤ x9 + 0) (d2 : x5 + 0 ≤ x13 ∧ x13 ≤ x5 + 0) (d3 : x9 + (-4294967296) ≤ x7 ∧ x7 ≤ x9 + (-1)) (d4 : x4 + (-4294967296) ≤ x1 ∧ x1 ≤ x4 + 0) (d5 : x5 + (-4294967296) ≤ x2 ∧ x2 ≤ x5 + 0) (d6 : x1 + (-4294967296) ≤ x4 ∧ x4 ≤ x1 + 0) (d7 : x2 + (-4294967296) ≤ x5 ∧ x5 ≤ x2 + 0) (d8 : x7 + (-4294967296) ≤ x6 ∧ x6 ≤ x7 + 0) (f0 : x14 = x7 + 1) (f1 : x13 = x2) (h2 : x13 = pt_0 (x7)) (f4 : x11 ≠ 0) (h5 : x11 = alive_0 (x7)) (f7 : x7 < x9) (g8 : x9 = pm_0) (f9 : GOK (pn_0) (pm_0) (pt_0) (ph_0)) (f10 : 1 * x1 + ((-1) * pn_0 + 0) ≤ (-1)) (f11 : FL1 (pn_0) (pm_0) (pt_0) (ph_0) (alive_0) (seen_0) (x1) (x2)) (f12 : FL2 (pt_0) (ph_0) (alive_0) (seen_0) (x2) (x7) (x6)) (f13 : FLN (seen_0) (x6) (x8)) (hK_0_33 : ∀ j : Int, 0 ≤ j → j < 80 → 0 ≤ pt_0 j ∧ pt_0 j ≤ 24) (hK_0_34 : ∀ j : Int, 0 ≤ j → j < 80 → 0 ≤ ph_0 j ∧ ph_0 j ≤ 24) (hK_0_35 : ∀ j : Int, 0 ≤ j → j < 80 → 0 ≤ alive_0 j ∧ alive_0 j ≤ 1) (hK_0_38 : ∀ j : Int, 0 ≤ j → j < 26 → 0 ≤ seen_0 j ∧ seen_0 j ≤ 1) (kz_0_31 : 0 ≤ pn_0 ∧ pn_0 ≤ 25) (kz_0_32 : 0 ≤ pm_0 ∧ pm_0 ≤ 80) : FL2 (pt_0) (ph_0) (alive_0) (seen_0) (x2) (x14) (x6) := by
  first
    | (intro h f a b; omega)
    | (have h := ‹FL2 _ _ _ _ _ _ _›
       intro h0 f a b c d e
       by_cases q : f = x7
       · subst q; first | omega | (rw [← h12, ← h10]; rw [h7, h3] at *; omega) | (rw [← h7, ← h3, ← h6, ← h2]; exact f1)
       · exact h h0 f a (by omega) c d e)
def o_Mo_flood_8 : or_T := (43, 15, [(0, (2, 0, 0, [165])), (1, (0, 0, 24, [])), (2, (0, 0, 24, [])), (4, (0, 0, 24, [])), (5, (0, 0, 24, [])), (6, (0, 0, 1, [])), (7, (0, 0, 79, [])), (8, (0, -2, 60, [])), (9, (0, 1, 80, [])), (11, (0, 1, 1, [])), (13, (0, 0, 24, [])), (14, (0, 1, 80, []))], [(6, [14, 7], [1]), (7, [13, 5], [0]), (10, [13, 12, 7], []), (9, [12, 3], [33]), (8, [11], [1]), (10, [11, 10, 7], []), (9, [10, 3], [35]), (7, [7, 9], [2]), (9, [9, 3], [32]), (20, [3], [60, 2, 2, 75, 31, 32, 33, 34]), (20, [4, 3], [30, -1, 1, 0, 0, -1, 1, 31]), (20, [3, 4, 5], [60, 2, 4, 77, 31, 32, 33, 34, 35, 38]), (20, [3, 5, 7, 6], [60, 0, 4, 78, 33, 34, 35, 38]), (20, [3, 6, 8], [60, 0, 1, 82, 38]), (24, [0, 3], []), (24, [1, 4], []), (24, [2, 5], [])], [], [], [(20, [3, 5, 14, 6], [60, 0, 4, 78, 33, 34, 35, 38])], [], [(14, 7, 1, 1), (14, 9, -4294967296, 0), (13, 5, 0, 0), (7, 9, -4294967296, -1), (1, 4, -4294967296, 0), (2, 5, -4294967296, 0), (4, 1, -4294967296, 0), (5, 2, -4294967296, 0), (6, 7, -4294967296, 0)])
theorem oo_Mo_flood_8 {kA : Nat → ClassId} : or_ok PRD kA GG o_Mo_flood_8 := by
  refine or_mk fun A ta ws vs hD hth hl => ?_
  intro t0 r0 t1 k1 t2 k2 t4 k4 t5 k5 t6 k6 t7 k7 t8 k8 t9 k9 t11 k11 t13 k13 t14 k14 d0 d1 d2 d3 d4 d5 d6 d7 d8 f0 f1 f2 f3 f4 f5 f6 f7 f8 f9 f10 f11 f12 f13 f14 f15 f16
  replace f0 := shm_4 f0
  replace f1 := shm_37 f1
  replace f2 := shm_106 f2
  replace f3 := shm_488 f3
  replace f4 := shm_154 f4
  replace f5 := shm_106 f5
  replace f6 := shm_505 f6
  replace f7 := shm_6 f7
  replace f8 := shm_519 f8
  replace f9 := shm_563 f9
  replace f10 := shm_545 f10
  replace f11 := shm_566 f11
  replace f12 := shm_571 f12
  replace f13 := shm_572 f13
  replace f14 := shm_5 f14
  replace f15 := shm_5 f15
  replace f16 := shm_5 f16
  have q3 : n_v vs 3 = n_v vs 0 := f14.symm
  have q4 : n_v vs 4 = n_v vs 1 := f15.symm
  have q5 : n_v vs 5 = n_v vs 2 := f16.symm
  simp only [q5, q3, q4] at f1 f3 f6 f8 f9 f10 f11 f12 f13
  have cr_0_33 := fdq_116 hD hth r0
  have cr_0_34 := fdq_117 hD hth r0
  have cr_0_35 := fdq_131 hD hth r0
  have cr_0_38 := fdq_148 hD hth r0
  have ad_12 : v_ad (n_v vs 12) = w_ar ws (n_v vs 0) 33 := congrArg v_ad f3
  have ad_10 : v_ad (n_v vs 10) = w_ar ws (n_v vs 0) 35 := congrArg v_ad f6
  simp only [ad_12] at f2
  have h2 : v_iv (n_v vs 13) = w_ei ws (w_ar ws (n_v vs 0) 33) (v_iv (n_v vs 7)) := f2
  simp only [ad_10] at f5
  have h5 : v_iv (n_v vs 11) = w_ei ws (w_ar ws (n_v vs 0) 35) (v_iv (n_v vs 7)) := f5
  have g8 : v_iv (n_v vs 9) = w_fi ws (n_v vs 0) 32 := congrArg v_iv f8
  have hK_0_33 := elq_57 hD hth cr_0_33
  have hK_0_34 := elq_58 hD hth cr_0_34
  have hK_0_35 := elq_69 hD hth cr_0_35
  have hK_0_38 := elq_80 hD hth cr_0_38
  have kz_0_31 := fdq_144 hD hth r0
  have kz_0_32 := fdq_139 hD hth r0
  have nf0 : fc_1 PRD (20, [3, 5, 14, 6], [60, 0, 4, 78, 33, 34, 35, 38]) ws (vs) := by
    refine ⟨nf_in hl rfl, sgq_571 ?_⟩
    · show FL2 (w_ei ws (w_ar ws (n_v vs 3) 33)) (w_ei ws (w_ar ws (n_v vs 3) 34)) (w_ei ws (w_ar ws (n_v vs 3) 35)) (w_ei ws (w_ar ws (n_v vs 3) 38)) (v_iv (n_v vs 5)) (v_iv (n_v vs 14)) (v_iv (n_v vs 6))
      simp only [q3, q5]
      exact vc_Mo_flood_8_0 (v_iv (n_v vs 1)) (v_iv (n_v vs 2)) (v_iv (n_v vs 4)) (v_iv (n_v vs 5)) (v_iv (n_v vs 6)) (v_iv (n_v vs 7)) (v_iv (n_v vs 8)) (v_iv (n_v vs 9)) (v_iv (n_v vs 11)) (v_iv (n_v vs 13)) (v_iv (n_v vs 14)) (w_ei ws (w_ar ws (n_v vs 0) 33)) (w_ei ws (w_ar ws (n_v vs 0) 35)) (w_fi ws (n_v vs 0) 32) (w_ei ws (w_ar ws (n_v vs 0) 34)) (w_fi ws (n_v vs 0) 31) (w_ei ws (w_ar ws (n_v vs 0) 38)) k1 k2 k4 k5 k6 k7 k8 k9 k11 k13 k14 d0 d1 d2 d3 d4 d5 d6 d7 d8 f0 f1 h2 f4 h5 f7 g8 f9 f10 f11 f12 f13 hK_0_33 hK_0_34 hK_0_35 hK_0_38 kz_0_31 kz_0_32
  refine ⟨(fun _ h => (by cases h)), [], trivial, ?_, (fun _ h => (by cases h))⟩
  rw [List.append_nil]
  exact List.forall_mem_cons.mpr ⟨⟨show (20 : Nat) < 100 from by decide, nf0⟩, (fun _ h => (by cases h))⟩
set_option maxHeartbeats 4000000 in
theorem vc_Mo_flood_9_0 (x1 : Int) (x2 : Int) (x4 : Int) (x5 : Int) (x6 : Int) (x7 : Int) (x8 : Int) (x9 : Int) (x11 : Int) (x13 : Int) (x15 : Int) (x16 : Int) (ph_0 : Int → Int) (pt_0 : Int → Int) (alive_0 : Int → Int) (pm_0 : Int) (pn_0 : Int) (seen_0 : Int → Int) (k1 : 0 ≤ x1 ∧ x1 ≤ 24) (k2 : 0 ≤ x2 ∧ x2 ≤ 24) (k4 : 0 ≤ x4 ∧ x4 ≤ 24) (k5 : 0 ≤ x5 ∧ x5 ≤ 24) (k6 : 0 ≤ x6 ∧ x6 ≤ 1) (k7 : 0 ≤ x7 ∧ x7 ≤ 79) (k8 : (-2) ≤ x8 ∧ x8 ≤ 60) (k9 : 1 ≤ x9 ∧ x9 ≤ 80) (k11 : 1 ≤ x11 ∧ x11 ≤ 1) (k13 : 0 ≤ x13 ∧ x13 ≤ 24) (k15 : 0 ≤ x15 ∧ x15 ≤ 24) (k16 : 1 ≤ x16 ∧ x16 ≤ 80) (d0 : x7 + 1 ≤ x16 ∧ x16 ≤ x7 + 1) (d1 : x9 + (-4294967296) ≤ x16 ∧ x16 ≤ x9 + 0) (d2 : x5 + 0 ≤ x15 ∧ x15 ≤ x5 + 0) (d3 : x9 + (-4294967296) ≤ x7 ∧ x7 ≤ x9 + (-1)) (d4 : x4 + (-4294967296) ≤ x1 ∧ x1 ≤ x4 + 0) (d5 : x5 + (-4294967296) ≤ x2 ∧ x2 ≤ x5 + 0) (d6 : x1 + (-4294967296) ≤ x4 ∧ x4 ≤ x1 + 0) (d7 : x2 + (-4294967296) ≤ x5 ∧ x5 ≤ x2 + 0) (d8 : x7 + (-4294967296) ≤ x6 ∧ x6 ≤ x7 + 0) (f0 : x16 = x7 + 1) (f1 : x15 = x2) (h2 : x15 = ph_0 (x7)) (f4 : x13 ≠ x2) (h5 : x13 = pt_0 (x7)) (f7 : x11 ≠ 0) (h8 : x11 = alive_0 (x7)) (f10 : x7 < x9) (g11 : x9 = pm_0) (f12 : GOK (pn_0) (pm_0) (pt_0) (ph_0)) (f13 : 1 * x1 + ((-1) * pn_0 + 0) ≤ (-1)) (f14 : FL1 (pn_0) (pm_0) (pt_0) (ph_0) (alive_0) (seen_0) (x1) (x2)) (f15 : FL2 (pt_0) (ph_0) (alive_0) (seen_0) (x2) (x7) (x6)) (f16 : FLN (seen_0) (x6) (x8)) (hK_0_33 : ∀ j : Int, 0 ≤ j → j < 80 → 0 ≤ pt_0 j ∧ pt_0 j ≤ 24) (hK_0_34 : ∀ j : Int, 0 ≤ j → j < 80 → 0 ≤ ph_0 j ∧ ph_0 j ≤ 24) (hK_0_35 : ∀ j : Int, 0 ≤ j → j < 80 → 0 ≤ alive_0 j ∧ alive_0 j ≤ 1) (hK_0_38 : ∀ j : Int, 0 ≤ j → j < 26 → 0 ≤ seen_0 j ∧ seen_0 j ≤ 1) (kz_0_31 : 0 ≤ pn_0 ∧ pn_0 ≤ 25) (kz_0_32 : 0 ≤ pm_0 ∧ pm_0 ≤ 80) : FL2 (pt_0) (ph_0) (alive_0) (seen_0) (x2) (x16) (x6) := by
  first
    | (intro h f a b; omega)
    | (have h := ‹FL2 _ _ _ _ _ _ _›
       intro h0 f a b c d e
       by_cases q : f = x7
       · subst q; first | omega | (rw [← h12, ← h10]; rw [h7, h3] at *; omega) | (rw [← h7, ← h3, ← h6, ← h2]; exact f1)
       · exact h h0 f a (by omega) c d e)
def o_Mo_flood_9 : or_T := (43, 17, [(0, (2, 0, 0, [165])), (1, (0, 0, 24, [])), (2, (0, 0, 24, [])), (4, (0, 0, 24, [])), (5, (0, 0, 24, [])), (6, (0, 0, 1, [])), (7, (0, 0, 79, [])), (8, (0, -2, 60, [])), (9, (0, 1, 80, [])), (11, (0, 1, 1, [])), (13, (0, 0, 24, [])), (15, (0, 0, 24, [])), (16, (0, 1, 80, []))], [(6, [16, 7], [1]), (7, [15, 5], [0]), (10, [15, 14, 7], []), (9, [14, 3], [34]), (7, [13, 5], [1]), (10, [13, 12, 7], []), (9, [12, 3], [33]), (8, [11], [1]), (10, [11, 10, 7], []), (9, [10, 3], [35]), (7, [7, 9], [2]), (9, [9, 3], [32]), (20, [3], [60, 2, 2, 75, 31, 32, 33, 34]), (20, [4, 3], [30, -1, 1, 0, 0, -1, 1, 31]), (20, [3, 4, 5], [60, 2, 4, 77, 31, 32, 33, 34, 35, 38]), (20, [3, 5, 7, 6], [60, 0, 4, 78, 33, 34, 35, 38]), (20, [3, 6, 8], [60, 0, 1, 82, 38]), (24, [0, 3], []), (24, [1, 4], []), (24, [2, 5], [])], [], [], [(20, [3, 5, 16, 6], [60, 0, 4, 78, 33, 34, 35, 38])], [], [(16, 7, 1, 1), (16, 9, -4294967296, 0), (15, 5, 0, 0), (7, 9, -4294967296, -1), (1, 4, -4294967296, 0), (2, 5, -4294967296, 0), (4, 1, -4294967296, 0), (5, 2, -4294967296, 0), (6, 7, -4294967296, 0)])
theorem oo_Mo_flood_9 {kA : Nat → ClassId} : or_ok PRD kA GG o_Mo_flood_9 := by
  refine or_mk fun A ta ws vs hD hth hl => ?_
  intro t0 r0 t1 k1 t2 k2 t4 k4 t5 k5 t6 k6 t7 k7 t8 k8 t9 k9 t11 k11 t13 k13 t15 k15 t16 k16 d0 d1 d2 d3 d4 d5 d6 d7 d8 f0 f1 f2 f3 f4 f5 f6 f7 f8 f9 f10 f11 f12 f13 f14 f15 f16 f17 f18 f19
  replace f0 := shm_4 f0
  replace f1 := shm_37 f1
  replace f2 := shm_106 f2
  replace f3 := shm_490 f3
  replace f4 := shm_40 f4
  replace f5 := shm_106 f5
  replace f6 := shm_488 f6
  replace f7 := shm_154 f7
  replace f8 := shm_106 f8
  replace f9 := shm_505 f9
  replace f10 := shm_6 f10
  replace f11 := shm_519 f11
  replace f12 := shm_563 f12
  replace f13 := shm_545 f13
  replace f14 := shm_566 f14
  replace f15 := shm_571 f15
  replace f16 := shm_572 f16
  replace f17 := shm_5 f17
  replace f18 := shm_5 f18
  replace f19 := shm_5 f19
  have q3 : n_v vs 3 = n_v vs 0 := f17.symm
  have q4 : n_v vs 4 = n_v vs 1 := f18.symm
  have q5 : n_v vs 5 = n_v vs 2 := f19.symm
  simp only [q5, q3, q4] at f1 f3 f4 f6 f9 f11 f12 f13 f14 f15 f16
  have cr_0_33 := fdq_116 hD hth r0
  have cr_0_34 := fdq_117 hD hth r0
  have cr_0_35 := fdq_131 hD hth r0
  have cr_0_38 := fdq_148 hD hth r0
  have ad_14 : v_ad (n_v vs 14) = w_ar ws (n_v vs 0) 34 := congrArg v_ad f3
  have ad_12 : v_ad (n_v vs 12) = w_ar ws (n_v vs 0) 33 := congrArg v_ad f6
  have ad_10 : v_ad (n_v vs 10) = w_ar ws (n_v vs 0) 35 := congrArg v_ad f9
  simp only [ad_14] at f2
  have h2 : v_iv (n_v vs 15) = w_ei ws (w_ar ws (n_v vs 0) 34) (v_iv (n_v vs 7)) := f2
  simp only [ad_12] at f5
  have h5 : v_iv (n_v vs 13) = w_ei ws (w_ar ws (n_v vs 0) 33) (v_iv (n_v vs 7)) := f5
  simp only [ad_10] at f8
  have h8 : v_iv (n_v vs 11) = w_ei ws (w_ar ws (n_v vs 0) 35) (v_iv (n_v vs 7)) := f8
  have g11 : v_iv (n_v vs 9) = w_fi ws (n_v vs 0) 32 := congrArg v_iv f11
  have hK_0_33 := elq_57 hD hth cr_0_33
  have hK_0_34 := elq_58 hD hth cr_0_34
  have hK_0_35 := elq_69 hD hth cr_0_35
  have hK_0_38 := elq_80 hD hth cr_0_38
  have kz_0_31 := fdq_144 hD hth r0
  have kz_0_32 := fdq_139 hD hth r0
  have nf0 : fc_1 PRD (20, [3, 5, 16, 6], [60, 0, 4, 78, 33, 34, 35, 38]) ws (vs) := by
    refine ⟨nf_in hl rfl, sgq_571 ?_⟩
    · show FL2 (w_ei ws (w_ar ws (n_v vs 3) 33)) (w_ei ws (w_ar ws (n_v vs 3) 34)) (w_ei ws (w_ar ws (n_v vs 3) 35)) (w_ei ws (w_ar ws (n_v vs 3) 38)) (v_iv (n_v vs 5)) (v_iv (n_v vs 16)) (v_iv (n_v vs 6))
      simp only [q3, q5]
      exact vc_Mo_flood_9_0 (v_iv (n_v vs 1)) (v_iv (n_v vs 2)) (v_iv (n_v vs 4)) (v_iv (n_v vs 5)) (v_iv (n_v vs 6)) (v_iv (n_v vs 7)) (v_iv (n_v vs 8)) (v_iv (n_v vs 9)) (v_iv (n_v vs 11)) (v_iv (n_v vs 13)) (v_iv (n_v vs 15)) (v_iv (n_v vs 16)) (w_ei ws (w_ar ws (n_v vs 0) 34)) (w_ei ws (w_ar ws (n_v vs 0) 33)) (w_ei ws (w_ar ws (n_v vs 0) 35)) (w_fi ws (n_v vs 0) 32) (w_fi ws (n_v vs 0) 31) (w_ei ws (w_ar ws (n_v vs 0) 38)) k1 k2 k4 k5 k6 k7 k8 k9 k11 k13 k15 k16 d0 d1 d2 d3 d4 d5 d6 d7 d8 f0 f1 h2 f4 h5 f7 h8 f10 g11 f12 f13 f14 f15 f16 hK_0_33 hK_0_34 hK_0_35 hK_0_38 kz_0_31 kz_0_32
  refine ⟨(fun _ h => (by cases h)), [], trivial, ?_, (fun _ h => (by cases h))⟩
  rw [List.append_nil]
  exact List.forall_mem_cons.mpr ⟨⟨show (20 : Nat) < 100 from by decide, nf0⟩, (fun _ h => (by cases h))⟩
set_option maxHeartbeats 4000000 in
theorem vc_Mo_flood_10_0 (x1 : Int) (x2 : Int) (x4 : Int) (x5 : Int) (x6 : Int) (x7 : Int) (x8 : Int) (x9 : Int) (x11 : Int) (x13 : Int) (x15 : Int) (x17 : Int) (x18 : Int) (x19 : Int) (x20 : Int) (x21 : Int) (x22 : Int) (x23 : Int) (x24 : Int) (x25 : Int) (x26 : Int) (pt_0 : Int → Int) (ph_0 : Int → Int) (pn_0 : Int) (pm_0 : Int) (ph_1 : Int → Int) (pt_1 : Int → Int) (pn_1 : Int) (pm_1 : Int) (pt_2 : Int → Int) (seen_2 : Int → Int) (ph_2 : Int → Int) (alive_2 : Int → Int) (pm_2 : Int) (pn_2 : Int) (alive_0 : Int → Int) (alive_1 : Int → Int) (seen_0 : Int → Int) (seen_1 : Int → Int) (k1 : 0 ≤ x1 ∧ x1 ≤ 24) (k2 : (-1) ≤ x2 ∧ x2 ≤ 24) (k4 : 0 ≤ x4 ∧ x4 ≤ 24) (k5 : (-1) ≤ x5 ∧ x5 ≤ 24) (k6 : 0 ≤ x6 ∧ x6 ≤ 1) (k7 : 0 ≤ x7 ∧ x7 ≤ 79) (k8 : (-2) ≤ x8 ∧ x8 ≤ 60) (k9 : 1 ≤ x9 ∧ x9 ≤ 80) (k11 : 1 ≤ x11 ∧ x11 ≤ 1) (k13 : 0 ≤ x13 ∧ x13 ≤ 24) (k15 : 0 ≤ x15 ∧ x15 ≤ 24) (k17 : 0 ≤ x17 ∧ x17 ≤ 24) (k18 : 0 ≤ x18 ∧ x18 ≤ 1) (k19 : 0 ≤ x19 ∧ x19 ≤ 24) (k20 : 0 ≤ x20 ∧ x20 ≤ 1) (k21 : 0 ≤ x21 ∧ x21 ≤ 24) (k22 : 1 ≤ x22 ∧ x22 ≤ 1) (k23 : 0 ≤ x23 ∧ x23 ≤ 24) (k24 : 1 ≤ x24 ∧ x24 ≤ 1) (k25 : 1 ≤ x25 ∧ x25 ≤ 1) (k26 : 1 ≤ x26 ∧ x26 ≤ 80) (d0 : x7 + 1 ≤ x26 ∧ x26 ≤ x7 + 1) (d1 : x9 + (-4294967296) ≤ x26 ∧ x26 ≤ x9 + 0) (d2 : x9 + (-4294967296) ≤ x7 ∧ x7 ≤ x9 + (-1)) (d3 : x4 + (-4294967296) ≤ x1 ∧ x1 ≤ x4 + 0) (d4 : x5 + (-4294967296) ≤ x2 ∧ x2 ≤ x5 + 0) (d5 : x1 + (-4294967296) ≤ x4 ∧ x4 ≤ x1 + 0) (d6 : x2 + (-4294967296) ≤ x5 ∧ x5 ≤ x2 + 0) (d7 : x7 + (-4294967296) ≤ x6 ∧ x6 ≤ x7 + 0) (f0 : x26 = x7 + 1) (f1 : GOK (pn_0) (pm_0) (pt_0) (ph_0)) (f2 : 1 * x1 + ((-1) * pn_0 + 0) ≤ (-1)) (h7 : x23 = ph_1 (x7)) (f10 : GOK (pn_1) (pm_1) (pt_1) (ph_1)) (f11 : 1 * x1 + ((-1) * pn_1 + 0) ≤ (-1)) (h13 : x21 = pt_2 (x7)) (f15 : x18 ≠ x20) (h16 : x20 = seen_2 (x19)) (h17 : x19 = ph_2 (x7)) (h18 : x18 = seen_2 (x17)) (h19 : x17 = pt_2 (x7)) (f20 : x15 ≠ x2) (h21 : x15 = ph_2 (x7)) (f22 : x13 ≠ x2) (h23 : x13 = pt_2 (x7)) (f24 : x11 ≠ 0) (h25 : x11 = alive_2 (x7)) (f27 : x7 < x9) (g28 : x9 = pm_2) (f29 : GOK (pn_2) (pm_2) (pt_2) (ph_2)) (f30 : 1 * x1 + ((-1) * pn_2 + 0) ≤ (-1)) (f31 : FL1 (pn_2) (pm_2) (pt_2) (ph_2) (alive_2) (seen_2) (x1) (x2)) (f32 : FL2 (pt_2) (ph_2) (alive_2) (seen_2) (x2) (x7) (x6)) (f33 : FLN (seen_2) (x6) (x8)) (fe_0_31_1 : pn_0 = pn_1) (fe_0_32_1 : pm_0 = pm_1) (fe_0_31_2 : pn_1 = pn_2) (fe_0_32_2 : pm_1 = pm_2) (hE_0_33_1 : ∀ j : Int, pt_0 j = pt_1 j) (hE_0_33_2 : ∀ j : Int, pt_1 j = pt_2 j) (hK_0_33 : ∀ j : Int, 0 ≤ j → j < 80 → 0 ≤ pt_0 j ∧ pt_0 j ≤ 24) (hE_0_34_1 : ∀ j : Int, ph_0 j = ph_1 j) (hE_0_34_2 : ∀ j : Int, ph_1 j = ph_2 j) (hK_0_34 : ∀ j : Int, 0 ≤ j → j < 80 → 0 ≤ ph_0 j ∧ ph_0 j ≤ 24) (hE_0_35_1 : ∀ j : Int, alive_0 j = alive_1 j) (hE_0_35_2 : ∀ j : Int, alive_1 j = alive_2 j) (hK_0_35 : ∀ j : Int, 0 ≤ j → j < 80 → 0 ≤ alive_0 j ∧ alive_0 j ≤ 1) (hE_0_38_1 : ∀ j : Int, 0 ≤ j → (j = x23 → seen_0 j = x24) ∧ (j ≠ x23 → seen_0 j = seen_1 j)) (hE_0_38_2 : ∀ j : Int, 0 ≤ j → (j = x21 → seen_1 j = x22) ∧ (j ≠ x21 → seen_1 j = seen_2 j)) (hK_0_38 : ∀ j : Int, 0 ≤ j → j < 26 → 0 ≤ seen_0 j ∧ seen_0 j ≤ 1) (kz_0_31 : 0 ≤ pn_0 ∧ pn_0 ≤ 25) (kz_0_32 : 0 ≤ pm_0 ∧ pm_0 ≤ 80) : FL1 (pn_0) (pm_0) (pt_0) (ph_0) (alive_0) (seen_0) (x1) (x2) := by
  subst fe_0_31_1
  subst fe_0_32_1
  subst fe_0_31_2
  subst fe_0_32_2
  have e_hE_0_33_1 := funext hE_0_33_1; subst e_hE_0_33_1
  have e_hE_0_33_2 := funext hE_0_33_2; subst e_hE_0_33_2
  have e_hE_0_34_1 := funext hE_0_34_1; subst e_hE_0_34_1
  have e_hE_0_34_2 := funext hE_0_34_2; subst e_hE_0_34_2
  have e_hE_0_35_1 := funext hE_0_35_1; subst e_hE_0_35_1
  have e_hE_0_35_2 := funext hE_0_35_2; subst e_hE_0_35_2
  first
    | assumption
    | (refine fl_step (e := x7) ‹GOK _ _ _ _› ‹FL1 _ _ _ _ _ seen_2 _ _› (by omega) (by omega) (by omega) (by omega) (by omega) ?_ (by omega) ?_ ?_ ?_
       · rw [← h19, ← h17, ← h18, ← h16]; exact f15
       · intro y hy h1 h2
         rw [(hE_0_38_1 y hy).2 (by omega), (hE_0_38_2 y hy).2 (by omega)]
       · by_cases q : x21 = x23
         · have := (hE_0_38_1 (pt_0 x7) (by omega)).1 (by omega); omega
         · have := (hE_0_38_1 (pt_0 x7) (by omega)).2 (by omega); have := (hE_0_38_2 (pt_0 x7) (by omega)).1 (by omega); omega
       · have := (hE_0_38_1 (ph_0 x7) (by omega)).1 (by omega); omega)
set_option maxHeartbeats 4000000 in
theorem vc_Mo_flood_10_1 (x1 : Int) (x2 : Int) (x4 : Int) (x5 : Int) (x6 : Int) (x7 : Int) (x8 : Int) (x9 : Int) (x11 : Int) (x13 : Int) (x15 : Int) (x17 : Int) (x18 : Int) (x19 : Int) (x20 : Int) (x21 : Int) (x22 : Int) (x23 : Int) (x24 : Int) (x25 : Int) (x26 : Int) (pt_0 : Int → Int) (ph_0 : Int → Int) (pn_0 : Int) (pm_0 : Int) (ph_1 : Int → Int) (pt_1 : Int → Int) (pn_1 : Int) (pm_1 : Int) (pt_2 : Int → Int) (seen_2 : Int → Int) (ph_2 : Int → Int) (alive_2 : Int → Int) (pm_2 : Int) (pn_2 : Int) (alive_0 : Int → Int) (alive_1 : Int → Int) (seen_0 : Int → Int) (seen_1 : Int → Int) (k1 : 0 ≤ x1 ∧ x1 ≤ 24) (k2 : (-1) ≤ x2 ∧ x2 ≤ 24) (k4 : 0 ≤ x4 ∧ x4 ≤ 24) (k5 : (-1) ≤ x5 ∧ x5 ≤ 24) (k6 : 0 ≤ x6 ∧ x6 ≤ 1) (k7 : 0 ≤ x7 ∧ x7 ≤ 79) (k8 : (-2) ≤ x8 ∧ x8 ≤ 60) (k9 : 1 ≤ x9 ∧ x9 ≤ 80) (k11 : 1 ≤ x11 ∧ x11 ≤ 1) (k13 : 0 ≤ x13 ∧ x13 ≤ 24) (k15 : 0 ≤ x15 ∧ x15 ≤ 24) (k17 : 0 ≤ x17 ∧ x17 ≤ 24) (k18 : 0 ≤ x18 ∧ x18 ≤ 1) (k19 : 0 ≤ x19 ∧ x19 ≤ 24) (k20 : 0 ≤ x20 ∧ x20 ≤ 1) (k21 : 0 ≤ x21 ∧ x21 ≤ 24) (k22 : 1 ≤ x22 ∧ x22 ≤ 1) (k23 : 0 ≤ x23 ∧ x23 ≤ 24) (k24 : 1 ≤ x24 ∧ x24 ≤ 1) (k25 : 1 ≤ x25 ∧ x25 ≤ 1) (k26 : 1 ≤ x26 ∧ x26 ≤ 80) (d0 : x7 + 1 ≤ x26 ∧ x26 ≤ x7 + 1) (d1 : x9 + (-4294967296) ≤ x26 ∧ x26 ≤ x9 + 0) (d2 : x9 + (-4294967296) ≤ x7 ∧ x7 ≤ x9 + (-1)) (d3 : x4 + (-4294967296) ≤ x1 ∧ x1 ≤ x4 + 0) (d4 : x5 + (-4294967296) ≤ x2 ∧ x2 ≤ x5 + 0) (d5 : x1 + (-4294967296) ≤ x4 ∧ x4 ≤ x1 + 0) (d6 : x2 + (-4294967296) ≤ x5 ∧ x5 ≤ x2 + 0) (d7 : x7 + (-4294967296) ≤ x6 ∧ x6 ≤ x7 + 0) (f0 : x26 = x7 + 1) (f1 : GOK (pn_0) (pm_0) (pt_0) (ph_0)) (f2 : 1 * x1 + ((-1) * pn_0 + 0) ≤ (-1)) (h7 : x23 = ph_1 (x7)) (f10 : GOK (pn_1) (pm_1) (pt_1) (ph_1)) (f11 : 1 * x1 + ((-1) * pn_1 + 0) ≤ (-1)) (h13 : x21 = pt_2 (x7)) (f15 : x18 ≠ x20) (h16 : x20 = seen_2 (x19)) (h17 : x19 = ph_2 (x7)) (h18 : x18 = seen_2 (x17)) (h19 : x17 = pt_2 (x7)) (f20 : x15 ≠ x2) (h21 : x15 = ph_2 (x7)) (f22 : x13 ≠ x2) (h23 : x13 = pt_2 (x7)) (f24 : x11 ≠ 0) (h25 : x11 = alive_2 (x7)) (f27 : x7 < x9) (g28 : x9 = pm_2) (f29 : GOK (pn_2) (pm_2) (pt_2) (ph_2)) (f30 : 1 * x1 + ((-1) * pn_2 + 0) ≤ (-1)) (f31 : FL1 (pn_2) (pm_2) (pt_2) (ph_2) (alive_2) (seen_2) (x1) (x2)) (f32 : FL2 (pt_2) (ph_2) (alive_2) (seen_2) (x2) (x7) (x6)) (f33 : FLN (seen_2) (x6) (x8)) (fe_0_31_1 : pn_0 = pn_1) (fe_0_32_1 : pm_0 = pm_1) (fe_0_31_2 : pn_1 = pn_2) (fe_0_32_2 : pm_1 = pm_2) (hE_0_33_1 : ∀ j : Int, pt_0 j = pt_1 j) (hE_0_33_2 : ∀ j : Int, pt_1 j = pt_2 j) (hK_0_33 : ∀ j : Int, 0 ≤ j → j < 80 → 0 ≤ pt_0 j ∧ pt_0 j ≤ 24) (hE_0_34_1 : ∀ j : Int, ph_0 j = ph_1 j) (hE_0_34_2 : ∀ j : Int, ph_1 j = ph_2 j) (hK_0_34 : ∀ j : Int, 0 ≤ j → j < 80 → 0 ≤ ph_0 j ∧ ph_0 j ≤ 24) (hE_0_35_1 : ∀ j : Int, alive_0 j = alive_1 j) (hE_0_35_2 : ∀ j : Int, alive_1 j = alive_2 j) (hK_0_35 : ∀ j : Int, 0 ≤ j → j < 80 → 0 ≤ alive_0 j ∧ alive_0 j ≤ 1) (hE_0_38_1 : ∀ j : Int, 0 ≤ j → (j = x23 → seen_0 j = x24) ∧ (j ≠ x23 → seen_0 j = seen_1 j)) (hE_0_38_2 : ∀ j : Int, 0 ≤ j → (j = x21 → seen_1 j = x22) ∧ (j ≠ x21 → seen_1 j = seen_2 j)) (hK_0_38 : ∀ j : Int, 0 ≤ j → j < 26 → 0 ≤ seen_0 j ∧ seen_0 j ≤ 1) (kz_0_31 : 0 ≤ pn_0 ∧ pn_0 ≤ 25) (kz_0_32 : 0 ≤ pm_0 ∧ pm_0 ≤ 80) : FL2 (pt_0) (ph_0) (alive_0) (seen_0) (x2) (x26) (x25) := by
  subst fe_0_31_1
  subst fe_0_32_1
  subst fe_0_31_2
  subst fe_0_32_2
  have e_hE_0_33_1 := funext hE_0_33_1; subst e_hE_0_33_1
  have e_hE_0_33_2 := funext hE_0_33_2; subst e_hE_0_33_2
  have e_hE_0_34_1 := funext hE_0_34_1; subst e_hE_0_34_1
  have e_hE_0_34_2 := funext hE_0_34_2; subst e_hE_0_34_2
  have e_hE_0_35_1 := funext hE_0_35_1; subst e_hE_0_35_1
  have e_hE_0_35_2 := funext hE_0_35_2; subst e_hE_0_35_2
  first
    | (intro h f a b; omega)
    | (have h := ‹FL2 _ _ _ _ _ _ _›
       intro h0 f a b c d e
       by_cases q : f = x7
       · subst q; first | omega | (rw [← h12, ← h10]; rw [h7, h3] at *; omega) | (rw [← h7, ← h3, ← h6, ← h2]; exact f1)
       · exact h h0 f a (by omega) c d e)
set_option maxHeartbeats 4000000 in
theorem vc_Mo_flood_10_2 (x1 : Int) (x2 : Int) (x4 : Int) (x5 : Int) (x6 : Int) (x7 : Int) (x8 : Int) (x9 : Int) (x11 : Int) (x13 : Int) (x15 : Int) (x17 : Int) (x18 : Int) (x19 : Int) (x20 : Int) (x21 : Int) (x22 : Int) (x23 : Int) (x24 : Int) (x25 : Int) (x26 : Int) (pt_0 : Int → Int) (ph_0 : Int → Int) (pn_0 : Int) (pm_0 : Int) (ph_1 : Int → Int) (pt_1 : Int → Int) (pn_1 : Int) (pm_1 : Int) (pt_2 : Int → Int) (seen_2 : Int → Int) (ph_2 : Int → Int) (alive_2 : Int → Int) (pm_2 : Int) (pn_2 : Int) (alive_0 : Int → Int) (alive_1 : Int → Int) (seen_0 : Int → Int) (seen_1 : Int → Int) (k1 : 0 ≤ x1 ∧ x1 ≤ 24) (k2 : (-1) ≤ x2 ∧ x2 ≤ 24) (k4 : 0 ≤ x4 ∧ x4 ≤ 24) (k5 : (-1) ≤ x5 ∧ x5 ≤ 24) (k6 : 0 ≤ x6 ∧ x6 ≤ 1) (k7 : 0 ≤ x7 ∧ x7 ≤ 79) (k8 : (-2) ≤ x8 ∧ x8 ≤ 60) (k9 : 1 ≤ x9 ∧ x9 ≤ 80) (k11 : 1 ≤ x11 ∧ x11 ≤ 1) (k13 : 0 ≤ x13 ∧ x13 ≤ 24) (k15 : 0 ≤ x15 ∧ x15 ≤ 24) (k17 : 0 ≤ x17 ∧ x17 ≤ 24) (k18 : 0 ≤ x18 ∧ x18 ≤ 1) (k19 : 0 ≤ x19 ∧ x19 ≤ 24) (k20 : 0 ≤ x20 ∧ x20 ≤ 1) (k21 : 0 ≤ x21 ∧ x21 ≤ 24) (k22 : 1 ≤ x22 ∧ x22 ≤ 1) (k23 : 0 ≤ x23 ∧ x23 ≤ 24) (k24 : 1 ≤ x24 ∧ x24 ≤ 1) (k25 : 1 ≤ x25 ∧ x25 ≤ 1) (k26 : 1 ≤ x26 ∧ x26 ≤ 80) (d0 : x7 + 1 ≤ x26 ∧ x26 ≤ x7 + 1) (d1 : x9 + (-4294967296) ≤ x26 ∧ x26 ≤ x9 + 0) (d2 : x9 + (-4294967296) ≤ x7 ∧ x7 ≤ x9 + (-1)) (d3 : x4 + (-4294967296) ≤ x1 ∧ x1 ≤ x4 + 0) (d4 : x5 + (-4294967296) ≤ x2 ∧ x2 ≤ x5 + 0) (d5 : x1 + (-4294967296) ≤ x4 ∧ x4 ≤ x1 + 0) (d6 : x2 + (-4294967296) ≤ x5 ∧ x5 ≤ x2 + 0) (d7 : x7 + (-4294967296) ≤ x6 ∧ x6 ≤ x7 + 0) (f0 : x26 = x7 + 1) (f1 : GOK (pn_0) (pm_0) (pt_0) (ph_0)) (f2 : 1 * x1 + ((-1) * pn_0 + 0) ≤ (-1)) (h7 : x23 = ph_1 (x7)) (f10 : GOK (pn_1) (pm_1) (pt_1) (ph_1)) (f11 : 1 * x1 + ((-1) * pn_1 + 0) ≤ (-1)) (h13 : x21 = pt_2 (x7)) (f15 : x18 ≠ x20) (h16 : x20 = seen_2 (x19)) (h17 : x19 = ph_2 (x7)) (h18 : x18 = seen_2 (x17)) (h19 : x17 = pt_2 (x7)) (f20 : x15 ≠ x2) (h21 : x15 = ph_2 (x7)) (f22 : x13 ≠ x2) (h23 : x13 = pt_2 (x7)) (f24 : x11 ≠ 0) (h25 : x11 = alive_2 (x7)) (f27 : x7 < x9) (g28 : x9 = pm_2) (f29 : GOK (pn_2) (pm_2) (pt_2) (ph_2)) (f30 : 1 * x1 + ((-1) * pn_2 + 0) ≤ (-1)) (f31 : FL1 (pn_2) (pm_2) (pt_2) (ph_2) (alive_2) (seen_2) (x1) (x2)) (f32 : FL2 (pt_2) (ph_2) (alive_2) (seen_2) (x2) (x7) (x6)) (f33 : FLN (seen_2) (x6) (x8)) (fe_0_31_1 : pn_0 = pn_1) (fe_0_32_1 : pm_0 = pm_1) (fe_0_31_2 : pn_1 = pn_2) (fe_0_32_2 : pm_1 = pm_2) (hE_0_33_1 : ∀ j : Int, pt_0 j = pt_1 j) (hE_0_33_2 : ∀ j : Int, pt_1 j = pt_2 j) (hK_0_33 : ∀ j : Int, 0 ≤ j → j < 80 → 0 ≤ pt_0 j ∧ pt_0 j ≤ 24) (hE_0_34_1 : ∀ j : Int, ph_0 j = ph_1 j) (hE_0_34_2 : ∀ j : Int, ph_1 j = ph_2 j) (hK_0_34 : ∀ j : Int, 0 ≤ j → j < 80 → 0 ≤ ph_0 j ∧ ph_0 j ≤ 24) (hE_0_35_1 : ∀ j : Int, alive_0 j = alive_1 j) (hE_0_35_2 : ∀ j : Int, alive_1 j = alive_2 j) (hK_0_35 : ∀ j : Int, 0 ≤ j → j < 80 → 0 ≤ alive_0 j ∧ alive_0 j ≤ 1) (hE_0_38_1 : ∀ j : Int, 0 ≤ j → (j = x23 → seen_0 j = x24) ∧ (j ≠ x23 → seen_0 j = seen_1 j)) (hE_0_38_2 : ∀ j : Int, 0 ≤ j → (j = x21 → seen_1 j = x22) ∧ (j ≠ x21 → seen_1 j = seen_2 j)) (hK_0_38 : ∀ j : Int, 0 ≤ j → j < 26 → 0 ≤ seen_0 j ∧ seen_0 j ≤ 1) (kz_0_31 : 0 ≤ pn_0 ∧ pn_0 ≤ 25) (kz_0_32 : 0 ≤ pm_0 ∧ pm_0 ≤ 80) : FLN (seen_0) (x25) (x8) := by
  subst fe_0_31_1
  subst fe_0_32_1
  subst fe_0_31_2
  subst fe_0_32_2
  have e_hE_0_33_1 := funext hE_0_33_1; subst e_hE_0_33_1
  have e_hE_0_33_2 := funext hE_0_33_2; subst e_hE_0_33_2
  have e_hE_0_34_1 := funext hE_0_34_1; subst e_hE_0_34_1
  have e_hE_0_34_2 := funext hE_0_34_2; subst e_hE_0_34_2
  have e_hE_0_35_1 := funext hE_0_35_1; subst e_hE_0_35_1
  have e_hE_0_35_2 := funext hE_0_35_2; subst e_hE_0_35_2
  first
    | (have := ‹FLM _ _ _›; unfold FLM FLN at *; omega)
    | assumption
    | (have h := ‹FLN _ _ _›
       unfold FLN at *
       have hq : seen_2 x21 ≠ seen_2 x23 := by intro e; apply f15; rw [h18, h16, h19, h17, ← h13, ← h7]; exact e
       have hle : ∀ j : Int, 0 ≤ j → j < 26 → seen_0 j = 0 → seen_2 j = 0 := by
         intro j a b c
         have h1 := hE_0_38_1 j a
         have h2 := hE_0_38_2 j a
         by_cases q : j = x23
         · have := h1.1 q; omega
         · by_cases q2 : j = x21
           · have := h1.2 q; have := h2.1 q2; omega
           · rw [← h2.2 q2, ← h1.2 q]; exact c
       have z1 : seen_0 x23 ≠ 0 := by have := (hE_0_38_1 x23 (by omega)).1 rfl; omega
       have z2 : seen_0 x21 ≠ 0 := by
         by_cases q : x21 = x23
         · rw [q]; exact z1
         · have := (hE_0_38_1 x21 (by omega)).2 q; have := (hE_0_38_2 x21 (by omega)).1 rfl; omega
       have hb1 := hK_0_38 x21 (by omega) (by omega)
       by_cases q : seen_2 x21 = 0
       · have := czlt (n := 26) (i := x21) (by omega) (by omega) hle q z2; omega
       · rw [show x21 = x17 by omega] at q; have := czlt (n := 26) (i := x23) (f := seen_0) (g := seen_2) (by omega) (by omega) hle (by rw [show x23 = x19 by omega]; omega) z1; omega)
def o_Mo_flood_10 : or_T := (43, 27, [(0, (2, 0, 0, [165])), (1, (0, 0, 24, [])), (2, (0, -1, 24, [])), (4, (0, 0, 24, [])), (5, (0, -1, 24, [])), (6, (0, 0, 1, [])), (7, (0, 0, 79, [])), (8, (0, -2, 60, [])), (9, (0, 1, 80, [])), (11, (0, 1, 1, [])), (13, (0, 0, 24, [])), (15, (0, 0, 24, [])), (16, (2, 0, 0, [185])), (17, (0, 0, 24, [])), (18, (0, 0, 1, [])), (19, (0, 0, 24, [])), (20, (0, 0, 1, [])), (21, (0, 0, 24, [])), (22, (0, 1, 1, [])), (23, (0, 0, 24, [])), (24, (0, 1, 1, [])), (25, (0, 1, 1, [])), (26, (0, 1, 80, []))], [(6, [26, 7], [1]), (20, [3], [60, 2, 2, 75, 31, 32, 33, 34]), (20, [4, 3], [30, -1, 1, 0, 0, -1, 1, 31]), (24, [0, 3], []), (24, [1, 4], []), (24, [2, 5], []), (100, [16, 23, 24], []), (10, [23, 14, 7], []), (9, [14, 3], [34]), (9, [16, 3], [38]), (20, [3], [60, 2, 2, 75, 31, 32, 33, 34]), (20, [4, 3], [30, -1, 1, 0, 0, -1, 1, 31]), (100, [16, 21, 22], []), (10, [21, 12, 7], []), (9, [12, 3], [33]), (7, [18, 20], [1]), (10, [20, 16, 19], []), (10, [19, 14, 7], []), (10, [18, 16, 17], []), (10, [17, 12, 7], []), (7, [15, 5], [1]), (10, [15, 14, 7], []), (7, [13, 5], [1]), (10, [13, 12, 7], []), (8, [11], [1]), (10, [11, 10, 7], []), (9, [10, 3], [35]), (7, [7, 9], [2]), (9, [9, 3], [32]), (20, [3], [60, 2, 2, 75, 31, 32, 33, 34]), (20, [4, 3], [30, -1, 1, 0, 0, -1, 1, 31]), (20, [3, 4, 5], [60, 2, 4, 77, 31, 32, 33, 34, 35, 38]), (20, [3, 5, 7, 6], [60, 0, 4, 78, 33, 34, 35, 38]), (20, [3, 6, 8], [60, 0, 1, 82, 38])], [], [], [(20, [3, 4, 5], [60, 2, 4, 77, 31, 32, 33, 34, 35, 38]), (20, [3, 5, 26, 25], [60, 0, 4, 78, 33, 34, 35, 38]), (20, [3, 25, 8], [60, 0, 1, 82, 38])], [], [(26, 7, 1, 1), (26, 9, -4294967296, 0), (7, 9, -4294967296, -1), (1, 4, -4294967296, 0), (2, 5, -4294967296, 0), (4, 1, -4294967296, 0), (5, 2, -4294967296, 0), (6, 7, -4294967296, 0)])
theorem oo_Mo_flood_10 {kA : Nat → ClassId} : or_ok PRD kA GG o_Mo_flood_10 := by
  refine or_mk fun A ta ws vs hD hth hl => ?_
  intro t0 r0 t1 k1 t2 k2 t4 k4 t5 k5 t6 k6 t7 k7 t8 k8 t9 k9 t11 k11 t13 k13 t15 k15 t16 r16 t17 k17 t18 k18 t19 k19 t20 k20 t21 k21 t22 k22 t23 k23 t24 k24 t25 k25 t26 k26 d0 d1 d2 d3 d4 d5 d6 d7 f0 f1 f2 f3 f4 f5 ta1 w1 le1 s1 f7 f8 f9 f10 f11 ta2 w2 le2 s2 f13 f14 f15 f16 f17 f18 f19 f20 f21 f22 f23 f24 f25 f26 f27 f28 f29 f30 f31 f32 f33
  replace f0 := shm_4 f0
  replace f1 := shm_563 f1
  replace f2 := shm_545 f2
  replace f3 := shm_5 f3
  replace f4 := shm_5 f4
  replace f5 := shm_5 f5
  have s1 : (∀ b j, w_el ws b j = if b = v_ad (n_v vs 16) ∧ j = (v_iv (n_v vs 23)).toNat then v_iv (n_v vs 24) else w_el w1 b j) ∧ ∀ b k, w_fd ws b k = w_fd w1 b k := s1.2
  replace f7 := shm_106 f7
  replace f8 := shm_490 f8
  replace f9 := shm_569 f9
  replace f10 := shm_563 f10
  replace f11 := shm_545 f11
  have s2 : (∀ b j, w_el w1 b j = if b = v_ad (n_v vs 16) ∧ j = (v_iv (n_v vs 21)).toNat then v_iv (n_v vs 22) else w_el w2 b j) ∧ ∀ b k, w_fd w1 b k = w_fd w2 b k := s2.2
  replace f13 := shm_106 f13
  replace f14 := shm_488 f14
  replace f15 := shm_40 f15
  replace f16 := shm_106 f16
  replace f17 := shm_106 f17
  replace f18 := shm_106 f18
  replace f19 := shm_106 f19
  replace f20 := shm_40 f20
  replace f21 := shm_106 f21
  replace f22 := shm_40 f22
  replace f23 := shm_106 f23
  replace f24 := shm_154 f24
  replace f25 := shm_106 f25
  replace f26 := shm_505 f26
  replace f27 := shm_6 f27
  replace f28 := shm_519 f28
  replace f29 := shm_563 f29
  replace f30 := shm_545 f30
  replace f31 := shm_566 f31
  replace f32 := shm_571 f32
  replace f33 := shm_572 f33
  have q3 : n_v vs 3 = n_v vs 0 := f3.symm
  have q4 : n_v vs 4 = n_v vs 1 := f4.symm
  have q5 : n_v vs 5 = n_v vs 2 := f5.symm
  simp only [q3, q4, q5] at f1 f2 f8 f9 f10 f11 f14 f20 f22 f26 f28 f29 f30 f31 f32 f33
  have ar_0_33_1 : w_ar w1 (n_v vs 0) 33 = w_ar ws (n_v vs 0) 33 := congrArg v_ad (s1.2 _ _).symm
  have ar_0_33_2 : w_ar w2 (n_v vs 0) 33 = w_ar ws (n_v vs 0) 33 := by rw [← ar_0_33_1]; show v_ad (w_fd w2 _ _) = v_ad (w_fd w1 _ _); rw [s2.2]
  have cr_0_33 := fdq_116 hD hth r0
  have ar_0_34_1 : w_ar w1 (n_v vs 0) 34 = w_ar ws (n_v vs 0) 34 := congrArg v_ad (s1.2 _ _).symm
  have ar_0_34_2 : w_ar w2 (n_v vs 0) 34 = w_ar ws (n_v vs 0) 34 := by rw [← ar_0_34_1]; show v_ad (w_fd w2 _ _) = v_ad (w_fd w1 _ _); rw [s2.2]
  have cr_0_34 := fdq_117 hD hth r0
  have ar_0_35_1 : w_ar w1 (n_v vs 0) 35 = w_ar ws (n_v vs 0) 35 := congrArg v_ad (s1.2 _ _).symm
  have ar_0_35_2 : w_ar w2 (n_v vs 0) 35 = w_ar ws (n_v vs 0) 35 := by rw [← ar_0_35_1]; show v_ad (w_fd w2 _ _) = v_ad (w_fd w1 _ _); rw [s2.2]
  have cr_0_35 := fdq_131 hD hth r0
  have ar_0_38_1 : w_ar w1 (n_v vs 0) 38 = w_ar ws (n_v vs 0) 38 := congrArg v_ad (s1.2 _ _).symm
  have ar_0_38_2 : w_ar w2 (n_v vs 0) 38 = w_ar ws (n_v vs 0) 38 := by rw [← ar_0_38_1]; show v_ad (w_fd w2 _ _) = v_ad (w_fd w1 _ _); rw [s2.2]
  have cr_0_38 := fdq_148 hD hth r0
  have ad_14 : v_ad (n_v vs 14) = w_ar ws (n_v vs 0) 34 := (congrArg v_ad f8).trans ar_0_34_1
  have ad_16 : v_ad (n_v vs 16) = w_ar ws (n_v vs 0) 38 := (congrArg v_ad f9).trans ar_0_38_1
  have ad_12 : v_ad (n_v vs 12) = w_ar ws (n_v vs 0) 33 := (congrArg v_ad f14).trans ar_0_33_2
  have ad_10 : v_ad (n_v vs 10) = w_ar ws (n_v vs 0) 35 := (congrArg v_ad f26).trans ar_0_35_2
  simp only [ad_14] at f7
  have h7 : v_iv (n_v vs 23) = w_ei w1 (w_ar ws (n_v vs 0) 34) (v_iv (n_v vs 7)) := f7
  simp only [ar_0_33_1, ar_0_34_1, ad_12] at f10 f13
  have h13 : v_iv (n_v vs 21) = w_ei w2 (w_ar ws (n_v vs 0) 33) (v_iv (n_v vs 7)) := f13
  simp only [ad_16] at f16
  have h16 : v_iv (n_v vs 20) = w_ei w2 (w_ar ws (n_v vs 0) 38) (v_iv (n_v vs 19)) := f16
  simp only [ad_14] at f17
  have h17 : v_iv (n_v vs 19) = w_ei w2 (w_ar ws (n_v vs 0) 34) (v_iv (n_v vs 7)) := f17
  simp only [ad_16] at f18
  have h18 : v_iv (n_v vs 18) = w_ei w2 (w_ar ws (n_v vs 0) 38) (v_iv (n_v vs 17)) := f18
  simp only [ad_12] at f19
  have h19 : v_iv (n_v vs 17) = w_ei w2 (w_ar ws (n_v vs 0) 33) (v_iv (n_v vs 7)) := f19
  simp only [ad_14] at f21
  have h21 : v_iv (n_v vs 15) = w_ei w2 (w_ar ws (n_v vs 0) 34) (v_iv (n_v vs 7)) := f21
  simp only [ad_12] at f23
  have h23 : v_iv (n_v vs 13) = w_ei w2 (w_ar ws (n_v vs 0) 33) (v_iv (n_v vs 7)) := f23
  simp only [ad_10] at f25
  have h25 : v_iv (n_v vs 11) = w_ei w2 (w_ar ws (n_v vs 0) 35) (v_iv (n_v vs 7)) := f25
  have g28 : v_iv (n_v vs 9) = w_fi w2 (n_v vs 0) 32 := congrArg v_iv f28
  simp only [ar_0_33_2, ar_0_34_2, ar_0_35_2, ar_0_38_2] at f29 f31 f32 f33
  have fe_0_31_1 : w_fi ws (n_v vs 0) 31 = w_fi w1 (n_v vs 0) 31 := congrArg v_iv (s1.2 _ _)
  have fe_0_32_1 : w_fi ws (n_v vs 0) 32 = w_fi w1 (n_v vs 0) 32 := congrArg v_iv (s1.2 _ _)
  have fe_0_31_2 : w_fi w1 (n_v vs 0) 31 = w_fi w2 (n_v vs 0) 31 := congrArg v_iv (s2.2 _ _)
  have fe_0_32_2 : w_fi w1 (n_v vs 0) 32 = w_fi w2 (n_v vs 0) 32 := congrArg v_iv (s2.2 _ _)
  have hE_0_33_1 : ∀ j : Int, w_ei ws (w_ar ws (n_v vs 0) 33) j = w_ei w1 (w_ar ws (n_v vs 0) 33) j := el_kp s1.1 r16 cr_0_33 (by decide)
  have hE_0_33_2 : ∀ j : Int, w_ei w1 (w_ar ws (n_v vs 0) 33) j = w_ei w2 (w_ar ws (n_v vs 0) 33) j := el_kp s2.1 r16 cr_0_33 (by decide)
  have hK_0_33 := elq_57 hD hth cr_0_33
  have hE_0_34_1 : ∀ j : Int, w_ei ws (w_ar ws (n_v vs 0) 34) j = w_ei w1 (w_ar ws (n_v vs 0) 34) j := el_kp s1.1 r16 cr_0_34 (by decide)
  have hE_0_34_2 : ∀ j : Int, w_ei w1 (w_ar ws (n_v vs 0) 34) j = w_ei w2 (w_ar ws (n_v vs 0) 34) j := el_kp s2.1 r16 cr_0_34 (by decide)
  have hK_0_34 := elq_58 hD hth cr_0_34
  have hE_0_35_1 : ∀ j : Int, w_ei ws (w_ar ws (n_v vs 0) 35) j = w_ei w1 (w_ar ws (n_v vs 0) 35) j := el_kp s1.1 r16 cr_0_35 (by decide)
  have hE_0_35_2 : ∀ j : Int, w_ei w1 (w_ar ws (n_v vs 0) 35) j = w_ei w2 (w_ar ws (n_v vs 0) 35) j := el_kp s2.1 r16 cr_0_35 (by decide)
  have hK_0_35 := elq_69 hD hth cr_0_35
  have hE_0_38_1 : ∀ j : Int, 0 ≤ j → (j = v_iv (n_v vs 23) → w_ei ws (w_ar ws (n_v vs 0) 38) j = v_iv (n_v vs 24)) ∧ (j ≠ v_iv (n_v vs 23) → w_ei ws (w_ar ws (n_v vs 0) 38) j = w_ei w1 (w_ar ws (n_v vs 0) 38) j) := fun j hj => ⟨fun h => by unfold w_ei; rw [s1.1, if_pos ⟨ad_16.symm, by rw [h]⟩], fun h => by unfold w_ei; rw [s1.1, if_neg (fun e => h (by have := e.2; omega))]⟩
  have hE_0_38_2 : ∀ j : Int, 0 ≤ j → (j = v_iv (n_v vs 21) → w_ei w1 (w_ar ws (n_v vs 0) 38) j = v_iv (n_v vs 22)) ∧ (j ≠ v_iv (n_v vs 21) → w_ei w1 (w_ar ws (n_v vs 0) 38) j = w_ei w2 (w_ar ws (n_v vs 0) 38) j) := fun j hj => ⟨fun h => by unfold w_ei; rw [s2.1, if_pos ⟨ad_16.symm, by rw [h]⟩], fun h => by unfold w_ei; rw [s2.1, if_neg (fun e => h (by have := e.2; omega))]⟩
  have hK_0_38 := elq_80 hD hth cr_0_38
  have kz_0_31 := fdq_144 hD hth r0
  have kz_0_32 := fdq_139 hD hth r0
  have nf0 : fc_1 PRD (20, [3, 4, 5], [60, 2, 4, 77, 31, 32, 33, 34, 35, 38]) ws (vs) := by
    refine ⟨nf_in hl rfl, sgq_566 ?_⟩
    · show FL1 (w_fi ws (n_v vs 3) 31) (w_fi ws (n_v vs 3) 32) (w_ei ws (w_ar ws (n_v vs 3) 33)) (w_ei ws (w_ar ws (n_v vs 3) 34)) (w_ei ws (w_ar ws (n_v vs 3) 35)) (w_ei ws (w_ar ws (n_v vs 3) 38)) (v_iv (n_v vs 4)) (v_iv (n_v vs 5))
      simp only [q3, q4, q5]
      exact vc_Mo_flood_10_0 (v_iv (n_v vs 1)) (v_iv (n_v vs 2)) (v_iv (n_v vs 4)) (v_iv (n_v vs 5)) (v_iv (n_v vs 6)) (v_iv (n_v vs 7)) (v_iv (n_v vs 8)) (v_iv (n_v vs 9)) (v_iv (n_v vs 11)) (v_iv (n_v vs 13)) (v_iv (n_v vs 15)) (v_iv (n_v vs 17)) (v_iv (n_v vs 18)) (v_iv (n_v vs 19)) (v_iv (n_v vs 20)) (v_iv (n_v vs 21)) (v_iv (n_v vs 22)) (v_iv (n_v vs 23)) (v_iv (n_v vs 24)) (v_iv (n_v vs 25)) (v_iv (n_v vs 26)) (w_ei ws (w_ar ws (n_v vs 0) 33)) (w_ei ws (w_ar ws (n_v vs 0) 34)) (w_fi ws (n_v vs 0) 31) (w_fi ws (n_v vs 0) 32) (w_ei w1 (w_ar ws (n_v vs 0) 34)) (w_ei w1 (w_ar ws (n_v vs 0) 33)) (w_fi w1 (n_v vs 0) 31) (w_fi w1 (n_v vs 0) 32) (w_ei w2 (w_ar ws (n_v vs 0) 33)) (w_ei w2 (w_ar ws (n_v vs 0) 38)) (w_ei w2 (w_ar ws (n_v vs 0) 34)) (w_ei w2 (w_ar ws (n_v vs 0) 35)) (w_fi w2 (n_v vs 0) 32) (w_fi w2 (n_v vs 0) 31) (w_ei ws (w_ar ws (n_v vs 0) 35)) (w_ei w1 (w_ar ws (n_v vs 0) 35)) (w_ei ws (w_ar ws (n_v vs 0) 38)) (w_ei w1 (w_ar ws (n_v vs 0) 38)) k1 k2 k4 k5 k6 k7 k8 k9 k11 k13 k15 k17 k18 k19 k20 k21 k22 k23 k24 k25 k26 d0 d1 d2 d3 d4 d5 d6 d7 f0 f1 f2 h7 f10 f11 h13 f15 h16 h17 h18 h19 f20 h21 f22 h23 f24 h25 f27 g28 f29 f30 f31 f32 f33 fe_0_31_1 fe_0_32_1 fe_0_31_2 fe_0_32_2 hE_0_33_1 hE_0_33_2 hK_0_33 hE_0_34_1 hE_0_34_2 hK_0_34 hE_0_35_1 hE_0_35_2 hK_0_35 hE_0_38_1 hE_0_38_2 hK_0_38 kz_0_31 kz_0_32
  have nf1 : fc_1 PRD (20, [3, 5, 26, 25], [60, 0, 4, 78, 33, 34, 35, 38]) ws (vs) := by
    refine ⟨nf_in hl rfl, sgq_571 ?_⟩
    · show FL2 (w_ei ws (w_ar ws (n_v vs 3) 33)) (w_ei ws (w_ar ws (n_v vs 3) 34)) (w_ei ws (w_ar ws (n_v vs 3) 35)) (w_ei ws (w_ar ws (n_v vs 3) 38)) (v_iv (n_v vs 5)) (v_iv (n_v vs 26)) (v_iv (n_v vs 25))
      simp only [q3, q5]
      exact vc_Mo_flood_10_1 (v_iv (n_v vs 1)) (v_iv (n_v vs 2)) (v_iv (n_v vs 4)) (v_iv (n_v vs 5)) (v_iv (n_v vs 6)) (v_iv (n_v vs 7)) (v_iv (n_v vs 8)) (v_iv (n_v vs 9)) (v_iv (n_v vs 11)) (v_iv (n_v vs 13)) (v_iv (n_v vs 15)) (v_iv (n_v vs 17)) (v_iv (n_v vs 18)) (v_iv (n_v vs 19)) (v_iv (n_v vs 20)) (v_iv (n_v vs 21)) (v_iv (n_v vs 22)) (v_iv (n_v vs 23)) (v_iv (n_v vs 24)) (v_iv (n_v vs 25)) (v_iv (n_v vs 26)) (w_ei ws (w_ar ws (n_v vs 0) 33)) (w_ei ws (w_ar ws (n_v vs 0) 34)) (w_fi ws (n_v vs 0) 31) (w_fi ws (n_v vs 0) 32) (w_ei w1 (w_ar ws (n_v vs 0) 34)) (w_ei w1 (w_ar ws (n_v vs 0) 33)) (w_fi w1 (n_v vs 0) 31) (w_fi w1 (n_v vs 0) 32) (w_ei w2 (w_ar ws (n_v vs 0) 33)) (w_ei w2 (w_ar ws (n_v vs 0) 38)) (w_ei w2 (w_ar ws (n_v vs 0) 34)) (w_ei w2 (w_ar ws (n_v vs 0) 35)) (w_fi w2 (n_v vs 0) 32) (w_fi w2 (n_v vs 0) 31) (w_ei ws (w_ar ws (n_v vs 0) 35)) (w_ei w1 (w_ar ws (n_v vs 0) 35)) (w_ei ws (w_ar ws (n_v vs 0) 38)) (w_ei w1 (w_ar ws (n_v vs 0) 38)) k1 k2 k4 k5 k6 k7 k8 k9 k11 k13 k15 k17 k18 k19 k20 k21 k22 k23 k24 k25 k26 d0 d1 d2 d3 d4 d5 d6 d7 f0 f1 f2 h7 f10 f11 h13 f15 h16 h17 h18 h19 f20 h21 f22 h23 f24 h25 f27 g28 f29 f30 f31 f32 f33 fe_0_31_1 fe_0_32_1 fe_0_31_2 fe_0_32_2 hE_0_33_1 hE_0_33_2 hK_0_33 hE_0_34_1 hE_0_34_2 hK_0_34 hE_0_35_1 hE_0_35_2 hK_0_35 hE_0_38_1 hE_0_38_2 hK_0_38 kz_0_31 kz_0_32
  have nf2 : fc_1 PRD (20, [3, 25, 8], [60, 0, 1, 82, 38]) ws (vs) := by
    refine ⟨nf_in hl rfl, sgq_572 ?_⟩
    · show FLN (w_ei ws (w_ar ws (n_v vs 3) 38)) (v_iv (n_v vs 25)) (v_iv (n_v vs 8))
      rw [q3]
      exact vc_Mo_flood_10_2 (v_iv (n_v vs 1)) (v_iv (n_v vs 2)) (v_iv (n_v vs 4)) (v_iv (n_v vs 5)) (v_iv (n_v vs 6)) (v_iv (n_v vs 7)) (v_iv (n_v vs 8)) (v_iv (n_v vs 9)) (v_iv (n_v vs 11)) (v_iv (n_v vs 13)) (v_iv (n_v vs 15)) (v_iv (n_v vs 17)) (v_iv (n_v vs 18)) (v_iv (n_v vs 19)) (v_iv (n_v vs 20)) (v_iv (n_v vs 21)) (v_iv (n_v vs 22)) (v_iv (n_v vs 23)) (v_iv (n_v vs 24)) (v_iv (n_v vs 25)) (v_iv (n_v vs 26)) (w_ei ws (w_ar ws (n_v vs 0) 33)) (w_ei ws (w_ar ws (n_v vs 0) 34)) (w_fi ws (n_v vs 0) 31) (w_fi ws (n_v vs 0) 32) (w_ei w1 (w_ar ws (n_v vs 0) 34)) (w_ei w1 (w_ar ws (n_v vs 0) 33)) (w_fi w1 (n_v vs 0) 31) (w_fi w1 (n_v vs 0) 32) (w_ei w2 (w_ar ws (n_v vs 0) 33)) (w_ei w2 (w_ar ws (n_v vs 0) 38)) (w_ei w2 (w_ar ws (n_v vs 0) 34)) (w_ei w2 (w_ar ws (n_v vs 0) 35)) (w_fi w2 (n_v vs 0) 32) (w_fi w2 (n_v vs 0) 31) (w_ei ws (w_ar ws (n_v vs 0) 35)) (w_ei w1 (w_ar ws (n_v vs 0) 35)) (w_ei ws (w_ar ws (n_v vs 0) 38)) (w_ei w1 (w_ar ws (n_v vs 0) 38)) k1 k2 k4 k5 k6 k7 k8 k9 k11 k13 k15 k17 k18 k19 k20 k21 k22 k23 k24 k25 k26 d0 d1 d2 d3 d4 d5 d6 d7 f0 f1 f2 h7 f10 f11 h13 f15 h16 h17 h18 h19 f20 h21 f22 h23 f24 h25 f27 g28 f29 f30 f31 f32 f33 fe_0_31_1 fe_0_32_1 fe_0_31_2 fe_0_32_2 hE_0_33_1 hE_0_33_2 hK_0_33 hE_0_34_1 hE_0_34_2 hK_0_34 hE_0_35_1 hE_0_35_2 hK_0_35 hE_0_38_1 hE_0_38_2 hK_0_38 kz_0_31 kz_0_32
  refine ⟨(fun _ h => (by cases h)), [], trivial, ?_, (fun _ h => (by cases h))⟩
  rw [List.append_nil]
  exact List.forall_mem_cons.mpr ⟨⟨show (20 : Nat) < 100 from by decide, nf0⟩, List.forall_mem_cons.mpr ⟨⟨show (20 : Nat) < 100 from by decide, nf1⟩, List.forall_mem_cons.mpr ⟨⟨show (20 : Nat) < 100 from by decide, nf2⟩, (fun _ h => (by cases h))⟩⟩⟩
set_option maxHeartbeats 4000000 in
theorem vc_Mo_flood_11_0 (x1 : Int) (x2 : Int) (x4 : Int) (x5 : Int) (x6 : Int) (x7 : Int) (x8 : Int) (x9 : Int) (x11 : Int) (x13 : Int) (x15 : Int) (x17 : Int) (x18 : Int) (x19 : Int) (x20 : Int) (x21 : Int) (seen_0 : Int → Int) (ph_0 : Int → Int) (pt_0 : Int → Int) (alive_0 : Int → Int) (pm_0 : Int) (pn_0 : Int) (k1 : 0 ≤ x1 ∧ x1 ≤ 24) (k2 : (-1) ≤ x2 ∧ x2 ≤ 24) (k4 : 0 ≤ x4 ∧ x4 ≤ 24) (k5 : (-1) ≤ x5 ∧ x5 ≤ 24) (k6 : 0 ≤ x6 ∧ x6 ≤ 1) (k7 : 0 ≤ x7 ∧ x7 ≤ 79) (k8 : (-2) ≤ x8 ∧ x8 ≤ 60) (k9 : 1 ≤ x9 ∧ x9 ≤ 80) (k11 : 1 ≤ x11 ∧ x11 ≤ 1) (k13 : 0 ≤ x13 ∧ x13 ≤ 24) (k15 : 0 ≤ x15 ∧ x15 ≤ 24) (k17 : 0 ≤ x17 ∧ x17 ≤ 24) (k18 : 0 ≤ x18 ∧ x18 ≤ 1) (k19 : 0 ≤ x19 ∧ x19 ≤ 24) (k20 : 0 ≤ x20 ∧ x20 ≤ 1) (k21 : 1 ≤ x21 ∧ x21 ≤ 80) (d0 : x7 + 1 ≤ x21 ∧ x21 ≤ x7 + 1) (d1 : x9 + (-4294967296) ≤ x21 ∧ x21 ≤ x9 + 0) (d2 : x20 + 0 ≤ x18 ∧ x18 ≤ x20 + 0) (d3 : x9 + (-4294967296) ≤ x7 ∧ x7 ≤ x9 + (-1)) (d4 : x4 + (-4294967296) ≤ x1 ∧ x1 ≤ x4 + 0) (d5 : x5 + (-4294967296) ≤ x2 ∧ x2 ≤ x5 + 0) (d6 : x1 + (-4294967296) ≤ x4 ∧ x4 ≤ x1 + 0) (d7 : x2 + (-4294967296) ≤ x5 ∧ x5 ≤ x2 + 0) (d8 : x7 + (-4294967296) ≤ x6 ∧ x6 ≤ x7 + 0) (f0 : x21 = x7 + 1) (f1 : x18 = x20) (h2 : x20 = seen_0 (x19)) (h3 : x19 = ph_0 (x7)) (h6 : x18 = seen_0 (x17)) (h7 : x17 = pt_0 (x7)) (f9 : x15 ≠ x2) (h10 : x15 = ph_0 (x7)) (f11 : x13 ≠ x2) (h12 : x13 = pt_0 (x7)) (f13 : x11 ≠ 0) (h14 : x11 = alive_0 (x7)) (f16 : x7 < x9) (g17 : x9 = pm_0) (f18 : GOK (pn_0) (pm_0) (pt_0) (ph_0)) (f19 : 1 * x1 + ((-1) * pn_0 + 0) ≤ (-1)) (f20 : FL1 (pn_0) (pm_0) (pt_0) (ph_0) (alive_0) (seen_0) (x1) (x2)) (f21 : FL2 (pt_0) (ph_0) (alive_0) (seen_0) (x2) (x7) (x6)) (f22 : FLN (seen_0) (x6) (x8)) (hK_0_33 : ∀ j : Int, 0 ≤ j → j < 80 → 0 ≤ pt_0 j ∧ pt_0 j ≤ 24) (hK_0_34 : ∀ j : Int, 0 ≤ j → j < 80 → 0 ≤ ph_0 j ∧ ph_0 j ≤ 24) (hK_0_35 : ∀ j : Int, 0 ≤ j → j < 80 → 0 ≤ alive_0 j ∧ alive_0 j ≤ 1) (hK_0_38 : ∀ j : Int, 0 ≤ j → j < 26 → 0 ≤ seen_0 j ∧ seen_0 j ≤ 1) (kz_0_31 : 0 ≤ pn_0 ∧ pn_0 ≤ 25) (kz_0_32 : 0 ≤ pm_0 ∧ pm_0 ≤ 80) : FL2 (pt_0) (ph_0) (alive_0) (seen_0) (x2) (x21) (x6) := by
  first
    | (intro h f a b; omega)
    | (have h := ‹FL2 _ _ _ _ _ _ _›
       intro h0 f a b c d e
       by_cases q : f = x7
       · subst q; first | omega | (rw [← h12, ← h10]; rw [h7, h3] at *; omega) | (rw [← h7, ← h3, ← h6, ← h2]; exact f1)
       · exact h h0 f a (by omega) c d e)
def o_Mo_flood_11 : or_T := (43, 22, [(0, (2, 0, 0, [165])), (1, (0, 0, 24, [])), (2, (0, -1, 24, [])), (4, (0, 0, 24, [])), (5, (0, -1, 24, [])), (6, (0, 0, 1, [])), (7, (0, 0, 79, [])), (8, (0, -2, 60, [])), (9, (0, 1, 80, [])), (11, (0, 1, 1, [])), (13, (0, 0, 24, [])), (15, (0, 0, 24, [])), (17, (0, 0, 24, [])), (18, (0, 0, 1, [])), (19, (0, 0, 24, [])), (20, (0, 0, 1, [])), (21, (0, 1, 80, []))], [(6, [21, 7], [1]), (7, [18, 20], [0]), (10, [20, 16, 19], []), (10, [19, 14, 7], []), (9, [14, 3], [34]), (9, [16, 3], [38]), (10, [18, 16, 17], []), (10, [17, 12, 7], []), (9, [12, 3], [33]), (7, [15, 5], [1]), (10, [15, 14, 7], []), (7, [13, 5], [1]), (10, [13, 12, 7], []), (8, [11], [1]), (10, [11, 10, 7], []), (9, [10, 3], [35]), (7, [7, 9], [2]), (9, [9, 3], [32]), (20, [3], [60, 2, 2, 75, 31, 32, 33, 34]), (20, [4, 3], [30, -1, 1, 0, 0, -1, 1, 31]), (20, [3, 4, 5], [60, 2, 4, 77, 31, 32, 33, 34, 35, 38]), (20, [3, 5, 7, 6], [60, 0, 4, 78, 33, 34, 35, 38]), (20, [3, 6, 8], [60, 0, 1, 82, 38]), (24, [0, 3], []), (24, [1, 4], []), (24, [2, 5], [])], [], [], [(20, [3, 5, 21, 6], [60, 0, 4, 78, 33, 34, 35, 38])], [], [(21, 7, 1, 1), (21, 9, -4294967296, 0), (18, 20, 0, 0), (7, 9, -4294967296, -1), (1, 4, -4294967296, 0), (2, 5, -4294967296, 0), (4, 1, -4294967296, 0), (5, 2, -4294967296, 0), (6, 7, -4294967296, 0)])
theorem oo_Mo_flood_11 {kA : Nat → ClassId} : or_ok PRD kA GG o_Mo_flood_11 := by
  refine or_mk fun A ta ws vs hD hth hl => ?_
  intro t0 r0 t1 k1 t2 k2 t4 k4 t5 k5 t6 k6 t7 k7 t8 k8 t9 k9 t11 k11 t13 k13 t15 k15 t17 k17 t18 k18 t19 k19 t20 k20 t21 k21 d0 d1 d2 d3 d4 d5 d6 d7 d8 f0 f1 f2 f3 f4 f5 f6 f7 f8 f9 f10 f11 f12 f13 f14 f15 f16 f17 f18 f19 f20 f21 f22 f23 f24 f25
  replace f0 := shm_4 f0
  replace f1 := shm_37 f1
  replace f2 := shm_106 f2
  replace f3 := shm_106 f3
  replace f4 := shm_490 f4
  replace f5 := shm_569 f5
  replace f6 := shm_106 f6
  replace f7 := shm_106 f7
  replace f8 := shm_488 f8
  replace f9 := shm_40 f9
  replace f10 := shm_106 f10
  replace f11 := shm_40 f11
  replace f12 := shm_106 f12
  replace f13 := shm_154 f13
  replace f14 := shm_106 f14
  replace f15 := shm_505 f15
  replace f16 := shm_6 f16
  replace f17 := shm_519 f17
  replace f18 := shm_563 f18
  replace f19 := shm_545 f19
  replace f20 := shm_566 f20
  replace f21 := shm_571 f21
  replace f22 := shm_572 f22
  replace f23 := shm_5 f23
  replace f24 := shm_5 f24
  replace f25 := shm_5 f25
  have q3 : n_v vs 3 = n_v vs 0 := f23.symm
  have q4 : n_v vs 4 = n_v vs 1 := f24.symm
  have q5 : n_v vs 5 = n_v vs 2 := f25.symm
  simp only [q3, q5, q4] at f4 f5 f8 f9 f11 f15 f17 f18 f19 f20 f21 f22
  have cr_0_33 := fdq_116 hD hth r0
  have cr_0_34 := fdq_117 hD hth r0
  have cr_0_35 := fdq_131 hD hth r0
  have cr_0_38 := fdq_148 hD hth r0
  have ad_14 : v_ad (n_v vs 14) = w_ar ws (n_v vs 0) 34 := congrArg v_ad f4
  have ad_16 : v_ad (n_v vs 16) = w_ar ws (n_v vs 0) 38 := congrArg v_ad f5
  have ad_12 : v_ad (n_v vs 12) = w_ar ws (n_v vs 0) 33 := congrArg v_ad f8
  have ad_10 : v_ad (n_v vs 10) = w_ar ws (n_v vs 0) 35 := congrArg v_ad f15
  simp only [ad_16] at f2
  have h2 : v_iv (n_v vs 20) = w_ei ws (w_ar ws (n_v vs 0) 38) (v_iv (n_v vs 19)) := f2
  simp only [ad_14] at f3
  have h3 : v_iv (n_v vs 19) = w_ei ws (w_ar ws (n_v vs 0) 34) (v_iv (n_v vs 7)) := f3
  simp only [ad_16] at f6
  have h6 : v_iv (n_v vs 18) = w_ei ws (w_ar ws (n_v vs 0) 38) (v_iv (n_v vs 17)) := f6
  simp only [ad_12] at f7
  have h7 : v_iv (n_v vs 17) = w_ei ws (w_ar ws (n_v vs 0) 33) (v_iv (n_v vs 7)) := f7
  simp only [ad_14] at f10
  have h10 : v_iv (n_v vs 15) = w_ei ws (w_ar ws (n_v vs 0) 34) (v_iv (n_v vs 7)) := f10
  simp only [ad_12] at f12
  have h12 : v_iv (n_v vs 13) = w_ei ws (w_ar ws (n_v vs 0) 33) (v_iv (n_v vs 7)) := f12
  simp only [ad_10] at f14
  have h14 : v_iv (n_v vs 11) = w_ei ws (w_ar ws (n_v vs 0) 35) (v_iv (n_v vs 7)) := f14
  have g17 : v_iv (n_v vs 9) = w_fi ws (n_v vs 0) 32 := congrArg v_iv f17
  have hK_0_33 := elq_57 hD hth cr_0_33
  have hK_0_34 := elq_58 hD hth cr_0_34
  have hK_0_35 := elq_69 hD hth cr_0_35
  have hK_0_38 := elq_80 hD hth cr_0_38
  have kz_0_31 := fdq_144 hD hth r0
  have kz_0_32 := fdq_139 hD hth r0
  have nf0 : fc_1 PRD (20, [3, 5, 21, 6], [60, 0, 4, 78, 33, 34, 35, 38]) ws (vs) := by
    refine ⟨nf_in hl rfl, sgq_571 ?_⟩
    · show FL2 (w_ei ws (w_ar ws (n_v vs 3) 33)) (w_ei ws (w_ar ws (n_v vs 3) 34)) (w_ei ws (w_ar ws (n_v vs 3) 35)) (w_ei ws (w_ar ws (n_v vs 3) 38)) (v_iv (n_v vs 5)) (v_iv (n_v vs 21)) (v_iv (n_v vs 6))
      simp only [q3, q5]
      exact vc_Mo_flood_11_0 (v_iv (n_v vs 1)) (v_iv (n_v vs 2)) (v_iv (n_v vs 4)) (v_iv (n_v vs 5)) (v_iv (n_v vs 6)) (v_iv (n_v vs 7)) (v_iv (n_v vs 8)) (v_iv (n_v vs 9)) (v_iv (n_v vs 11)) (v_iv (n_v vs 13)) (v_iv (n_v vs 15)) (v_iv (n_v vs 17)) (v_iv (n_v vs 18)) (v_iv (n_v vs 19)) (v_iv (n_v vs 20)) (v_iv (n_v vs 21)) (w_ei ws (w_ar ws (n_v vs 0) 38)) (w_ei ws (w_ar ws (n_v vs 0) 34)) (w_ei ws (w_ar ws (n_v vs 0) 33)) (w_ei ws (w_ar ws (n_v vs 0) 35)) (w_fi ws (n_v vs 0) 32) (w_fi ws (n_v vs 0) 31) k1 k2 k4 k5 k6 k7 k8 k9 k11 k13 k15 k17 k18 k19 k20 k21 d0 d1 d2 d3 d4 d5 d6 d7 d8 f0 f1 h2 h3 h6 h7 f9 h10 f11 h12 f13 h14 f16 g17 f18 f19 f20 f21 f22 hK_0_33 hK_0_34 hK_0_35 hK_0_38 kz_0_31 kz_0_32
  refine ⟨(fun _ h => (by cases h)), [], trivial, ?_, (fun _ h => (by cases h))⟩
  rw [List.append_nil]
  exact List.forall_mem_cons.mpr ⟨⟨show (20 : Nat) < 100 from by decide, nf0⟩, (fun _ h => (by cases h))⟩
def n_Mo_flood_an : List an_T := [(2, [(0, (2, 0, 0, [165])), (1, (0, 0, 24, [])), (2, (0, (Int.negSucc 0), 24, [])), (3, (0, 0, 25, []))], [], (0, 0), [(0, 0, 99998), (1, 6, 25), (0, 0, 100000), (0, 0, 0), (0, 0, 0)], [(1, 4, (Int.negSucc 999999999999), 0), (2, 5, (Int.negSucc 999999999999), 0), (4, 1, (Int.negSucc 999999999999), 0), (5, 2, (Int.negSucc 999999999999), 0)], [], [(2, 0, 0, [165]), (0, 0, 24, []), (0, (Int.negSucc 0), 24, [])], 0, [], [(20, [3], [60, 2, 2, 75, 31, 32, 33, 34]), (20, [4, 3], [30, (Int.negSucc 0), 1, 0, 0, (Int.negSucc 0), 1, 31]), (20, [3, 4, 6], [60, 0, 1, 76, 38]), (24, [0, 3], []), (24, [1, 4], []), (24, [2, 5], [])]), (34, [(0, (2, 0, 0, [165])), (1, (0, 0, 24, [])), (2, (0, (Int.negSucc 0), 24, [])), (3, (0, 0, 1, []))], [], (0, 0), [(0, 0, 99966), (2, 7, (Int.negSucc 1)), (0, 0, 100000), (0, 0, 0), (0, 0, 0)], [(1, 4, (Int.negSucc 999999999999), 0), (2, 5, (Int.negSucc 999999999999), 0), (4, 1, (Int.negSucc 999999999999), 0), (5, 2, (Int.negSucc 999999999999), 0)], [], [(2, 0, 0, [165]), (0, 0, 24, []), (0, (Int.negSucc 0), 24, [])], 0, [(0, (Int.negSucc 1), 60, [])], [(20, [3], [60, 2, 2, 75, 31, 32, 33, 34]), (20, [4, 3], [30, (Int.negSucc 0), 1, 0, 0, (Int.negSucc 0), 1, 31]), (20, [3, 4, 5], [60, 2, 4, 77, 31, 32, 33, 34, 35, 38]), (20, [3, 5, 6], [60, 1, 4, 79, 32, 33, 34, 35, 38]), (20, [3, 6, 7], [60, 0, 1, 81, 38]), (24, [0, 3], []), (24, [1, 4], []), (24, [2, 5], [])]), (43, [(0, (2, 0, 0, [165])), (1, (0, 0, 24, [])), (2, (0, (Int.negSucc 0), 24, [])), (3, (0, 0, 1, [])), (4, (0, 0, 80, []))], [], (0, 0), [(0, 0, 99966), (2, 8, (Int.negSucc 1)), (0, 0, 99957), (1, 7, 80), (0, 0, 100000)], [(1, 4, (Int.negSucc 999999999999), 0), (2, 5, (Int.negSucc 999999999999), 0), (4, 1, (Int.negSucc 999999999999), 0), (5, 2, (Int.negSucc 999999999999), 0), (6, 7, (Int.negSucc 999999999999), 0)], [], [(2, 0, 0, [165]), (0, 0, 24, []), (0, (Int.negSucc 0), 24, [])], 0, [(0, (Int.negSucc 1), 60, [])], [(20, [3], [60, 2, 2, 75, 31, 32, 33, 34]), (20, [4, 3], [30, (Int.negSucc 0), 1, 0, 0, (Int.negSucc 0), 1, 31]), (20, [3, 4, 5], [60, 2, 4, 77, 31, 32, 33, 34, 35, 38]), (20, [3, 5, 7, 6], [60, 0, 4, 78, 33, 34, 35, 38]), (20, [3, 6, 8], [60, 0, 1, 82, 38]), (24, [0, 3], []), (24, [1, 4], []), (24, [2, 5], [])])]
def t_Mo_flood_ct : ct_L := []
set_option maxRecDepth 100000 in
theorem c_Mo_flood {l : Launch} {D : va_G} {kA : Nat → ClassId} : ct_ok PRD l D kA GG y_Mo_flood z_Mo_flood e_Mo_flood := chk_all_ok (FT := [(57, 13, 33), (60, 13, 34), (63, 13, 35), (72, 13, 38), (594, 13, 31), (597, 13, 32)]) (PT := []) (CT := t_Mo_flood_ct) (KT := []) (NT := []) (AN := n_Mo_flood_an) (OT := [o_Mo_flood_0, o_Mo_flood_1, o_Mo_flood_2, o_Mo_flood_3, o_Mo_flood_4, o_Mo_flood_5, o_Mo_flood_6, o_Mo_flood_7, o_Mo_flood_8, o_Mo_flood_9, o_Mo_flood_10, o_Mo_flood_11]) 5 384 (List.forall_mem_cons.mpr ⟨oo_Mo_flood_0, List.forall_mem_cons.mpr ⟨oo_Mo_flood_1, List.forall_mem_cons.mpr ⟨oo_Mo_flood_2, List.forall_mem_cons.mpr ⟨oo_Mo_flood_3, List.forall_mem_cons.mpr ⟨oo_Mo_flood_4, List.forall_mem_cons.mpr ⟨oo_Mo_flood_5, List.forall_mem_cons.mpr ⟨oo_Mo_flood_6, List.forall_mem_cons.mpr ⟨oo_Mo_flood_7, List.forall_mem_cons.mpr ⟨oo_Mo_flood_8, List.forall_mem_cons.mpr ⟨oo_Mo_flood_9, List.forall_mem_cons.mpr ⟨oo_Mo_flood_10, List.forall_mem_cons.mpr ⟨oo_Mo_flood_11, List.forall_mem_nil _⟩⟩⟩⟩⟩⟩⟩⟩⟩⟩⟩⟩) (by decide +kernel) ⟨List.forall_mem_cons.mpr ⟨gf_Mo_57, List.forall_mem_cons.mpr ⟨gf_Mo_60, List.forall_mem_cons.mpr ⟨gf_Mo_63, List.forall_mem_cons.mpr ⟨gf_Mo_72, List.forall_mem_cons.mpr ⟨gf_Mo_594, List.forall_mem_cons.mpr ⟨gf_Mo_597, List.forall_mem_nil _⟩⟩⟩⟩⟩⟩, List.forall_mem_nil _, List.forall_mem_nil _, List.forall_mem_nil _, List.forall_mem_nil _, GG_pl⟩ (by decide +kernel)

set_option maxHeartbeats 4000000 in
theorem vc_Mo_fromOf_0_0 (x1 : Int) (x2 : Int) (x3 : Int) (x5 : Int) (x6 : Int) (x7 : Int) (ph_0 : Int → Int) (pt_0 : Int → Int) (k1 : 0 ≤ x1 ∧ x1 ≤ 159) (k2 : 1 ≤ x2 ∧ x2 ≤ 1) (k3 : 1 ≤ x3 ∧ x3 ≤ 1) (k5 : 1 ≤ x5 ∧ x5 ≤ 1) (k6 : 0 ≤ x6 ∧ x6 ≤ 79) (k7 : 0 ≤ x7 ∧ x7 ≤ 24) (h0 : x7 = ph_0 (x6)) (f1 : x6 = x1 / 2) (f2 : bvp (x6) = bvp (x1) >>> (x5).toNat) (f4 : x3 ≠ 0) (f5 : x3 = x1 % 2) (f6 : bvp (x3) = bvp (x1) &&& bvp (x2)) (hK_0_33 : ∀ j : Int, 0 ≤ j → j < 80 → 0 ≤ pt_0 j ∧ pt_0 j ≤ 24) (hK_0_34 : ∀ j : Int, 0 ≤ j → j < 80 → 0 ≤ ph_0 j ∧ ph_0 j ≤ 24) : DFR (pt_0) (ph_0) (x1) (x7) := by
  first
    | (unfold DFR dfr; rw [if_pos (by omega), show x1 / 2 = x6 by omega]; omega)
    | (unfold DFR dfr; rw [if_neg (by omega), show x1 / 2 = x6 by omega]; omega)
def o_Mo_fromOf_0 : or_T := (25, 8, [(0, (2, 0, 0, [165])), (1, (0, 0, 159, [])), (2, (0, 1, 1, [])), (3, (0, 1, 1, [])), (4, (2, 0, 0, [181])), (5, (0, 1, 1, [])), (6, (0, 0, 79, [])), (7, (0, 0, 24, []))], [(10, [7, 4, 6], []), (11, [6, 1], [2]), (16, [6, 1, 5], [4]), (9, [4, 0], [34]), (8, [3], [1]), (12, [3, 1], [2]), (16, [3, 1, 2], [0])], [], [], [(20, [0, 1, 7], [60, 0, 2, 185, 33, 34])], [], [])
theorem oo_Mo_fromOf_0 {kA : Nat → ClassId} : or_ok PRD kA GG o_Mo_fromOf_0 := by
  refine or_mk fun A ta ws vs hD hth hl => ?_
  intro t0 r0 t1 k1 t2 k2 t3 k3 t4 r4 t5 k5 t6 k6 t7 k7 f0 f1 f2 f3 f4 f5 f6
  replace f0 := shm_106 f0
  replace f3 := shm_490 f3
  have cr_0_33 := fdq_116 hD hth r0
  have cr_0_34 := fdq_117 hD hth r0
  have ad_4 : v_ad (n_v vs 4) = w_ar ws (n_v vs 0) 34 := congrArg v_ad f3
  simp only [ad_4] at f0
  have h0 : v_iv (n_v vs 7) = w_ei ws (w_ar ws (n_v vs 0) 34) (v_iv (n_v vs 6)) := f0
  have hK_0_33 := elq_57 hD hth cr_0_33
  have hK_0_34 := elq_58 hD hth cr_0_34
  have nf0 : fc_1 PRD (20, [0, 1, 7], [60, 0, 2, 185, 33, 34]) ws (vs) := ⟨nf_in hl rfl, sgq_574 (vc_Mo_fromOf_0_0 (v_iv (n_v vs 1)) (v_iv (n_v vs 2)) (v_iv (n_v vs 3)) (v_iv (n_v vs 5)) (v_iv (n_v vs 6)) (v_iv (n_v vs 7)) (w_ei ws (w_ar ws (n_v vs 0) 34)) (w_ei ws (w_ar ws (n_v vs 0) 33)) k1 k2 k3 k5 k6 k7 h0 (shm_573 f1) (shm_13 f2) (shm_154 f4) (shm_382 f5) (shm_11 f6) hK_0_33 hK_0_34)⟩
  refine ⟨(fun _ h => (by cases h)), [], trivial, ?_, (fun _ h => (by cases h))⟩
  rw [List.append_nil]
  exact List.forall_mem_cons.mpr ⟨⟨show (20 : Nat) < 100 from by decide, nf0⟩, (fun _ h => (by cases h))⟩
set_option maxHeartbeats 4000000 in
theorem vc_Mo_fromOf_1_0 (x1 : Int) (x2 : Int) (x3 : Int) (x5 : Int) (x6 : Int) (x7 : Int) (pt_0 : Int → Int) (ph_0 : Int → Int) (k1 : 0 ≤ x1 ∧ x1 ≤ 159) (k2 : 1 ≤ x2 ∧ x2 ≤ 1) (k3 : 0 ≤ x3 ∧ x3 ≤ 0) (k5 : 1 ≤ x5 ∧ x5 ≤ 1) (k6 : 0 ≤ x6 ∧ x6 ≤ 79) (k7 : 0 ≤ x7 ∧ x7 ≤ 24) (h0 : x7 = pt_0 (x6)) (f1 : x6 = x1 / 2) (f2 : bvp (x6) = bvp (x1) >>> (x5).toNat) (f4 : x3 = 0) (f5 : x3 = x1 % 2) (f6 : bvp (x3) = bvp (x1) &&& bvp (x2)) (hK_0_33 : ∀ j : Int, 0 ≤ j → j < 80 → 0 ≤ pt_0 j ∧ pt_0 j ≤ 24) (hK_0_34 : ∀ j : Int, 0 ≤ j → j < 80 → 0 ≤ ph_0 j ∧ ph_0 j ≤ 24) : DFR (pt_0) (ph_0) (x1) (x7) := by
  first
    | (unfold DFR dfr; rw [if_pos (by omega), show x1 / 2 = x6 by omega]; omega)
    | (unfold DFR dfr; rw [if_neg (by omega), show x1 / 2 = x6 by omega]; omega)
def o_Mo_fromOf_1 : or_T := (25, 8, [(0, (2, 0, 0, [165])), (1, (0, 0, 159, [])), (2, (0, 1, 1, [])), (3, (0, 0, 0, [])), (4, (2, 0, 0, [180])), (5, (0, 1, 1, [])), (6, (0, 0, 79, [])), (7, (0, 0, 24, []))], [(10, [7, 4, 6], []), (11, [6, 1], [2]), (16, [6, 1, 5], [4]), (9, [4, 0], [33]), (8, [3], [0]), (12, [3, 1], [2]), (16, [3, 1, 2], [0])], [], [], [(20, [0, 1, 7], [60, 0, 2, 185, 33, 34])], [], [])
theorem oo_Mo_fromOf_1 {kA : Nat → ClassId} : or_ok PRD kA GG o_Mo_fromOf_1 := by
  refine or_mk fun A ta ws vs hD hth hl => ?_
  intro t0 r0 t1 k1 t2 k2 t3 k3 t4 r4 t5 k5 t6 k6 t7 k7 f0 f1 f2 f3 f4 f5 f6
  replace f0 := shm_106 f0
  replace f3 := shm_488 f3
  have cr_0_33 := fdq_116 hD hth r0
  have cr_0_34 := fdq_117 hD hth r0
  have ad_4 : v_ad (n_v vs 4) = w_ar ws (n_v vs 0) 33 := congrArg v_ad f3
  simp only [ad_4] at f0
  have h0 : v_iv (n_v vs 7) = w_ei ws (w_ar ws (n_v vs 0) 33) (v_iv (n_v vs 6)) := f0
  have hK_0_33 := elq_57 hD hth cr_0_33
  have hK_0_34 := elq_58 hD hth cr_0_34
  have nf0 : fc_1 PRD (20, [0, 1, 7], [60, 0, 2, 185, 33, 34]) ws (vs) := ⟨nf_in hl rfl, sgq_574 (vc_Mo_fromOf_1_0 (v_iv (n_v vs 1)) (v_iv (n_v vs 2)) (v_iv (n_v vs 3)) (v_iv (n_v vs 5)) (v_iv (n_v vs 6)) (v_iv (n_v vs 7)) (w_ei ws (w_ar ws (n_v vs 0) 33)) (w_ei ws (w_ar ws (n_v vs 0) 34)) k1 k2 k3 k5 k6 k7 h0 (shm_573 f1) (shm_13 f2) (shm_210 f4) (shm_382 f5) (shm_11 f6) hK_0_33 hK_0_34)⟩
  refine ⟨(fun _ h => (by cases h)), [], trivial, ?_, (fun _ h => (by cases h))⟩
  rw [List.append_nil]
  exact List.forall_mem_cons.mpr ⟨⟨show (20 : Nat) < 100 from by decide, nf0⟩, (fun _ h => (by cases h))⟩
def n_Mo_fromOf_an : List an_T := []
def t_Mo_fromOf_ct : ct_L := []
set_option maxRecDepth 100000 in
theorem c_Mo_fromOf {l : Launch} {D : va_G} {kA : Nat → ClassId} : ct_ok PRD l D kA GG y_Mo_fromOf z_Mo_fromOf e_Mo_fromOf := chk_all_ok (FT := [(57, 13, 33), (60, 13, 34)]) (PT := []) (CT := t_Mo_fromOf_ct) (KT := []) (NT := []) (AN := n_Mo_fromOf_an) (OT := [o_Mo_fromOf_0, o_Mo_fromOf_1]) 0 200 (List.forall_mem_cons.mpr ⟨oo_Mo_fromOf_0, List.forall_mem_cons.mpr ⟨oo_Mo_fromOf_1, List.forall_mem_nil _⟩⟩) (by decide +kernel) ⟨List.forall_mem_cons.mpr ⟨gf_Mo_57, List.forall_mem_cons.mpr ⟨gf_Mo_60, List.forall_mem_nil _⟩⟩, List.forall_mem_nil _, List.forall_mem_nil _, List.forall_mem_nil _, List.forall_mem_nil _, GG_pl⟩ (by decide +kernel)
set_option maxHeartbeats 4000000 in
theorem vc_Mo_gatherOne_0_r0 (x1 : Int) (x2 : Int) (x3 : Int) (x4 : Int) (itemMany_0 : Int) (itemOf_0 : Int → Int) (itemSize_0 : Int → Int) (k1 : 0 ≤ x1 ∧ x1 ≤ 107) (k2 : 0 ≤ x2 ∧ x2 ≤ 4095) (k3 : 0 ≤ x3 ∧ x3 ≤ 39) (k4 : 0 ≤ x4 ∧ x4 ≤ 40) (g0 : x4 = itemMany_0) (f1 : 1 * itemMany_0 + ((-1) * x3 + 0) ≤ 0) (f2 : ITM (itemMany_0) (itemOf_0) (itemSize_0)) (f3 : ((0 ≤ x1) ∧ (x1 ≤ 23)) ∨ ((100 ≤ x1) ∧ (x1 ≤ 107))) (f4 : (1 ≤ x2) ∧ (x2 ≤ 2400)) (hK_0_130 : ∀ j : Int, 0 ≤ j → j < 40 → 0 ≤ itemOf_0 j ∧ itemOf_0 j ≤ 131) (hK_0_131 : ∀ j : Int, 0 ≤ j → j < 40 → 0 ≤ itemSize_0 j ∧ itemSize_0 j ≤ 4095) (kz_0_132 : 0 ≤ itemMany_0 ∧ itemMany_0 ≤ 40) : 0 ≤ x4 ∧ x4 ≤ 39 := by
  omega
def o_Mo_gatherOne_0 : or_T := (4, 5, [(0, (2, 0, 0, [165])), (1, (0, 0, 107, [])), (2, (0, 0, 4095, [])), (3, (0, 0, 39, [])), (4, (0, 0, 40, []))], [(9, [4, 0], [132]), (20, [0, 3], [30, 0, 1, 1, 132, -1, 0, 0]), (20, [0], [60, 1, 2, 773, 132, 130, 131]), (20, [1], [50, 0, 0, 3, 14, 2, 6, 0, 2, 0, 0, 1, 0, 0, 2, 1, 0, 0, 23, 2, 6, 0, 2, 0, 100, 1, 0, 0, 2, 1, 0, 0, 107]), (20, [2], [50, 0, 0, 2, 6, 0, 2, 0, 1, 1, 0, 0, 2, 1, 0, 0, 2400])], [(4, (0, 0, 39, []))], [], [], [], [])
theorem oo_Mo_gatherOne_0 {kA : Nat → ClassId} : or_ok PRD kA GG o_Mo_gatherOne_0 := by
  refine or_mk fun A ta ws vs hD hth hl => ?_
  intro t0 r0 t1 k1 t2 k2 t3 k3 t4 k4 f0 f1 f2 f3 f4
  replace f0 := shm_575 f0
  have cr_0_130 := fdq_149 hD hth r0
  have cr_0_131 := fdq_150 hD hth r0
  have g0 : v_iv (n_v vs 4) = w_fi ws (n_v vs 0) 132 := congrArg v_iv f0
  have hK_0_130 := elq_81 hD hth cr_0_130
  have hK_0_131 := elq_82 hD hth cr_0_131
  have kz_0_132 := fdq_151 hD hth r0
  have hrf0 : 0 ≤ v_iv (n_v vs 4) ∧ v_iv (n_v vs 4) ≤ 39 := vc_Mo_gatherOne_0_r0 (v_iv (n_v vs 1)) (v_iv (n_v vs 2)) (v_iv (n_v vs 3)) (v_iv (n_v vs 4)) (w_fi ws (n_v vs 0) 132) (w_ei ws (w_ar ws (n_v vs 0) 130)) (w_ei ws (w_ar ws (n_v vs 0) 131)) k1 k2 k3 k4 g0 (shm_576 f1) (shm_577 f2) (shm_578 f3) (shm_579 f4) hK_0_130 hK_0_131 kz_0_132
  have rf4 : tv_ok ta (0, 0, 39, []) (n_v vs 4) := tv_in t4 (by first | omega | grind) (by first | omega | grind)
  refine ⟨List.forall_mem_cons.mpr ⟨rf4, (fun _ h => (by cases h))⟩, [], trivial, ?_, (fun _ h => (by cases h))⟩
  rw [List.append_nil]
  exact (fun _ h => (by cases h))
set_option maxHeartbeats 4000000 in
theorem vc_Mo_gatherOne_1_0 (x1 : Int) (x2 : Int) (x3 : Int) (x4 : Int) (itemMany_0 : Int) (itemOf_0 : Int → Int) (itemSize_0 : Int → Int) (k1 : 0 ≤ x1 ∧ x1 ≤ 107) (k2 : 0 ≤ x2 ∧ x2 ≤ 4095) (k3 : 0 ≤ x3 ∧ x3 ≤ 39) (k4 : 0 ≤ x4 ∧ x4 ≤ 39) (g0 : x4 = itemMany_0) (f1 : 1 * itemMany_0 + ((-1) * x3 + 0) ≤ 0) (f2 : ITM (itemMany_0) (itemOf_0) (itemSize_0)) (f3 : ((0 ≤ x1) ∧ (x1 ≤ 23)) ∨ ((100 ≤ x1) ∧ (x1 ≤ 107))) (f4 : (1 ≤ x2) ∧ (x2 ≤ 2400)) (hK_0_130 : ∀ j : Int, 0 ≤ j → j < 40 → 0 ≤ itemOf_0 j ∧ itemOf_0 j ≤ 131) (hK_0_131 : ∀ j : Int, 0 ≤ j → j < 40 → 0 ≤ itemSize_0 j ∧ itemSize_0 j ≤ 4095) (kz_0_132 : 0 ≤ itemMany_0 ∧ itemMany_0 ≤ 40) : IT1 (itemMany_0) (itemOf_0) (itemSize_0) (x4) := by
  first
    | exact it1_start ‹ITM _ _ _› (by omega)
    | exact it1_step (x := x7) (v := x15) (w := x18) ‹IT1 _ _ _ _› (by omega) (by omega) (by omega) (by assumption) (by assumption) (by rw [show x19 = x14 by omega]; assumption) (by rw [show x19 = x17 by omega]; assumption)
  
set_option maxHeartbeats 4000000 in
theorem vc_Mo_gatherOne_1_1 (x1 : Int) (x2 : Int) (x3 : Int) (x4 : Int) (itemMany_0 : Int) (itemOf_0 : Int → Int) (itemSize_0 : Int → Int) (k1 : 0 ≤ x1 ∧ x1 ≤ 107) (k2 : 0 ≤ x2 ∧ x2 ≤ 4095) (k3 : 0 ≤ x3 ∧ x3 ≤ 39) (k4 : 0 ≤ x4 ∧ x4 ≤ 39) (g0 : x4 = itemMany_0) (f1 : 1 * itemMany_0 + ((-1) * x3 + 0) ≤ 0) (f2 : ITM (itemMany_0) (itemOf_0) (itemSize_0)) (f3 : ((0 ≤ x1) ∧ (x1 ≤ 23)) ∨ ((100 ≤ x1) ∧ (x1 ≤ 107))) (f4 : (1 ≤ x2) ∧ (x2 ≤ 2400)) (hK_0_130 : ∀ j : Int, 0 ≤ j → j < 40 → 0 ≤ itemOf_0 j ∧ itemOf_0 j ≤ 131) (hK_0_131 : ∀ j : Int, 0 ≤ j → j < 40 → 0 ≤ itemSize_0 j ∧ itemSize_0 j ≤ 4095) (kz_0_132 : 0 ≤ itemMany_0 ∧ itemMany_0 ≤ 40) : (0 ≤ x4) ∧ (x4 ≤ itemMany_0) := by
  omega
def o_Mo_gatherOne_1 : or_T := (5, 5, [(0, (2, 0, 0, [165])), (1, (0, 0, 107, [])), (2, (0, 0, 4095, [])), (3, (0, 0, 39, [])), (4, (0, 0, 39, []))], [(9, [4, 0], [132]), (20, [0, 3], [30, 0, 1, 1, 132, -1, 0, 0]), (20, [0], [60, 1, 2, 773, 132, 130, 131]), (20, [1], [50, 0, 0, 3, 14, 2, 6, 0, 2, 0, 0, 1, 0, 0, 2, 1, 0, 0, 23, 2, 6, 0, 2, 0, 100, 1, 0, 0, 2, 1, 0, 0, 107]), (20, [2], [50, 0, 0, 2, 6, 0, 2, 0, 1, 1, 0, 0, 2, 1, 0, 0, 2400])], [], [], [(20, [0, 4], [60, 1, 2, 774, 132, 130, 131]), (20, [4, 0], [50, 1, 0, 1132, 2, 6, 0, 2, 0, 0, 1, 0, 0, 2, 1, 0, 2, 1, 132]), (24, [0, 0], [])], [], [])
theorem oo_Mo_gatherOne_1 {kA : Nat → ClassId} : or_ok PRD kA GG o_Mo_gatherOne_1 := by
  refine or_mk fun A ta ws vs hD hth hl => ?_
  intro t0 r0 t1 k1 t2 k2 t3 k3 t4 k4 f0 f1 f2 f3 f4
  replace f0 := shm_575 f0
  have cr_0_130 := fdq_149 hD hth r0
  have cr_0_131 := fdq_150 hD hth r0
  have g0 : v_iv (n_v vs 4) = w_fi ws (n_v vs 0) 132 := congrArg v_iv f0
  have hK_0_130 := elq_81 hD hth cr_0_130
  have hK_0_131 := elq_82 hD hth cr_0_131
  have kz_0_132 := fdq_151 hD hth r0
  have nf0 : fc_1 PRD (20, [0, 4], [60, 1, 2, 774, 132, 130, 131]) ws (vs) := ⟨nf_in hl rfl, sgq_580 (vc_Mo_gatherOne_1_0 (v_iv (n_v vs 1)) (v_iv (n_v vs 2)) (v_iv (n_v vs 3)) (v_iv (n_v vs 4)) (w_fi ws (n_v vs 0) 132) (w_ei ws (w_ar ws (n_v vs 0) 130)) (w_ei ws (w_ar ws (n_v vs 0) 131)) k1 k2 k3 k4 g0 (shm_576 f1) (shm_577 f2) (shm_578 f3) (shm_579 f4) hK_0_130 hK_0_131 kz_0_132)⟩
  have nf1 : fc_1 PRD (20, [4, 0], [50, 1, 0, 1132, 2, 6, 0, 2, 0, 0, 1, 0, 0, 2, 1, 0, 2, 1, 132]) ws (vs) := ⟨nf_in hl rfl, sgq_581 (vc_Mo_gatherOne_1_1 (v_iv (n_v vs 1)) (v_iv (n_v vs 2)) (v_iv (n_v vs 3)) (v_iv (n_v vs 4)) (w_fi ws (n_v vs 0) 132) (w_ei ws (w_ar ws (n_v vs 0) 130)) (w_ei ws (w_ar ws (n_v vs 0) 131)) k1 k2 k3 k4 g0 (shm_576 f1) (shm_577 f2) (shm_578 f3) (shm_579 f4) hK_0_130 hK_0_131 kz_0_132)⟩
  have nf2 : fc_1 PRD (24, [0, 0], []) ws (vs) := by
    refine ⟨nf_in hl rfl, sgq_1 ?_⟩
    · show n_v vs 0 = n_v vs 0
      first | rfl | simp only [true_and]
  refine ⟨(fun _ h => (by cases h)), [], trivial, ?_, (fun _ h => (by cases h))⟩
  rw [List.append_nil]
  exact List.forall_mem_cons.mpr ⟨⟨show (20 : Nat) < 100 from by decide, nf0⟩, List.forall_mem_cons.mpr ⟨⟨show (20 : Nat) < 100 from by decide, nf1⟩, List.forall_mem_cons.mpr ⟨⟨show (24 : Nat) < 100 from by decide, nf2⟩, (fun _ h => (by cases h))⟩⟩⟩
set_option maxHeartbeats 4000000 in
theorem vc_Mo_gatherOne_2_r0 (x3 : Int) (x5 : Int) (x6 : Int) (x7 : Int) (x10 : Int) (itemMany_0 : Int) (itemMany_1 : Int) (itemMany_2 : Int) (itemOf_2 : Int → Int) (itemSize_2 : Int → Int) (itemOf_0 : Int → Int) (itemOf_1 : Int → Int) (itemSize_0 : Int → Int) (itemSize_1 : Int → Int) (k3 : 0 ≤ x3 ∧ x3 ≤ 39) (k5 : 0 ≤ x5 ∧ x5 ≤ 107) (k6 : 0 ≤ x6 ∧ x6 ≤ 4095) (k7 : 0 ≤ x7 ∧ x7 ≤ 0) (k10 : 0 ≤ x10 ∧ x10 ≤ 40) (g0 : x10 = itemMany_0) (f1 : 1 * itemMany_0 + ((-1) * x3 + 0) ≤ 0) (f2 : ((0 ≤ x5) ∧ (x5 ≤ 23)) ∨ ((100 ≤ x5) ∧ (x5 ≤ 107))) (f3 : (1 ≤ x6) ∧ (x6 ≤ 2400)) (f4 : (0 ≤ x7) ∧ (x7 ≤ itemMany_0)) (f8 : 1 * itemMany_1 + ((-1) * x3 + 0) ≤ 0) (f9 : ((0 ≤ x5) ∧ (x5 ≤ 23)) ∨ ((100 ≤ x5) ∧ (x5 ≤ 107))) (f10 : (1 ≤ x6) ∧ (x6 ≤ 2400)) (f11 : (0 ≤ x7) ∧ (x7 ≤ itemMany_1)) (f14 : x7 ≤ 0) (f15 : 1 * itemMany_2 + ((-1) * x3 + 0) ≤ 0) (f16 : IT1 (itemMany_2) (itemOf_2) (itemSize_2) (x7)) (f17 : ((0 ≤ x5) ∧ (x5 ≤ 23)) ∨ ((100 ≤ x5) ∧ (x5 ≤ 107))) (f18 : (1 ≤ x6) ∧ (x6 ≤ 2400)) (f19 : (0 ≤ x7) ∧ (x7 ≤ itemMany_2)) (fe_0_132_1 : itemMany_0 = itemMany_1) (fe_0_132_2 : itemMany_1 = itemMany_2) (hE_0_130_1 : ∀ j : Int, itemOf_0 j = itemOf_1 j) (hE_0_130_2 : ∀ j : Int, 0 ≤ j → (j = x7 → itemOf_1 j = x5) ∧ (j ≠ x7 → itemOf_1 j = itemOf_2 j)) (hK_0_130 : ∀ j : Int, 0 ≤ j → j < 40 → 0 ≤ itemOf_0 j ∧ itemOf_0 j ≤ 131) (hE_0_131_1 : ∀ j : Int, 0 ≤ j → (j = x7 → itemSize_0 j = x6) ∧ (j ≠ x7 → itemSize_0 j = itemSize_1 j)) (hE_0_131_2 : ∀ j : Int, itemSize_1 j = itemSize_2 j) (hK_0_131 : ∀ j : Int, 0 ≤ j → j < 40 → 0 ≤ itemSize_0 j ∧ itemSize_0 j ≤ 4095) (kz_0_132 : 0 ≤ itemMany_0 ∧ itemMany_0 ≤ 40) : 0 ≤ x10 ∧ x10 ≤ 39 := by
  subst fe_0_132_1
  subst fe_0_132_2
  have e_hE_0_130_1 := funext hE_0_130_1; subst e_hE_0_130_1
  have e_hE_0_131_2 := funext hE_0_131_2; subst e_hE_0_131_2
  omega
def o_Mo_gatherOne_2 : or_T := (74, 11, [(0, (2, 0, 0, [165])), (3, (0, 0, 39, [])), (4, (2, 0, 0, [165])), (5, (0, 0, 107, [])), (6, (0, 0, 4095, [])), (7, (0, 0, 0, [])), (8, (2, 0, 0, [260])), (9, (2, 0, 0, [261])), (10, (0, 0, 40, []))], [(9, [10, 4], [132]), (20, [4, 3], [30, 0, 1, 1, 132, -1, 0, 0]), (20, [5], [50, 0, 0, 3, 14, 2, 6, 0, 2, 0, 0, 1, 0, 0, 2, 1, 0, 0, 23, 2, 6, 0, 2, 0, 100, 1, 0, 0, 2, 1, 0, 0, 107]), (20, [6], [50, 0, 0, 2, 6, 0, 2, 0, 1, 1, 0, 0, 2, 1, 0, 0, 2400]), (20, [7, 4], [50, 1, 0, 1132, 2, 6, 0, 2, 0, 0, 1, 0, 0, 2, 1, 0, 2, 1, 132]), (24, [0, 4], []), (100, [9, 7, 6], []), (9, [9, 4], [131]), (20, [4, 3], [30, 0, 1, 1, 132, -1, 0, 0]), (20, [5], [50, 0, 0, 3, 14, 2, 6, 0, 2, 0, 0, 1, 0, 0, 2, 1, 0, 0, 23, 2, 6, 0, 2, 0, 100, 1, 0, 0, 2, 1, 0, 0, 107]), (20, [6], [50, 0, 0, 2, 6, 0, 2, 0, 1, 1, 0, 0, 2, 1, 0, 0, 2400]), (20, [7, 4], [50, 1, 0, 1132, 2, 6, 0, 2, 0, 0, 1, 0, 0, 2, 1, 0, 2, 1, 132]), (100, [8, 7, 5], []), (9, [8, 4], [130]), (8, [7], [5]), (20, [4, 3], [30, 0, 1, 1, 132, -1, 0, 0]), (20, [4, 7], [60, 1, 2, 774, 132, 130, 131]), (20, [5], [50, 0, 0, 3, 14, 2, 6, 0, 2, 0, 0, 1, 0, 0, 2, 1, 0, 0, 23, 2, 6, 0, 2, 0, 100, 1, 0, 0, 2, 1, 0, 0, 107]), (20, [6], [50, 0, 0, 2, 6, 0, 2, 0, 1, 1, 0, 0, 2, 1, 0, 0, 2400]), (20, [7, 4], [50, 1, 0, 1132, 2, 6, 0, 2, 0, 0, 1, 0, 0, 2, 1, 0, 2, 1, 132])], [(10, (0, 0, 39, []))], [], [], [], [])
theorem oo_Mo_gatherOne_2 {kA : Nat → ClassId} : or_ok PRD kA GG o_Mo_gatherOne_2 := by
  refine or_mk fun A ta ws vs hD hth hl => ?_
  intro t0 r0 t3 k3 t4 r4 t5 k5 t6 k6 t7 k7 t8 r8 t9 r9 t10 k10 f0 f1 f2 f3 f4 f5 ta1 w1 le1 s1 f7 f8 f9 f10 f11 ta2 w2 le2 s2 f13 f14 f15 f16 f17 f18 f19
  replace f0 := shm_575 f0
  replace f1 := shm_576 f1
  replace f4 := shm_581 f4
  replace f5 := shm_5 f5
  have s1 : (∀ b j, w_el ws b j = if b = v_ad (n_v vs 9) ∧ j = (v_iv (n_v vs 7)).toNat then v_iv (n_v vs 6) else w_el w1 b j) ∧ ∀ b k, w_fd ws b k = w_fd w1 b k := s1.2
  replace f7 := shm_582 f7
  replace f8 := shm_576 f8
  replace f11 := shm_581 f11
  have s2 : (∀ b j, w_el w1 b j = if b = v_ad (n_v vs 8) ∧ j = (v_iv (n_v vs 7)).toNat then v_iv (n_v vs 5) else w_el w2 b j) ∧ ∀ b k, w_fd w1 b k = w_fd w2 b k := s2.2
  replace f13 := shm_583 f13
  replace f15 := shm_576 f15
  replace f16 := shm_580 f16
  replace f19 := shm_581 f19
  have q4 : n_v vs 4 = n_v vs 0 := f5.symm
  simp only [q4] at f0 f1 f4 f7 f8 f11 f13 f15 f16 f19
  have ar_0_130_1 : w_ar w1 (n_v vs 0) 130 = w_ar ws (n_v vs 0) 130 := congrArg v_ad (s1.2 _ _).symm
  have ar_0_130_2 : w_ar w2 (n_v vs 0) 130 = w_ar ws (n_v vs 0) 130 := by rw [← ar_0_130_1]; show v_ad (w_fd w2 _ _) = v_ad (w_fd w1 _ _); rw [s2.2]
  have cr_0_130 := fdq_149 hD hth r0
  have ar_0_131_1 : w_ar w1 (n_v vs 0) 131 = w_ar ws (n_v vs 0) 131 := congrArg v_ad (s1.2 _ _).symm
  have ar_0_131_2 : w_ar w2 (n_v vs 0) 131 = w_ar ws (n_v vs 0) 131 := by rw [← ar_0_131_1]; show v_ad (w_fd w2 _ _) = v_ad (w_fd w1 _ _); rw [s2.2]
  have cr_0_131 := fdq_150 hD hth r0
  have ad_9 : v_ad (n_v vs 9) = w_ar ws (n_v vs 0) 131 := (congrArg v_ad f7).trans ar_0_131_1
  have ad_8 : v_ad (n_v vs 8) = w_ar ws (n_v vs 0) 130 := (congrArg v_ad f13).trans ar_0_130_2
  have g0 : v_iv (n_v vs 10) = w_fi ws (n_v vs 0) 132 := congrArg v_iv f0
  simp only [ar_0_130_2, ar_0_131_2] at f16
  have fe_0_132_1 : w_fi ws (n_v vs 0) 132 = w_fi w1 (n_v vs 0) 132 := congrArg v_iv (s1.2 _ _)
  have fe_0_132_2 : w_fi w1 (n_v vs 0) 132 = w_fi w2 (n_v vs 0) 132 := congrArg v_iv (s2.2 _ _)
  have hE_0_130_1 : ∀ j : Int, w_ei ws (w_ar ws (n_v vs 0) 130) j = w_ei w1 (w_ar ws (n_v vs 0) 130) j := el_kp s1.1 r9 cr_0_130 (by decide)
  have hE_0_130_2 : ∀ j : Int, 0 ≤ j → (j = v_iv (n_v vs 7) → w_ei w1 (w_ar ws (n_v vs 0) 130) j = v_iv (n_v vs 5)) ∧ (j ≠ v_iv (n_v vs 7) → w_ei w1 (w_ar ws (n_v vs 0) 130) j = w_ei w2 (w_ar ws (n_v vs 0) 130) j) := fun j hj => ⟨fun h => by unfold w_ei; rw [s2.1, if_pos ⟨ad_8.symm, by rw [h]⟩], fun h => by unfold w_ei; rw [s2.1, if_neg (fun e => h (by have := e.2; omega))]⟩
  have hK_0_130 := elq_81 hD hth cr_0_130
  have hE_0_131_1 : ∀ j : Int, 0 ≤ j → (j = v_iv (n_v vs 7) → w_ei ws (w_ar ws (n_v vs 0) 131) j = v_iv (n_v vs 6)) ∧ (j ≠ v_iv (n_v vs 7) → w_ei ws (w_ar ws (n_v vs 0) 131) j = w_ei w1 (w_ar ws (n_v vs 0) 131) j) := fun j hj => ⟨fun h => by unfold w_ei; rw [s1.1, if_pos ⟨ad_9.symm, by rw [h]⟩], fun h => by unfold w_ei; rw [s1.1, if_neg (fun e => h (by have := e.2; omega))]⟩
  have hE_0_131_2 : ∀ j : Int, w_ei w1 (w_ar ws (n_v vs 0) 131) j = w_ei w2 (w_ar ws (n_v vs 0) 131) j := el_kp s2.1 r8 cr_0_131 (by decide)
  have hK_0_131 := elq_82 hD hth cr_0_131
  have kz_0_132 := fdq_151 hD hth r0
  have hrf0 : 0 ≤ v_iv (n_v vs 10) ∧ v_iv (n_v vs 10) ≤ 39 := vc_Mo_gatherOne_2_r0 (v_iv (n_v vs 3)) (v_iv (n_v vs 5)) (v_iv (n_v vs 6)) (v_iv (n_v vs 7)) (v_iv (n_v vs 10)) (w_fi ws (n_v vs 0) 132) (w_fi w1 (n_v vs 0) 132) (w_fi w2 (n_v vs 0) 132) (w_ei w2 (w_ar ws (n_v vs 0) 130)) (w_ei w2 (w_ar ws (n_v vs 0) 131)) (w_ei ws (w_ar ws (n_v vs 0) 130)) (w_ei w1 (w_ar ws (n_v vs 0) 130)) (w_ei ws (w_ar ws (n_v vs 0) 131)) (w_ei w1 (w_ar ws (n_v vs 0) 131)) k3 k5 k6 k7 k10 g0 f1 (shm_578 f2) (shm_579 f3) f4 f8 (shm_578 f9) (shm_579 f10) f11 (shm_142 f14) f15 f16 (shm_578 f17) (shm_579 f18) f19 fe_0_132_1 fe_0_132_2 hE_0_130_1 hE_0_130_2 hK_0_130 hE_0_131_1 hE_0_131_2 hK_0_131 kz_0_132
  have rf10 : tv_ok ta (0, 0, 39, []) (n_v vs 10) := tv_in t10 (by first | omega | grind) (by first | omega | grind)
  refine ⟨List.forall_mem_cons.mpr ⟨rf10, (fun _ h => (by cases h))⟩, [], trivial, ?_, (fun _ h => (by cases h))⟩
  rw [List.append_nil]
  exact (fun _ h => (by cases h))
set_option maxHeartbeats 4000000 in
theorem vc_Mo_gatherOne_3_0 (x3 : Int) (x5 : Int) (x6 : Int) (x7 : Int) (x10 : Int) (x11 : Int) (x12 : Int) (itemMany_1 : Int) (itemMany_2 : Int) (itemMany_3 : Int) (itemOf_3 : Int → Int) (itemSize_3 : Int → Int) (itemMany_0 : Int) (itemOf_0 : Int → Int) (itemOf_1 : Int → Int) (itemOf_2 : Int → Int) (itemSize_0 : Int → Int) (itemSize_1 : Int → Int) (itemSize_2 : Int → Int) (k3 : 0 ≤ x3 ∧ x3 ≤ 39) (k5 : 0 ≤ x5 ∧ x5 ≤ 107) (k6 : 0 ≤ x6 ∧ x6 ≤ 4095) (k7 : 0 ≤ x7 ∧ x7 ≤ 0) (k10 : 0 ≤ x10 ∧ x10 ≤ 39) (k11 : 1 ≤ x11 ∧ x11 ≤ 1) (k12 : 1 ≤ x12 ∧ x12 ≤ 40) (d0 : x10 + 1 ≤ x12 ∧ x12 ≤ x10 + 1) (f0 : ((0 ≤ x5) ∧ (x5 ≤ 23)) ∨ ((100 ≤ x5) ∧ (x5 ≤ 107))) (f1 : (1 ≤ x6) ∧ (x6 ≤ 2400)) (f4 : x12 = x10 + x11) (g5 : x10 = itemMany_1) (f6 : 1 * itemMany_1 + ((-1) * x3 + 0) ≤ 0) (f7 : ((0 ≤ x5) ∧ (x5 ≤ 23)) ∨ ((100 ≤ x5) ∧ (x5 ≤ 107))) (f8 : (1 ≤ x6) ∧ (x6 ≤ 2400)) (f9 : (0 ≤ x7) ∧ (x7 ≤ itemMany_1)) (f12 : 1 * itemMany_2 + ((-1) * x3 + 0) ≤ 0) (f13 : ((0 ≤ x5) ∧ (x5 ≤ 23)) ∨ ((100 ≤ x5) ∧ (x5 ≤ 107))) (f14 : (1 ≤ x6) ∧ (x6 ≤ 2400)) (f15 : (0 ≤ x7) ∧ (x7 ≤ itemMany_2)) (f18 : x7 ≤ 0) (f19 : 1 * itemMany_3 + ((-1) * x3 + 0) ≤ 0) (f20 : IT1 (itemMany_3) (itemOf_3) (itemSize_3) (x7)) (f21 : ((0 ≤ x5) ∧ (x5 ≤ 23)) ∨ ((100 ≤ x5) ∧ (x5 ≤ 107))) (f22 : (1 ≤ x6) ∧ (x6 ≤ 2400)) (f23 : (0 ≤ x7) ∧ (x7 ≤ itemMany_3)) (fe_0_132_1 : itemMany_0 = x12) (fe_0_132_2 : itemMany_1 = itemMany_2) (fe_0_132_3 : itemMany_2 = itemMany_3) (hE_0_130_1 : ∀ j : Int, itemOf_0 j = itemOf_1 j) (hE_0_130_2 : ∀ j : Int, itemOf_1 j = itemOf_2 j) (hE_0_130_3 : ∀ j : Int, 0 ≤ j → (j = x7 → itemOf_2 j = x5) ∧ (j ≠ x7 → itemOf_2 j = itemOf_3 j)) (hK_0_130 : ∀ j : Int, 0 ≤ j → j < 40 → 0 ≤ itemOf_0 j ∧ itemOf_0 j ≤ 131) (hE_0_131_1 : ∀ j : Int, itemSize_0 j = itemSize_1 j) (hE_0_131_2 : ∀ j : Int, 0 ≤ j → (j = x7 → itemSize_1 j = x6) ∧ (j ≠ x7 → itemSize_1 j = itemSize_2 j)) (hE_0_131_3 : ∀ j : Int, itemSize_2 j = itemSize_3 j) (hK_0_131 : ∀ j : Int, 0 ≤ j → j < 40 → 0 ≤ itemSize_0 j ∧ itemSize_0 j ≤ 4095) (kz_0_132 : 0 ≤ itemMany_0 ∧ itemMany_0 ≤ 40) : 1 * itemMany_0 + ((-1) * x3 + 0) ≤ 1 := by
  subst fe_0_132_2
  subst fe_0_132_3
  have e_hE_0_130_1 := funext hE_0_130_1; subst e_hE_0_130_1
  have e_hE_0_130_2 := funext hE_0_130_2; subst e_hE_0_130_2
  have e_hE_0_131_1 := funext hE_0_131_1; subst e_hE_0_131_1
  have e_hE_0_131_3 := funext hE_0_131_3; subst e_hE_0_131_3
  omega
set_option maxHeartbeats 4000000 in
theorem vc_Mo_gatherOne_3_1 (x3 : Int) (x5 : Int) (x6 : Int) (x7 : Int) (x10 : Int) (x11 : Int) (x12 : Int) (itemMany_1 : Int) (itemMany_2 : Int) (itemMany_3 : Int) (itemOf_3 : Int → Int) (itemSize_3 : Int → Int) (itemMany_0 : Int) (itemOf_0 : Int → Int) (itemOf_1 : Int → Int) (itemOf_2 : Int → Int) (itemSize_0 : Int → Int) (itemSize_1 : Int → Int) (itemSize_2 : Int → Int) (k3 : 0 ≤ x3 ∧ x3 ≤ 39) (k5 : 0 ≤ x5 ∧ x5 ≤ 107) (k6 : 0 ≤ x6 ∧ x6 ≤ 4095) (k7 : 0 ≤ x7 ∧ x7 ≤ 0) (k10 : 0 ≤ x10 ∧ x10 ≤ 39) (k11 : 1 ≤ x11 ∧ x11 ≤ 1) (k12 : 1 ≤ x12 ∧ x12 ≤ 40) (d0 : x10 + 1 ≤ x12 ∧ x12 ≤ x10 + 1) (f0 : ((0 ≤ x5) ∧ (x5 ≤ 23)) ∨ ((100 ≤ x5) ∧ (x5 ≤ 107))) (f1 : (1 ≤ x6) ∧ (x6 ≤ 2400)) (f4 : x12 = x10 + x11) (g5 : x10 = itemMany_1) (f6 : 1 * itemMany_1 + ((-1) * x3 + 0) ≤ 0) (f7 : ((0 ≤ x5) ∧ (x5 ≤ 23)) ∨ ((100 ≤ x5) ∧ (x5 ≤ 107))) (f8 : (1 ≤ x6) ∧ (x6 ≤ 2400)) (f9 : (0 ≤ x7) ∧ (x7 ≤ itemMany_1)) (f12 : 1 * itemMany_2 + ((-1) * x3 + 0) ≤ 0) (f13 : ((0 ≤ x5) ∧ (x5 ≤ 23)) ∨ ((100 ≤ x5) ∧ (x5 ≤ 107))) (f14 : (1 ≤ x6) ∧ (x6 ≤ 2400)) (f15 : (0 ≤ x7) ∧ (x7 ≤ itemMany_2)) (f18 : x7 ≤ 0) (f19 : 1 * itemMany_3 + ((-1) * x3 + 0) ≤ 0) (f20 : IT1 (itemMany_3) (itemOf_3) (itemSize_3) (x7)) (f21 : ((0 ≤ x5) ∧ (x5 ≤ 23)) ∨ ((100 ≤ x5) ∧ (x5 ≤ 107))) (f22 : (1 ≤ x6) ∧ (x6 ≤ 2400)) (f23 : (0 ≤ x7) ∧ (x7 ≤ itemMany_3)) (fe_0_132_1 : itemMany_0 = x12) (fe_0_132_2 : itemMany_1 = itemMany_2) (fe_0_132_3 : itemMany_2 = itemMany_3) (hE_0_130_1 : ∀ j : Int, itemOf_0 j = itemOf_1 j) (hE_0_130_2 : ∀ j : Int, itemOf_1 j = itemOf_2 j) (hE_0_130_3 : ∀ j : Int, 0 ≤ j → (j = x7 → itemOf_2 j = x5) ∧ (j ≠ x7 → itemOf_2 j = itemOf_3 j)) (hK_0_130 : ∀ j : Int, 0 ≤ j → j < 40 → 0 ≤ itemOf_0 j ∧ itemOf_0 j ≤ 131) (hE_0_131_1 : ∀ j : Int, itemSize_0 j = itemSize_1 j) (hE_0_131_2 : ∀ j : Int, 0 ≤ j → (j = x7 → itemSize_1 j = x6) ∧ (j ≠ x7 → itemSize_1 j = itemSize_2 j)) (hE_0_131_3 : ∀ j : Int, itemSize_2 j = itemSize_3 j) (hK_0_131 : ∀ j : Int, 0 ≤ j → j < 40 → 0 ≤ itemSize_0 j ∧ itemSize_0 j ≤ 4095) (kz_0_132 : 0 ≤ itemMany_0 ∧ itemMany_0 ≤ 40) : ITM (itemMany_0) (itemOf_0) (itemSize_0) := by
  subst fe_0_132_2
  subst fe_0_132_3
  have e_hE_0_130_1 := funext hE_0_130_1; subst e_hE_0_130_1
  have e_hE_0_130_2 := funext hE_0_130_2; subst e_hE_0_130_2
  have e_hE_0_131_1 := funext hE_0_131_1; subst e_hE_0_131_1
  have e_hE_0_131_3 := funext hE_0_131_3; subst e_hE_0_131_3
  first
    | exact it1_fin (x := x7) (v := x5) (w := x6) ‹IT1 _ _ _ _› (by omega) (by assumption) (by assumption) (by omega) (by omega) (by omega)
  
def o_Mo_gatherOne_3 : or_T := (79, 13, [(0, (2, 0, 0, [165])), (3, (0, 0, 39, [])), (5, (0, 0, 107, [])), (6, (0, 0, 4095, [])), (7, (0, 0, 0, [])), (8, (2, 0, 0, [260])), (9, (2, 0, 0, [261])), (10, (0, 0, 39, [])), (11, (0, 1, 1, [])), (12, (0, 1, 40, []))], [(20, [5], [50, 0, 0, 3, 14, 2, 6, 0, 2, 0, 0, 1, 0, 0, 2, 1, 0, 0, 23, 2, 6, 0, 2, 0, 100, 1, 0, 0, 2, 1, 0, 0, 107]), (20, [6], [50, 0, 0, 2, 6, 0, 2, 0, 1, 1, 0, 0, 2, 1, 0, 0, 2400]), (24, [0, 4], []), (101, [4, 12], [132]), (1, [12, 10, 11], []), (9, [10, 4], [132]), (20, [4, 3], [30, 0, 1, 1, 132, -1, 0, 0]), (20, [5], [50, 0, 0, 3, 14, 2, 6, 0, 2, 0, 0, 1, 0, 0, 2, 1, 0, 0, 23, 2, 6, 0, 2, 0, 100, 1, 0, 0, 2, 1, 0, 0, 107]), (20, [6], [50, 0, 0, 2, 6, 0, 2, 0, 1, 1, 0, 0, 2, 1, 0, 0, 2400]), (20, [7, 4], [50, 1, 0, 1132, 2, 6, 0, 2, 0, 0, 1, 0, 0, 2, 1, 0, 2, 1, 132]), (100, [9, 7, 6], []), (9, [9, 4], [131]), (20, [4, 3], [30, 0, 1, 1, 132, -1, 0, 0]), (20, [5], [50, 0, 0, 3, 14, 2, 6, 0, 2, 0, 0, 1, 0, 0, 2, 1, 0, 0, 23, 2, 6, 0, 2, 0, 100, 1, 0, 0, 2, 1, 0, 0, 107]), (20, [6], [50, 0, 0, 2, 6, 0, 2, 0, 1, 1, 0, 0, 2, 1, 0, 0, 2400]), (20, [7, 4], [50, 1, 0, 1132, 2, 6, 0, 2, 0, 0, 1, 0, 0, 2, 1, 0, 2, 1, 132]), (100, [8, 7, 5], []), (9, [8, 4], [130]), (8, [7], [5]), (20, [4, 3], [30, 0, 1, 1, 132, -1, 0, 0]), (20, [4, 7], [60, 1, 2, 774, 132, 130, 131]), (20, [5], [50, 0, 0, 3, 14, 2, 6, 0, 2, 0, 0, 1, 0, 0, 2, 1, 0, 0, 23, 2, 6, 0, 2, 0, 100, 1, 0, 0, 2, 1, 0, 0, 107]), (20, [6], [50, 0, 0, 2, 6, 0, 2, 0, 1, 1, 0, 0, 2, 1, 0, 0, 2400]), (20, [7, 4], [50, 1, 0, 1132, 2, 6, 0, 2, 0, 0, 1, 0, 0, 2, 1, 0, 2, 1, 132])], [], [], [(20, [0, 3], [30, 1, 1, 1, 132, -1, 0, 0]), (20, [0], [60, 1, 2, 773, 132, 130, 131])], [], [(12, 10, 1, 1)])
theorem oo_Mo_gatherOne_3 {kA : Nat → ClassId} : or_ok PRD kA GG o_Mo_gatherOne_3 := by
  refine or_mk fun A ta ws vs hD hth hl => ?_
  intro t0 r0 t3 k3 t5 k5 t6 k6 t7 k7 t8 r8 t9 r9 t10 k10 t11 k11 t12 k12 d0 f0 f1 f2 ta1 w1 le1 s1 f4 f5 f6 f7 f8 f9 ta2 w2 le2 s2 f11 f12 f13 f14 f15 ta3 w3 le3 s3 f17 f18 f19 f20 f21 f22 f23
  replace f2 := shm_5 f2
  have s1 : (∀ b j, w_el ws b j = w_el w1 b j) ∧ ∀ b j, w_fd ws b j = if b = v_ad (n_v vs 4) ∧ j = 132 then n_v vs 12 else w_fd w1 b j := s1.2
  replace f5 := shm_575 f5
  replace f6 := shm_576 f6
  replace f9 := shm_581 f9
  have s2 : (∀ b j, w_el w1 b j = if b = v_ad (n_v vs 9) ∧ j = (v_iv (n_v vs 7)).toNat then v_iv (n_v vs 6) else w_el w2 b j) ∧ ∀ b k, w_fd w1 b k = w_fd w2 b k := s2.2
  replace f11 := shm_582 f11
  replace f12 := shm_576 f12
  replace f15 := shm_581 f15
  have s3 : (∀ b j, w_el w2 b j = if b = v_ad (n_v vs 8) ∧ j = (v_iv (n_v vs 7)).toNat then v_iv (n_v vs 5) else w_el w3 b j) ∧ ∀ b k, w_fd w2 b k = w_fd w3 b k := s3.2
  replace f17 := shm_583 f17
  replace f19 := shm_576 f19
  replace f20 := shm_580 f20
  replace f23 := shm_581 f23
  have q4 : n_v vs 4 = n_v vs 0 := f2.symm
  rw [q4] at s1
  simp only [q4] at f5 f6 f9 f11 f12 f15 f17 f19 f20 f23
  have ar_0_130_1 : w_ar w1 (n_v vs 0) 130 = w_ar ws (n_v vs 0) 130 := by show v_ad (w_fd w1 _ _) = v_ad (w_fd ws _ _); rw [s1.2, if_neg (fun e => absurd e.2 (by decide))]
  have ar_0_130_2 : w_ar w2 (n_v vs 0) 130 = w_ar ws (n_v vs 0) 130 := by rw [← ar_0_130_1]; show v_ad (w_fd w2 _ _) = v_ad (w_fd w1 _ _); rw [s2.2]
  have ar_0_130_3 : w_ar w3 (n_v vs 0) 130 = w_ar ws (n_v vs 0) 130 := by rw [← ar_0_130_2]; show v_ad (w_fd w3 _ _) = v_ad (w_fd w2 _ _); rw [s3.2]
  have cr_0_130 := fdq_149 hD hth r0
  have ar_0_131_1 : w_ar w1 (n_v vs 0) 131 = w_ar ws (n_v vs 0) 131 := by show v_ad (w_fd w1 _ _) = v_ad (w_fd ws _ _); rw [s1.2, if_neg (fun e => absurd e.2 (by decide))]
  have ar_0_131_2 : w_ar w2 (n_v vs 0) 131 = w_ar ws (n_v vs 0) 131 := by rw [← ar_0_131_1]; show v_ad (w_fd w2 _ _) = v_ad (w_fd w1 _ _); rw [s2.2]
  have ar_0_131_3 : w_ar w3 (n_v vs 0) 131 = w_ar ws (n_v vs 0) 131 := by rw [← ar_0_131_2]; show v_ad (w_fd w3 _ _) = v_ad (w_fd w2 _ _); rw [s3.2]
  have cr_0_131 := fdq_150 hD hth r0
  have ad_9 : v_ad (n_v vs 9) = w_ar ws (n_v vs 0) 131 := (congrArg v_ad f11).trans ar_0_131_2
  have ad_8 : v_ad (n_v vs 8) = w_ar ws (n_v vs 0) 130 := (congrArg v_ad f17).trans ar_0_130_3
  have g5 : v_iv (n_v vs 10) = w_fi w1 (n_v vs 0) 132 := congrArg v_iv f5
  simp only [ar_0_130_3, ar_0_131_3] at f20
  have fe_0_132_1 : w_fi ws (n_v vs 0) 132 = v_iv (n_v vs 12) := by show v_iv (w_fd _ _ _) = _; rw [s1.2, if_pos ⟨rfl, rfl⟩]
  have fe_0_132_2 : w_fi w1 (n_v vs 0) 132 = w_fi w2 (n_v vs 0) 132 := congrArg v_iv (s2.2 _ _)
  have fe_0_132_3 : w_fi w2 (n_v vs 0) 132 = w_fi w3 (n_v vs 0) 132 := congrArg v_iv (s3.2 _ _)
  have hE_0_130_1 : ∀ j : Int, w_ei ws (w_ar ws (n_v vs 0) 130) j = w_ei w1 (w_ar ws (n_v vs 0) 130) j := fun j => s1.1 _ _
  have hE_0_130_2 : ∀ j : Int, w_ei w1 (w_ar ws (n_v vs 0) 130) j = w_ei w2 (w_ar ws (n_v vs 0) 130) j := el_kp s2.1 r9 cr_0_130 (by decide)
  have hE_0_130_3 : ∀ j : Int, 0 ≤ j → (j = v_iv (n_v vs 7) → w_ei w2 (w_ar ws (n_v vs 0) 130) j = v_iv (n_v vs 5)) ∧ (j ≠ v_iv (n_v vs 7) → w_ei w2 (w_ar ws (n_v vs 0) 130) j = w_ei w3 (w_ar ws (n_v vs 0) 130) j) := fun j hj => ⟨fun h => by unfold w_ei; rw [s3.1, if_pos ⟨ad_8.symm, by rw [h]⟩], fun h => by unfold w_ei; rw [s3.1, if_neg (fun e => h (by have := e.2; omega))]⟩
  have hK_0_130 := elq_81 hD hth cr_0_130
  have hE_0_131_1 : ∀ j : Int, w_ei ws (w_ar ws (n_v vs 0) 131) j = w_ei w1 (w_ar ws (n_v vs 0) 131) j := fun j => s1.1 _ _
  have hE_0_131_2 : ∀ j : Int, 0 ≤ j → (j = v_iv (n_v vs 7) → w_ei w1 (w_ar ws (n_v vs 0) 131) j = v_iv (n_v vs 6)) ∧ (j ≠ v_iv (n_v vs 7) → w_ei w1 (w_ar ws (n_v vs 0) 131) j = w_ei w2 (w_ar ws (n_v vs 0) 131) j) := fun j hj => ⟨fun h => by unfold w_ei; rw [s2.1, if_pos ⟨ad_9.symm, by rw [h]⟩], fun h => by unfold w_ei; rw [s2.1, if_neg (fun e => h (by have := e.2; omega))]⟩
  have hE_0_131_3 : ∀ j : Int, w_ei w2 (w_ar ws (n_v vs 0) 131) j = w_ei w3 (w_ar ws (n_v vs 0) 131) j := el_kp s3.1 r8 cr_0_131 (by decide)
  have hK_0_131 := elq_82 hD hth cr_0_131
  have kz_0_132 := fdq_151 hD hth r0
  have nf0 : fc_1 PRD (20, [0, 3], [30, 1, 1, 1, 132, -1, 0, 0]) ws (vs) := ⟨nf_in hl rfl, sgq_584 (vc_Mo_gatherOne_3_0 (v_iv (n_v vs 3)) (v_iv (n_v vs 5)) (v_iv (n_v vs 6)) (v_iv (n_v vs 7)) (v_iv (n_v vs 10)) (v_iv (n_v vs 11)) (v_iv (n_v vs 12)) (w_fi w1 (n_v vs 0) 132) (w_fi w2 (n_v vs 0) 132) (w_fi w3 (n_v vs 0) 132) (w_ei w3 (w_ar ws (n_v vs 0) 130)) (w_ei w3 (w_ar ws (n_v vs 0) 131)) (w_fi ws (n_v vs 0) 132) (w_ei ws (w_ar ws (n_v vs 0) 130)) (w_ei w1 (w_ar ws (n_v vs 0) 130)) (w_ei w2 (w_ar ws (n_v vs 0) 130)) (w_ei ws (w_ar ws (n_v vs 0) 131)) (w_ei w1 (w_ar ws (n_v vs 0) 131)) (w_ei w2 (w_ar ws (n_v vs 0) 131)) k3 k5 k6 k7 k10 k11 k12 d0 (shm_578 f0) (shm_579 f1) (shm_12 f4) g5 f6 (shm_578 f7) (shm_579 f8) f9 f12 (shm_578 f13) (shm_579 f14) f15 (shm_142 f18) f19 f20 (shm_578 f21) (shm_579 f22) f23 fe_0_132_1 fe_0_132_2 fe_0_132_3 hE_0_130_1 hE_0_130_2 hE_0_130_3 hK_0_130 hE_0_131_1 hE_0_131_2 hE_0_131_3 hK_0_131 kz_0_132)⟩
  have nf1 : fc_1 PRD (20, [0], [60, 1, 2, 773, 132, 130, 131]) ws (vs) := ⟨nf_in hl rfl, sgq_577 (vc_Mo_gatherOne_3_1 (v_iv (n_v vs 3)) (v_iv (n_v vs 5)) (v_iv (n_v vs 6)) (v_iv (n_v vs 7)) (v_iv (n_v vs 10)) (v_iv (n_v vs 11)) (v_iv (n_v vs 12)) (w_fi w1 (n_v vs 0) 132) (w_fi w2 (n_v vs 0) 132) (w_fi w3 (n_v vs 0) 132) (w_ei w3 (w_ar ws (n_v vs 0) 130)) (w_ei w3 (w_ar ws (n_v vs 0) 131)) (w_fi ws (n_v vs 0) 132) (w_ei ws (w_ar ws (n_v vs 0) 130)) (w_ei w1 (w_ar ws (n_v vs 0) 130)) (w_ei w2 (w_ar ws (n_v vs 0) 130)) (w_ei ws (w_ar ws (n_v vs 0) 131)) (w_ei w1 (w_ar ws (n_v vs 0) 131)) (w_ei w2 (w_ar ws (n_v vs 0) 131)) k3 k5 k6 k7 k10 k11 k12 d0 (shm_578 f0) (shm_579 f1) (shm_12 f4) g5 f6 (shm_578 f7) (shm_579 f8) f9 f12 (shm_578 f13) (shm_579 f14) f15 (shm_142 f18) f19 f20 (shm_578 f21) (shm_579 f22) f23 fe_0_132_1 fe_0_132_2 fe_0_132_3 hE_0_130_1 hE_0_130_2 hE_0_130_3 hK_0_130 hE_0_131_1 hE_0_131_2 hE_0_131_3 hK_0_131 kz_0_132)⟩
  refine ⟨(fun _ h => (by cases h)), [], trivial, ?_, (fun _ h => (by cases h))⟩
  rw [List.append_nil]
  exact List.forall_mem_cons.mpr ⟨⟨show (20 : Nat) < 100 from by decide, nf0⟩, List.forall_mem_cons.mpr ⟨⟨show (20 : Nat) < 100 from by decide, nf1⟩, (fun _ h => (by cases h))⟩⟩
set_option maxHeartbeats 4000000 in
theorem vc_Mo_gatherOne_4_r0 (x3 : Int) (x5 : Int) (x6 : Int) (x7 : Int) (x9 : Int) (x10 : Int) (x11 : Int) (x13 : Int) (itemMany_0 : Int) (itemMany_1 : Int) (itemSize_2 : Int → Int) (itemMany_2 : Int) (itemOf_2 : Int → Int) (itemOf_0 : Int → Int) (itemOf_1 : Int → Int) (itemSize_0 : Int → Int) (itemSize_1 : Int → Int) (k3 : 0 ≤ x3 ∧ x3 ≤ 39) (k5 : 0 ≤ x5 ∧ x5 ≤ 107) (k6 : 0 ≤ x6 ∧ x6 ≤ 4095) (k7 : 1 ≤ x7 ∧ x7 ≤ 39) (k9 : 1 ≤ x9 ∧ x9 ≤ 1) (k10 : 0 ≤ x10 ∧ x10 ≤ 38) (k11 : 0 ≤ x11 ∧ x11 ≤ 4095) (k13 : 0 ≤ x13 ∧ x13 ≤ 40) (d0 : x6 + 0 ≤ x11 ∧ x11 ≤ x6 + 4294967296) (d1 : x7 + (-1) ≤ x10 ∧ x10 ≤ x7 + (-1)) (g0 : x13 = itemMany_0) (f1 : 1 * itemMany_0 + ((-1) * x3 + 0) ≤ 0) (f2 : ((0 ≤ x5) ∧ (x5 ≤ 23)) ∨ ((100 ≤ x5) ∧ (x5 ≤ 107))) (f3 : (1 ≤ x6) ∧ (x6 ≤ 2400)) (f4 : (0 ≤ x7) ∧ (x7 ≤ itemMany_0)) (f8 : 1 * itemMany_1 + ((-1) * x3 + 0) ≤ 0) (f9 : ((0 ≤ x5) ∧ (x5 ≤ 23)) ∨ ((100 ≤ x5) ∧ (x5 ≤ 107))) (f10 : (1 ≤ x6) ∧ (x6 ≤ 2400)) (f11 : (0 ≤ x7) ∧ (x7 ≤ itemMany_1)) (f14 : x6 ≤ x11) (h15 : x11 = itemSize_2 (x10)) (f16 : x10 = x7 - x9) (f17 : 0 < x7) (f18 : 1 * itemMany_2 + ((-1) * x3 + 0) ≤ 0) (f19 : IT1 (itemMany_2) (itemOf_2) (itemSize_2) (x7)) (f20 : ((0 ≤ x5) ∧ (x5 ≤ 23)) ∨ ((100 ≤ x5) ∧ (x5 ≤ 107))) (f21 : (1 ≤ x6) ∧ (x6 ≤ 2400)) (f22 : (0 ≤ x7) ∧ (x7 ≤ itemMany_2)) (fe_0_132_1 : itemMany_0 = itemMany_1) (fe_0_132_2 : itemMany_1 = itemMany_2) (hE_0_130_1 : ∀ j : Int, itemOf_0 j = itemOf_1 j) (hE_0_130_2 : ∀ j : Int, 0 ≤ j → (j = x7 → itemOf_1 j = x5) ∧ (j ≠ x7 → itemOf_1 j = itemOf_2 j)) (hK_0_130 : ∀ j : Int, 0 ≤ j → j < 40 → 0 ≤ itemOf_0 j ∧ itemOf_0 j ≤ 131) (hE_0_131_1 : ∀ j : Int, 0 ≤ j → (j = x7 → itemSize_0 j = x6) ∧ (j ≠ x7 → itemSize_0 j = itemSize_1 j)) (hE_0_131_2 : ∀ j : Int, itemSize_1 j = itemSize_2 j) (hK_0_131 : ∀ j : Int, 0 ≤ j → j < 40 → 0 ≤ itemSize_0 j ∧ itemSize_0 j ≤ 4095) (kz_0_132 : 0 ≤ itemMany_0 ∧ itemMany_0 ≤ 40) : 0 ≤ x13 ∧ x13 ≤ 39 := by
  subst fe_0_132_1
  subst fe_0_132_2
  have e_hE_0_130_1 := funext hE_0_130_1; subst e_hE_0_130_1
  have e_hE_0_131_2 := funext hE_0_131_2; subst e_hE_0_131_2
  omega
def o_Mo_gatherOne_4 : or_T := (74, 14, [(0, (2, 0, 0, [165])), (3, (0, 0, 39, [])), (4, (2, 0, 0, [165])), (5, (0, 0, 107, [])), (6, (0, 0, 4095, [])), (7, (0, 1, 39, [])), (8, (2, 0, 0, [261])), (9, (0, 1, 1, [])), (10, (0, 0, 38, [])), (11, (0, 0, 4095, [])), (12, (2, 0, 0, [260])), (13, (0, 0, 40, []))], [(9, [13, 4], [132]), (20, [4, 3], [30, 0, 1, 1, 132, -1, 0, 0]), (20, [5], [50, 0, 0, 3, 14, 2, 6, 0, 2, 0, 0, 1, 0, 0, 2, 1, 0, 0, 23, 2, 6, 0, 2, 0, 100, 1, 0, 0, 2, 1, 0, 0, 107]), (20, [6], [50, 0, 0, 2, 6, 0, 2, 0, 1, 1, 0, 0, 2, 1, 0, 0, 2400]), (20, [7, 4], [50, 1, 0, 1132, 2, 6, 0, 2, 0, 0, 1, 0, 0, 2, 1, 0, 2, 1, 132]), (24, [0, 4], []), (100, [8, 7, 6], []), (9, [8, 4], [131]), (20, [4, 3], [30, 0, 1, 1, 132, -1, 0, 0]), (20, [5], [50, 0, 0, 3, 14, 2, 6, 0, 2, 0, 0, 1, 0, 0, 2, 1, 0, 0, 23, 2, 6, 0, 2, 0, 100, 1, 0, 0, 2, 1, 0, 0, 107]), (20, [6], [50, 0, 0, 2, 6, 0, 2, 0, 1, 1, 0, 0, 2, 1, 0, 0, 2400]), (20, [7, 4], [50, 1, 0, 1132, 2, 6, 0, 2, 0, 0, 1, 0, 0, 2, 1, 0, 2, 1, 132]), (100, [12, 7, 5], []), (9, [12, 4], [130]), (7, [11, 6], [3]), (10, [11, 8, 10], []), (2, [10, 7, 9], []), (8, [7], [4]), (20, [4, 3], [30, 0, 1, 1, 132, -1, 0, 0]), (20, [4, 7], [60, 1, 2, 774, 132, 130, 131]), (20, [5], [50, 0, 0, 3, 14, 2, 6, 0, 2, 0, 0, 1, 0, 0, 2, 1, 0, 0, 23, 2, 6, 0, 2, 0, 100, 1, 0, 0, 2, 1, 0, 0, 107]), (20, [6], [50, 0, 0, 2, 6, 0, 2, 0, 1, 1, 0, 0, 2, 1, 0, 0, 2400]), (20, [7, 4], [50, 1, 0, 1132, 2, 6, 0, 2, 0, 0, 1, 0, 0, 2, 1, 0, 2, 1, 132])], [(13, (0, 0, 39, []))], [], [], [], [(11, 6, 0, 4294967296), (10, 7, -1, -1)])
theorem oo_Mo_gatherOne_4 {kA : Nat → ClassId} : or_ok PRD kA GG o_Mo_gatherOne_4 := by
  refine or_mk fun A ta ws vs hD hth hl => ?_
  intro t0 r0 t3 k3 t4 r4 t5 k5 t6 k6 t7 k7 t8 r8 t9 k9 t10 k10 t11 k11 t12 r12 t13 k13 d0 d1 f0 f1 f2 f3 f4 f5 ta1 w1 le1 s1 f7 f8 f9 f10 f11 ta2 w2 le2 s2 f13 f14 f15 f16 f17 f18 f19 f20 f21 f22
  replace f0 := shm_575 f0
  replace f1 := shm_576 f1
  replace f4 := shm_581 f4
  replace f5 := shm_5 f5
  have s1 : (∀ b j, w_el ws b j = if b = v_ad (n_v vs 8) ∧ j = (v_iv (n_v vs 7)).toNat then v_iv (n_v vs 6) else w_el w1 b j) ∧ ∀ b k, w_fd ws b k = w_fd w1 b k := s1.2
  replace f7 := shm_582 f7
  replace f8 := shm_576 f8
  replace f11 := shm_581 f11
  have s2 : (∀ b j, w_el w1 b j = if b = v_ad (n_v vs 12) ∧ j = (v_iv (n_v vs 7)).toNat then v_iv (n_v vs 5) else w_el w2 b j) ∧ ∀ b k, w_fd w1 b k = w_fd w2 b k := s2.2
  replace f13 := shm_583 f13
  replace f15 := shm_106 f15
  replace f18 := shm_576 f18
  replace f19 := shm_580 f19
  replace f22 := shm_581 f22
  have q4 : n_v vs 4 = n_v vs 0 := f5.symm
  simp only [q4] at f0 f1 f4 f7 f8 f11 f13 f18 f19 f22
  have ar_0_130_1 : w_ar w1 (n_v vs 0) 130 = w_ar ws (n_v vs 0) 130 := congrArg v_ad (s1.2 _ _).symm
  have ar_0_130_2 : w_ar w2 (n_v vs 0) 130 = w_ar ws (n_v vs 0) 130 := by rw [← ar_0_130_1]; show v_ad (w_fd w2 _ _) = v_ad (w_fd w1 _ _); rw [s2.2]
  have cr_0_130 := fdq_149 hD hth r0
  have ar_0_131_1 : w_ar w1 (n_v vs 0) 131 = w_ar ws (n_v vs 0) 131 := congrArg v_ad (s1.2 _ _).symm
  have ar_0_131_2 : w_ar w2 (n_v vs 0) 131 = w_ar ws (n_v vs 0) 131 := by rw [← ar_0_131_1]; show v_ad (w_fd w2 _ _) = v_ad (w_fd w1 _ _); rw [s2.2]
  have cr_0_131 := fdq_150 hD hth r0
  have ad_8 : v_ad (n_v vs 8) = w_ar ws (n_v vs 0) 131 := (congrArg v_ad f7).trans ar_0_131_1
  have ad_12 : v_ad (n_v vs 12) = w_ar ws (n_v vs 0) 130 := (congrArg v_ad f13).trans ar_0_130_2
  have g0 : v_iv (n_v vs 13) = w_fi ws (n_v vs 0) 132 := congrArg v_iv f0
  simp only [ad_8] at f15
  have h15 : v_iv (n_v vs 11) = w_ei w2 (w_ar ws (n_v vs 0) 131) (v_iv (n_v vs 10)) := f15
  simp only [ar_0_130_2, ar_0_131_2] at f19
  have fe_0_132_1 : w_fi ws (n_v vs 0) 132 = w_fi w1 (n_v vs 0) 132 := congrArg v_iv (s1.2 _ _)
  have fe_0_132_2 : w_fi w1 (n_v vs 0) 132 = w_fi w2 (n_v vs 0) 132 := congrArg v_iv (s2.2 _ _)
  have hE_0_130_1 : ∀ j : Int, w_ei ws (w_ar ws (n_v vs 0) 130) j = w_ei w1 (w_ar ws (n_v vs 0) 130) j := el_kp s1.1 r8 cr_0_130 (by decide)
  have hE_0_130_2 : ∀ j : Int, 0 ≤ j → (j = v_iv (n_v vs 7) → w_ei w1 (w_ar ws (n_v vs 0) 130) j = v_iv (n_v vs 5)) ∧ (j ≠ v_iv (n_v vs 7) → w_ei w1 (w_ar ws (n_v vs 0) 130) j = w_ei w2 (w_ar ws (n_v vs 0) 130) j) := fun j hj => ⟨fun h => by unfold w_ei; rw [s2.1, if_pos ⟨ad_12.symm, by rw [h]⟩], fun h => by unfold w_ei; rw [s2.1, if_neg (fun e => h (by have := e.2; omega))]⟩
  have hK_0_130 := elq_81 hD hth cr_0_130
  have hE_0_131_1 : ∀ j : Int, 0 ≤ j → (j = v_iv (n_v vs 7) → w_ei ws (w_ar ws (n_v vs 0) 131) j = v_iv (n_v vs 6)) ∧ (j ≠ v_iv (n_v vs 7) → w_ei ws (w_ar ws (n_v vs 0) 131) j = w_ei w1 (w_ar ws (n_v vs 0) 131) j) := fun j hj => ⟨fun h => by unfold w_ei; rw [s1.1, if_pos ⟨ad_8.symm, by rw [h]⟩], fun h => by unfold w_ei; rw [s1.1, if_neg (fun e => h (by have := e.2; omega))]⟩
  have hE_0_131_2 : ∀ j : Int, w_ei w1 (w_ar ws (n_v vs 0) 131) j = w_ei w2 (w_ar ws (n_v vs 0) 131) j := el_kp s2.1 r12 cr_0_131 (by decide)
  have hK_0_131 := elq_82 hD hth cr_0_131
  have kz_0_132 := fdq_151 hD hth r0
  have hrf0 : 0 ≤ v_iv (n_v vs 13) ∧ v_iv (n_v vs 13) ≤ 39 := vc_Mo_gatherOne_4_r0 (v_iv (n_v vs 3)) (v_iv (n_v vs 5)) (v_iv (n_v vs 6)) (v_iv (n_v vs 7)) (v_iv (n_v vs 9)) (v_iv (n_v vs 10)) (v_iv (n_v vs 11)) (v_iv (n_v vs 13)) (w_fi ws (n_v vs 0) 132) (w_fi w1 (n_v vs 0) 132) (w_ei w2 (w_ar ws (n_v vs 0) 131)) (w_fi w2 (n_v vs 0) 132) (w_ei w2 (w_ar ws (n_v vs 0) 130)) (w_ei ws (w_ar ws (n_v vs 0) 130)) (w_ei w1 (w_ar ws (n_v vs 0) 130)) (w_ei ws (w_ar ws (n_v vs 0) 131)) (w_ei w1 (w_ar ws (n_v vs 0) 131)) k3 k5 k6 k7 k9 k10 k11 k13 d0 d1 g0 f1 (shm_578 f2) (shm_579 f3) f4 f8 (shm_578 f9) (shm_579 f10) f11 (shm_2 f14) h15 (shm_14 f16) (shm_145 f17) f18 f19 (shm_578 f20) (shm_579 f21) f22 fe_0_132_1 fe_0_132_2 hE_0_130_1 hE_0_130_2 hK_0_130 hE_0_131_1 hE_0_131_2 hK_0_131 kz_0_132
  have rf13 : tv_ok ta (0, 0, 39, []) (n_v vs 13) := tv_in t13 (by first | omega | grind) (by first | omega | grind)
  refine ⟨List.forall_mem_cons.mpr ⟨rf13, (fun _ h => (by cases h))⟩, [], trivial, ?_, (fun _ h => (by cases h))⟩
  rw [List.append_nil]
  exact (fun _ h => (by cases h))
set_option maxHeartbeats 4000000 in
theorem vc_Mo_gatherOne_5_0 (x3 : Int) (x5 : Int) (x6 : Int) (x7 : Int) (x9 : Int) (x10 : Int) (x11 : Int) (x13 : Int) (x14 : Int) (x15 : Int) (itemMany_1 : Int) (itemMany_2 : Int) (itemSize_3 : Int → Int) (itemMany_3 : Int) (itemOf_3 : Int → Int) (itemMany_0 : Int) (itemOf_0 : Int → Int) (itemOf_1 : Int → Int) (itemOf_2 : Int → Int) (itemSize_0 : Int → Int) (itemSize_1 : Int → Int) (itemSize_2 : Int → Int) (k3 : 0 ≤ x3 ∧ x3 ≤ 39) (k5 : 0 ≤ x5 ∧ x5 ≤ 107) (k6 : 0 ≤ x6 ∧ x6 ≤ 4095) (k7 : 1 ≤ x7 ∧ x7 ≤ 39) (k9 : 1 ≤ x9 ∧ x9 ≤ 1) (k10 : 0 ≤ x10 ∧ x10 ≤ 38) (k11 : 0 ≤ x11 ∧ x11 ≤ 4095) (k13 : 0 ≤ x13 ∧ x13 ≤ 39) (k14 : 1 ≤ x14 ∧ x14 ≤ 1) (k15 : 1 ≤ x15 ∧ x15 ≤ 40) (d0 : x13 + 1 ≤ x15 ∧ x15 ≤ x13 + 1) (d1 : x6 + 0 ≤ x11 ∧ x11 ≤ x6 + 4294967296) (d2 : x7 + (-1) ≤ x10 ∧ x10 ≤ x7 + (-1)) (f0 : ((0 ≤ x5) ∧ (x5 ≤ 23)) ∨ ((100 ≤ x5) ∧ (x5 ≤ 107))) (f1 : (1 ≤ x6) ∧ (x6 ≤ 2400)) (f4 : x15 = x13 + x14) (g5 : x13 = itemMany_1) (f6 : 1 * itemMany_1 + ((-1) * x3 + 0) ≤ 0) (f7 : ((0 ≤ x5) ∧ (x5 ≤ 23)) ∨ ((100 ≤ x5) ∧ (x5 ≤ 107))) (f8 : (1 ≤ x6) ∧ (x6 ≤ 2400)) (f9 : (0 ≤ x7) ∧ (x7 ≤ itemMany_1)) (f12 : 1 * itemMany_2 + ((-1) * x3 + 0) ≤ 0) (f13 : ((0 ≤ x5) ∧ (x5 ≤ 23)) ∨ ((100 ≤ x5) ∧ (x5 ≤ 107))) (f14 : (1 ≤ x6) ∧ (x6 ≤ 2400)) (f15 : (0 ≤ x7) ∧ (x7 ≤ itemMany_2)) (f18 : x6 ≤ x11) (h19 : x11 = itemSize_3 (x10)) (f20 : x10 = x7 - x9) (f21 : 0 < x7) (f22 : 1 * itemMany_3 + ((-1) * x3 + 0) ≤ 0) (f23 : IT1 (itemMany_3) (itemOf_3) (itemSize_3) (x7)) (f24 : ((0 ≤ x5) ∧ (x5 ≤ 23)) ∨ ((100 ≤ x5) ∧ (x5 ≤ 107))) (f25 : (1 ≤ x6) ∧ (x6 ≤ 2400)) (f26 : (0 ≤ x7) ∧ (x7 ≤ itemMany_3)) (fe_0_132_1 : itemMany_0 = x15) (fe_0_132_2 : itemMany_1 = itemMany_2) (fe_0_132_3 : itemMany_2 = itemMany_3) (hE_0_130_1 : ∀ j : Int, itemOf_0 j = itemOf_1 j) (hE_0_130_2 : ∀ j : Int, itemOf_1 j = itemOf_2 j) (hE_0_130_3 : ∀ j : Int, 0 ≤ j → (j = x7 → itemOf_2 j = x5) ∧ (j ≠ x7 → itemOf_2 j = itemOf_3 j)) (hK_0_130 : ∀ j : Int, 0 ≤ j → j < 40 → 0 ≤ itemOf_0 j ∧ itemOf_0 j ≤ 131) (hE_0_131_1 : ∀ j : Int, itemSize_0 j = itemSize_1 j) (hE_0_131_2 : ∀ j : Int, 0 ≤ j → (j = x7 → itemSize_1 j = x6) ∧ (j ≠ x7 → itemSize_1 j = itemSize_2 j)) (hE_0_131_3 : ∀ j : Int, itemSize_2 j = itemSize_3 j) (hK_0_131 : ∀ j : Int, 0 ≤ j → j < 40 → 0 ≤ itemSize_0 j ∧ itemSize_0 j ≤ 4095) (kz_0_132 : 0 ≤ itemMany_0 ∧ itemMany_0 ≤ 40) : 1 * itemMany_0 + ((-1) * x3 + 0) ≤ 1 := by
  subst fe_0_132_2
  subst fe_0_132_3
  have e_hE_0_130_1 := funext hE_0_130_1; subst e_hE_0_130_1
  have e_hE_0_130_2 := funext hE_0_130_2; subst e_hE_0_130_2
  have e_hE_0_131_1 := funext hE_0_131_1; subst e_hE_0_131_1
  have e_hE_0_131_3 := funext hE_0_131_3; subst e_hE_0_131_3
  omega
set_option maxHeartbeats 4000000 in
theorem vc_Mo_gatherOne_5_1 (x3 : Int) (x5 : Int) (x6 : Int) (x7 : Int) (x9 : Int) (x10 : Int) (x11 : Int) (x13 : Int) (x14 : Int) (x15 : Int) (itemMany_1 : Int) (itemMany_2 : Int) (itemSize_3 : Int → Int) (itemMany_3 : Int) (itemOf_3 : Int → Int) (itemMany_0 : Int) (itemOf_0 : Int → Int) (itemOf_1 : Int → Int) (itemOf_2 : Int → Int) (itemSize_0 : Int → Int) (itemSize_1 : Int → Int) (itemSize_2 : Int → Int) (k3 : 0 ≤ x3 ∧ x3 ≤ 39) (k5 : 0 ≤ x5 ∧ x5 ≤ 107) (k6 : 0 ≤ x6 ∧ x6 ≤ 4095) (k7 : 1 ≤ x7 ∧ x7 ≤ 39) (k9 : 1 ≤ x9 ∧ x9 ≤ 1) (k10 : 0 ≤ x10 ∧ x10 ≤ 38) (k11 : 0 ≤ x11 ∧ x11 ≤ 4095) (k13 : 0 ≤ x13 ∧ x13 ≤ 39) (k14 : 1 ≤ x14 ∧ x14 ≤ 1) (k15 : 1 ≤ x15 ∧ x15 ≤ 40) (d0 : x13 + 1 ≤ x15 ∧ x15 ≤ x13 + 1) (d1 : x6 + 0 ≤ x11 ∧ x11 ≤ x6 + 4294967296) (d2 : x7 + (-1) ≤ x10 ∧ x10 ≤ x7 + (-1)) (f0 : ((0 ≤ x5) ∧ (x5 ≤ 23)) ∨ ((100 ≤ x5) ∧ (x5 ≤ 107))) (f1 : (1 ≤ x6) ∧ (x6 ≤ 2400)) (f4 : x15 = x13 + x14) (g5 : x13 = itemMany_1) (f6 : 1 * itemMany_1 + ((-1) * x3 + 0) ≤ 0) (f7 : ((0 ≤ x5) ∧ (x5 ≤ 23)) ∨ ((100 ≤ x5) ∧ (x5 ≤ 107))) (f8 : (1 ≤ x6) ∧ (x6 ≤ 2400)) (f9 : (0 ≤ x7) ∧ (x7 ≤ itemMany_1)) (f12 : 1 * itemMany_2 + ((-1) * x3 + 0) ≤ 0) (f13 : ((0 ≤ x5) ∧ (x5 ≤ 23)) ∨ ((100 ≤ x5) ∧ (x5 ≤ 107))) (f14 : (1 ≤ x6) ∧ (x6 ≤ 2400)) (f15 : (0 ≤ x7) ∧ (x7 ≤ itemMany_2)) (f18 : x6 ≤ x11) (h19 : x11 = itemSize_3 (x10)) (f20 : x10 = x7 - x9) (f21 : 0 < x7) (f22 : 1 * itemMany_3 + ((-1) * x3 + 0) ≤ 0) (f23 : IT1 (itemMany_3) (itemOf_3) (itemSize_3) (x7)) (f24 : ((0 ≤ x5) ∧ (x5 ≤ 23)) ∨ ((100 ≤ x5) ∧ (x5 ≤ 107))) (f25 : (1 ≤ x6) ∧ (x6 ≤ 2400)) (f26 : (0 ≤ x7) ∧ (x7 ≤ itemMany_3)) (fe_0_132_1 : itemMany_0 = x15) (fe_0_132_2 : itemMany_1 = itemMany_2) (fe_0_132_3 : itemMany_2 = itemMany_3) (hE_0_130_1 : ∀ j : Int, itemOf_0 j = itemOf_1 j) (hE_0_130_2 : ∀ j : Int, itemOf_1 j = itemOf_2 j) (hE_0_130_3 : ∀ j : Int, 0 ≤ j → (j = x7 → itemOf_2 j = x5) ∧ (j ≠ x7 → itemOf_2 j = itemOf_3 j)) (hK_0_130 : ∀ j : Int, 0 ≤ j → j < 40 → 0 ≤ itemOf_0 j ∧ itemOf_0 j ≤ 131) (hE_0_131_1 : ∀ j : Int, itemSize_0 j = itemSize_1 j) (hE_0_131_2 : ∀ j : Int, 0 ≤ j → (j = x7 → itemSize_1 j = x6) ∧ (j ≠ x7 → itemSize_1 j = itemSize_2 j)) (hE_0_131_3 : ∀ j : Int, itemSize_2 j = itemSize_3 j) (hK_0_131 : ∀ j : Int, 0 ≤ j → j < 40 → 0 ≤ itemSize_0 j ∧ itemSize_0 j ≤ 4095) (kz_0_132 : 0 ≤ itemMany_0 ∧ itemMany_0 ≤ 40) : ITM (itemMany_0) (itemOf_0) (itemSize_0) := by
  subst fe_0_132_2
  subst fe_0_132_3
  have e_hE_0_130_1 := funext hE_0_130_1; subst e_hE_0_130_1
  have e_hE_0_130_2 := funext hE_0_130_2; subst e_hE_0_130_2
  have e_hE_0_131_1 := funext hE_0_131_1; subst e_hE_0_131_1
  have e_hE_0_131_3 := funext hE_0_131_3; subst e_hE_0_131_3
  first
    | exact it1_fin (x := x7) (v := x5) (w := x6) ‹IT1 _ _ _ _› (by omega) (by assumption) (by assumption) (by omega) (by omega) (by omega)
  
def o_Mo_gatherOne_5 : or_T := (79, 16, [(0, (2, 0, 0, [165])), (3, (0, 0, 39, [])), (5, (0, 0, 107, [])), (6, (0, 0, 4095, [])), (7, (0, 1, 39, [])), (8, (2, 0, 0, [261])), (9, (0, 1, 1, [])), (10, (0, 0, 38, [])), (11, (0, 0, 4095, [])), (12, (2, 0, 0, [260])), (13, (0, 0, 39, [])), (14, (0, 1, 1, [])), (15, (0, 1, 40, []))], [(20, [5], [50, 0, 0, 3, 14, 2, 6, 0, 2, 0, 0, 1, 0, 0, 2, 1, 0, 0, 23, 2, 6, 0, 2, 0, 100, 1, 0, 0, 2, 1, 0, 0, 107]), (20, [6], [50, 0, 0, 2, 6, 0, 2, 0, 1, 1, 0, 0, 2, 1, 0, 0, 2400]), (24, [0, 4], []), (101, [4, 15], [132]), (1, [15, 13, 14], []), (9, [13, 4], [132]), (20, [4, 3], [30, 0, 1, 1, 132, -1, 0, 0]), (20, [5], [50, 0, 0, 3, 14, 2, 6, 0, 2, 0, 0, 1, 0, 0, 2, 1, 0, 0, 23, 2, 6, 0, 2, 0, 100, 1, 0, 0, 2, 1, 0, 0, 107]), (20, [6], [50, 0, 0, 2, 6, 0, 2, 0, 1, 1, 0, 0, 2, 1, 0, 0, 2400]), (20, [7, 4], [50, 1, 0, 1132, 2, 6, 0, 2, 0, 0, 1, 0, 0, 2, 1, 0, 2, 1, 132]), (100, [8, 7, 6], []), (9, [8, 4], [131]), (20, [4, 3], [30, 0, 1, 1, 132, -1, 0, 0]), (20, [5], [50, 0, 0, 3, 14, 2, 6, 0, 2, 0, 0, 1, 0, 0, 2, 1, 0, 0, 23, 2, 6, 0, 2, 0, 100, 1, 0, 0, 2, 1, 0, 0, 107]), (20, [6], [50, 0, 0, 2, 6, 0, 2, 0, 1, 1, 0, 0, 2, 1, 0, 0, 2400]), (20, [7, 4], [50, 1, 0, 1132, 2, 6, 0, 2, 0, 0, 1, 0, 0, 2, 1, 0, 2, 1, 132]), (100, [12, 7, 5], []), (9, [12, 4], [130]), (7, [11, 6], [3]), (10, [11, 8, 10], []), (2, [10, 7, 9], []), (8, [7], [4]), (20, [4, 3], [30, 0, 1, 1, 132, -1, 0, 0]), (20, [4, 7], [60, 1, 2, 774, 132, 130, 131]), (20, [5], [50, 0, 0, 3, 14, 2, 6, 0, 2, 0, 0, 1, 0, 0, 2, 1, 0, 0, 23, 2, 6, 0, 2, 0, 100, 1, 0, 0, 2, 1, 0, 0, 107]), (20, [6], [50, 0, 0, 2, 6, 0, 2, 0, 1, 1, 0, 0, 2, 1, 0, 0, 2400]), (20, [7, 4], [50, 1, 0, 1132, 2, 6, 0, 2, 0, 0, 1, 0, 0, 2, 1, 0, 2, 1, 132])], [], [], [(20, [0, 3], [30, 1, 1, 1, 132, -1, 0, 0]), (20, [0], [60, 1, 2, 773, 132, 130, 131])], [], [(15, 13, 1, 1), (11, 6, 0, 4294967296), (10, 7, -1, -1)])
theorem oo_Mo_gatherOne_5 {kA : Nat → ClassId} : or_ok PRD kA GG o_Mo_gatherOne_5 := by
  refine or_mk fun A ta ws vs hD hth hl => ?_
  intro t0 r0 t3 k3 t5 k5 t6 k6 t7 k7 t8 r8 t9 k9 t10 k10 t11 k11 t12 r12 t13 k13 t14 k14 t15 k15 d0 d1 d2 f0 f1 f2 ta1 w1 le1 s1 f4 f5 f6 f7 f8 f9 ta2 w2 le2 s2 f11 f12 f13 f14 f15 ta3 w3 le3 s3 f17 f18 f19 f20 f21 f22 f23 f24 f25 f26
  replace f2 := shm_5 f2
  have s1 : (∀ b j, w_el ws b j = w_el w1 b j) ∧ ∀ b j, w_fd ws b j = if b = v_ad (n_v vs 4) ∧ j = 132 then n_v vs 15 else w_fd w1 b j := s1.2
  replace f5 := shm_575 f5
  replace f6 := shm_576 f6
  replace f9 := shm_581 f9
  have s2 : (∀ b j, w_el w1 b j = if b = v_ad (n_v vs 8) ∧ j = (v_iv (n_v vs 7)).toNat then v_iv (n_v vs 6) else w_el w2 b j) ∧ ∀ b k, w_fd w1 b k = w_fd w2 b k := s2.2
  replace f11 := shm_582 f11
  replace f12 := shm_576 f12
  replace f15 := shm_581 f15
  have s3 : (∀ b j, w_el w2 b j = if b = v_ad (n_v vs 12) ∧ j = (v_iv (n_v vs 7)).toNat then v_iv (n_v vs 5) else w_el w3 b j) ∧ ∀ b k, w_fd w2 b k = w_fd w3 b k := s3.2
  replace f17 := shm_583 f17
  replace f19 := shm_106 f19
  replace f22 := shm_576 f22
  replace f23 := shm_580 f23
  replace f26 := shm_581 f26
  have q4 : n_v vs 4 = n_v vs 0 := f2.symm
  rw [q4] at s1
  simp only [q4] at f5 f6 f9 f11 f12 f15 f17 f22 f23 f26
  have ar_0_130_1 : w_ar w1 (n_v vs 0) 130 = w_ar ws (n_v vs 0) 130 := by show v_ad (w_fd w1 _ _) = v_ad (w_fd ws _ _); rw [s1.2, if_neg (fun e => absurd e.2 (by decide))]
  have ar_0_130_2 : w_ar w2 (n_v vs 0) 130 = w_ar ws (n_v vs 0) 130 := by rw [← ar_0_130_1]; show v_ad (w_fd w2 _ _) = v_ad (w_fd w1 _ _); rw [s2.2]
  have ar_0_130_3 : w_ar w3 (n_v vs 0) 130 = w_ar ws (n_v vs 0) 130 := by rw [← ar_0_130_2]; show v_ad (w_fd w3 _ _) = v_ad (w_fd w2 _ _); rw [s3.2]
  have cr_0_130 := fdq_149 hD hth r0
  have ar_0_131_1 : w_ar w1 (n_v vs 0) 131 = w_ar ws (n_v vs 0) 131 := by show v_ad (w_fd w1 _ _) = v_ad (w_fd ws _ _); rw [s1.2, if_neg (fun e => absurd e.2 (by decide))]
  have ar_0_131_2 : w_ar w2 (n_v vs 0) 131 = w_ar ws (n_v vs 0) 131 := by rw [← ar_0_131_1]; show v_ad (w_fd w2 _ _) = v_ad (w_fd w1 _ _); rw [s2.2]
  have ar_0_131_3 : w_ar w3 (n_v vs 0) 131 = w_ar ws (n_v vs 0) 131 := by rw [← ar_0_131_2]; show v_ad (w_fd w3 _ _) = v_ad (w_fd w2 _ _); rw [s3.2]
  have cr_0_131 := fdq_150 hD hth r0
  have ad_8 : v_ad (n_v vs 8) = w_ar ws (n_v vs 0) 131 := (congrArg v_ad f11).trans ar_0_131_2
  have ad_12 : v_ad (n_v vs 12) = w_ar ws (n_v vs 0) 130 := (congrArg v_ad f17).trans ar_0_130_3
  have g5 : v_iv (n_v vs 13) = w_fi w1 (n_v vs 0) 132 := congrArg v_iv f5
  simp only [ad_8] at f19
  have h19 : v_iv (n_v vs 11) = w_ei w3 (w_ar ws (n_v vs 0) 131) (v_iv (n_v vs 10)) := f19
  simp only [ar_0_130_3, ar_0_131_3] at f23
  have fe_0_132_1 : w_fi ws (n_v vs 0) 132 = v_iv (n_v vs 15) := by show v_iv (w_fd _ _ _) = _; rw [s1.2, if_pos ⟨rfl, rfl⟩]
  have fe_0_132_2 : w_fi w1 (n_v vs 0) 132 = w_fi w2 (n_v vs 0) 132 := congrArg v_iv (s2.2 _ _)
  have fe_0_132_3 : w_fi w2 (n_v vs 0) 132 = w_fi w3 (n_v vs 0) 132 := congrArg v_iv (s3.2 _ _)
  have hE_0_130_1 : ∀ j : Int, w_ei ws (w_ar ws (n_v vs 0) 130) j = w_ei w1 (w_ar ws (n_v vs 0) 130) j := fun j => s1.1 _ _
  have hE_0_130_2 : ∀ j : Int, w_ei w1 (w_ar ws (n_v vs 0) 130) j = w_ei w2 (w_ar ws (n_v vs 0) 130) j := el_kp s2.1 r8 cr_0_130 (by decide)
  have hE_0_130_3 : ∀ j : Int, 0 ≤ j → (j = v_iv (n_v vs 7) → w_ei w2 (w_ar ws (n_v vs 0) 130) j = v_iv (n_v vs 5)) ∧ (j ≠ v_iv (n_v vs 7) → w_ei w2 (w_ar ws (n_v vs 0) 130) j = w_ei w3 (w_ar ws (n_v vs 0) 130) j) := fun j hj => ⟨fun h => by unfold w_ei; rw [s3.1, if_pos ⟨ad_12.symm, by rw [h]⟩], fun h => by unfold w_ei; rw [s3.1, if_neg (fun e => h (by have := e.2; omega))]⟩
  have hK_0_130 := elq_81 hD hth cr_0_130
  have hE_0_131_1 : ∀ j : Int, w_ei ws (w_ar ws (n_v vs 0) 131) j = w_ei w1 (w_ar ws (n_v vs 0) 131) j := fun j => s1.1 _ _
  have hE_0_131_2 : ∀ j : Int, 0 ≤ j → (j = v_iv (n_v vs 7) → w_ei w1 (w_ar ws (n_v vs 0) 131) j = v_iv (n_v vs 6)) ∧ (j ≠ v_iv (n_v vs 7) → w_ei w1 (w_ar ws (n_v vs 0) 131) j = w_ei w2 (w_ar ws (n_v vs 0) 131) j) := fun j hj => ⟨fun h => by unfold w_ei; rw [s2.1, if_pos ⟨ad_8.symm, by rw [h]⟩], fun h => by unfold w_ei; rw [s2.1, if_neg (fun e => h (by have := e.2; omega))]⟩
  have hE_0_131_3 : ∀ j : Int, w_ei w2 (w_ar ws (n_v vs 0) 131) j = w_ei w3 (w_ar ws (n_v vs 0) 131) j := el_kp s3.1 r12 cr_0_131 (by decide)
  have hK_0_131 := elq_82 hD hth cr_0_131
  have kz_0_132 := fdq_151 hD hth r0
  have nf0 : fc_1 PRD (20, [0, 3], [30, 1, 1, 1, 132, -1, 0, 0]) ws (vs) := ⟨nf_in hl rfl, sgq_584 (vc_Mo_gatherOne_5_0 (v_iv (n_v vs 3)) (v_iv (n_v vs 5)) (v_iv (n_v vs 6)) (v_iv (n_v vs 7)) (v_iv (n_v vs 9)) (v_iv (n_v vs 10)) (v_iv (n_v vs 11)) (v_iv (n_v vs 13)) (v_iv (n_v vs 14)) (v_iv (n_v vs 15)) (w_fi w1 (n_v vs 0) 132) (w_fi w2 (n_v vs 0) 132) (w_ei w3 (w_ar ws (n_v vs 0) 131)) (w_fi w3 (n_v vs 0) 132) (w_ei w3 (w_ar ws (n_v vs 0) 130)) (w_fi ws (n_v vs 0) 132) (w_ei ws (w_ar ws (n_v vs 0) 130)) (w_ei w1 (w_ar ws (n_v vs 0) 130)) (w_ei w2 (w_ar ws (n_v vs 0) 130)) (w_ei ws (w_ar ws (n_v vs 0) 131)) (w_ei w1 (w_ar ws (n_v vs 0) 131)) (w_ei w2 (w_ar ws (n_v vs 0) 131)) k3 k5 k6 k7 k9 k10 k11 k13 k14 k15 d0 d1 d2 (shm_578 f0) (shm_579 f1) (shm_12 f4) g5 f6 (shm_578 f7) (shm_579 f8) f9 f12 (shm_578 f13) (shm_579 f14) f15 (shm_2 f18) h19 (shm_14 f20) (shm_145 f21) f22 f23 (shm_578 f24) (shm_579 f25) f26 fe_0_132_1 fe_0_132_2 fe_0_132_3 hE_0_130_1 hE_0_130_2 hE_0_130_3 hK_0_130 hE_0_131_1 hE_0_131_2 hE_0_131_3 hK_0_131 kz_0_132)⟩
  have nf1 : fc_1 PRD (20, [0], [60, 1, 2, 773, 132, 130, 131]) ws (vs) := ⟨nf_in hl rfl, sgq_577 (vc_Mo_gatherOne_5_1 (v_iv (n_v vs 3)) (v_iv (n_v vs 5)) (v_iv (n_v vs 6)) (v_iv (n_v vs 7)) (v_iv (n_v vs 9)) (v_iv (n_v vs 10)) (v_iv (n_v vs 11)) (v_iv (n_v vs 13)) (v_iv (n_v vs 14)) (v_iv (n_v vs 15)) (w_fi w1 (n_v vs 0) 132) (w_fi w2 (n_v vs 0) 132) (w_ei w3 (w_ar ws (n_v vs 0) 131)) (w_fi w3 (n_v vs 0) 132) (w_ei w3 (w_ar ws (n_v vs 0) 130)) (w_fi ws (n_v vs 0) 132) (w_ei ws (w_ar ws (n_v vs 0) 130)) (w_ei w1 (w_ar ws (n_v vs 0) 130)) (w_ei w2 (w_ar ws (n_v vs 0) 130)) (w_ei ws (w_ar ws (n_v vs 0) 131)) (w_ei w1 (w_ar ws (n_v vs 0) 131)) (w_ei w2 (w_ar ws (n_v vs 0) 131)) k3 k5 k6 k7 k9 k10 k11 k13 k14 k15 d0 d1 d2 (shm_578 f0) (shm_579 f1) (shm_12 f4) g5 f6 (shm_578 f7) (shm_579 f8) f9 f12 (shm_578 f13) (shm_579 f14) f15 (shm_2 f18) h19 (shm_14 f20) (shm_145 f21) f22 f23 (shm_578 f24) (shm_579 f25) f26 fe_0_132_1 fe_0_132_2 fe_0_132_3 hE_0_130_1 hE_0_130_2 hE_0_130_3 hK_0_130 hE_0_131_1 hE_0_131_2 hE_0_131_3 hK_0_131 kz_0_132)⟩
  refine ⟨(fun _ h => (by cases h)), [], trivial, ?_, (fun _ h => (by cases h))⟩
  rw [List.append_nil]
  exact List.forall_mem_cons.mpr ⟨⟨show (20 : Nat) < 100 from by decide, nf0⟩, List.forall_mem_cons.mpr ⟨⟨show (20 : Nat) < 100 from by decide, nf1⟩, (fun _ h => (by cases h))⟩⟩
set_option maxHeartbeats 4000000 in
theorem vc_Mo_gatherOne_6_0 (x3 : Int) (x5 : Int) (x6 : Int) (x7 : Int) (x9 : Int) (x10 : Int) (x11 : Int) (x13 : Int) (x14 : Int) (x15 : Int) (x16 : Int) (x17 : Int) (x18 : Int) (x19 : Int) (itemMany_0 : Int) (itemSize_1 : Int → Int) (itemMany_1 : Int) (itemOf_2 : Int → Int) (itemSize_2 : Int → Int) (itemMany_2 : Int) (itemOf_0 : Int → Int) (itemOf_1 : Int → Int) (itemSize_0 : Int → Int) (k3 : 0 ≤ x3 ∧ x3 ≤ 39) (k5 : 0 ≤ x5 ∧ x5 ≤ 107) (k6 : 1 ≤ x6 ∧ x6 ≤ 4095) (k7 : 1 ≤ x7 ∧ x7 ≤ 39) (k9 : 1 ≤ x9 ∧ x9 ≤ 1) (k10 : 0 ≤ x10 ∧ x10 ≤ 38) (k11 : 0 ≤ x11 ∧ x11 ≤ 4094) (k13 : 1 ≤ x13 ∧ x13 ≤ 1) (k14 : 0 ≤ x14 ∧ x14 ≤ 38) (k15 : 0 ≤ x15 ∧ x15 ≤ 131) (k16 : 1 ≤ x16 ∧ x16 ≤ 1) (k17 : 0 ≤ x17 ∧ x17 ≤ 38) (k18 : 0 ≤ x18 ∧ x18 ≤ 4095) (k19 : 0 ≤ x19 ∧ x19 ≤ 38) (d0 : x7 + (-1) ≤ x19 ∧ x19 ≤ x7 + (-1)) (d1 : x7 + (-1) ≤ x17 ∧ x17 ≤ x7 + (-1)) (d2 : x7 + (-1) ≤ x14 ∧ x14 ≤ x7 + (-1)) (d3 : x6 + (-4294967296) ≤ x11 ∧ x11 ≤ x6 + (-1)) (d4 : x7 + (-1) ≤ x10 ∧ x10 ≤ x7 + (-1)) (f0 : x19 = x7 + (-1)) (f1 : 1 * itemMany_0 + ((-1) * x3 + 0) ≤ 0) (f2 : ((0 ≤ x5) ∧ (x5 ≤ 23)) ∨ ((100 ≤ x5) ∧ (x5 ≤ 107))) (f3 : (1 ≤ x6) ∧ (x6 ≤ 2400)) (f4 : (0 ≤ x7) ∧ (x7 ≤ itemMany_0)) (h7 : x18 = itemSize_1 (x17)) (f8 : x17 = x7 - x16) (f10 : 1 * itemMany_1 + ((-1) * x3 + 0) ≤ 0) (f11 : ((0 ≤ x5) ∧ (x5 ≤ 23)) ∨ ((100 ≤ x5) ∧ (x5 ≤ 107))) (f12 : (1 ≤ x6) ∧ (x6 ≤ 2400)) (f13 : (0 ≤ x7) ∧ (x7 ≤ itemMany_1)) (h15 : x15 = itemOf_2 (x14)) (f16 : x14 = x7 - x13) (f18 : x11 < x6) (h19 : x11 = itemSize_2 (x10)) (f20 : x10 = x7 - x9) (f21 : 0 < x7) (f22 : 1 * itemMany_2 + ((-1) * x3 + 0) ≤ 0) (f23 : IT1 (itemMany_2) (itemOf_2) (itemSize_2) (x7)) (f24 : ((0 ≤ x5) ∧ (x5 ≤ 23)) ∨ ((100 ≤ x5) ∧ (x5 ≤ 107))) (f25 : (1 ≤ x6) ∧ (x6 ≤ 2400)) (f26 : (0 ≤ x7) ∧ (x7 ≤ itemMany_2)) (fe_0_132_1 : itemMany_0 = itemMany_1) (fe_0_132_2 : itemMany_1 = itemMany_2) (hE_0_130_1 : ∀ j : Int, itemOf_0 j = itemOf_1 j) (hE_0_130_2 : ∀ j : Int, 0 ≤ j → (j = x7 → itemOf_1 j = x15) ∧ (j ≠ x7 → itemOf_1 j = itemOf_2 j)) (hK_0_130 : ∀ j : Int, 0 ≤ j → j < 40 → 0 ≤ itemOf_0 j ∧ itemOf_0 j ≤ 131) (hE_0_131_1 : ∀ j : Int, 0 ≤ j → (j = x7 → itemSize_0 j = x18) ∧ (j ≠ x7 → itemSize_0 j = itemSize_1 j)) (hE_0_131_2 : ∀ j : Int, itemSize_1 j = itemSize_2 j) (hK_0_131 : ∀ j : Int, 0 ≤ j → j < 40 → 0 ≤ itemSize_0 j ∧ itemSize_0 j ≤ 4095) (kz_0_132 : 0 ≤ itemMany_0 ∧ itemMany_0 ≤ 40) : IT1 (itemMany_0) (itemOf_0) (itemSize_0) (x19) := by
  subst fe_0_132_1
  subst fe_0_132_2
  have e_hE_0_130_1 := funext hE_0_130_1; subst e_hE_0_130_1
  have e_hE_0_131_2 := funext hE_0_131_2; subst e_hE_0_131_2
  first
    | exact it1_start ‹ITM _ _ _› (by omega)
    | exact it1_step (x := x7) (v := x15) (w := x18) ‹IT1 _ _ _ _› (by omega) (by omega) (by omega) (by assumption) (by assumption) (by rw [show x19 = x14 by omega]; assumption) (by rw [show x19 = x17 by omega]; assumption)
  
set_option maxHeartbeats 4000000 in
theorem vc_Mo_gatherOne_6_1 (x3 : Int) (x5 : Int) (x6 : Int) (x7 : Int) (x9 : Int) (x10 : Int) (x11 : Int) (x13 : Int) (x14 : Int) (x15 : Int) (x16 : Int) (x17 : Int) (x18 : Int) (x19 : Int) (itemMany_0 : Int) (itemSize_1 : Int → Int) (itemMany_1 : Int) (itemOf_2 : Int → Int) (itemSize_2 : Int → Int) (itemMany_2 : Int) (itemOf_0 : Int → Int) (itemOf_1 : Int → Int) (itemSize_0 : Int → Int) (k3 : 0 ≤ x3 ∧ x3 ≤ 39) (k5 : 0 ≤ x5 ∧ x5 ≤ 107) (k6 : 1 ≤ x6 ∧ x6 ≤ 4095) (k7 : 1 ≤ x7 ∧ x7 ≤ 39) (k9 : 1 ≤ x9 ∧ x9 ≤ 1) (k10 : 0 ≤ x10 ∧ x10 ≤ 38) (k11 : 0 ≤ x11 ∧ x11 ≤ 4094) (k13 : 1 ≤ x13 ∧ x13 ≤ 1) (k14 : 0 ≤ x14 ∧ x14 ≤ 38) (k15 : 0 ≤ x15 ∧ x15 ≤ 131) (k16 : 1 ≤ x16 ∧ x16 ≤ 1) (k17 : 0 ≤ x17 ∧ x17 ≤ 38) (k18 : 0 ≤ x18 ∧ x18 ≤ 4095) (k19 : 0 ≤ x19 ∧ x19 ≤ 38) (d0 : x7 + (-1) ≤ x19 ∧ x19 ≤ x7 + (-1)) (d1 : x7 + (-1) ≤ x17 ∧ x17 ≤ x7 + (-1)) (d2 : x7 + (-1) ≤ x14 ∧ x14 ≤ x7 + (-1)) (d3 : x6 + (-4294967296) ≤ x11 ∧ x11 ≤ x6 + (-1)) (d4 : x7 + (-1) ≤ x10 ∧ x10 ≤ x7 + (-1)) (f0 : x19 = x7 + (-1)) (f1 : 1 * itemMany_0 + ((-1) * x3 + 0) ≤ 0) (f2 : ((0 ≤ x5) ∧ (x5 ≤ 23)) ∨ ((100 ≤ x5) ∧ (x5 ≤ 107))) (f3 : (1 ≤ x6) ∧ (x6 ≤ 2400)) (f4 : (0 ≤ x7) ∧ (x7 ≤ itemMany_0)) (h7 : x18 = itemSize_1 (x17)) (f8 : x17 = x7 - x16) (f10 : 1 * itemMany_1 + ((-1) * x3 + 0) ≤ 0) (f11 : ((0 ≤ x5) ∧ (x5 ≤ 23)) ∨ ((100 ≤ x5) ∧ (x5 ≤ 107))) (f12 : (1 ≤ x6) ∧ (x6 ≤ 2400)) (f13 : (0 ≤ x7) ∧ (x7 ≤ itemMany_1)) (h15 : x15 = itemOf_2 (x14)) (f16 : x14 = x7 - x13) (f18 : x11 < x6) (h19 : x11 = itemSize_2 (x10)) (f20 : x10 = x7 - x9) (f21 : 0 < x7) (f22 : 1 * itemMany_2 + ((-1) * x3 + 0) ≤ 0) (f23 : IT1 (itemMany_2) (itemOf_2) (itemSize_2) (x7)) (f24 : ((0 ≤ x5) ∧ (x5 ≤ 23)) ∨ ((100 ≤ x5) ∧ (x5 ≤ 107))) (f25 : (1 ≤ x6) ∧ (x6 ≤ 2400)) (f26 : (0 ≤ x7) ∧ (x7 ≤ itemMany_2)) (fe_0_132_1 : itemMany_0 = itemMany_1) (fe_0_132_2 : itemMany_1 = itemMany_2) (hE_0_130_1 : ∀ j : Int, itemOf_0 j = itemOf_1 j) (hE_0_130_2 : ∀ j : Int, 0 ≤ j → (j = x7 → itemOf_1 j = x15) ∧ (j ≠ x7 → itemOf_1 j = itemOf_2 j)) (hK_0_130 : ∀ j : Int, 0 ≤ j → j < 40 → 0 ≤ itemOf_0 j ∧ itemOf_0 j ≤ 131) (hE_0_131_1 : ∀ j : Int, 0 ≤ j → (j = x7 → itemSize_0 j = x18) ∧ (j ≠ x7 → itemSize_0 j = itemSize_1 j)) (hE_0_131_2 : ∀ j : Int, itemSize_1 j = itemSize_2 j) (hK_0_131 : ∀ j : Int, 0 ≤ j → j < 40 → 0 ≤ itemSize_0 j ∧ itemSize_0 j ≤ 4095) (kz_0_132 : 0 ≤ itemMany_0 ∧ itemMany_0 ≤ 40) : (0 ≤ x19) ∧ (x19 ≤ itemMany_0) := by
  subst fe_0_132_1
  subst fe_0_132_2
  have e_hE_0_130_1 := funext hE_0_130_1; subst e_hE_0_130_1
  have e_hE_0_131_2 := funext hE_0_131_2; subst e_hE_0_131_2
  omega
def o_Mo_gatherOne_6 : or_T := (5, 20, [(0, (2, 0, 0, [165])), (3, (0, 0, 39, [])), (5, (0, 0, 107, [])), (6, (0, 1, 4095, [])), (7, (0, 1, 39, [])), (8, (2, 0, 0, [261])), (9, (0, 1, 1, [])), (10, (0, 0, 38, [])), (11, (0, 0, 4094, [])), (12, (2, 0, 0, [260])), (13, (0, 1, 1, [])), (14, (0, 0, 38, [])), (15, (0, 0, 131, [])), (16, (0, 1, 1, [])), (17, (0, 0, 38, [])), (18, (0, 0, 4095, [])), (19, (0, 0, 38, []))], [(6, [19, 7], [-1]), (20, [4, 3], [30, 0, 1, 1, 132, -1, 0, 0]), (20, [5], [50, 0, 0, 3, 14, 2, 6, 0, 2, 0, 0, 1, 0, 0, 2, 1, 0, 0, 23, 2, 6, 0, 2, 0, 100, 1, 0, 0, 2, 1, 0, 0, 107]), (20, [6], [50, 0, 0, 2, 6, 0, 2, 0, 1, 1, 0, 0, 2, 1, 0, 0, 2400]), (20, [7, 4], [50, 1, 0, 1132, 2, 6, 0, 2, 0, 0, 1, 0, 0, 2, 1, 0, 2, 1, 132]), (24, [0, 4], []), (100, [8, 7, 18], []), (10, [18, 8, 17], []), (2, [17, 7, 16], []), (9, [8, 4], [131]), (20, [4, 3], [30, 0, 1, 1, 132, -1, 0, 0]), (20, [5], [50, 0, 0, 3, 14, 2, 6, 0, 2, 0, 0, 1, 0, 0, 2, 1, 0, 0, 23, 2, 6, 0, 2, 0, 100, 1, 0, 0, 2, 1, 0, 0, 107]), (20, [6], [50, 0, 0, 2, 6, 0, 2, 0, 1, 1, 0, 0, 2, 1, 0, 0, 2400]), (20, [7, 4], [50, 1, 0, 1132, 2, 6, 0, 2, 0, 0, 1, 0, 0, 2, 1, 0, 2, 1, 132]), (100, [12, 7, 15], []), (10, [15, 12, 14], []), (2, [14, 7, 13], []), (9, [12, 4], [130]), (7, [11, 6], [2]), (10, [11, 8, 10], []), (2, [10, 7, 9], []), (8, [7], [4]), (20, [4, 3], [30, 0, 1, 1, 132, -1, 0, 0]), (20, [4, 7], [60, 1, 2, 774, 132, 130, 131]), (20, [5], [50, 0, 0, 3, 14, 2, 6, 0, 2, 0, 0, 1, 0, 0, 2, 1, 0, 0, 23, 2, 6, 0, 2, 0, 100, 1, 0, 0, 2, 1, 0, 0, 107]), (20, [6], [50, 0, 0, 2, 6, 0, 2, 0, 1, 1, 0, 0, 2, 1, 0, 0, 2400]), (20, [7, 4], [50, 1, 0, 1132, 2, 6, 0, 2, 0, 0, 1, 0, 0, 2, 1, 0, 2, 1, 132])], [], [], [(20, [4, 19], [60, 1, 2, 774, 132, 130, 131]), (20, [19, 4], [50, 1, 0, 1132, 2, 6, 0, 2, 0, 0, 1, 0, 0, 2, 1, 0, 2, 1, 132])], [], [(19, 7, -1, -1), (17, 7, -1, -1), (14, 7, -1, -1), (11, 6, -4294967296, -1), (10, 7, -1, -1)])
theorem oo_Mo_gatherOne_6 {kA : Nat → ClassId} : or_ok PRD kA GG o_Mo_gatherOne_6 := by
  refine or_mk fun A ta ws vs hD hth hl => ?_
  intro t0 r0 t3 k3 t5 k5 t6 k6 t7 k7 t8 r8 t9 k9 t10 k10 t11 k11 t12 r12 t13 k13 t14 k14 t15 k15 t16 k16 t17 k17 t18 k18 t19 k19 d0 d1 d2 d3 d4 f0 f1 f2 f3 f4 f5 ta1 w1 le1 s1 f7 f8 f9 f10 f11 f12 f13 ta2 w2 le2 s2 f15 f16 f17 f18 f19 f20 f21 f22 f23 f24 f25 f26
  replace f0 := shm_198 f0
  replace f1 := shm_576 f1
  replace f2 := shm_578 f2
  replace f3 := shm_579 f3
  replace f4 := shm_581 f4
  replace f5 := shm_5 f5
  have s1 : (∀ b j, w_el ws b j = if b = v_ad (n_v vs 8) ∧ j = (v_iv (n_v vs 7)).toNat then v_iv (n_v vs 18) else w_el w1 b j) ∧ ∀ b k, w_fd ws b k = w_fd w1 b k := s1.2
  replace f7 := shm_106 f7
  replace f8 := shm_14 f8
  replace f9 := shm_582 f9
  replace f10 := shm_576 f10
  replace f11 := shm_578 f11
  replace f12 := shm_579 f12
  replace f13 := shm_581 f13
  have s2 : (∀ b j, w_el w1 b j = if b = v_ad (n_v vs 12) ∧ j = (v_iv (n_v vs 7)).toNat then v_iv (n_v vs 15) else w_el w2 b j) ∧ ∀ b k, w_fd w1 b k = w_fd w2 b k := s2.2
  replace f15 := shm_106 f15
  replace f16 := shm_14 f16
  replace f17 := shm_583 f17
  replace f18 := shm_6 f18
  replace f19 := shm_106 f19
  replace f20 := shm_14 f20
  replace f21 := shm_145 f21
  replace f22 := shm_576 f22
  replace f23 := shm_580 f23
  replace f24 := shm_578 f24
  replace f25 := shm_579 f25
  replace f26 := shm_581 f26
  have q4 : n_v vs 4 = n_v vs 0 := f5.symm
  simp only [q4] at f1 f4 f9 f10 f13 f17 f22 f23 f26
  have ar_0_130_1 : w_ar w1 (n_v vs 0) 130 = w_ar ws (n_v vs 0) 130 := congrArg v_ad (s1.2 _ _).symm
  have ar_0_130_2 : w_ar w2 (n_v vs 0) 130 = w_ar ws (n_v vs 0) 130 := by rw [← ar_0_130_1]; show v_ad (w_fd w2 _ _) = v_ad (w_fd w1 _ _); rw [s2.2]
  have cr_0_130 := fdq_149 hD hth r0
  have ar_0_131_1 : w_ar w1 (n_v vs 0) 131 = w_ar ws (n_v vs 0) 131 := congrArg v_ad (s1.2 _ _).symm
  have ar_0_131_2 : w_ar w2 (n_v vs 0) 131 = w_ar ws (n_v vs 0) 131 := by rw [← ar_0_131_1]; show v_ad (w_fd w2 _ _) = v_ad (w_fd w1 _ _); rw [s2.2]
  have cr_0_131 := fdq_150 hD hth r0
  have ad_8 : v_ad (n_v vs 8) = w_ar ws (n_v vs 0) 131 := (congrArg v_ad f9).trans ar_0_131_1
  have ad_12 : v_ad (n_v vs 12) = w_ar ws (n_v vs 0) 130 := (congrArg v_ad f17).trans ar_0_130_2
  simp only [ad_8] at f7
  have h7 : v_iv (n_v vs 18) = w_ei w1 (w_ar ws (n_v vs 0) 131) (v_iv (n_v vs 17)) := f7
  simp only [ad_12] at f15
  have h15 : v_iv (n_v vs 15) = w_ei w2 (w_ar ws (n_v vs 0) 130) (v_iv (n_v vs 14)) := f15
  simp only [ad_8] at f19
  have h19 : v_iv (n_v vs 11) = w_ei w2 (w_ar ws (n_v vs 0) 131) (v_iv (n_v vs 10)) := f19
  simp only [ar_0_130_2, ar_0_131_2] at f23
  have fe_0_132_1 : w_fi ws (n_v vs 0) 132 = w_fi w1 (n_v vs 0) 132 := congrArg v_iv (s1.2 _ _)
  have fe_0_132_2 : w_fi w1 (n_v vs 0) 132 = w_fi w2 (n_v vs 0) 132 := congrArg v_iv (s2.2 _ _)
  have hE_0_130_1 : ∀ j : Int, w_ei ws (w_ar ws (n_v vs 0) 130) j = w_ei w1 (w_ar ws (n_v vs 0) 130) j := el_kp s1.1 r8 cr_0_130 (by decide)
  have hE_0_130_2 : ∀ j : Int, 0 ≤ j → (j = v_iv (n_v vs 7) → w_ei w1 (w_ar ws (n_v vs 0) 130) j = v_iv (n_v vs 15)) ∧ (j ≠ v_iv (n_v vs 7) → w_ei w1 (w_ar ws (n_v vs 0) 130) j = w_ei w2 (w_ar ws (n_v vs 0) 130) j) := fun j hj => ⟨fun h => by unfold w_ei; rw [s2.1, if_pos ⟨ad_12.symm, by rw [h]⟩], fun h => by unfold w_ei; rw [s2.1, if_neg (fun e => h (by have := e.2; omega))]⟩
  have hK_0_130 := elq_81 hD hth cr_0_130
  have hE_0_131_1 : ∀ j : Int, 0 ≤ j → (j = v_iv (n_v vs 7) → w_ei ws (w_ar ws (n_v vs 0) 131) j = v_iv (n_v vs 18)) ∧ (j ≠ v_iv (n_v vs 7) → w_ei ws (w_ar ws (n_v vs 0) 131) j = w_ei w1 (w_ar ws (n_v vs 0) 131) j) := fun j hj => ⟨fun h => by unfold w_ei; rw [s1.1, if_pos ⟨ad_8.symm, by rw [h]⟩], fun h => by unfold w_ei; rw [s1.1, if_neg (fun e => h (by have := e.2; omega))]⟩
  have hE_0_131_2 : ∀ j : Int, w_ei w1 (w_ar ws (n_v vs 0) 131) j = w_ei w2 (w_ar ws (n_v vs 0) 131) j := el_kp s2.1 r12 cr_0_131 (by decide)
  have hK_0_131 := elq_82 hD hth cr_0_131
  have kz_0_132 := fdq_151 hD hth r0
  have nf0 : fc_1 PRD (20, [4, 19], [60, 1, 2, 774, 132, 130, 131]) ws (vs) := by
    refine ⟨nf_in hl rfl, sgq_580 ?_⟩
    · show IT1 (w_fi ws (n_v vs 4) 132) (w_ei ws (w_ar ws (n_v vs 4) 130)) (w_ei ws (w_ar ws (n_v vs 4) 131)) (v_iv (n_v vs 19))
      rw [q4]
      exact vc_Mo_gatherOne_6_0 (v_iv (n_v vs 3)) (v_iv (n_v vs 5)) (v_iv (n_v vs 6)) (v_iv (n_v vs 7)) (v_iv (n_v vs 9)) (v_iv (n_v vs 10)) (v_iv (n_v vs 11)) (v_iv (n_v vs 13)) (v_iv (n_v vs 14)) (v_iv (n_v vs 15)) (v_iv (n_v vs 16)) (v_iv (n_v vs 17)) (v_iv (n_v vs 18)) (v_iv (n_v vs 19)) (w_fi ws (n_v vs 0) 132) (w_ei w1 (w_ar ws (n_v vs 0) 131)) (w_fi w1 (n_v vs 0) 132) (w_ei w2 (w_ar ws (n_v vs 0) 130)) (w_ei w2 (w_ar ws (n_v vs 0) 131)) (w_fi w2 (n_v vs 0) 132) (w_ei ws (w_ar ws (n_v vs 0) 130)) (w_ei w1 (w_ar ws (n_v vs 0) 130)) (w_ei ws (w_ar ws (n_v vs 0) 131)) k3 k5 k6 k7 k9 k10 k11 k13 k14 k15 k16 k17 k18 k19 d0 d1 d2 d3 d4 f0 f1 f2 f3 f4 h7 f8 f10 f11 f12 f13 h15 f16 f18 h19 f20 f21 f22 f23 f24 f25 f26 fe_0_132_1 fe_0_132_2 hE_0_130_1 hE_0_130_2 hK_0_130 hE_0_131_1 hE_0_131_2 hK_0_131 kz_0_132
  have nf1 : fc_1 PRD (20, [19, 4], [50, 1, 0, 1132, 2, 6, 0, 2, 0, 0, 1, 0, 0, 2, 1, 0, 2, 1, 132]) ws (vs) := by
    refine ⟨nf_in hl rfl, sgq_581 ?_⟩
    · show (0 ≤ v_iv (n_v vs 19)) ∧ (v_iv (n_v vs 19) ≤ w_fi ws (n_v vs 4) 132)
      rw [q4]
      exact vc_Mo_gatherOne_6_1 (v_iv (n_v vs 3)) (v_iv (n_v vs 5)) (v_iv (n_v vs 6)) (v_iv (n_v vs 7)) (v_iv (n_v vs 9)) (v_iv (n_v vs 10)) (v_iv (n_v vs 11)) (v_iv (n_v vs 13)) (v_iv (n_v vs 14)) (v_iv (n_v vs 15)) (v_iv (n_v vs 16)) (v_iv (n_v vs 17)) (v_iv (n_v vs 18)) (v_iv (n_v vs 19)) (w_fi ws (n_v vs 0) 132) (w_ei w1 (w_ar ws (n_v vs 0) 131)) (w_fi w1 (n_v vs 0) 132) (w_ei w2 (w_ar ws (n_v vs 0) 130)) (w_ei w2 (w_ar ws (n_v vs 0) 131)) (w_fi w2 (n_v vs 0) 132) (w_ei ws (w_ar ws (n_v vs 0) 130)) (w_ei w1 (w_ar ws (n_v vs 0) 130)) (w_ei ws (w_ar ws (n_v vs 0) 131)) k3 k5 k6 k7 k9 k10 k11 k13 k14 k15 k16 k17 k18 k19 d0 d1 d2 d3 d4 f0 f1 f2 f3 f4 h7 f8 f10 f11 f12 f13 h15 f16 f18 h19 f20 f21 f22 f23 f24 f25 f26 fe_0_132_1 fe_0_132_2 hE_0_130_1 hE_0_130_2 hK_0_130 hE_0_131_1 hE_0_131_2 hK_0_131 kz_0_132
  refine ⟨(fun _ h => (by cases h)), [], trivial, ?_, (fun _ h => (by cases h))⟩
  rw [List.append_nil]
  exact List.forall_mem_cons.mpr ⟨⟨show (20 : Nat) < 100 from by decide, nf0⟩, List.forall_mem_cons.mpr ⟨⟨show (20 : Nat) < 100 from by decide, nf1⟩, (fun _ h => (by cases h))⟩⟩
def n_Mo_gatherOne_an : List an_T := [(5, [(0, (2, 0, 0, [165])), (1, (0, 0, 107, [])), (2, (0, 0, 4095, [])), (3, (0, 0, 39, []))], [], (0, 0), [(0, 0, 99995), (2, 7, 0), (0, 0, 100000)], [(1, 5, (Int.negSucc 999999999999), 0), (2, 6, (Int.negSucc 999999999999), 0), (5, 1, (Int.negSucc 999999999999), 0), (6, 2, (Int.negSucc 999999999999), 0)], [], [(2, 0, 0, [165]), (0, 0, 107, []), (0, 0, 4095, []), (0, 0, 39, [])], 0, [], [(20, [4, 3], [30, 0, 1, 1, 132, (Int.negSucc 0), 0, 0]), (20, [4, 7], [60, 1, 2, 774, 132, 130, 131]), (20, [5], [50, 0, 0, 3, 14, 2, 6, 0, 2, 0, 0, 1, 0, 0, 2, 1, 0, 0, 23, 2, 6, 0, 2, 0, 100, 1, 0, 0, 2, 1, 0, 0, 107]), (20, [6], [50, 0, 0, 2, 6, 0, 2, 0, 1, 1, 0, 0, 2, 1, 0, 0, 2400]), (20, [7, 4], [50, 1, 0, 1132, 2, 6, 0, 2, 0, 0, 1, 0, 0, 2, 1, 0, 2, 1, 132]), (24, [0, 4], [])])]
def t_Mo_gatherOne_ct : ct_L := []
set_option maxRecDepth 100000 in
theorem c_Mo_gatherOne {l : Launch} {D : va_G} {kA : Nat → ClassId} : ct_ok PRD l D kA GG y_Mo_gatherOne z_Mo_gatherOne e_Mo_gatherOne := chk_all_ok (FT := [(299, 13, 130), (302, 13, 131), (971, 13, 132)]) (PT := [(971, 13, 132, .int)]) (CT := t_Mo_gatherOne_ct) (KT := []) (NT := []) (AN := n_Mo_gatherOne_an) (OT := [o_Mo_gatherOne_0, o_Mo_gatherOne_1, o_Mo_gatherOne_2, o_Mo_gatherOne_3, o_Mo_gatherOne_4, o_Mo_gatherOne_5, o_Mo_gatherOne_6]) 3 276 (List.forall_mem_cons.mpr ⟨oo_Mo_gatherOne_0, List.forall_mem_cons.mpr ⟨oo_Mo_gatherOne_1, List.forall_mem_cons.mpr ⟨oo_Mo_gatherOne_2, List.forall_mem_cons.mpr ⟨oo_Mo_gatherOne_3, List.forall_mem_cons.mpr ⟨oo_Mo_gatherOne_4, List.forall_mem_cons.mpr ⟨oo_Mo_gatherOne_5, List.forall_mem_cons.mpr ⟨oo_Mo_gatherOne_6, List.forall_mem_nil _⟩⟩⟩⟩⟩⟩⟩) (by decide +kernel) ⟨List.forall_mem_cons.mpr ⟨gf_Mo_299, List.forall_mem_cons.mpr ⟨gf_Mo_302, List.forall_mem_cons.mpr ⟨gf_Mo_971, List.forall_mem_nil _⟩⟩⟩, List.forall_mem_cons.mpr ⟨pf_Mo_971, List.forall_mem_nil _⟩, List.forall_mem_nil _, List.forall_mem_nil _, List.forall_mem_nil _, GG_pl⟩ (by decide +kernel)
set_option maxHeartbeats 4000000 in
theorem vc_Mo_groupOf_0_0 (x1 : Int) (x3 : Int) (x4 : Int) (x5 : Int) (x6 : Int) (x7 : Int) (all_0 : Int → Int) (r_0 : Int) (k1 : 0 ≤ x1 ∧ x1 ≤ 23) (k3 : 0 ≤ x3 ∧ x3 ≤ 66297) (k4 : 243 ≤ x4 ∧ x4 ≤ 243) (k5 : 243 ≤ x5 ∧ x5 ≤ 66540) (k6 : 243 ≤ x6 ∧ x6 ≤ 66563) (k7 : 0 ≤ x7 ∧ x7 ≤ 7) (d0 : x1 + 243 ≤ x6 ∧ x6 ≤ x1 + 66540) (d1 : x5 + 0 ≤ x6 ∧ x6 ≤ x5 + 23) (d2 : x3 + 243 ≤ x6 ∧ x6 ≤ x3 + 266) (d3 : x3 + 243 ≤ x5 ∧ x5 ≤ x3 + 243) (h0 : x7 = all_0 (x6)) (f1 : x6 = x5 + x1) (f2 : x5 = x3 + x4) (g3 : x3 = r_0) : x7 = all_0 (((r_0 + 243) + x1)) := by
  first | assumption | omega | grind
def o_Mo_groupOf_0 : or_T := (15, 8, [(1, (0, 0, 23, [])), (3, (0, 0, 66297, [])), (4, (0, 243, 243, [])), (5, (0, 243, 66540, [])), (6, (0, 243, 66563, [])), (7, (0, 0, 7, []))], [(10, [7, 2, 6], []), (1, [6, 5, 1], []), (1, [5, 3, 4], []), (9, [3, 0], [5]), (9, [2, 0], [2])], [], [], [(20, [7, 0, 1], [50, 1, 1, 1005, 1002, 1, 2, 1, 0, 3, 1, 2, 4, 7, 4, 3, 2, 1, 5, 0, 243, 1, 2])], [], [(6, 1, 243, 66540), (6, 5, 0, 23), (6, 3, 243, 266), (5, 3, 243, 243)])
theorem oo_Mo_groupOf_0 {kA : Nat → ClassId} : or_ok PRD kA GG o_Mo_groupOf_0 := by
  refine or_mk fun A ta ws vs hD hth hl => ?_
  intro t1 k1 t3 k3 t4 k4 t5 k5 t6 k6 t7 k7 d0 d1 d2 d3 f0 f1 f2 f3 f4
  replace f0 := shm_106 f0
  replace f3 := shm_109 f3
  replace f4 := shm_129 f4
  have ad_2 : v_ad (n_v vs 2) = w_ar ws (n_v vs 0) 2 := congrArg v_ad f4
  simp only [ad_2] at f0
  have h0 : v_iv (n_v vs 7) = w_ei ws (w_ar ws (n_v vs 0) 2) (v_iv (n_v vs 6)) := f0
  have g3 : v_iv (n_v vs 3) = w_fi ws (n_v vs 0) 5 := congrArg v_iv f3
  have nf0 : fc_1 PRD (20, [7, 0, 1], [50, 1, 1, 1005, 1002, 1, 2, 1, 0, 3, 1, 2, 4, 7, 4, 3, 2, 1, 5, 0, 243, 1, 2]) ws (vs) := ⟨nf_in hl rfl, sgq_585 (vc_Mo_groupOf_0_0 (v_iv (n_v vs 1)) (v_iv (n_v vs 3)) (v_iv (n_v vs 4)) (v_iv (n_v vs 5)) (v_iv (n_v vs 6)) (v_iv (n_v vs 7)) (w_ei ws (w_ar ws (n_v vs 0) 2)) (w_fi ws (n_v vs 0) 5) k1 k3 k4 k5 k6 k7 d0 d1 d2 d3 h0 (shm_12 f1) (shm_12 f2) g3)⟩
  refine ⟨(fun _ h => (by cases h)), [], trivial, ?_, (fun _ h => (by cases h))⟩
  rw [List.append_nil]
  exact List.forall_mem_cons.mpr ⟨⟨show (20 : Nat) < 100 from by decide, nf0⟩, (fun _ h => (by cases h))⟩
def n_Mo_groupOf_an : List an_T := []
def t_Mo_groupOf_ct : ct_L := []
set_option maxRecDepth 100000 in
theorem c_Mo_groupOf {l : Launch} {D : va_G} {kA : Nat → ClassId} : ct_ok PRD l D kA GG y_Mo_groupOf z_Mo_groupOf e_Mo_groupOf := chk_all_ok (FT := [(16, 13, 2), (391, 13, 5)]) (PT := []) (CT := t_Mo_groupOf_ct) (KT := []) (NT := []) (AN := n_Mo_groupOf_an) (OT := [o_Mo_groupOf_0]) 0 200 (List.forall_mem_cons.mpr ⟨oo_Mo_groupOf_0, List.forall_mem_nil _⟩) (by decide +kernel) ⟨List.forall_mem_cons.mpr ⟨gf_Mo_16, List.forall_mem_cons.mpr ⟨gf_Mo_391, List.forall_mem_nil _⟩⟩, List.forall_mem_nil _, List.forall_mem_nil _, List.forall_mem_nil _, List.forall_mem_nil _, GG_pl⟩ (by decide +kernel)
set_option maxHeartbeats 4000000 in
theorem vc_Mo_hangs_0_r0 (x1 : Int) (x2 : Int) (x3 : Int) (x6 : Int) (level_0 : Int → Int) (all_0 : Int → Int) (r_0 : Int) (all_1 : Int → Int) (level_1 : Int → Int) (above_1 : Int → Int) (r_1 : Int) (partOf_1 : Int → Int) (root_1 : Int → Int) (partOf_0 : Int → Int) (above_0 : Int → Int) (root_0 : Int → Int) (k1 : 0 ≤ x1 ∧ x1 ≤ 23) (k2 : 0 ≤ x2 ∧ x2 ≤ 23) (k3 : 0 ≤ x3 ∧ x3 ≤ 24) (k6 : (-23) ≤ x6 ∧ x6 ≤ 24) (h0 : x6 = level_0 (x2)) (f2 : 1 * x1 + ((-1) * all_0 (r_0 + 0) + 0) ≤ (-1)) (f3 : 1 * x2 + ((-1) * all_0 (r_0 + 0) + 0) ≤ (-1)) (f4 : (0 ≤ level_0 (x2)) ∧ ((level_0 (x2) ≤ 23) ∧ (level_0 (x1) ≤ (-1)))) (f7 : ∀ j0 : Int, 0 ≤ j0 → j0 < 24 → (((j0 + 1) ≤ all_1 (r_1)) → (((-1) ≤ level_1 (j0)) ∧ ((level_1 (j0) ≤ 24) ∧ ((0 ≤ above_1 (j0)) → (((above_1 (j0) + 1) ≤ all_1 (r_1)) ∧ ((0 ≤ level_1 (above_1 (j0))) ∧ ((level_1 (above_1 (j0)) + 1) ≤ level_1 (j0))))))))) (f8 : 1 * x1 + ((-1) * all_1 (r_0 + 0) + 0) ≤ (-1)) (f9 : 1 * x2 + ((-1) * all_1 (r_0 + 0) + 0) ≤ (-1)) (f10 : (0 ≤ level_1 (x2)) ∧ ((level_1 (x2) ≤ 23) ∧ (level_1 (x1) ≤ (-1)))) (f11 : BFS (r_1) (all_1) (above_1) (level_1) (partOf_1) (root_1) (x3)) (fe_0_5_1 : r_0 = r_1) (hE_0_2_1 : ∀ j : Int, all_0 j = all_1 j) (hE_0_16_1 : ∀ j : Int, partOf_0 j = partOf_1 j) (hK_0_16 : ∀ j : Int, 0 ≤ j → j < 25 → (-1) ≤ partOf_0 j ∧ partOf_0 j ≤ 24) (hE_0_127_1 : ∀ j : Int, 0 ≤ j → (j = x1 → above_0 j = x2) ∧ (j ≠ x1 → above_0 j = above_1 j)) (hK_0_127 : ∀ j : Int, 0 ≤ j → j < 26 → (-1) ≤ above_0 j ∧ above_0 j ≤ 23) (hE_0_128_1 : ∀ j : Int, level_0 j = level_1 j) (hK_0_128 : ∀ j : Int, 0 ≤ j → j < 26 → (-23) ≤ level_0 j ∧ level_0 j ≤ 24) (hE_0_129_1 : ∀ j : Int, root_0 j = root_1 j) (hK_0_129 : ∀ j : Int, 0 ≤ j → j < 26 → (-1) ≤ root_0 j ∧ root_0 j ≤ 23) : 0 ≤ x6 ∧ x6 ≤ 23 := by
  subst fe_0_5_1
  have e_hE_0_2_1 := funext hE_0_2_1; subst e_hE_0_2_1
  have e_hE_0_16_1 := funext hE_0_16_1; subst e_hE_0_16_1
  have e_hE_0_128_1 := funext hE_0_128_1; subst e_hE_0_128_1
  have e_hE_0_129_1 := funext hE_0_129_1; subst e_hE_0_129_1
  omega
def o_Mo_hangs_0 : or_T := (18, 7, [(0, (2, 0, 0, [165])), (1, (0, 0, 23, [])), (2, (0, 0, 23, [])), (3, (0, 0, 24, [])), (4, (2, 0, 0, [257])), (5, (2, 0, 0, [258])), (6, (0, -23, 24, []))], [(10, [6, 5, 2], []), (9, [5, 0], [128]), (20, [1, 0], [30, -1, 1, 0, 0, -1, 3, 2005000]), (20, [2, 0], [30, -1, 1, 0, 0, -1, 3, 2005000]), (20, [0, 2, 1], [50, 0, 1, 128, 2, 9, 0, 2, 0, 0, 3, 0, 128, 1, 1, 2, 9, 0, 5, 3, 0, 128, 1, 1, 0, 23, 0, 5, 3, 0, 128, 1, 2, 0, -1]), (100, [4, 1, 2], []), (9, [4, 0], [127]), (20, [0], [50, 1, 3, 5, 2, 128, 127, 5, 2, 0, 24, 4, 14, 0, 6, 4, 2, 7, 0, 0, 1, 3, 0, 2, 2, 0, 5, 2, 9, 0, 2, 0, -1, 3, 0, 128, 7, 0, 2, 9, 0, 5, 3, 0, 128, 7, 0, 0, 24, 4, 9, 0, 2, 0, 0, 3, 0, 127, 7, 0, 2, 17, 0, 9, 4, 5, 3, 0, 127, 7, 0, 0, 1, 3, 0, 2, 2, 0, 5, 2, 12, 0, 2, 0, 0, 3, 0, 128, 3, 0, 127, 7, 0, 0, 12, 4, 8, 3, 0, 128, 3, 0, 127, 7, 0, 0, 1, 3, 0, 128, 7, 0]), (20, [1, 0], [30, -1, 1, 0, 0, -1, 3, 2005000]), (20, [2, 0], [30, -1, 1, 0, 0, -1, 3, 2005000]), (20, [0, 2, 1], [50, 0, 1, 128, 2, 9, 0, 2, 0, 0, 3, 0, 128, 1, 1, 2, 9, 0, 5, 3, 0, 128, 1, 1, 0, 23, 0, 5, 3, 0, 128, 1, 2, 0, -1]), (20, [0, 3], [60, 1, 5, 813, 5, 2, 127, 128, 16, 129])], [(6, (0, 0, 23, []))], [], [], [], [])
theorem oo_Mo_hangs_0 {kA : Nat → ClassId} : or_ok PRD kA GG o_Mo_hangs_0 := by
  refine or_mk fun A ta ws vs hD hth hl => ?_
  intro t0 r0 t1 k1 t2 k2 t3 k3 t4 r4 t5 r5 t6 k6 f0 f1 f2 f3 f4 ta1 w1 le1 s1 f6 f7 f8 f9 f10 f11
  replace f0 := shm_106 f0
  replace f1 := shm_586 f1
  have s1 : (∀ b j, w_el ws b j = if b = v_ad (n_v vs 4) ∧ j = (v_iv (n_v vs 1)).toNat then v_iv (n_v vs 2) else w_el w1 b j) ∧ ∀ b k, w_fd ws b k = w_fd w1 b k := s1.2
  replace f6 := shm_588 f6
  replace f7 := shm_589 f7
  replace f8 := shm_294 f8
  replace f9 := shm_294 f9
  replace f10 := shm_587 f10
  replace f11 := shm_590 f11
  have ar_0_2_1 : w_ar w1 (n_v vs 0) 2 = w_ar ws (n_v vs 0) 2 := congrArg v_ad (s1.2 _ _).symm
  have cr_0_2 := fdq_12 hD hth r0
  have ar_0_16_1 : w_ar w1 (n_v vs 0) 16 = w_ar ws (n_v vs 0) 16 := congrArg v_ad (s1.2 _ _).symm
  have cr_0_16 := fdq_152 hD hth r0
  have ar_0_127_1 : w_ar w1 (n_v vs 0) 127 = w_ar ws (n_v vs 0) 127 := congrArg v_ad (s1.2 _ _).symm
  have cr_0_127 := fdq_153 hD hth r0
  have ar_0_128_1 : w_ar w1 (n_v vs 0) 128 = w_ar ws (n_v vs 0) 128 := congrArg v_ad (s1.2 _ _).symm
  have cr_0_128 := fdq_154 hD hth r0
  have ar_0_129_1 : w_ar w1 (n_v vs 0) 129 = w_ar ws (n_v vs 0) 129 := congrArg v_ad (s1.2 _ _).symm
  have cr_0_129 := fdq_155 hD hth r0
  have fi_0_5_1 : w_fi w1 (n_v vs 0) 5 = w_fi ws (n_v vs 0) 5 := by show v_iv (w_fd w1 _ _) = v_iv (w_fd ws _ _); rw [s1.2]
  have ad_5 : v_ad (n_v vs 5) = w_ar ws (n_v vs 0) 128 := congrArg v_ad f1
  have ad_4 : v_ad (n_v vs 4) = w_ar ws (n_v vs 0) 127 := (congrArg v_ad f6).trans ar_0_127_1
  simp only [ad_5] at f0
  have h0 : v_iv (n_v vs 6) = w_ei ws (w_ar ws (n_v vs 0) 128) (v_iv (n_v vs 2)) := f0
  simp only [ar_0_2_1, ar_0_127_1, ar_0_128_1, ar_0_16_1, ar_0_129_1] at f7 f8 f9 f10 f11
  simp only [fi_0_5_1] at f8 f9
  have fe_0_5_1 : w_fi ws (n_v vs 0) 5 = w_fi w1 (n_v vs 0) 5 := congrArg v_iv (s1.2 _ _)
  have hE_0_2_1 : ∀ j : Int, w_ei ws (w_ar ws (n_v vs 0) 2) j = w_ei w1 (w_ar ws (n_v vs 0) 2) j := el_kp s1.1 r4 cr_0_2 (by decide)
  have hE_0_16_1 : ∀ j : Int, w_ei ws (w_ar ws (n_v vs 0) 16) j = w_ei w1 (w_ar ws (n_v vs 0) 16) j := el_kp s1.1 r4 cr_0_16 (by decide)
  have hK_0_16 := elq_83 hD hth cr_0_16
  have hE_0_127_1 : ∀ j : Int, 0 ≤ j → (j = v_iv (n_v vs 1) → w_ei ws (w_ar ws (n_v vs 0) 127) j = v_iv (n_v vs 2)) ∧ (j ≠ v_iv (n_v vs 1) → w_ei ws (w_ar ws (n_v vs 0) 127) j = w_ei w1 (w_ar ws (n_v vs 0) 127) j) := fun j hj => ⟨fun h => by unfold w_ei; rw [s1.1, if_pos ⟨ad_4.symm, by rw [h]⟩], fun h => by unfold w_ei; rw [s1.1, if_neg (fun e => h (by have := e.2; omega))]⟩
  have hK_0_127 := elq_84 hD hth cr_0_127
  have hE_0_128_1 : ∀ j : Int, w_ei ws (w_ar ws (n_v vs 0) 128) j = w_ei w1 (w_ar ws (n_v vs 0) 128) j := el_kp s1.1 r4 cr_0_128 (by decide)
  have hK_0_128 := elq_85 hD hth cr_0_128
  have hE_0_129_1 : ∀ j : Int, w_ei ws (w_ar ws (n_v vs 0) 129) j = w_ei w1 (w_ar ws (n_v vs 0) 129) j := el_kp s1.1 r4 cr_0_129 (by decide)
  have hK_0_129 := elq_86 hD hth cr_0_129
  have hrf0 : 0 ≤ v_iv (n_v vs 6) ∧ v_iv (n_v vs 6) ≤ 23 := vc_Mo_hangs_0_r0 (v_iv (n_v vs 1)) (v_iv (n_v vs 2)) (v_iv (n_v vs 3)) (v_iv (n_v vs 6)) (w_ei ws (w_ar ws (n_v vs 0) 128)) (w_ei ws (w_ar ws (n_v vs 0) 2)) (w_fi ws (n_v vs 0) 5) (w_ei w1 (w_ar ws (n_v vs 0) 2)) (w_ei w1 (w_ar ws (n_v vs 0) 128)) (w_ei w1 (w_ar ws (n_v vs 0) 127)) (w_fi w1 (n_v vs 0) 5) (w_ei w1 (w_ar ws (n_v vs 0) 16)) (w_ei w1 (w_ar ws (n_v vs 0) 129)) (w_ei ws (w_ar ws (n_v vs 0) 16)) (w_ei ws (w_ar ws (n_v vs 0) 127)) (w_ei ws (w_ar ws (n_v vs 0) 129)) k1 k2 k3 k6 h0 (shm_294 f2) (shm_294 f3) (shm_587 f4) f7 f8 f9 f10 f11 fe_0_5_1 hE_0_2_1 hE_0_16_1 hK_0_16 hE_0_127_1 hK_0_127 hE_0_128_1 hK_0_128 hE_0_129_1 hK_0_129
  have rf6 : tv_ok ta (0, 0, 23, []) (n_v vs 6) := tv_in t6 (by first | omega | grind) (by first | omega | grind)
  refine ⟨List.forall_mem_cons.mpr ⟨rf6, (fun _ h => (by cases h))⟩, [], trivial, ?_, (fun _ h => (by cases h))⟩
  rw [List.append_nil]
  exact (fun _ h => (by cases h))
set_option maxHeartbeats 4000000 in
theorem vc_Mo_hangs_1_0 (x1 : Int) (x2 : Int) (x3 : Int) (x6 : Int) (x7 : Int) (x8 : Int) (all_0 : Int → Int) (r_0 : Int) (level_1 : Int → Int) (all_1 : Int → Int) (all_2 : Int → Int) (level_2 : Int → Int) (above_2 : Int → Int) (r_2 : Int) (partOf_2 : Int → Int) (root_2 : Int → Int) (r_1 : Int) (partOf_0 : Int → Int) (partOf_1 : Int → Int) (above_0 : Int → Int) (above_1 : Int → Int) (level_0 : Int → Int) (root_0 : Int → Int) (root_1 : Int → Int) (k1 : 0 ≤ x1 ∧ x1 ≤ 23) (k2 : 0 ≤ x2 ∧ x2 ≤ 23) (k3 : 0 ≤ x3 ∧ x3 ≤ 24) (k6 : 0 ≤ x6 ∧ x6 ≤ 23) (k7 : 1 ≤ x7 ∧ x7 ≤ 1) (k8 : 1 ≤ x8 ∧ x8 ≤ 24) (d0 : x6 + 1 ≤ x8 ∧ x8 ≤ x6 + 1) (f0 : 1 * x1 + ((-1) * all_0 (r_0 + 0) + 0) ≤ (-1)) (f1 : 1 * x2 + ((-1) * all_0 (r_0 + 0) + 0) ≤ (-1)) (f3 : x8 = x6 + x7) (h4 : x6 = level_1 (x2)) (f6 : 1 * x1 + ((-1) * all_1 (r_0 + 0) + 0) ≤ (-1)) (f7 : 1 * x2 + ((-1) * all_1 (r_0 + 0) + 0) ≤ (-1)) (f8 : (0 ≤ level_1 (x2)) ∧ ((level_1 (x2) ≤ 23) ∧ (level_1 (x1) ≤ (-1)))) (f11 : ∀ j0 : Int, 0 ≤ j0 → j0 < 24 → (((j0 + 1) ≤ all_2 (r_2)) → (((-1) ≤ level_2 (j0)) ∧ ((level_2 (j0) ≤ 24) ∧ ((0 ≤ above_2 (j0)) → (((above_2 (j0) + 1) ≤ all_2 (r_2)) ∧ ((0 ≤ level_2 (above_2 (j0))) ∧ ((level_2 (above_2 (j0)) + 1) ≤ level_2 (j0))))))))) (f12 : 1 * x1 + ((-1) * all_2 (r_0 + 0) + 0) ≤ (-1)) (f13 : 1 * x2 + ((-1) * all_2 (r_0 + 0) + 0) ≤ (-1)) (f14 : (0 ≤ level_2 (x2)) ∧ ((level_2 (x2) ≤ 23) ∧ (level_2 (x1) ≤ (-1)))) (f15 : BFS (r_2) (all_2) (above_2) (level_2) (partOf_2) (root_2) (x3)) (fe_0_5_1 : r_0 = r_1) (fe_0_5_2 : r_1 = r_2) (hE_0_2_1 : ∀ j : Int, all_0 j = all_1 j) (hE_0_2_2 : ∀ j : Int, all_1 j = all_2 j) (hE_0_16_1 : ∀ j : Int, partOf_0 j = partOf_1 j) (hE_0_16_2 : ∀ j : Int, partOf_1 j = partOf_2 j) (hK_0_16 : ∀ j : Int, 0 ≤ j → j < 25 → (-1) ≤ partOf_0 j ∧ partOf_0 j ≤ 24) (hE_0_127_1 : ∀ j : Int, above_0 j = above_1 j) (hE_0_127_2 : ∀ j : Int, 0 ≤ j → (j = x1 → above_1 j = x2) ∧ (j ≠ x1 → above_1 j = above_2 j)) (hK_0_127 : ∀ j : Int, 0 ≤ j → j < 26 → (-1) ≤ above_0 j ∧ above_0 j ≤ 23) (hE_0_128_1 : ∀ j : Int, 0 ≤ j → (j = x1 → level_0 j = x8) ∧ (j ≠ x1 → level_0 j = level_1 j)) (hE_0_128_2 : ∀ j : Int, level_1 j = level_2 j) (hK_0_128 : ∀ j : Int, 0 ≤ j → j < 26 → (-23) ≤ level_0 j ∧ level_0 j ≤ 24) (hE_0_129_1 : ∀ j : Int, root_0 j = root_1 j) (hE_0_129_2 : ∀ j : Int, root_1 j = root_2 j) (hK_0_129 : ∀ j : Int, 0 ≤ j → j < 26 → (-1) ≤ root_0 j ∧ root_0 j ≤ 23) : ∀ j0 : Int, 0 ≤ j0 → j0 < 24 → (((j0 + 1) ≤ all_0 (r_0)) → (((-1) ≤ level_0 (j0)) ∧ ((level_0 (j0) ≤ 24) ∧ ((0 ≤ above_0 (j0)) → (((above_0 (j0) + 1) ≤ all_0 (r_0)) ∧ ((0 ≤ level_0 (above_0 (j0))) ∧ ((level_0 (above_0 (j0)) + 1) ≤ level_0 (j0)))))))) := by
  subst fe_0_5_1
  subst fe_0_5_2
  have e_hE_0_2_1 := funext hE_0_2_1; subst e_hE_0_2_1
  have e_hE_0_2_2 := funext hE_0_2_2; subst e_hE_0_2_2
  have e_hE_0_16_1 := funext hE_0_16_1; subst e_hE_0_16_1
  have e_hE_0_16_2 := funext hE_0_16_2; subst e_hE_0_16_2
  have e_hE_0_127_1 := funext hE_0_127_1; subst e_hE_0_127_1
  have e_hE_0_128_2 := funext hE_0_128_2; subst e_hE_0_128_2
  have e_hE_0_129_1 := funext hE_0_129_1; subst e_hE_0_129_1
  have e_hE_0_129_2 := funext hE_0_129_2; subst e_hE_0_129_2
  try simp only [Int.add_zero] at *
  first
    | omega
    | exact ab_hang (i := x1) (f := x2) (u := x6) (by assumption) (by omega) (by omega) (by omega) (by omega) (by omega) (by omega) (by omega) (by omega) (by assumption) (by omega) (by omega) (by assumption) (by omega) (by assumption) (by omega)
  
set_option maxHeartbeats 4000000 in
theorem vc_Mo_hangs_1_1 (x1 : Int) (x2 : Int) (x3 : Int) (x6 : Int) (x7 : Int) (x8 : Int) (all_0 : Int → Int) (r_0 : Int) (level_1 : Int → Int) (all_1 : Int → Int) (all_2 : Int → Int) (level_2 : Int → Int) (above_2 : Int → Int) (r_2 : Int) (partOf_2 : Int → Int) (root_2 : Int → Int) (r_1 : Int) (partOf_0 : Int → Int) (partOf_1 : Int → Int) (above_0 : Int → Int) (above_1 : Int → Int) (level_0 : Int → Int) (root_0 : Int → Int) (root_1 : Int → Int) (k1 : 0 ≤ x1 ∧ x1 ≤ 23) (k2 : 0 ≤ x2 ∧ x2 ≤ 23) (k3 : 0 ≤ x3 ∧ x3 ≤ 24) (k6 : 0 ≤ x6 ∧ x6 ≤ 23) (k7 : 1 ≤ x7 ∧ x7 ≤ 1) (k8 : 1 ≤ x8 ∧ x8 ≤ 24) (d0 : x6 + 1 ≤ x8 ∧ x8 ≤ x6 + 1) (f0 : 1 * x1 + ((-1) * all_0 (r_0 + 0) + 0) ≤ (-1)) (f1 : 1 * x2 + ((-1) * all_0 (r_0 + 0) + 0) ≤ (-1)) (f3 : x8 = x6 + x7) (h4 : x6 = level_1 (x2)) (f6 : 1 * x1 + ((-1) * all_1 (r_0 + 0) + 0) ≤ (-1)) (f7 : 1 * x2 + ((-1) * all_1 (r_0 + 0) + 0) ≤ (-1)) (f8 : (0 ≤ level_1 (x2)) ∧ ((level_1 (x2) ≤ 23) ∧ (level_1 (x1) ≤ (-1)))) (f11 : ∀ j0 : Int, 0 ≤ j0 → j0 < 24 → (((j0 + 1) ≤ all_2 (r_2)) → (((-1) ≤ level_2 (j0)) ∧ ((level_2 (j0) ≤ 24) ∧ ((0 ≤ above_2 (j0)) → (((above_2 (j0) + 1) ≤ all_2 (r_2)) ∧ ((0 ≤ level_2 (above_2 (j0))) ∧ ((level_2 (above_2 (j0)) + 1) ≤ level_2 (j0))))))))) (f12 : 1 * x1 + ((-1) * all_2 (r_0 + 0) + 0) ≤ (-1)) (f13 : 1 * x2 + ((-1) * all_2 (r_0 + 0) + 0) ≤ (-1)) (f14 : (0 ≤ level_2 (x2)) ∧ ((level_2 (x2) ≤ 23) ∧ (level_2 (x1) ≤ (-1)))) (f15 : BFS (r_2) (all_2) (above_2) (level_2) (partOf_2) (root_2) (x3)) (fe_0_5_1 : r_0 = r_1) (fe_0_5_2 : r_1 = r_2) (hE_0_2_1 : ∀ j : Int, all_0 j = all_1 j) (hE_0_2_2 : ∀ j : Int, all_1 j = all_2 j) (hE_0_16_1 : ∀ j : Int, partOf_0 j = partOf_1 j) (hE_0_16_2 : ∀ j : Int, partOf_1 j = partOf_2 j) (hK_0_16 : ∀ j : Int, 0 ≤ j → j < 25 → (-1) ≤ partOf_0 j ∧ partOf_0 j ≤ 24) (hE_0_127_1 : ∀ j : Int, above_0 j = above_1 j) (hE_0_127_2 : ∀ j : Int, 0 ≤ j → (j = x1 → above_1 j = x2) ∧ (j ≠ x1 → above_1 j = above_2 j)) (hK_0_127 : ∀ j : Int, 0 ≤ j → j < 26 → (-1) ≤ above_0 j ∧ above_0 j ≤ 23) (hE_0_128_1 : ∀ j : Int, 0 ≤ j → (j = x1 → level_0 j = x8) ∧ (j ≠ x1 → level_0 j = level_1 j)) (hE_0_128_2 : ∀ j : Int, level_1 j = level_2 j) (hK_0_128 : ∀ j : Int, 0 ≤ j → j < 26 → (-23) ≤ level_0 j ∧ level_0 j ≤ 24) (hE_0_129_1 : ∀ j : Int, root_0 j = root_1 j) (hE_0_129_2 : ∀ j : Int, root_1 j = root_2 j) (hK_0_129 : ∀ j : Int, 0 ≤ j → j < 26 → (-1) ≤ root_0 j ∧ root_0 j ≤ 23) : BFS (r_0) (all_0) (above_0) (level_0) (partOf_0) (root_0) (x3) := by
  subst fe_0_5_1
  subst fe_0_5_2
  have e_hE_0_2_1 := funext hE_0_2_1; subst e_hE_0_2_1
  have e_hE_0_2_2 := funext hE_0_2_2; subst e_hE_0_2_2
  have e_hE_0_16_1 := funext hE_0_16_1; subst e_hE_0_16_1
  have e_hE_0_16_2 := funext hE_0_16_2; subst e_hE_0_16_2
  have e_hE_0_127_1 := funext hE_0_127_1; subst e_hE_0_127_1
  have e_hE_0_128_2 := funext hE_0_128_2; subst e_hE_0_128_2
  have e_hE_0_129_1 := funext hE_0_129_1; subst e_hE_0_129_1
  have e_hE_0_129_2 := funext hE_0_129_2; subst e_hE_0_129_2
  try simp only [Int.add_zero] at *
  first
    | assumption
    | exact bfs_hang (i := x1) (f := x2) (u := x6) ‹BFS _ _ _ _ _ _ _› (by omega) (by omega) (by omega) (by omega) (by omega) (by omega) (by assumption) (by omega) (by omega) (by assumption) (by omega) (by assumption) (by omega)
  
def o_Mo_hangs_1 : or_T := (21, 9, [(0, (2, 0, 0, [165])), (1, (0, 0, 23, [])), (2, (0, 0, 23, [])), (3, (0, 0, 24, [])), (4, (2, 0, 0, [257])), (5, (2, 0, 0, [258])), (6, (0, 0, 23, [])), (7, (0, 1, 1, [])), (8, (0, 1, 24, []))], [(20, [1, 0], [30, -1, 1, 0, 0, -1, 3, 2005000]), (20, [2, 0], [30, -1, 1, 0, 0, -1, 3, 2005000]), (100, [5, 1, 8], []), (1, [8, 6, 7], []), (10, [6, 5, 2], []), (9, [5, 0], [128]), (20, [1, 0], [30, -1, 1, 0, 0, -1, 3, 2005000]), (20, [2, 0], [30, -1, 1, 0, 0, -1, 3, 2005000]), (20, [0, 2, 1], [50, 0, 1, 128, 2, 9, 0, 2, 0, 0, 3, 0, 128, 1, 1, 2, 9, 0, 5, 3, 0, 128, 1, 1, 0, 23, 0, 5, 3, 0, 128, 1, 2, 0, -1]), (100, [4, 1, 2], []), (9, [4, 0], [127]), (20, [0], [50, 1, 3, 5, 2, 128, 127, 5, 2, 0, 24, 4, 14, 0, 6, 4, 2, 7, 0, 0, 1, 3, 0, 2, 2, 0, 5, 2, 9, 0, 2, 0, -1, 3, 0, 128, 7, 0, 2, 9, 0, 5, 3, 0, 128, 7, 0, 0, 24, 4, 9, 0, 2, 0, 0, 3, 0, 127, 7, 0, 2, 17, 0, 9, 4, 5, 3, 0, 127, 7, 0, 0, 1, 3, 0, 2, 2, 0, 5, 2, 12, 0, 2, 0, 0, 3, 0, 128, 3, 0, 127, 7, 0, 0, 12, 4, 8, 3, 0, 128, 3, 0, 127, 7, 0, 0, 1, 3, 0, 128, 7, 0]), (20, [1, 0], [30, -1, 1, 0, 0, -1, 3, 2005000]), (20, [2, 0], [30, -1, 1, 0, 0, -1, 3, 2005000]), (20, [0, 2, 1], [50, 0, 1, 128, 2, 9, 0, 2, 0, 0, 3, 0, 128, 1, 1, 2, 9, 0, 5, 3, 0, 128, 1, 1, 0, 23, 0, 5, 3, 0, 128, 1, 2, 0, -1]), (20, [0, 3], [60, 1, 5, 813, 5, 2, 127, 128, 16, 129])], [], [], [(20, [0], [50, 1, 3, 5, 2, 128, 127, 5, 2, 0, 24, 4, 14, 0, 6, 4, 2, 7, 0, 0, 1, 3, 0, 2, 2, 0, 5, 2, 9, 0, 2, 0, -1, 3, 0, 128, 7, 0, 2, 9, 0, 5, 3, 0, 128, 7, 0, 0, 24, 4, 9, 0, 2, 0, 0, 3, 0, 127, 7, 0, 2, 17, 0, 9, 4, 5, 3, 0, 127, 7, 0, 0, 1, 3, 0, 2, 2, 0, 5, 2, 12, 0, 2, 0, 0, 3, 0, 128, 3, 0, 127, 7, 0, 0, 12, 4, 8, 3, 0, 128, 3, 0, 127, 7, 0, 0, 1, 3, 0, 128, 7, 0]), (20, [0, 3], [60, 1, 5, 813, 5, 2, 127, 128, 16, 129])], [], [(8, 6, 1, 1)])
theorem oo_Mo_hangs_1 {kA : Nat → ClassId} : or_ok PRD kA GG o_Mo_hangs_1 := by
  refine or_mk fun A ta ws vs hD hth hl => ?_
  intro t0 r0 t1 k1 t2 k2 t3 k3 t4 r4 t5 r5 t6 k6 t7 k7 t8 k8 d0 f0 f1 ta1 w1 le1 s1 f3 f4 f5 f6 f7 f8 ta2 w2 le2 s2 f10 f11 f12 f13 f14 f15
  have s1 : (∀ b j, w_el ws b j = if b = v_ad (n_v vs 5) ∧ j = (v_iv (n_v vs 1)).toNat then v_iv (n_v vs 8) else w_el w1 b j) ∧ ∀ b k, w_fd ws b k = w_fd w1 b k := s1.2
  replace f4 := shm_106 f4
  replace f5 := shm_586 f5
  replace f6 := shm_294 f6
  replace f7 := shm_294 f7
  replace f8 := shm_587 f8
  have s2 : (∀ b j, w_el w1 b j = if b = v_ad (n_v vs 4) ∧ j = (v_iv (n_v vs 1)).toNat then v_iv (n_v vs 2) else w_el w2 b j) ∧ ∀ b k, w_fd w1 b k = w_fd w2 b k := s2.2
  replace f10 := shm_588 f10
  replace f11 := shm_589 f11
  replace f12 := shm_294 f12
  replace f13 := shm_294 f13
  replace f14 := shm_587 f14
  replace f15 := shm_590 f15
  have ar_0_2_1 : w_ar w1 (n_v vs 0) 2 = w_ar ws (n_v vs 0) 2 := congrArg v_ad (s1.2 _ _).symm
  have ar_0_2_2 : w_ar w2 (n_v vs 0) 2 = w_ar ws (n_v vs 0) 2 := by rw [← ar_0_2_1]; show v_ad (w_fd w2 _ _) = v_ad (w_fd w1 _ _); rw [s2.2]
  have cr_0_2 := fdq_12 hD hth r0
  have ar_0_16_1 : w_ar w1 (n_v vs 0) 16 = w_ar ws (n_v vs 0) 16 := congrArg v_ad (s1.2 _ _).symm
  have ar_0_16_2 : w_ar w2 (n_v vs 0) 16 = w_ar ws (n_v vs 0) 16 := by rw [← ar_0_16_1]; show v_ad (w_fd w2 _ _) = v_ad (w_fd w1 _ _); rw [s2.2]
  have cr_0_16 := fdq_152 hD hth r0
  have ar_0_127_1 : w_ar w1 (n_v vs 0) 127 = w_ar ws (n_v vs 0) 127 := congrArg v_ad (s1.2 _ _).symm
  have ar_0_127_2 : w_ar w2 (n_v vs 0) 127 = w_ar ws (n_v vs 0) 127 := by rw [← ar_0_127_1]; show v_ad (w_fd w2 _ _) = v_ad (w_fd w1 _ _); rw [s2.2]
  have cr_0_127 := fdq_153 hD hth r0
  have ar_0_128_1 : w_ar w1 (n_v vs 0) 128 = w_ar ws (n_v vs 0) 128 := congrArg v_ad (s1.2 _ _).symm
  have ar_0_128_2 : w_ar w2 (n_v vs 0) 128 = w_ar ws (n_v vs 0) 128 := by rw [← ar_0_128_1]; show v_ad (w_fd w2 _ _) = v_ad (w_fd w1 _ _); rw [s2.2]
  have cr_0_128 := fdq_154 hD hth r0
  have ar_0_129_1 : w_ar w1 (n_v vs 0) 129 = w_ar ws (n_v vs 0) 129 := congrArg v_ad (s1.2 _ _).symm
  have ar_0_129_2 : w_ar w2 (n_v vs 0) 129 = w_ar ws (n_v vs 0) 129 := by rw [← ar_0_129_1]; show v_ad (w_fd w2 _ _) = v_ad (w_fd w1 _ _); rw [s2.2]
  have cr_0_129 := fdq_155 hD hth r0
  have fi_0_5_1 : w_fi w1 (n_v vs 0) 5 = w_fi ws (n_v vs 0) 5 := by show v_iv (w_fd w1 _ _) = v_iv (w_fd ws _ _); rw [s1.2]
  have fi_0_5_2 : w_fi w2 (n_v vs 0) 5 = w_fi ws (n_v vs 0) 5 := by rw [← fi_0_5_1]; show v_iv (w_fd w2 _ _) = v_iv (w_fd w1 _ _); rw [s2.2]
  have ad_5 : v_ad (n_v vs 5) = w_ar ws (n_v vs 0) 128 := (congrArg v_ad f5).trans ar_0_128_1
  have ad_4 : v_ad (n_v vs 4) = w_ar ws (n_v vs 0) 127 := (congrArg v_ad f10).trans ar_0_127_2
  simp only [ad_5] at f4
  have h4 : v_iv (n_v vs 6) = w_ei w1 (w_ar ws (n_v vs 0) 128) (v_iv (n_v vs 2)) := f4
  simp only [ar_0_2_1, ar_0_128_1, ar_0_2_2, ar_0_127_2, ar_0_128_2, ar_0_16_2, ar_0_129_2] at f6 f7 f8 f11 f12 f13 f14 f15
  simp only [fi_0_5_1] at f6 f7
  simp only [fi_0_5_2] at f12 f13
  have fe_0_5_1 : w_fi ws (n_v vs 0) 5 = w_fi w1 (n_v vs 0) 5 := congrArg v_iv (s1.2 _ _)
  have fe_0_5_2 : w_fi w1 (n_v vs 0) 5 = w_fi w2 (n_v vs 0) 5 := congrArg v_iv (s2.2 _ _)
  have hE_0_2_1 : ∀ j : Int, w_ei ws (w_ar ws (n_v vs 0) 2) j = w_ei w1 (w_ar ws (n_v vs 0) 2) j := el_kp s1.1 r5 cr_0_2 (by decide)
  have hE_0_2_2 : ∀ j : Int, w_ei w1 (w_ar ws (n_v vs 0) 2) j = w_ei w2 (w_ar ws (n_v vs 0) 2) j := el_kp s2.1 r4 cr_0_2 (by decide)
  have hE_0_16_1 : ∀ j : Int, w_ei ws (w_ar ws (n_v vs 0) 16) j = w_ei w1 (w_ar ws (n_v vs 0) 16) j := el_kp s1.1 r5 cr_0_16 (by decide)
  have hE_0_16_2 : ∀ j : Int, w_ei w1 (w_ar ws (n_v vs 0) 16) j = w_ei w2 (w_ar ws (n_v vs 0) 16) j := el_kp s2.1 r4 cr_0_16 (by decide)
  have hK_0_16 := elq_83 hD hth cr_0_16
  have hE_0_127_1 : ∀ j : Int, w_ei ws (w_ar ws (n_v vs 0) 127) j = w_ei w1 (w_ar ws (n_v vs 0) 127) j := el_kp s1.1 r5 cr_0_127 (by decide)
  have hE_0_127_2 : ∀ j : Int, 0 ≤ j → (j = v_iv (n_v vs 1) → w_ei w1 (w_ar ws (n_v vs 0) 127) j = v_iv (n_v vs 2)) ∧ (j ≠ v_iv (n_v vs 1) → w_ei w1 (w_ar ws (n_v vs 0) 127) j = w_ei w2 (w_ar ws (n_v vs 0) 127) j) := fun j hj => ⟨fun h => by unfold w_ei; rw [s2.1, if_pos ⟨ad_4.symm, by rw [h]⟩], fun h => by unfold w_ei; rw [s2.1, if_neg (fun e => h (by have := e.2; omega))]⟩
  have hK_0_127 := elq_84 hD hth cr_0_127
  have hE_0_128_1 : ∀ j : Int, 0 ≤ j → (j = v_iv (n_v vs 1) → w_ei ws (w_ar ws (n_v vs 0) 128) j = v_iv (n_v vs 8)) ∧ (j ≠ v_iv (n_v vs 1) → w_ei ws (w_ar ws (n_v vs 0) 128) j = w_ei w1 (w_ar ws (n_v vs 0) 128) j) := fun j hj => ⟨fun h => by unfold w_ei; rw [s1.1, if_pos ⟨ad_5.symm, by rw [h]⟩], fun h => by unfold w_ei; rw [s1.1, if_neg (fun e => h (by have := e.2; omega))]⟩
  have hE_0_128_2 : ∀ j : Int, w_ei w1 (w_ar ws (n_v vs 0) 128) j = w_ei w2 (w_ar ws (n_v vs 0) 128) j := el_kp s2.1 r4 cr_0_128 (by decide)
  have hK_0_128 := elq_85 hD hth cr_0_128
  have hE_0_129_1 : ∀ j : Int, w_ei ws (w_ar ws (n_v vs 0) 129) j = w_ei w1 (w_ar ws (n_v vs 0) 129) j := el_kp s1.1 r5 cr_0_129 (by decide)
  have hE_0_129_2 : ∀ j : Int, w_ei w1 (w_ar ws (n_v vs 0) 129) j = w_ei w2 (w_ar ws (n_v vs 0) 129) j := el_kp s2.1 r4 cr_0_129 (by decide)
  have hK_0_129 := elq_86 hD hth cr_0_129
  have nf0 : fc_1 PRD (20, [0], [50, 1, 3, 5, 2, 128, 127, 5, 2, 0, 24, 4, 14, 0, 6, 4, 2, 7, 0, 0, 1, 3, 0, 2, 2, 0, 5, 2, 9, 0, 2, 0, -1, 3, 0, 128, 7, 0, 2, 9, 0, 5, 3, 0, 128, 7, 0, 0, 24, 4, 9, 0, 2, 0, 0, 3, 0, 127, 7, 0, 2, 17, 0, 9, 4, 5, 3, 0, 127, 7, 0, 0, 1, 3, 0, 2, 2, 0, 5, 2, 12, 0, 2, 0, 0, 3, 0, 128, 3, 0, 127, 7, 0, 0, 12, 4, 8, 3, 0, 128, 3, 0, 127, 7, 0, 0, 1, 3, 0, 128, 7, 0]) ws (vs) := ⟨nf_in hl rfl, sgq_589 (vc_Mo_hangs_1_0 (v_iv (n_v vs 1)) (v_iv (n_v vs 2)) (v_iv (n_v vs 3)) (v_iv (n_v vs 6)) (v_iv (n_v vs 7)) (v_iv (n_v vs 8)) (w_ei ws (w_ar ws (n_v vs 0) 2)) (w_fi ws (n_v vs 0) 5) (w_ei w1 (w_ar ws (n_v vs 0) 128)) (w_ei w1 (w_ar ws (n_v vs 0) 2)) (w_ei w2 (w_ar ws (n_v vs 0) 2)) (w_ei w2 (w_ar ws (n_v vs 0) 128)) (w_ei w2 (w_ar ws (n_v vs 0) 127)) (w_fi w2 (n_v vs 0) 5) (w_ei w2 (w_ar ws (n_v vs 0) 16)) (w_ei w2 (w_ar ws (n_v vs 0) 129)) (w_fi w1 (n_v vs 0) 5) (w_ei ws (w_ar ws (n_v vs 0) 16)) (w_ei w1 (w_ar ws (n_v vs 0) 16)) (w_ei ws (w_ar ws (n_v vs 0) 127)) (w_ei w1 (w_ar ws (n_v vs 0) 127)) (w_ei ws (w_ar ws (n_v vs 0) 128)) (w_ei ws (w_ar ws (n_v vs 0) 129)) (w_ei w1 (w_ar ws (n_v vs 0) 129)) k1 k2 k3 k6 k7 k8 d0 (shm_294 f0) (shm_294 f1) (shm_12 f3) h4 f6 f7 f8 f11 f12 f13 f14 f15 fe_0_5_1 fe_0_5_2 hE_0_2_1 hE_0_2_2 hE_0_16_1 hE_0_16_2 hK_0_16 hE_0_127_1 hE_0_127_2 hK_0_127 hE_0_128_1 hE_0_128_2 hK_0_128 hE_0_129_1 hE_0_129_2 hK_0_129)⟩
  have nf1 : fc_1 PRD (20, [0, 3], [60, 1, 5, 813, 5, 2, 127, 128, 16, 129]) ws (vs) := ⟨nf_in hl rfl, sgq_590 (vc_Mo_hangs_1_1 (v_iv (n_v vs 1)) (v_iv (n_v vs 2)) (v_iv (n_v vs 3)) (v_iv (n_v vs 6)) (v_iv (n_v vs 7)) (v_iv (n_v vs 8)) (w_ei ws (w_ar ws (n_v vs 0) 2)) (w_fi ws (n_v vs 0) 5) (w_ei w1 (w_ar ws (n_v vs 0) 128)) (w_ei w1 (w_ar ws (n_v vs 0) 2)) (w_ei w2 (w_ar ws (n_v vs 0) 2)) (w_ei w2 (w_ar ws (n_v vs 0) 128)) (w_ei w2 (w_ar ws (n_v vs 0) 127)) (w_fi w2 (n_v vs 0) 5) (w_ei w2 (w_ar ws (n_v vs 0) 16)) (w_ei w2 (w_ar ws (n_v vs 0) 129)) (w_fi w1 (n_v vs 0) 5) (w_ei ws (w_ar ws (n_v vs 0) 16)) (w_ei w1 (w_ar ws (n_v vs 0) 16)) (w_ei ws (w_ar ws (n_v vs 0) 127)) (w_ei w1 (w_ar ws (n_v vs 0) 127)) (w_ei ws (w_ar ws (n_v vs 0) 128)) (w_ei ws (w_ar ws (n_v vs 0) 129)) (w_ei w1 (w_ar ws (n_v vs 0) 129)) k1 k2 k3 k6 k7 k8 d0 (shm_294 f0) (shm_294 f1) (shm_12 f3) h4 f6 f7 f8 f11 f12 f13 f14 f15 fe_0_5_1 fe_0_5_2 hE_0_2_1 hE_0_2_2 hE_0_16_1 hE_0_16_2 hK_0_16 hE_0_127_1 hE_0_127_2 hK_0_127 hE_0_128_1 hE_0_128_2 hK_0_128 hE_0_129_1 hE_0_129_2 hK_0_129)⟩
  refine ⟨(fun _ h => (by cases h)), [], trivial, ?_, (fun _ h => (by cases h))⟩
  rw [List.append_nil]
  exact List.forall_mem_cons.mpr ⟨⟨show (20 : Nat) < 100 from by decide, nf0⟩, List.forall_mem_cons.mpr ⟨⟨show (20 : Nat) < 100 from by decide, nf1⟩, (fun _ h => (by cases h))⟩⟩
def n_Mo_hangs_an : List an_T := []
def t_Mo_hangs_ct : ct_L := []
set_option maxRecDepth 100000 in
theorem c_Mo_hangs {l : Launch} {D : va_G} {kA : Nat → ClassId} : ct_ok PRD l D kA GG y_Mo_hangs z_Mo_hangs e_Mo_hangs := chk_all_ok (FT := [(290, 13, 127), (293, 13, 128)]) (PT := []) (CT := t_Mo_hangs_ct) (KT := []) (NT := []) (AN := n_Mo_hangs_an) (OT := [o_Mo_hangs_0, o_Mo_hangs_1]) 0 200 (List.forall_mem_cons.mpr ⟨oo_Mo_hangs_0, List.forall_mem_cons.mpr ⟨oo_Mo_hangs_1, List.forall_mem_nil _⟩⟩) (by decide +kernel) ⟨List.forall_mem_cons.mpr ⟨gf_Mo_290, List.forall_mem_cons.mpr ⟨gf_Mo_293, List.forall_mem_nil _⟩⟩, List.forall_mem_nil _, List.forall_mem_nil _, List.forall_mem_nil _, List.forall_mem_nil _, GG_pl⟩ (by decide +kernel)
set_option maxHeartbeats 4000000 in
theorem vc_Mo_head_0_0 (x1 : Int) (x3 : Int) (x4 : Int) (x5 : Int) (x6 : Int) (x7 : Int) (all_0 : Int → Int) (r_0 : Int) (k1 : 0 ≤ x1 ∧ x1 ≤ 47) (k3 : 0 ≤ x3 ∧ x3 ≤ 66297) (k4 : 315 ≤ x4 ∧ x4 ≤ 315) (k5 : 315 ≤ x5 ∧ x5 ≤ 66612) (k6 : 315 ≤ x6 ∧ x6 ≤ 66659) (k7 : 0 ≤ x7 ∧ x7 ≤ 23) (d0 : x1 + 315 ≤ x6 ∧ x6 ≤ x1 + 66612) (d1 : x5 + 0 ≤ x6 ∧ x6 ≤ x5 + 47) (d2 : x3 + 315 ≤ x6 ∧ x6 ≤ x3 + 362) (d3 : x3 + 315 ≤ x5 ∧ x5 ≤ x3 + 315) (h0 : x7 = all_0 (x6)) (f1 : x6 = x5 + x1) (f2 : x5 = x3 + x4) (g3 : x3 = r_0) : x7 = all_0 (((r_0 + 315) + x1)) := by
  first | assumption | omega | grind
def o_Mo_head_0 : or_T := (15, 8, [(1, (0, 0, 47, [])), (3, (0, 0, 66297, [])), (4, (0, 315, 315, [])), (5, (0, 315, 66612, [])), (6, (0, 315, 66659, [])), (7, (0, 0, 23, []))], [(10, [7, 2, 6], []), (1, [6, 5, 1], []), (1, [5, 3, 4], []), (9, [3, 0], [5]), (9, [2, 0], [2])], [], [], [(20, [7, 0, 1], [50, 1, 1, 1005, 1002, 1, 2, 1, 0, 3, 1, 2, 4, 7, 4, 3, 2, 1, 5, 0, 315, 1, 2])], [], [(6, 1, 315, 66612), (6, 5, 0, 47), (6, 3, 315, 362), (5, 3, 315, 315)])
theorem oo_Mo_head_0 {kA : Nat → ClassId} : or_ok PRD kA GG o_Mo_head_0 := by
  refine or_mk fun A ta ws vs hD hth hl => ?_
  intro t1 k1 t3 k3 t4 k4 t5 k5 t6 k6 t7 k7 d0 d1 d2 d3 f0 f1 f2 f3 f4
  replace f0 := shm_106 f0
  replace f3 := shm_109 f3
  replace f4 := shm_129 f4
  have ad_2 : v_ad (n_v vs 2) = w_ar ws (n_v vs 0) 2 := congrArg v_ad f4
  simp only [ad_2] at f0
  have h0 : v_iv (n_v vs 7) = w_ei ws (w_ar ws (n_v vs 0) 2) (v_iv (n_v vs 6)) := f0
  have g3 : v_iv (n_v vs 3) = w_fi ws (n_v vs 0) 5 := congrArg v_iv f3
  have nf0 : fc_1 PRD (20, [7, 0, 1], [50, 1, 1, 1005, 1002, 1, 2, 1, 0, 3, 1, 2, 4, 7, 4, 3, 2, 1, 5, 0, 315, 1, 2]) ws (vs) := ⟨nf_in hl rfl, sgq_591 (vc_Mo_head_0_0 (v_iv (n_v vs 1)) (v_iv (n_v vs 3)) (v_iv (n_v vs 4)) (v_iv (n_v vs 5)) (v_iv (n_v vs 6)) (v_iv (n_v vs 7)) (w_ei ws (w_ar ws (n_v vs 0) 2)) (w_fi ws (n_v vs 0) 5) k1 k3 k4 k5 k6 k7 d0 d1 d2 d3 h0 (shm_12 f1) (shm_12 f2) g3)⟩
  refine ⟨(fun _ h => (by cases h)), [], trivial, ?_, (fun _ h => (by cases h))⟩
  rw [List.append_nil]
  exact List.forall_mem_cons.mpr ⟨⟨show (20 : Nat) < 100 from by decide, nf0⟩, (fun _ h => (by cases h))⟩
def n_Mo_head_an : List an_T := []
def t_Mo_head_ct : ct_L := []
set_option maxRecDepth 100000 in
theorem c_Mo_head {l : Launch} {D : va_G} {kA : Nat → ClassId} : ct_ok PRD l D kA GG y_Mo_head z_Mo_head e_Mo_head := chk_all_ok (FT := [(16, 13, 2), (391, 13, 5)]) (PT := []) (CT := t_Mo_head_ct) (KT := []) (NT := []) (AN := n_Mo_head_an) (OT := [o_Mo_head_0]) 0 200 (List.forall_mem_cons.mpr ⟨oo_Mo_head_0, List.forall_mem_nil _⟩) (by decide +kernel) ⟨List.forall_mem_cons.mpr ⟨gf_Mo_16, List.forall_mem_cons.mpr ⟨gf_Mo_391, List.forall_mem_nil _⟩⟩, List.forall_mem_nil _, List.forall_mem_nil _, List.forall_mem_nil _, List.forall_mem_nil _, GG_pl⟩ (by decide +kernel)
set_option maxHeartbeats 4000000 in
theorem vc_Mo_isAhead_0_0 (x1 : Int) (x2 : Int) (x3 : Int) (all_0 : Int → Int) (level_0 : Int → Int) (above_0 : Int → Int) (r_0 : Int) (gx : Int) (k1 : 0 ≤ x1 ∧ x1 ≤ 23) (k2 : (-1) ≤ x2 ∧ x2 ≤ 23) (k3 : 0 ≤ x3 ∧ x3 ≤ 23) (f0 : ∀ j0 : Int, 0 ≤ j0 → j0 < 24 → (((j0 + 1) ≤ all_0 (r_0)) → (((-1) ≤ level_0 (j0)) ∧ ((level_0 (j0) ≤ 24) ∧ ((0 ≤ above_0 (j0)) → (((above_0 (j0) + 1) ≤ all_0 (r_0)) ∧ ((0 ≤ level_0 (above_0 (j0))) ∧ ((level_0 (above_0 (j0)) + 1) ≤ level_0 (j0))))))))) (f1 : 1 * x1 + ((-1) * all_0 (r_0 + 0) + 0) ≤ (-1)) (hK_0_127 : ∀ j : Int, 0 ≤ j → j < 26 → (-1) ≤ above_0 j ∧ above_0 j ≤ 23) (hK_0_128 : ∀ j : Int, 0 ≤ j → j < 26 → (-23) ≤ level_0 j ∧ level_0 j ≤ 24) (ex2 : gx = 60) (ex3 : (-2) ≤ gx ∧ gx ≤ 60) : ∀ j0 : Int, 0 ≤ j0 → j0 < 24 → (((j0 + 1) ≤ all_0 (r_0)) → (((-1) ≤ level_0 (j0)) ∧ ((level_0 (j0) ≤ 24) ∧ ((0 ≤ above_0 (j0)) → (((above_0 (j0) + 1) ≤ all_0 (r_0)) ∧ ((0 ≤ level_0 (above_0 (j0))) ∧ ((level_0 (above_0 (j0)) + 1) ≤ level_0 (j0)))))))) := by
  try simp only [Int.add_zero] at *
  first
    | omega
    | (have q := hK_0_128 x1 (by omega) (by omega); right; exact ⟨by omega, by omega⟩)
    | (have q := hK_0_128 x8 (by omega) (by omega); have g := f5 x8 (by omega) (by omega) (by omega); omega)
    | (have e : x12 = above_0 x8 := by assumption
       have g := f5 x8 (by omega) (by omega) (by omega)
       by_cases w : 0 ≤ x12
       · right
         have g2 := g.2.2 (by omega)
         rw [← e] at g2
         omega
       · left; omega)
  
set_option maxHeartbeats 4000000 in
theorem vc_Mo_isAhead_0_1 (x1 : Int) (x2 : Int) (x3 : Int) (all_0 : Int → Int) (level_0 : Int → Int) (above_0 : Int → Int) (r_0 : Int) (gx : Int) (k1 : 0 ≤ x1 ∧ x1 ≤ 23) (k2 : (-1) ≤ x2 ∧ x2 ≤ 23) (k3 : 0 ≤ x3 ∧ x3 ≤ 23) (f0 : ∀ j0 : Int, 0 ≤ j0 → j0 < 24 → (((j0 + 1) ≤ all_0 (r_0)) → (((-1) ≤ level_0 (j0)) ∧ ((level_0 (j0) ≤ 24) ∧ ((0 ≤ above_0 (j0)) → (((above_0 (j0) + 1) ≤ all_0 (r_0)) ∧ ((0 ≤ level_0 (above_0 (j0))) ∧ ((level_0 (above_0 (j0)) + 1) ≤ level_0 (j0))))))))) (f1 : 1 * x1 + ((-1) * all_0 (r_0 + 0) + 0) ≤ (-1)) (hK_0_127 : ∀ j : Int, 0 ≤ j → j < 26 → (-1) ≤ above_0 j ∧ above_0 j ≤ 23) (hK_0_128 : ∀ j : Int, 0 ≤ j → j < 26 → (-23) ≤ level_0 j ∧ level_0 j ≤ 24) (ex2 : gx = 60) (ex3 : (-2) ≤ gx ∧ gx ≤ 60) : (x1 ≤ (-1)) ∨ (((x1 + 1) ≤ all_0 (r_0)) ∧ ((level_0 (x1) + 0) ≤ gx)) := by
  try simp only [Int.add_zero] at *
  first
    | omega
    | (have q := hK_0_128 x1 (by omega) (by omega); right; exact ⟨by omega, by omega⟩)
    | (have q := hK_0_128 x8 (by omega) (by omega); have g := f5 x8 (by omega) (by omega) (by omega); omega)
    | (have e : x12 = above_0 x8 := by assumption
       have g := f5 x8 (by omega) (by omega) (by omega)
       by_cases w : 0 ≤ x12
       · right
         have g2 := g.2.2 (by omega)
         rw [← e] at g2
         omega
       · left; omega)
  
set_option maxHeartbeats 4000000 in
theorem vc_Mo_isAhead_0_2 (x1 : Int) (x2 : Int) (x3 : Int) (all_0 : Int → Int) (level_0 : Int → Int) (above_0 : Int → Int) (r_0 : Int) (gx : Int) (k1 : 0 ≤ x1 ∧ x1 ≤ 23) (k2 : (-1) ≤ x2 ∧ x2 ≤ 23) (k3 : 0 ≤ x3 ∧ x3 ≤ 23) (f0 : ∀ j0 : Int, 0 ≤ j0 → j0 < 24 → (((j0 + 1) ≤ all_0 (r_0)) → (((-1) ≤ level_0 (j0)) ∧ ((level_0 (j0) ≤ 24) ∧ ((0 ≤ above_0 (j0)) → (((above_0 (j0) + 1) ≤ all_0 (r_0)) ∧ ((0 ≤ level_0 (above_0 (j0))) ∧ ((level_0 (above_0 (j0)) + 1) ≤ level_0 (j0))))))))) (f1 : 1 * x1 + ((-1) * all_0 (r_0 + 0) + 0) ≤ (-1)) (hK_0_127 : ∀ j : Int, 0 ≤ j → j < 26 → (-1) ≤ above_0 j ∧ above_0 j ≤ 23) (hK_0_128 : ∀ j : Int, 0 ≤ j → j < 26 → (-23) ≤ level_0 j ∧ level_0 j ≤ 24) (ex2 : gx = 60) (ex3 : (-2) ≤ gx ∧ gx ≤ 60) : AH1 (above_0) (x1) (x2) (x1) := by
  first
    | assumption
    | exact fun _ _ => by omega
    | (intro a b
       have h := ‹AH1 _ _ _ _› a b
       have e : x11 = above_0 x8 := by assumption
       rw [h, b] at e
       exfalso; omega)
  
def o_Mo_isAhead_0 : or_T := (3, 4, [(0, (2, 0, 0, [165])), (1, (0, 0, 23, [])), (2, (0, -1, 23, [])), (3, (0, 0, 23, []))], [(20, [0], [50, 1, 3, 5, 2, 128, 127, 5, 2, 0, 24, 4, 14, 0, 6, 4, 2, 7, 0, 0, 1, 3, 0, 2, 2, 0, 5, 2, 9, 0, 2, 0, -1, 3, 0, 128, 7, 0, 2, 9, 0, 5, 3, 0, 128, 7, 0, 0, 24, 4, 9, 0, 2, 0, 0, 3, 0, 127, 7, 0, 2, 17, 0, 9, 4, 5, 3, 0, 127, 7, 0, 0, 1, 3, 0, 2, 2, 0, 5, 2, 12, 0, 2, 0, 0, 3, 0, 128, 3, 0, 127, 7, 0, 0, 12, 4, 8, 3, 0, 128, 3, 0, 127, 7, 0, 0, 1, 3, 0, 128, 7, 0]), (20, [1, 0], [30, -1, 1, 0, 0, -1, 3, 2005000])], [], [(0, -2, 60, [])], [(20, [0], [50, 1, 3, 5, 2, 128, 127, 5, 2, 0, 24, 4, 14, 0, 6, 4, 2, 7, 0, 0, 1, 3, 0, 2, 2, 0, 5, 2, 9, 0, 2, 0, -1, 3, 0, 128, 7, 0, 2, 9, 0, 5, 3, 0, 128, 7, 0, 0, 24, 4, 9, 0, 2, 0, 0, 3, 0, 127, 7, 0, 2, 17, 0, 9, 4, 5, 3, 0, 127, 7, 0, 0, 1, 3, 0, 2, 2, 0, 5, 2, 12, 0, 2, 0, 0, 3, 0, 128, 3, 0, 127, 7, 0, 0, 12, 4, 8, 3, 0, 128, 3, 0, 127, 7, 0, 0, 1, 3, 0, 128, 7, 0]), (20, [1, 0, 4], [50, 1, 2, 1005, 1002, 1128, 3, 6, 0, 2, 1, 0, 0, -1, 2, 14, 0, 6, 4, 2, 1, 0, 0, 1, 3, 1, 2, 2, 1, 5, 0, 9, 4, 5, 3, 1, 128, 1, 0, 0, 0, 1, 2]), (20, [0, 1, 2, 1], [60, 0, 1, 798, 127]), (24, [0, 0], []), (24, [1, 1], []), (24, [2, 2], []), (24, [3, 3], [])], [], [])
theorem oo_Mo_isAhead_0 {kA : Nat → ClassId} : or_ok PRD kA GG o_Mo_isAhead_0 := by
  refine or_mk fun A ta ws vs hD hth hl => ?_
  intro t0 r0 t1 k1 t2 k2 t3 k3 f0 f1
  replace f0 := shm_589 f0
  replace f1 := shm_294 f1
  have cr_0_127 := fdq_153 hD hth r0
  have cr_0_128 := fdq_154 hD hth r0
  have hK_0_127 := elq_84 hD hth cr_0_127
  have hK_0_128 := elq_85 hD hth cr_0_128
  obtain ⟨x, ex, hx⟩ := iv_ex (ta := ta) (lo := (-2)) (hi := 60) (z := 60) (by omega) (by omega) (by omega) (by omega)
  have ex2 : v_iv (Value.int x) = 60 := ex
  have ex3 : (-2) ≤ v_iv (Value.int x) ∧ v_iv (Value.int x) ≤ 60 := tv_rng hx
  have e_0 : n_v (vs ++ [Value.int x]) 0 = n_v vs 0 := n_v_old (by rw [hl]; decide)
  have e_1 : n_v (vs ++ [Value.int x]) 1 = n_v vs 1 := n_v_old (by rw [hl]; decide)
  have e_2 : n_v (vs ++ [Value.int x]) 2 = n_v vs 2 := n_v_old (by rw [hl]; decide)
  have e_3 : n_v (vs ++ [Value.int x]) 3 = n_v vs 3 := n_v_old (by rw [hl]; decide)
  have e_4 : n_v (vs ++ [Value.int x]) 4 = Value.int x := n_v_new hl
  have nf0 : fc_1 PRD (20, [0], [50, 1, 3, 5, 2, 128, 127, 5, 2, 0, 24, 4, 14, 0, 6, 4, 2, 7, 0, 0, 1, 3, 0, 2, 2, 0, 5, 2, 9, 0, 2, 0, -1, 3, 0, 128, 7, 0, 2, 9, 0, 5, 3, 0, 128, 7, 0, 0, 24, 4, 9, 0, 2, 0, 0, 3, 0, 127, 7, 0, 2, 17, 0, 9, 4, 5, 3, 0, 127, 7, 0, 0, 1, 3, 0, 2, 2, 0, 5, 2, 12, 0, 2, 0, 0, 3, 0, 128, 3, 0, 127, 7, 0, 0, 12, 4, 8, 3, 0, 128, 3, 0, 127, 7, 0, 0, 1, 3, 0, 128, 7, 0]) ws (vs ++ [Value.int x]) := by
    refine ⟨nf_inA hl rfl, sgq_589 ?_⟩
    · show ∀ j0 : Int, 0 ≤ j0 → j0 < 24 → (((j0 + 1) ≤ w_ei ws (w_ar ws (n_v (vs ++ [Value.int x]) 0) 2) (w_fi ws (n_v (vs ++ [Value.int x]) 0) 5)) → (((-1) ≤ w_ei ws (w_ar ws (n_v (vs ++ [Value.int x]) 0) 128) (j0)) ∧ ((w_ei ws (w_ar ws (n_v (vs ++ [Value.int x]) 0) 128) (j0) ≤ 24) ∧ ((0 ≤ w_ei ws (w_ar ws (n_v (vs ++ [Value.int x]) 0) 127) (j0)) → (((w_ei ws (w_ar ws (n_v (vs ++ [Value.int x]) 0) 127) (j0) + 1) ≤ w_ei ws (w_ar ws (n_v (vs ++ [Value.int x]) 0) 2) (w_fi ws (n_v (vs ++ [Value.int x]) 0) 5)) ∧ ((0 ≤ w_ei ws (w_ar ws (n_v (vs ++ [Value.int x]) 0) 128) (w_ei ws (w_ar ws (n_v (vs ++ [Value.int x]) 0) 127) (j0))) ∧ ((w_ei ws (w_ar ws (n_v (vs ++ [Value.int x]) 0) 128) (w_ei ws (w_ar ws (n_v (vs ++ [Value.int x]) 0) 127) (j0)) + 1) ≤ w_ei ws (w_ar ws (n_v (vs ++ [Value.int x]) 0) 128) (j0))))))))
      rw [e_0]
      exact vc_Mo_isAhead_0_0 (v_iv (n_v vs 1)) (v_iv (n_v vs 2)) (v_iv (n_v vs 3)) (w_ei ws (w_ar ws (n_v vs 0) 2)) (w_ei ws (w_ar ws (n_v vs 0) 128)) (w_ei ws (w_ar ws (n_v vs 0) 127)) (w_fi ws (n_v vs 0) 5) (v_iv (Value.int x)) k1 k2 k3 f0 f1 hK_0_127 hK_0_128 ex2 ex3
  have nf1 : fc_1 PRD (20, [1, 0, 4], [50, 1, 2, 1005, 1002, 1128, 3, 6, 0, 2, 1, 0, 0, -1, 2, 14, 0, 6, 4, 2, 1, 0, 0, 1, 3, 1, 2, 2, 1, 5, 0, 9, 4, 5, 3, 1, 128, 1, 0, 0, 0, 1, 2]) ws (vs ++ [Value.int x]) := by
    refine ⟨nf_inA hl rfl, sgq_592 ?_⟩
    · show (v_iv (n_v (vs ++ [Value.int x]) 1) ≤ (-1)) ∨ (((v_iv (n_v (vs ++ [Value.int x]) 1) + 1) ≤ w_ei ws (w_ar ws (n_v (vs ++ [Value.int x]) 0) 2) (w_fi ws (n_v (vs ++ [Value.int x]) 0) 5)) ∧ ((w_ei ws (w_ar ws (n_v (vs ++ [Value.int x]) 0) 128) (v_iv (n_v (vs ++ [Value.int x]) 1)) + 0) ≤ v_iv (n_v (vs ++ [Value.int x]) 4)))
      simp only [e_0, e_1, e_4]
      exact vc_Mo_isAhead_0_1 (v_iv (n_v vs 1)) (v_iv (n_v vs 2)) (v_iv (n_v vs 3)) (w_ei ws (w_ar ws (n_v vs 0) 2)) (w_ei ws (w_ar ws (n_v vs 0) 128)) (w_ei ws (w_ar ws (n_v vs 0) 127)) (w_fi ws (n_v vs 0) 5) (v_iv (Value.int x)) k1 k2 k3 f0 f1 hK_0_127 hK_0_128 ex2 ex3
  have nf2 : fc_1 PRD (20, [0, 1, 2, 1], [60, 0, 1, 798, 127]) ws (vs ++ [Value.int x]) := by
    refine ⟨nf_inA hl rfl, sgq_593 ?_⟩
    · show AH1 (w_ei ws (w_ar ws (n_v (vs ++ [Value.int x]) 0) 127)) (v_iv (n_v (vs ++ [Value.int x]) 1)) (v_iv (n_v (vs ++ [Value.int x]) 2)) (v_iv (n_v (vs ++ [Value.int x]) 1))
      simp only [e_0, e_1, e_2]
      exact vc_Mo_isAhead_0_2 (v_iv (n_v vs 1)) (v_iv (n_v vs 2)) (v_iv (n_v vs 3)) (w_ei ws (w_ar ws (n_v vs 0) 2)) (w_ei ws (w_ar ws (n_v vs 0) 128)) (w_ei ws (w_ar ws (n_v vs 0) 127)) (w_fi ws (n_v vs 0) 5) (v_iv (Value.int x)) k1 k2 k3 f0 f1 hK_0_127 hK_0_128 ex2 ex3
  have nf3 : fc_1 PRD (24, [0, 0], []) ws (vs ++ [Value.int x]) := by
    refine ⟨nf_inA hl rfl, sgq_1 ?_⟩
    · show n_v (vs ++ [Value.int x]) 0 = n_v (vs ++ [Value.int x]) 0
      first | rfl | simp only [e_0]
  have nf4 : fc_1 PRD (24, [1, 1], []) ws (vs ++ [Value.int x]) := by
    refine ⟨nf_inA hl rfl, sgq_1 ?_⟩
    · show n_v (vs ++ [Value.int x]) 1 = n_v (vs ++ [Value.int x]) 1
      first | rfl | simp only [e_1]
  have nf5 : fc_1 PRD (24, [2, 2], []) ws (vs ++ [Value.int x]) := by
    refine ⟨nf_inA hl rfl, sgq_1 ?_⟩
    · show n_v (vs ++ [Value.int x]) 2 = n_v (vs ++ [Value.int x]) 2
      first | rfl | simp only [e_2]
  have nf6 : fc_1 PRD (24, [3, 3], []) ws (vs ++ [Value.int x]) := by
    refine ⟨nf_inA hl rfl, sgq_1 ?_⟩
    · show n_v (vs ++ [Value.int x]) 3 = n_v (vs ++ [Value.int x]) 3
      first | rfl | simp only [e_3]
  exact ⟨(fun _ h => (by cases h)), [Value.int x], ag_one hx, List.forall_mem_cons.mpr ⟨⟨show (20 : Nat) < 100 from by decide, nf0⟩, List.forall_mem_cons.mpr ⟨⟨show (20 : Nat) < 100 from by decide, nf1⟩, List.forall_mem_cons.mpr ⟨⟨show (20 : Nat) < 100 from by decide, nf2⟩, List.forall_mem_cons.mpr ⟨⟨show (24 : Nat) < 100 from by decide, nf3⟩, List.forall_mem_cons.mpr ⟨⟨show (24 : Nat) < 100 from by decide, nf4⟩, List.forall_mem_cons.mpr ⟨⟨show (24 : Nat) < 100 from by decide, nf5⟩, List.forall_mem_cons.mpr ⟨⟨show (24 : Nat) < 100 from by decide, nf6⟩, (fun _ h => (by cases h))⟩⟩⟩⟩⟩⟩⟩, (fun _ h => (by cases h))⟩
set_option maxHeartbeats 4000000 in
theorem vc_Mo_isAhead_1_0 (x1 : Int) (x2 : Int) (x3 : Int) (x5 : Int) (x6 : Int) (x7 : Int) (x8 : Int) (x9 : Int) (x10 : Int) (all_0 : Int → Int) (level_0 : Int → Int) (above_0 : Int → Int) (r_0 : Int) (k1 : 0 ≤ x1 ∧ x1 ≤ 23) (k2 : (-1) ≤ x2 ∧ x2 ≤ 23) (k3 : 0 ≤ x3 ∧ x3 ≤ 23) (k5 : 0 ≤ x5 ∧ x5 ≤ 23) (k6 : (-1) ≤ x6 ∧ x6 ≤ 23) (k7 : 0 ≤ x7 ∧ x7 ≤ 23) (k8 : (-1) ≤ x8 ∧ x8 ≤ (-1)) (k9 : (-2) ≤ x9 ∧ x9 ≤ 60) (k10 : 0 ≤ x10 ∧ x10 ≤ 0) (d0 : x5 + (-4294967296) ≤ x1 ∧ x1 ≤ x5 + 0) (d1 : x6 + (-4294967296) ≤ x2 ∧ x2 ≤ x6 + 0) (d2 : x7 + (-4294967296) ≤ x3 ∧ x3 ≤ x7 + 0) (d3 : x1 + (-4294967296) ≤ x5 ∧ x5 ≤ x1 + 0) (d4 : x2 + (-4294967296) ≤ x6 ∧ x6 ≤ x2 + 0) (d5 : x3 + (-4294967296) ≤ x7 ∧ x7 ≤ x3 + 0) (f0 : x8 < 0) (f1 : x8 < 0) (f2 : ∀ j0 : Int, 0 ≤ j0 → j0 < 24 → (((j0 + 1) ≤ all_0 (r_0)) → (((-1) ≤ level_0 (j0)) ∧ ((level_0 (j0) ≤ 24) ∧ ((0 ≤ above_0 (j0)) → (((above_0 (j0) + 1) ≤ all_0 (r_0)) ∧ ((0 ≤ level_0 (above_0 (j0))) ∧ ((level_0 (above_0 (j0)) + 1) ≤ level_0 (j0))))))))) (f3 : (x8 ≤ (-1)) ∨ (((x8 + 1) ≤ all_0 (r_0)) ∧ ((level_0 (x8) + 0) ≤ x9))) (f4 : AH1 (above_0) (x1) (x2) (x8)) (hK_0_127 : ∀ j : Int, 0 ≤ j → j < 26 → (-1) ≤ above_0 j ∧ above_0 j ≤ 23) (hK_0_128 : ∀ j : Int, 0 ≤ j → j < 26 → (-23) ≤ level_0 j ∧ level_0 j ≤ 24) : AHP (above_0) (x1) (x2) (x3) (x10) := by
  first
    | (intro a b c; have := ‹AH1 _ _ _ _› a c; omega)
  
def o_Mo_isAhead_1 : or_T := (47, 11, [(0, (2, 0, 0, [165])), (1, (0, 0, 23, [])), (2, (0, -1, 23, [])), (3, (0, 0, 23, [])), (5, (0, 0, 23, [])), (6, (0, -1, 23, [])), (7, (0, 0, 23, [])), (8, (0, -1, -1, [])), (9, (0, -2, 60, [])), (10, (0, 0, 0, []))], [(8, [8], [2]), (8, [8], [2]), (20, [4], [50, 1, 3, 5, 2, 128, 127, 5, 2, 0, 24, 4, 14, 0, 6, 4, 2, 7, 0, 0, 1, 3, 0, 2, 2, 0, 5, 2, 9, 0, 2, 0, -1, 3, 0, 128, 7, 0, 2, 9, 0, 5, 3, 0, 128, 7, 0, 0, 24, 4, 9, 0, 2, 0, 0, 3, 0, 127, 7, 0, 2, 17, 0, 9, 4, 5, 3, 0, 127, 7, 0, 0, 1, 3, 0, 2, 2, 0, 5, 2, 12, 0, 2, 0, 0, 3, 0, 128, 3, 0, 127, 7, 0, 0, 12, 4, 8, 3, 0, 128, 3, 0, 127, 7, 0, 0, 1, 3, 0, 128, 7, 0]), (20, [8, 4, 9], [50, 1, 2, 1005, 1002, 1128, 3, 6, 0, 2, 1, 0, 0, -1, 2, 14, 0, 6, 4, 2, 1, 0, 0, 1, 3, 1, 2, 2, 1, 5, 0, 9, 4, 5, 3, 1, 128, 1, 0, 0, 0, 1, 2]), (20, [4, 5, 6, 8], [60, 0, 1, 798, 127]), (24, [0, 4], []), (24, [1, 5], []), (24, [2, 6], [])], [], [], [(20, [0, 1, 2, 3, 10], [60, 0, 1, 799, 127])], [], [(1, 5, -4294967296, 0), (2, 6, -4294967296, 0), (3, 7, -4294967296, 0), (5, 1, -4294967296, 0), (6, 2, -4294967296, 0), (7, 3, -4294967296, 0)])
theorem oo_Mo_isAhead_1 {kA : Nat → ClassId} : or_ok PRD kA GG o_Mo_isAhead_1 := by
  refine or_mk fun A ta ws vs hD hth hl => ?_
  intro t0 r0 t1 k1 t2 k2 t3 k3 t5 k5 t6 k6 t7 k7 t8 k8 t9 k9 t10 k10 d0 d1 d2 d3 d4 d5 f0 f1 f2 f3 f4 f5 f6 f7
  replace f2 := shm_589 f2
  replace f3 := shm_592 f3
  replace f4 := shm_594 f4
  replace f5 := shm_5 f5
  replace f6 := shm_5 f6
  replace f7 := shm_5 f7
  have q4 : n_v vs 4 = n_v vs 0 := f5.symm
  have q5 : n_v vs 5 = n_v vs 1 := f6.symm
  have q6 : n_v vs 6 = n_v vs 2 := f7.symm
  simp only [q4, q5, q6] at f2 f3 f4
  have cr_0_127 := fdq_153 hD hth r0
  have cr_0_128 := fdq_154 hD hth r0
  have hK_0_127 := elq_84 hD hth cr_0_127
  have hK_0_128 := elq_85 hD hth cr_0_128
  have nf0 : fc_1 PRD (20, [0, 1, 2, 3, 10], [60, 0, 1, 799, 127]) ws (vs) := ⟨nf_in hl rfl, sgq_595 (vc_Mo_isAhead_1_0 (v_iv (n_v vs 1)) (v_iv (n_v vs 2)) (v_iv (n_v vs 3)) (v_iv (n_v vs 5)) (v_iv (n_v vs 6)) (v_iv (n_v vs 7)) (v_iv (n_v vs 8)) (v_iv (n_v vs 9)) (v_iv (n_v vs 10)) (w_ei ws (w_ar ws (n_v vs 0) 2)) (w_ei ws (w_ar ws (n_v vs 0) 128)) (w_ei ws (w_ar ws (n_v vs 0) 127)) (w_fi ws (n_v vs 0) 5) k1 k2 k3 k5 k6 k7 k8 k9 k10 d0 d1 d2 d3 d4 d5 (shm_39 f0) (shm_39 f1) f2 f3 f4 hK_0_127 hK_0_128)⟩
  refine ⟨(fun _ h => (by cases h)), [], trivial, ?_, (fun _ h => (by cases h))⟩
  rw [List.append_nil]
  exact List.forall_mem_cons.mpr ⟨⟨show (20 : Nat) < 100 from by decide, nf0⟩, (fun _ h => (by cases h))⟩
set_option maxHeartbeats 4000000 in
theorem vc_Mo_isAhead_2_0 (x1 : Int) (x2 : Int) (x3 : Int) (x5 : Int) (x6 : Int) (x7 : Int) (x8 : Int) (x9 : Int) (x11 : Int) (x12 : Int) (above_0 : Int → Int) (all_0 : Int → Int) (level_0 : Int → Int) (r_0 : Int) (k1 : 0 ≤ x1 ∧ x1 ≤ 23) (k2 : (-1) ≤ x2 ∧ x2 ≤ 23) (k3 : 0 ≤ x3 ∧ x3 ≤ 23) (k5 : 0 ≤ x5 ∧ x5 ≤ 23) (k6 : (-1) ≤ x6 ∧ x6 ≤ 23) (k7 : 0 ≤ x7 ∧ x7 ≤ 23) (k8 : 0 ≤ x8 ∧ x8 ≤ 23) (k9 : (-2) ≤ x9 ∧ x9 ≤ 60) (k11 : (-1) ≤ x11 ∧ x11 ≤ 23) (k12 : 0 ≤ x12 ∧ x12 ≤ 0) (d0 : x7 + 0 ≤ x8 ∧ x8 ≤ x7 + 4294967296) (d1 : x6 + 0 ≤ x11 ∧ x11 ≤ x6 + 0) (d2 : x5 + (-4294967296) ≤ x1 ∧ x1 ≤ x5 + 0) (d3 : x6 + (-4294967296) ≤ x2 ∧ x2 ≤ x6 + 0) (d4 : x7 + (-4294967296) ≤ x3 ∧ x3 ≤ x7 + 0) (d5 : x1 + (-4294967296) ≤ x5 ∧ x5 ≤ x1 + 0) (d6 : x2 + (-4294967296) ≤ x6 ∧ x6 ≤ x2 + 0) (d7 : x3 + (-4294967296) ≤ x7 ∧ x7 ≤ x3 + 0) (f0 : x3 ≤ x8) (f1 : 0 ≤ x8) (f2 : x11 = x2) (h3 : x11 = above_0 (x8)) (f5 : 0 ≤ x8) (f6 : ∀ j0 : Int, 0 ≤ j0 → j0 < 24 → (((j0 + 1) ≤ all_0 (r_0)) → (((-1) ≤ level_0 (j0)) ∧ ((level_0 (j0) ≤ 24) ∧ ((0 ≤ above_0 (j0)) → (((above_0 (j0) + 1) ≤ all_0 (r_0)) ∧ ((0 ≤ level_0 (above_0 (j0))) ∧ ((level_0 (above_0 (j0)) + 1) ≤ level_0 (j0))))))))) (f7 : (x8 ≤ (-1)) ∨ (((x8 + 1) ≤ all_0 (r_0)) ∧ ((level_0 (x8) + 0) ≤ x9))) (f8 : AH1 (above_0) (x1) (x2) (x8)) (hK_0_127 : ∀ j : Int, 0 ≤ j → j < 26 → (-1) ≤ above_0 j ∧ above_0 j ≤ 23) (hK_0_128 : ∀ j : Int, 0 ≤ j → j < 26 → (-23) ≤ level_0 j ∧ level_0 j ≤ 24) : AHP (above_0) (x1) (x2) (x3) (x12) := by
  first
    | (intro a b c; have := ‹AH1 _ _ _ _› a c; omega)
  
def o_Mo_isAhead_2 : or_T := (47, 13, [(0, (2, 0, 0, [165])), (1, (0, 0, 23, [])), (2, (0, -1, 23, [])), (3, (0, 0, 23, [])), (4, (2, 0, 0, [165])), (5, (0, 0, 23, [])), (6, (0, -1, 23, [])), (7, (0, 0, 23, [])), (8, (0, 0, 23, [])), (9, (0, -2, 60, [])), (10, (2, 0, 0, [257])), (11, (0, -1, 23, [])), (12, (0, 0, 0, []))], [(7, [8, 7], [3]), (8, [8], [3]), (7, [11, 6], [0]), (10, [11, 10, 8], []), (9, [10, 4], [127]), (8, [8], [3]), (20, [4], [50, 1, 3, 5, 2, 128, 127, 5, 2, 0, 24, 4, 14, 0, 6, 4, 2, 7, 0, 0, 1, 3, 0, 2, 2, 0, 5, 2, 9, 0, 2, 0, -1, 3, 0, 128, 7, 0, 2, 9, 0, 5, 3, 0, 128, 7, 0, 0, 24, 4, 9, 0, 2, 0, 0, 3, 0, 127, 7, 0, 2, 17, 0, 9, 4, 5, 3, 0, 127, 7, 0, 0, 1, 3, 0, 2, 2, 0, 5, 2, 12, 0, 2, 0, 0, 3, 0, 128, 3, 0, 127, 7, 0, 0, 12, 4, 8, 3, 0, 128, 3, 0, 127, 7, 0, 0, 1, 3, 0, 128, 7, 0]), (20, [8, 4, 9], [50, 1, 2, 1005, 1002, 1128, 3, 6, 0, 2, 1, 0, 0, -1, 2, 14, 0, 6, 4, 2, 1, 0, 0, 1, 3, 1, 2, 2, 1, 5, 0, 9, 4, 5, 3, 1, 128, 1, 0, 0, 0, 1, 2]), (20, [4, 5, 6, 8], [60, 0, 1, 798, 127]), (24, [0, 4], []), (24, [1, 5], []), (24, [2, 6], []), (24, [3, 7], [])], [], [], [(20, [0, 1, 2, 3, 12], [60, 0, 1, 799, 127])], [], [(8, 7, 0, 4294967296), (11, 6, 0, 0), (1, 5, -4294967296, 0), (2, 6, -4294967296, 0), (3, 7, -4294967296, 0), (5, 1, -4294967296, 0), (6, 2, -4294967296, 0), (7, 3, -4294967296, 0)])
theorem oo_Mo_isAhead_2 {kA : Nat → ClassId} : or_ok PRD kA GG o_Mo_isAhead_2 := by
  refine or_mk fun A ta ws vs hD hth hl => ?_
  intro t0 r0 t1 k1 t2 k2 t3 k3 t4 r4 t5 k5 t6 k6 t7 k7 t8 k8 t9 k9 t10 r10 t11 k11 t12 k12 d0 d1 d2 d3 d4 d5 d6 d7 f0 f1 f2 f3 f4 f5 f6 f7 f8 f9 f10 f11 f12
  replace f0 := shm_2 f0
  replace f2 := shm_37 f2
  replace f3 := shm_106 f3
  replace f4 := shm_588 f4
  replace f6 := shm_589 f6
  replace f7 := shm_592 f7
  replace f8 := shm_594 f8
  replace f9 := shm_5 f9
  replace f10 := shm_5 f10
  replace f11 := shm_5 f11
  replace f12 := shm_5 f12
  have q4 : n_v vs 4 = n_v vs 0 := f9.symm
  have q5 : n_v vs 5 = n_v vs 1 := f10.symm
  have q6 : n_v vs 6 = n_v vs 2 := f11.symm
  have q7 : n_v vs 7 = n_v vs 3 := f12.symm
  simp only [q7, q6, q4, q5] at f0 f2 f4 f6 f7 f8
  have cr_0_127 := fdq_153 hD hth r0
  have cr_0_128 := fdq_154 hD hth r0
  have ad_10 : v_ad (n_v vs 10) = w_ar ws (n_v vs 0) 127 := congrArg v_ad f4
  simp only [ad_10] at f3
  have h3 : v_iv (n_v vs 11) = w_ei ws (w_ar ws (n_v vs 0) 127) (v_iv (n_v vs 8)) := f3
  have hK_0_127 := elq_84 hD hth cr_0_127
  have hK_0_128 := elq_85 hD hth cr_0_128
  have nf0 : fc_1 PRD (20, [0, 1, 2, 3, 12], [60, 0, 1, 799, 127]) ws (vs) := ⟨nf_in hl rfl, sgq_595 (vc_Mo_isAhead_2_0 (v_iv (n_v vs 1)) (v_iv (n_v vs 2)) (v_iv (n_v vs 3)) (v_iv (n_v vs 5)) (v_iv (n_v vs 6)) (v_iv (n_v vs 7)) (v_iv (n_v vs 8)) (v_iv (n_v vs 9)) (v_iv (n_v vs 11)) (v_iv (n_v vs 12)) (w_ei ws (w_ar ws (n_v vs 0) 127)) (w_ei ws (w_ar ws (n_v vs 0) 2)) (w_ei ws (w_ar ws (n_v vs 0) 128)) (w_fi ws (n_v vs 0) 5) k1 k2 k3 k5 k6 k7 k8 k9 k11 k12 d0 d1 d2 d3 d4 d5 d6 d7 f0 (shm_32 f1) f2 h3 (shm_32 f5) f6 f7 f8 hK_0_127 hK_0_128)⟩
  refine ⟨(fun _ h => (by cases h)), [], trivial, ?_, (fun _ h => (by cases h))⟩
  rw [List.append_nil]
  exact List.forall_mem_cons.mpr ⟨⟨show (20 : Nat) < 100 from by decide, nf0⟩, (fun _ h => (by cases h))⟩
set_option maxHeartbeats 4000000 in
theorem vc_Mo_isAhead_3_0 (x1 : Int) (x2 : Int) (x3 : Int) (x5 : Int) (x6 : Int) (x7 : Int) (x8 : Int) (x9 : Int) (x11 : Int) (x12 : Int) (above_0 : Int → Int) (all_0 : Int → Int) (level_0 : Int → Int) (r_0 : Int) (k1 : 0 ≤ x1 ∧ x1 ≤ 23) (k2 : (-1) ≤ x2 ∧ x2 ≤ 23) (k3 : 1 ≤ x3 ∧ x3 ≤ 23) (k5 : 0 ≤ x5 ∧ x5 ≤ 23) (k6 : (-1) ≤ x6 ∧ x6 ≤ 23) (k7 : 1 ≤ x7 ∧ x7 ≤ 23) (k8 : 0 ≤ x8 ∧ x8 ≤ 22) (k9 : (-2) ≤ x9 ∧ x9 ≤ 60) (k11 : (-1) ≤ x11 ∧ x11 ≤ 23) (k12 : 1 ≤ x12 ∧ x12 ≤ 1) (d0 : x7 + (-4294967296) ≤ x8 ∧ x8 ≤ x7 + (-1)) (d1 : x6 + 0 ≤ x11 ∧ x11 ≤ x6 + 0) (d2 : x5 + (-4294967296) ≤ x1 ∧ x1 ≤ x5 + 0) (d3 : x6 + (-4294967296) ≤ x2 ∧ x2 ≤ x6 + 0) (d4 : x7 + (-4294967296) ≤ x3 ∧ x3 ≤ x7 + 0) (d5 : x1 + (-4294967296) ≤ x5 ∧ x5 ≤ x1 + 0) (d6 : x2 + (-4294967296) ≤ x6 ∧ x6 ≤ x2 + 0) (d7 : x3 + (-4294967296) ≤ x7 ∧ x7 ≤ x3 + 0) (f0 : x8 < x3) (f1 : 0 ≤ x8) (f2 : x11 = x2) (h3 : x11 = above_0 (x8)) (f5 : 0 ≤ x8) (f6 : ∀ j0 : Int, 0 ≤ j0 → j0 < 24 → (((j0 + 1) ≤ all_0 (r_0)) → (((-1) ≤ level_0 (j0)) ∧ ((level_0 (j0) ≤ 24) ∧ ((0 ≤ above_0 (j0)) → (((above_0 (j0) + 1) ≤ all_0 (r_0)) ∧ ((0 ≤ level_0 (above_0 (j0))) ∧ ((level_0 (above_0 (j0)) + 1) ≤ level_0 (j0))))))))) (f7 : (x8 ≤ (-1)) ∨ (((x8 + 1) ≤ all_0 (r_0)) ∧ ((level_0 (x8) + 0) ≤ x9))) (f8 : AH1 (above_0) (x1) (x2) (x8)) (hK_0_127 : ∀ j : Int, 0 ≤ j → j < 26 → (-1) ≤ above_0 j ∧ above_0 j ≤ 23) (hK_0_128 : ∀ j : Int, 0 ≤ j → j < 26 → (-23) ≤ level_0 j ∧ level_0 j ≤ 24) : AHP (above_0) (x1) (x2) (x3) (x12) := by
  first
    | (intro a b c; have := ‹AH1 _ _ _ _› a c; omega)
  
def o_Mo_isAhead_3 : or_T := (47, 13, [(0, (2, 0, 0, [165])), (1, (0, 0, 23, [])), (2, (0, -1, 23, [])), (3, (0, 1, 23, [])), (4, (2, 0, 0, [165])), (5, (0, 0, 23, [])), (6, (0, -1, 23, [])), (7, (0, 1, 23, [])), (8, (0, 0, 22, [])), (9, (0, -2, 60, [])), (10, (2, 0, 0, [257])), (11, (0, -1, 23, [])), (12, (0, 1, 1, []))], [(7, [8, 7], [2]), (8, [8], [3]), (7, [11, 6], [0]), (10, [11, 10, 8], []), (9, [10, 4], [127]), (8, [8], [3]), (20, [4], [50, 1, 3, 5, 2, 128, 127, 5, 2, 0, 24, 4, 14, 0, 6, 4, 2, 7, 0, 0, 1, 3, 0, 2, 2, 0, 5, 2, 9, 0, 2, 0, -1, 3, 0, 128, 7, 0, 2, 9, 0, 5, 3, 0, 128, 7, 0, 0, 24, 4, 9, 0, 2, 0, 0, 3, 0, 127, 7, 0, 2, 17, 0, 9, 4, 5, 3, 0, 127, 7, 0, 0, 1, 3, 0, 2, 2, 0, 5, 2, 12, 0, 2, 0, 0, 3, 0, 128, 3, 0, 127, 7, 0, 0, 12, 4, 8, 3, 0, 128, 3, 0, 127, 7, 0, 0, 1, 3, 0, 128, 7, 0]), (20, [8, 4, 9], [50, 1, 2, 1005, 1002, 1128, 3, 6, 0, 2, 1, 0, 0, -1, 2, 14, 0, 6, 4, 2, 1, 0, 0, 1, 3, 1, 2, 2, 1, 5, 0, 9, 4, 5, 3, 1, 128, 1, 0, 0, 0, 1, 2]), (20, [4, 5, 6, 8], [60, 0, 1, 798, 127]), (24, [0, 4], []), (24, [1, 5], []), (24, [2, 6], []), (24, [3, 7], [])], [], [], [(20, [0, 1, 2, 3, 12], [60, 0, 1, 799, 127])], [], [(8, 7, -4294967296, -1), (11, 6, 0, 0), (1, 5, -4294967296, 0), (2, 6, -4294967296, 0), (3, 7, -4294967296, 0), (5, 1, -4294967296, 0), (6, 2, -4294967296, 0), (7, 3, -4294967296, 0)])
theorem oo_Mo_isAhead_3 {kA : Nat → ClassId} : or_ok PRD kA GG o_Mo_isAhead_3 := by
  refine or_mk fun A ta ws vs hD hth hl => ?_
  intro t0 r0 t1 k1 t2 k2 t3 k3 t4 r4 t5 k5 t6 k6 t7 k7 t8 k8 t9 k9 t10 r10 t11 k11 t12 k12 d0 d1 d2 d3 d4 d5 d6 d7 f0 f1 f2 f3 f4 f5 f6 f7 f8 f9 f10 f11 f12
  replace f0 := shm_6 f0
  replace f2 := shm_37 f2
  replace f3 := shm_106 f3
  replace f4 := shm_588 f4
  replace f6 := shm_589 f6
  replace f7 := shm_592 f7
  replace f8 := shm_594 f8
  replace f9 := shm_5 f9
  replace f10 := shm_5 f10
  replace f11 := shm_5 f11
  replace f12 := shm_5 f12
  have q4 : n_v vs 4 = n_v vs 0 := f9.symm
  have q5 : n_v vs 5 = n_v vs 1 := f10.symm
  have q6 : n_v vs 6 = n_v vs 2 := f11.symm
  have q7 : n_v vs 7 = n_v vs 3 := f12.symm
  simp only [q7, q6, q4, q5] at f0 f2 f4 f6 f7 f8
  have cr_0_127 := fdq_153 hD hth r0
  have cr_0_128 := fdq_154 hD hth r0
  have ad_10 : v_ad (n_v vs 10) = w_ar ws (n_v vs 0) 127 := congrArg v_ad f4
  simp only [ad_10] at f3
  have h3 : v_iv (n_v vs 11) = w_ei ws (w_ar ws (n_v vs 0) 127) (v_iv (n_v vs 8)) := f3
  have hK_0_127 := elq_84 hD hth cr_0_127
  have hK_0_128 := elq_85 hD hth cr_0_128
  have nf0 : fc_1 PRD (20, [0, 1, 2, 3, 12], [60, 0, 1, 799, 127]) ws (vs) := ⟨nf_in hl rfl, sgq_595 (vc_Mo_isAhead_3_0 (v_iv (n_v vs 1)) (v_iv (n_v vs 2)) (v_iv (n_v vs 3)) (v_iv (n_v vs 5)) (v_iv (n_v vs 6)) (v_iv (n_v vs 7)) (v_iv (n_v vs 8)) (v_iv (n_v vs 9)) (v_iv (n_v vs 11)) (v_iv (n_v vs 12)) (w_ei ws (w_ar ws (n_v vs 0) 127)) (w_ei ws (w_ar ws (n_v vs 0) 2)) (w_ei ws (w_ar ws (n_v vs 0) 128)) (w_fi ws (n_v vs 0) 5) k1 k2 k3 k5 k6 k7 k8 k9 k11 k12 d0 d1 d2 d3 d4 d5 d6 d7 f0 (shm_32 f1) f2 h3 (shm_32 f5) f6 f7 f8 hK_0_127 hK_0_128)⟩
  refine ⟨(fun _ h => (by cases h)), [], trivial, ?_, (fun _ h => (by cases h))⟩
  rw [List.append_nil]
  exact List.forall_mem_cons.mpr ⟨⟨show (20 : Nat) < 100 from by decide, nf0⟩, (fun _ h => (by cases h))⟩
set_option maxHeartbeats 4000000 in
theorem vc_Mo_isAhead_4_0 (x1 : Int) (x2 : Int) (x3 : Int) (x5 : Int) (x6 : Int) (x7 : Int) (x8 : Int) (x9 : Int) (x11 : Int) (x12 : Int) (above_0 : Int → Int) (all_0 : Int → Int) (level_0 : Int → Int) (r_0 : Int) (gx : Int) (k1 : 0 ≤ x1 ∧ x1 ≤ 23) (k2 : (-1) ≤ x2 ∧ x2 ≤ 23) (k3 : 0 ≤ x3 ∧ x3 ≤ 23) (k5 : 0 ≤ x5 ∧ x5 ≤ 23) (k6 : (-1) ≤ x6 ∧ x6 ≤ 23) (k7 : 0 ≤ x7 ∧ x7 ≤ 23) (k8 : 0 ≤ x8 ∧ x8 ≤ 23) (k9 : (-2) ≤ x9 ∧ x9 ≤ 60) (k11 : (-1) ≤ x11 ∧ x11 ≤ 23) (k12 : (-1) ≤ x12 ∧ x12 ≤ 23) (d0 : x5 + (-4294967296) ≤ x1 ∧ x1 ≤ x5 + 0) (d1 : x6 + (-4294967296) ≤ x2 ∧ x2 ≤ x6 + 0) (d2 : x7 + (-4294967296) ≤ x3 ∧ x3 ≤ x7 + 0) (d3 : x1 + (-4294967296) ≤ x5 ∧ x5 ≤ x1 + 0) (d4 : x2 + (-4294967296) ≤ x6 ∧ x6 ≤ x2 + 0) (d5 : x3 + (-4294967296) ≤ x7 ∧ x7 ≤ x3 + 0) (h0 : x12 = above_0 (x8)) (f2 : x11 ≠ x2) (h3 : x11 = above_0 (x8)) (f4 : 0 ≤ x8) (f5 : ∀ j0 : Int, 0 ≤ j0 → j0 < 24 → (((j0 + 1) ≤ all_0 (r_0)) → (((-1) ≤ level_0 (j0)) ∧ ((level_0 (j0) ≤ 24) ∧ ((0 ≤ above_0 (j0)) → (((above_0 (j0) + 1) ≤ all_0 (r_0)) ∧ ((0 ≤ level_0 (above_0 (j0))) ∧ ((level_0 (above_0 (j0)) + 1) ≤ level_0 (j0))))))))) (f6 : (x8 ≤ (-1)) ∨ (((x8 + 1) ≤ all_0 (r_0)) ∧ ((level_0 (x8) + 0) ≤ x9))) (f7 : AH1 (above_0) (x1) (x2) (x8)) (hK_0_127 : ∀ j : Int, 0 ≤ j → j < 26 → (-1) ≤ above_0 j ∧ above_0 j ≤ 23) (hK_0_128 : ∀ j : Int, 0 ≤ j → j < 26 → (-23) ≤ level_0 j ∧ level_0 j ≤ 24) (ex2 : gx = 0 + (1 * x9 + 0)) (ex3 : (-2) ≤ gx ∧ gx ≤ 60) : ∀ j0 : Int, 0 ≤ j0 → j0 < 24 → (((j0 + 1) ≤ all_0 (r_0)) → (((-1) ≤ level_0 (j0)) ∧ ((level_0 (j0) ≤ 24) ∧ ((0 ≤ above_0 (j0)) → (((above_0 (j0) + 1) ≤ all_0 (r_0)) ∧ ((0 ≤ level_0 (above_0 (j0))) ∧ ((level_0 (above_0 (j0)) + 1) ≤ level_0 (j0)))))))) := by
  try simp only [Int.add_zero] at *
  first
    | omega
    | (have q := hK_0_128 x1 (by omega) (by omega); right; exact ⟨by omega, by omega⟩)
    | (have q := hK_0_128 x8 (by omega) (by omega); have g := f5 x8 (by omega) (by omega) (by omega); omega)
    | (have e : x12 = above_0 x8 := by assumption
       have g := f5 x8 (by omega) (by omega) (by omega)
       by_cases w : 0 ≤ x12
       · right
         have g2 := g.2.2 (by omega)
         rw [← e] at g2
         omega
       · left; omega)
  
set_option maxHeartbeats 4000000 in
theorem vc_Mo_isAhead_4_1 (x1 : Int) (x2 : Int) (x3 : Int) (x5 : Int) (x6 : Int) (x7 : Int) (x8 : Int) (x9 : Int) (x11 : Int) (x12 : Int) (above_0 : Int → Int) (all_0 : Int → Int) (level_0 : Int → Int) (r_0 : Int) (gx : Int) (k1 : 0 ≤ x1 ∧ x1 ≤ 23) (k2 : (-1) ≤ x2 ∧ x2 ≤ 23) (k3 : 0 ≤ x3 ∧ x3 ≤ 23) (k5 : 0 ≤ x5 ∧ x5 ≤ 23) (k6 : (-1) ≤ x6 ∧ x6 ≤ 23) (k7 : 0 ≤ x7 ∧ x7 ≤ 23) (k8 : 0 ≤ x8 ∧ x8 ≤ 23) (k9 : (-2) ≤ x9 ∧ x9 ≤ 60) (k11 : (-1) ≤ x11 ∧ x11 ≤ 23) (k12 : (-1) ≤ x12 ∧ x12 ≤ 23) (d0 : x5 + (-4294967296) ≤ x1 ∧ x1 ≤ x5 + 0) (d1 : x6 + (-4294967296) ≤ x2 ∧ x2 ≤ x6 + 0) (d2 : x7 + (-4294967296) ≤ x3 ∧ x3 ≤ x7 + 0) (d3 : x1 + (-4294967296) ≤ x5 ∧ x5 ≤ x1 + 0) (d4 : x2 + (-4294967296) ≤ x6 ∧ x6 ≤ x2 + 0) (d5 : x3 + (-4294967296) ≤ x7 ∧ x7 ≤ x3 + 0) (h0 : x12 = above_0 (x8)) (f2 : x11 ≠ x2) (h3 : x11 = above_0 (x8)) (f4 : 0 ≤ x8) (f5 : ∀ j0 : Int, 0 ≤ j0 → j0 < 24 → (((j0 + 1) ≤ all_0 (r_0)) → (((-1) ≤ level_0 (j0)) ∧ ((level_0 (j0) ≤ 24) ∧ ((0 ≤ above_0 (j0)) → (((above_0 (j0) + 1) ≤ all_0 (r_0)) ∧ ((0 ≤ level_0 (above_0 (j0))) ∧ ((level_0 (above_0 (j0)) + 1) ≤ level_0 (j0))))))))) (f6 : (x8 ≤ (-1)) ∨ (((x8 + 1) ≤ all_0 (r_0)) ∧ ((level_0 (x8) + 0) ≤ x9))) (f7 : AH1 (above_0) (x1) (x2) (x8)) (hK_0_127 : ∀ j : Int, 0 ≤ j → j < 26 → (-1) ≤ above_0 j ∧ above_0 j ≤ 23) (hK_0_128 : ∀ j : Int, 0 ≤ j → j < 26 → (-23) ≤ level_0 j ∧ level_0 j ≤ 24) (ex2 : gx = 0 + (1 * x9 + 0)) (ex3 : (-2) ≤ gx ∧ gx ≤ 60) : (x12 ≤ (-1)) ∨ (((x12 + 1) ≤ all_0 (r_0)) ∧ ((level_0 (x12) + 1) ≤ gx)) := by
  try simp only [Int.add_zero] at *
  first
    | omega
    | (have q := hK_0_128 x1 (by omega) (by omega); right; exact ⟨by omega, by omega⟩)
    | (have q := hK_0_128 x8 (by omega) (by omega); have g := f5 x8 (by omega) (by omega) (by omega); omega)
    | (have e : x12 = above_0 x8 := by assumption
       have g := f5 x8 (by omega) (by omega) (by omega)
       by_cases w : 0 ≤ x12
       · right
         have g2 := g.2.2 (by omega)
         rw [← e] at g2
         omega
       · left; omega)
  
set_option maxHeartbeats 4000000 in
theorem vc_Mo_isAhead_4_2 (x1 : Int) (x2 : Int) (x3 : Int) (x5 : Int) (x6 : Int) (x7 : Int) (x8 : Int) (x9 : Int) (x11 : Int) (x12 : Int) (above_0 : Int → Int) (all_0 : Int → Int) (level_0 : Int → Int) (r_0 : Int) (gx : Int) (k1 : 0 ≤ x1 ∧ x1 ≤ 23) (k2 : (-1) ≤ x2 ∧ x2 ≤ 23) (k3 : 0 ≤ x3 ∧ x3 ≤ 23) (k5 : 0 ≤ x5 ∧ x5 ≤ 23) (k6 : (-1) ≤ x6 ∧ x6 ≤ 23) (k7 : 0 ≤ x7 ∧ x7 ≤ 23) (k8 : 0 ≤ x8 ∧ x8 ≤ 23) (k9 : (-2) ≤ x9 ∧ x9 ≤ 60) (k11 : (-1) ≤ x11 ∧ x11 ≤ 23) (k12 : (-1) ≤ x12 ∧ x12 ≤ 23) (d0 : x5 + (-4294967296) ≤ x1 ∧ x1 ≤ x5 + 0) (d1 : x6 + (-4294967296) ≤ x2 ∧ x2 ≤ x6 + 0) (d2 : x7 + (-4294967296) ≤ x3 ∧ x3 ≤ x7 + 0) (d3 : x1 + (-4294967296) ≤ x5 ∧ x5 ≤ x1 + 0) (d4 : x2 + (-4294967296) ≤ x6 ∧ x6 ≤ x2 + 0) (d5 : x3 + (-4294967296) ≤ x7 ∧ x7 ≤ x3 + 0) (h0 : x12 = above_0 (x8)) (f2 : x11 ≠ x2) (h3 : x11 = above_0 (x8)) (f4 : 0 ≤ x8) (f5 : ∀ j0 : Int, 0 ≤ j0 → j0 < 24 → (((j0 + 1) ≤ all_0 (r_0)) → (((-1) ≤ level_0 (j0)) ∧ ((level_0 (j0) ≤ 24) ∧ ((0 ≤ above_0 (j0)) → (((above_0 (j0) + 1) ≤ all_0 (r_0)) ∧ ((0 ≤ level_0 (above_0 (j0))) ∧ ((level_0 (above_0 (j0)) + 1) ≤ level_0 (j0))))))))) (f6 : (x8 ≤ (-1)) ∨ (((x8 + 1) ≤ all_0 (r_0)) ∧ ((level_0 (x8) + 0) ≤ x9))) (f7 : AH1 (above_0) (x1) (x2) (x8)) (hK_0_127 : ∀ j : Int, 0 ≤ j → j < 26 → (-1) ≤ above_0 j ∧ above_0 j ≤ 23) (hK_0_128 : ∀ j : Int, 0 ≤ j → j < 26 → (-23) ≤ level_0 j ∧ level_0 j ≤ 24) (ex2 : gx = 0 + (1 * x9 + 0)) (ex3 : (-2) ≤ gx ∧ gx ≤ 60) : (-1) ≤ gx := by
  try simp only [Int.add_zero] at *
  first
    | omega
    | (have q := hK_0_128 x1 (by omega) (by omega); right; exact ⟨by omega, by omega⟩)
    | (have q := hK_0_128 x8 (by omega) (by omega); have g := f5 x8 (by omega) (by omega) (by omega); omega)
    | (have e : x12 = above_0 x8 := by assumption
       have g := f5 x8 (by omega) (by omega) (by omega)
       by_cases w : 0 ≤ x12
       · right
         have g2 := g.2.2 (by omega)
         rw [← e] at g2
         omega
       · left; omega)
  
set_option maxHeartbeats 4000000 in
theorem vc_Mo_isAhead_4_3 (x1 : Int) (x2 : Int) (x3 : Int) (x5 : Int) (x6 : Int) (x7 : Int) (x8 : Int) (x9 : Int) (x11 : Int) (x12 : Int) (above_0 : Int → Int) (all_0 : Int → Int) (level_0 : Int → Int) (r_0 : Int) (gx : Int) (k1 : 0 ≤ x1 ∧ x1 ≤ 23) (k2 : (-1) ≤ x2 ∧ x2 ≤ 23) (k3 : 0 ≤ x3 ∧ x3 ≤ 23) (k5 : 0 ≤ x5 ∧ x5 ≤ 23) (k6 : (-1) ≤ x6 ∧ x6 ≤ 23) (k7 : 0 ≤ x7 ∧ x7 ≤ 23) (k8 : 0 ≤ x8 ∧ x8 ≤ 23) (k9 : (-2) ≤ x9 ∧ x9 ≤ 60) (k11 : (-1) ≤ x11 ∧ x11 ≤ 23) (k12 : (-1) ≤ x12 ∧ x12 ≤ 23) (d0 : x5 + (-4294967296) ≤ x1 ∧ x1 ≤ x5 + 0) (d1 : x6 + (-4294967296) ≤ x2 ∧ x2 ≤ x6 + 0) (d2 : x7 + (-4294967296) ≤ x3 ∧ x3 ≤ x7 + 0) (d3 : x1 + (-4294967296) ≤ x5 ∧ x5 ≤ x1 + 0) (d4 : x2 + (-4294967296) ≤ x6 ∧ x6 ≤ x2 + 0) (d5 : x3 + (-4294967296) ≤ x7 ∧ x7 ≤ x3 + 0) (h0 : x12 = above_0 (x8)) (f2 : x11 ≠ x2) (h3 : x11 = above_0 (x8)) (f4 : 0 ≤ x8) (f5 : ∀ j0 : Int, 0 ≤ j0 → j0 < 24 → (((j0 + 1) ≤ all_0 (r_0)) → (((-1) ≤ level_0 (j0)) ∧ ((level_0 (j0) ≤ 24) ∧ ((0 ≤ above_0 (j0)) → (((above_0 (j0) + 1) ≤ all_0 (r_0)) ∧ ((0 ≤ level_0 (above_0 (j0))) ∧ ((level_0 (above_0 (j0)) + 1) ≤ level_0 (j0))))))))) (f6 : (x8 ≤ (-1)) ∨ (((x8 + 1) ≤ all_0 (r_0)) ∧ ((level_0 (x8) + 0) ≤ x9))) (f7 : AH1 (above_0) (x1) (x2) (x8)) (hK_0_127 : ∀ j : Int, 0 ≤ j → j < 26 → (-1) ≤ above_0 j ∧ above_0 j ≤ 23) (hK_0_128 : ∀ j : Int, 0 ≤ j → j < 26 → (-23) ≤ level_0 j ∧ level_0 j ≤ 24) (ex2 : gx = 0 + (1 * x9 + 0)) (ex3 : (-2) ≤ gx ∧ gx ≤ 60) : AH1 (above_0) (x1) (x2) (x12) := by
  first
    | assumption
    | exact fun _ _ => by omega
    | (intro a b
       have h := ‹AH1 _ _ _ _› a b
       have e : x11 = above_0 x8 := by assumption
       rw [h, b] at e
       exfalso; omega)
  
def o_Mo_isAhead_4 : or_T := (28, 13, [(0, (2, 0, 0, [165])), (1, (0, 0, 23, [])), (2, (0, -1, 23, [])), (3, (0, 0, 23, [])), (4, (2, 0, 0, [165])), (5, (0, 0, 23, [])), (6, (0, -1, 23, [])), (7, (0, 0, 23, [])), (8, (0, 0, 23, [])), (9, (0, -2, 60, [])), (10, (2, 0, 0, [257])), (11, (0, -1, 23, [])), (12, (0, -1, 23, []))], [(10, [12, 10, 8], []), (9, [10, 4], [127]), (7, [11, 6], [1]), (10, [11, 10, 8], []), (8, [8], [3]), (20, [4], [50, 1, 3, 5, 2, 128, 127, 5, 2, 0, 24, 4, 14, 0, 6, 4, 2, 7, 0, 0, 1, 3, 0, 2, 2, 0, 5, 2, 9, 0, 2, 0, -1, 3, 0, 128, 7, 0, 2, 9, 0, 5, 3, 0, 128, 7, 0, 0, 24, 4, 9, 0, 2, 0, 0, 3, 0, 127, 7, 0, 2, 17, 0, 9, 4, 5, 3, 0, 127, 7, 0, 0, 1, 3, 0, 2, 2, 0, 5, 2, 12, 0, 2, 0, 0, 3, 0, 128, 3, 0, 127, 7, 0, 0, 12, 4, 8, 3, 0, 128, 3, 0, 127, 7, 0, 0, 1, 3, 0, 128, 7, 0]), (20, [8, 4, 9], [50, 1, 2, 1005, 1002, 1128, 3, 6, 0, 2, 1, 0, 0, -1, 2, 14, 0, 6, 4, 2, 1, 0, 0, 1, 3, 1, 2, 2, 1, 5, 0, 9, 4, 5, 3, 1, 128, 1, 0, 0, 0, 1, 2]), (20, [4, 5, 6, 8], [60, 0, 1, 798, 127]), (24, [0, 4], []), (24, [1, 5], []), (24, [2, 6], []), (24, [3, 7], [])], [], [(0, -2, 60, [])], [(20, [4], [50, 1, 3, 5, 2, 128, 127, 5, 2, 0, 24, 4, 14, 0, 6, 4, 2, 7, 0, 0, 1, 3, 0, 2, 2, 0, 5, 2, 9, 0, 2, 0, -1, 3, 0, 128, 7, 0, 2, 9, 0, 5, 3, 0, 128, 7, 0, 0, 24, 4, 9, 0, 2, 0, 0, 3, 0, 127, 7, 0, 2, 17, 0, 9, 4, 5, 3, 0, 127, 7, 0, 0, 1, 3, 0, 2, 2, 0, 5, 2, 12, 0, 2, 0, 0, 3, 0, 128, 3, 0, 127, 7, 0, 0, 12, 4, 8, 3, 0, 128, 3, 0, 127, 7, 0, 0, 1, 3, 0, 128, 7, 0]), (20, [12, 4, 13], [50, 1, 2, 1005, 1002, 1128, 3, 6, 0, 2, 1, 0, 0, -1, 2, 14, 0, 6, 4, 2, 1, 0, 0, 1, 3, 1, 2, 2, 1, 5, 0, 9, 4, 5, 3, 1, 128, 1, 0, 0, 1, 1, 2]), (20, [13], [50, 0, 0, 0, 2, 0, -1, 1, 0]), (20, [4, 5, 6, 12], [60, 0, 1, 798, 127]), (24, [0, 4], []), (24, [1, 5], []), (24, [2, 6], []), (24, [3, 7], [])], [(13, 9, 0, 0)], [(1, 5, -4294967296, 0), (2, 6, -4294967296, 0), (3, 7, -4294967296, 0), (5, 1, -4294967296, 0), (6, 2, -4294967296, 0), (7, 3, -4294967296, 0)])
theorem oo_Mo_isAhead_4 {kA : Nat → ClassId} : or_ok PRD kA GG o_Mo_isAhead_4 := by
  refine or_mk fun A ta ws vs hD hth hl => ?_
  intro t0 r0 t1 k1 t2 k2 t3 k3 t4 r4 t5 k5 t6 k6 t7 k7 t8 k8 t9 k9 t10 r10 t11 k11 t12 k12 d0 d1 d2 d3 d4 d5 f0 f1 f2 f3 f4 f5 f6 f7 f8 f9 f10 f11
  replace f0 := shm_106 f0
  replace f1 := shm_588 f1
  replace f2 := shm_40 f2
  replace f3 := shm_106 f3
  replace f4 := shm_32 f4
  replace f5 := shm_589 f5
  replace f6 := shm_592 f6
  replace f7 := shm_594 f7
  replace f8 := shm_5 f8
  replace f9 := shm_5 f9
  replace f10 := shm_5 f10
  replace f11 := shm_5 f11
  have q4 : n_v vs 4 = n_v vs 0 := f8.symm
  have q5 : n_v vs 5 = n_v vs 1 := f9.symm
  have q6 : n_v vs 6 = n_v vs 2 := f10.symm
  have q7 : n_v vs 7 = n_v vs 3 := f11.symm
  simp only [q4, q6, q5] at f1 f2 f5 f6 f7
  have cr_0_2 := fdq_12 hD hth r0
  have cr_0_127 := fdq_153 hD hth r0
  have cr_0_128 := fdq_154 hD hth r0
  have ad_10 : v_ad (n_v vs 10) = w_ar ws (n_v vs 0) 127 := congrArg v_ad f1
  simp only [ad_10] at f0
  have h0 : v_iv (n_v vs 12) = w_ei ws (w_ar ws (n_v vs 0) 127) (v_iv (n_v vs 8)) := f0
  simp only [ad_10] at f3
  have h3 : v_iv (n_v vs 11) = w_ei ws (w_ar ws (n_v vs 0) 127) (v_iv (n_v vs 8)) := f3
  have hK_0_127 := elq_84 hD hth cr_0_127
  have hK_0_128 := elq_85 hD hth cr_0_128
  obtain ⟨x, ex, hx⟩ := iv_ex (ta := ta) (lo := (-2)) (hi := 60) (z := 0 + (1 * v_iv (n_v vs 9) + 0)) (by omega) (by omega) (by omega) (by omega)
  have ex2 : v_iv (Value.int x) = 0 + (1 * v_iv (n_v vs 9) + 0) := ex
  have ex3 : (-2) ≤ v_iv (Value.int x) ∧ v_iv (Value.int x) ≤ 60 := tv_rng hx
  have e_0 : n_v (vs ++ [Value.int x]) 0 = n_v vs 0 := n_v_old (by rw [hl]; decide)
  have e_1 : n_v (vs ++ [Value.int x]) 1 = n_v vs 1 := n_v_old (by rw [hl]; decide)
  have e_2 : n_v (vs ++ [Value.int x]) 2 = n_v vs 2 := n_v_old (by rw [hl]; decide)
  have e_3 : n_v (vs ++ [Value.int x]) 3 = n_v vs 3 := n_v_old (by rw [hl]; decide)
  have e_4 : n_v (vs ++ [Value.int x]) 4 = n_v vs 4 := n_v_old (by rw [hl]; decide)
  have e_5 : n_v (vs ++ [Value.int x]) 5 = n_v vs 5 := n_v_old (by rw [hl]; decide)
  have e_6 : n_v (vs ++ [Value.int x]) 6 = n_v vs 6 := n_v_old (by rw [hl]; decide)
  have e_7 : n_v (vs ++ [Value.int x]) 7 = n_v vs 7 := n_v_old (by rw [hl]; decide)
  have e_12 : n_v (vs ++ [Value.int x]) 12 = n_v vs 12 := n_v_old (by rw [hl]; decide)
  have e_13 : n_v (vs ++ [Value.int x]) 13 = Value.int x := n_v_new hl
  have nf0 : fc_1 PRD (20, [4], [50, 1, 3, 5, 2, 128, 127, 5, 2, 0, 24, 4, 14, 0, 6, 4, 2, 7, 0, 0, 1, 3, 0, 2, 2, 0, 5, 2, 9, 0, 2, 0, -1, 3, 0, 128, 7, 0, 2, 9, 0, 5, 3, 0, 128, 7, 0, 0, 24, 4, 9, 0, 2, 0, 0, 3, 0, 127, 7, 0, 2, 17, 0, 9, 4, 5, 3, 0, 127, 7, 0, 0, 1, 3, 0, 2, 2, 0, 5, 2, 12, 0, 2, 0, 0, 3, 0, 128, 3, 0, 127, 7, 0, 0, 12, 4, 8, 3, 0, 128, 3, 0, 127, 7, 0, 0, 1, 3, 0, 128, 7, 0]) ws (vs ++ [Value.int x]) := by
    refine ⟨nf_inA hl rfl, sgq_589 ?_⟩
    · show ∀ j0 : Int, 0 ≤ j0 → j0 < 24 → (((j0 + 1) ≤ w_ei ws (w_ar ws (n_v (vs ++ [Value.int x]) 4) 2) (w_fi ws (n_v (vs ++ [Value.int x]) 4) 5)) → (((-1) ≤ w_ei ws (w_ar ws (n_v (vs ++ [Value.int x]) 4) 128) (j0)) ∧ ((w_ei ws (w_ar ws (n_v (vs ++ [Value.int x]) 4) 128) (j0) ≤ 24) ∧ ((0 ≤ w_ei ws (w_ar ws (n_v (vs ++ [Value.int x]) 4) 127) (j0)) → (((w_ei ws (w_ar ws (n_v (vs ++ [Value.int x]) 4) 127) (j0) + 1) ≤ w_ei ws (w_ar ws (n_v (vs ++ [Value.int x]) 4) 2) (w_fi ws (n_v (vs ++ [Value.int x]) 4) 5)) ∧ ((0 ≤ w_ei ws (w_ar ws (n_v (vs ++ [Value.int x]) 4) 128) (w_ei ws (w_ar ws (n_v (vs ++ [Value.int x]) 4) 127) (j0))) ∧ ((w_ei ws (w_ar ws (n_v (vs ++ [Value.int x]) 4) 128) (w_ei ws (w_ar ws (n_v (vs ++ [Value.int x]) 4) 127) (j0)) + 1) ≤ w_ei ws (w_ar ws (n_v (vs ++ [Value.int x]) 4) 128) (j0))))))))
      simp only [e_4, q4]
      exact vc_Mo_isAhead_4_0 (v_iv (n_v vs 1)) (v_iv (n_v vs 2)) (v_iv (n_v vs 3)) (v_iv (n_v vs 5)) (v_iv (n_v vs 6)) (v_iv (n_v vs 7)) (v_iv (n_v vs 8)) (v_iv (n_v vs 9)) (v_iv (n_v vs 11)) (v_iv (n_v vs 12)) (w_ei ws (w_ar ws (n_v vs 0) 127)) (w_ei ws (w_ar ws (n_v vs 0) 2)) (w_ei ws (w_ar ws (n_v vs 0) 128)) (w_fi ws (n_v vs 0) 5) (v_iv (Value.int x)) k1 k2 k3 k5 k6 k7 k8 k9 k11 k12 d0 d1 d2 d3 d4 d5 h0 f2 h3 f4 f5 f6 f7 hK_0_127 hK_0_128 ex2 ex3
  have nf1 : fc_1 PRD (20, [12, 4, 13], [50, 1, 2, 1005, 1002, 1128, 3, 6, 0, 2, 1, 0, 0, -1, 2, 14, 0, 6, 4, 2, 1, 0, 0, 1, 3, 1, 2, 2, 1, 5, 0, 9, 4, 5, 3, 1, 128, 1, 0, 0, 1, 1, 2]) ws (vs ++ [Value.int x]) := by
    refine ⟨nf_inA hl rfl, sgq_596 ?_⟩
    · show (v_iv (n_v (vs ++ [Value.int x]) 12) ≤ (-1)) ∨ (((v_iv (n_v (vs ++ [Value.int x]) 12) + 1) ≤ w_ei ws (w_ar ws (n_v (vs ++ [Value.int x]) 4) 2) (w_fi ws (n_v (vs ++ [Value.int x]) 4) 5)) ∧ ((w_ei ws (w_ar ws (n_v (vs ++ [Value.int x]) 4) 128) (v_iv (n_v (vs ++ [Value.int x]) 12)) + 1) ≤ v_iv (n_v (vs ++ [Value.int x]) 13)))
      simp only [e_4, e_12, e_13, q4]
      exact vc_Mo_isAhead_4_1 (v_iv (n_v vs 1)) (v_iv (n_v vs 2)) (v_iv (n_v vs 3)) (v_iv (n_v vs 5)) (v_iv (n_v vs 6)) (v_iv (n_v vs 7)) (v_iv (n_v vs 8)) (v_iv (n_v vs 9)) (v_iv (n_v vs 11)) (v_iv (n_v vs 12)) (w_ei ws (w_ar ws (n_v vs 0) 127)) (w_ei ws (w_ar ws (n_v vs 0) 2)) (w_ei ws (w_ar ws (n_v vs 0) 128)) (w_fi ws (n_v vs 0) 5) (v_iv (Value.int x)) k1 k2 k3 k5 k6 k7 k8 k9 k11 k12 d0 d1 d2 d3 d4 d5 h0 f2 h3 f4 f5 f6 f7 hK_0_127 hK_0_128 ex2 ex3
  have nf2 : fc_1 PRD (20, [13], [50, 0, 0, 0, 2, 0, -1, 1, 0]) ws (vs ++ [Value.int x]) := by
    refine ⟨nf_inA hl rfl, sgq_597 ?_⟩
    · show (-1) ≤ v_iv (n_v (vs ++ [Value.int x]) 13)
      rw [e_13]
      exact vc_Mo_isAhead_4_2 (v_iv (n_v vs 1)) (v_iv (n_v vs 2)) (v_iv (n_v vs 3)) (v_iv (n_v vs 5)) (v_iv (n_v vs 6)) (v_iv (n_v vs 7)) (v_iv (n_v vs 8)) (v_iv (n_v vs 9)) (v_iv (n_v vs 11)) (v_iv (n_v vs 12)) (w_ei ws (w_ar ws (n_v vs 0) 127)) (w_ei ws (w_ar ws (n_v vs 0) 2)) (w_ei ws (w_ar ws (n_v vs 0) 128)) (w_fi ws (n_v vs 0) 5) (v_iv (Value.int x)) k1 k2 k3 k5 k6 k7 k8 k9 k11 k12 d0 d1 d2 d3 d4 d5 h0 f2 h3 f4 f5 f6 f7 hK_0_127 hK_0_128 ex2 ex3
  have nf3 : fc_1 PRD (20, [4, 5, 6, 12], [60, 0, 1, 798, 127]) ws (vs ++ [Value.int x]) := by
    refine ⟨nf_inA hl rfl, sgq_594 ?_⟩
    · show AH1 (w_ei ws (w_ar ws (n_v (vs ++ [Value.int x]) 4) 127)) (v_iv (n_v (vs ++ [Value.int x]) 5)) (v_iv (n_v (vs ++ [Value.int x]) 6)) (v_iv (n_v (vs ++ [Value.int x]) 12))
      simp only [e_4, e_5, e_6, e_12, q4, q5, q6]
      exact vc_Mo_isAhead_4_3 (v_iv (n_v vs 1)) (v_iv (n_v vs 2)) (v_iv (n_v vs 3)) (v_iv (n_v vs 5)) (v_iv (n_v vs 6)) (v_iv (n_v vs 7)) (v_iv (n_v vs 8)) (v_iv (n_v vs 9)) (v_iv (n_v vs 11)) (v_iv (n_v vs 12)) (w_ei ws (w_ar ws (n_v vs 0) 127)) (w_ei ws (w_ar ws (n_v vs 0) 2)) (w_ei ws (w_ar ws (n_v vs 0) 128)) (w_fi ws (n_v vs 0) 5) (v_iv (Value.int x)) k1 k2 k3 k5 k6 k7 k8 k9 k11 k12 d0 d1 d2 d3 d4 d5 h0 f2 h3 f4 f5 f6 f7 hK_0_127 hK_0_128 ex2 ex3
  have nf4 : fc_1 PRD (24, [0, 4], []) ws (vs ++ [Value.int x]) := by
    refine ⟨nf_inA hl rfl, sgq_5 ?_⟩
    · show n_v (vs ++ [Value.int x]) 0 = n_v (vs ++ [Value.int x]) 4
      first | rfl | simp only [e_0, e_4, q4, q5, q6, q7]
  have nf5 : fc_1 PRD (24, [1, 5], []) ws (vs ++ [Value.int x]) := by
    refine ⟨nf_inA hl rfl, sgq_5 ?_⟩
    · show n_v (vs ++ [Value.int x]) 1 = n_v (vs ++ [Value.int x]) 5
      first | rfl | simp only [e_1, e_5, q4, q5, q6, q7]
  have nf6 : fc_1 PRD (24, [2, 6], []) ws (vs ++ [Value.int x]) := by
    refine ⟨nf_inA hl rfl, sgq_5 ?_⟩
    · show n_v (vs ++ [Value.int x]) 2 = n_v (vs ++ [Value.int x]) 6
      first | rfl | simp only [e_2, e_6, q4, q5, q6, q7]
  have nf7 : fc_1 PRD (24, [3, 7], []) ws (vs ++ [Value.int x]) := by
    refine ⟨nf_inA hl rfl, sgq_5 ?_⟩
    · show n_v (vs ++ [Value.int x]) 3 = n_v (vs ++ [Value.int x]) 7
      first | rfl | simp only [e_3, e_7, q4, q5, q6, q7]
  obtain ⟨x0, e0, _, _⟩ := tv_int t9 rfl
  have e1 : v_iv (n_v vs 9) = x0.toInt := by rw [e0]; rfl
  have ho : sy_ofs (vs ++ [Value.int x]) (13, 9, 0, 0) := by
    refine ⟨x, x0, by rw [List.getElem?_append_right (by rw [hl]; decide), hl]; rfl, ?_, ?_, ?_⟩
    · rw [List.getElem?_append_left (by rw [hl]; decide)]; exact n_v_some (by rw [hl]; decide) e0
    · show x0.toInt + 0 ≤ x.toInt; omega
    · show x.toInt ≤ x0.toInt + 0; omega
  exact ⟨(fun _ h => (by cases h)), [Value.int x], ag_one hx, List.forall_mem_cons.mpr ⟨⟨show (20 : Nat) < 100 from by decide, nf0⟩, List.forall_mem_cons.mpr ⟨⟨show (20 : Nat) < 100 from by decide, nf1⟩, List.forall_mem_cons.mpr ⟨⟨show (20 : Nat) < 100 from by decide, nf2⟩, List.forall_mem_cons.mpr ⟨⟨show (20 : Nat) < 100 from by decide, nf3⟩, List.forall_mem_cons.mpr ⟨⟨show (24 : Nat) < 100 from by decide, nf4⟩, List.forall_mem_cons.mpr ⟨⟨show (24 : Nat) < 100 from by decide, nf5⟩, List.forall_mem_cons.mpr ⟨⟨show (24 : Nat) < 100 from by decide, nf6⟩, List.forall_mem_cons.mpr ⟨⟨show (24 : Nat) < 100 from by decide, nf7⟩, (fun _ h => (by cases h))⟩⟩⟩⟩⟩⟩⟩⟩, List.forall_mem_cons.mpr ⟨ho, (fun _ h => (by cases h))⟩⟩
set_option maxHeartbeats 4000000 in
theorem vc_Mo_isAhead_5_0 (x1 : Int) (x2 : Int) (x3 : Int) (x5 : Int) (x6 : Int) (x7 : Int) (x8 : Int) (x9 : Int) (all_0 : Int → Int) (level_0 : Int → Int) (above_0 : Int → Int) (r_0 : Int) (gx : Int) (k1 : 0 ≤ x1 ∧ x1 ≤ 23) (k2 : (-1) ≤ x2 ∧ x2 ≤ 23) (k3 : 0 ≤ x3 ∧ x3 ≤ 23) (k5 : 0 ≤ x5 ∧ x5 ≤ 23) (k6 : (-1) ≤ x6 ∧ x6 ≤ 23) (k7 : 0 ≤ x7 ∧ x7 ≤ 23) (k8 : (-1) ≤ x8 ∧ x8 ≤ 23) (k9 : (-2) ≤ x9 ∧ x9 ≤ 60) (d0 : x5 + (-4294967296) ≤ x1 ∧ x1 ≤ x5 + 0) (d1 : x6 + (-4294967296) ≤ x2 ∧ x2 ≤ x6 + 0) (d2 : x7 + (-4294967296) ≤ x3 ∧ x3 ≤ x7 + 0) (d3 : x1 + (-4294967296) ≤ x5 ∧ x5 ≤ x1 + 0) (d4 : x2 + (-4294967296) ≤ x6 ∧ x6 ≤ x2 + 0) (d5 : x3 + (-4294967296) ≤ x7 ∧ x7 ≤ x3 + 0) (f0 : ∀ j0 : Int, 0 ≤ j0 → j0 < 24 → (((j0 + 1) ≤ all_0 (r_0)) → (((-1) ≤ level_0 (j0)) ∧ ((level_0 (j0) ≤ 24) ∧ ((0 ≤ above_0 (j0)) → (((above_0 (j0) + 1) ≤ all_0 (r_0)) ∧ ((0 ≤ level_0 (above_0 (j0))) ∧ ((level_0 (above_0 (j0)) + 1) ≤ level_0 (j0))))))))) (f1 : (x8 ≤ (-1)) ∨ (((x8 + 1) ≤ all_0 (r_0)) ∧ ((level_0 (x8) + 1) ≤ x9))) (f2 : (-1) ≤ x9) (f3 : AH1 (above_0) (x1) (x2) (x8)) (hK_0_127 : ∀ j : Int, 0 ≤ j → j < 26 → (-1) ≤ above_0 j ∧ above_0 j ≤ 23) (hK_0_128 : ∀ j : Int, 0 ≤ j → j < 26 → (-23) ≤ level_0 j ∧ level_0 j ≤ 24) (ex2 : gx = (-1) + (1 * x9 + 0)) (ex3 : (-2) ≤ gx ∧ gx ≤ 60) : ∀ j0 : Int, 0 ≤ j0 → j0 < 24 → (((j0 + 1) ≤ all_0 (r_0)) → (((-1) ≤ level_0 (j0)) ∧ ((level_0 (j0) ≤ 24) ∧ ((0 ≤ above_0 (j0)) → (((above_0 (j0) + 1) ≤ all_0 (r_0)) ∧ ((0 ≤ level_0 (above_0 (j0))) ∧ ((level_0 (above_0 (j0)) + 1) ≤ level_0 (j0)))))))) := by
  try simp only [Int.add_zero] at *
  first
    | omega
    | (have q := hK_0_128 x1 (by omega) (by omega); right; exact ⟨by omega, by omega⟩)
    | (have q := hK_0_128 x8 (by omega) (by omega); have g := f5 x8 (by omega) (by omega) (by omega); omega)
    | (have e : x12 = above_0 x8 := by assumption
       have g := f5 x8 (by omega) (by omega) (by omega)
       by_cases w : 0 ≤ x12
       · right
         have g2 := g.2.2 (by omega)
         rw [← e] at g2
         omega
       · left; omega)
  
set_option maxHeartbeats 4000000 in
theorem vc_Mo_isAhead_5_1 (x1 : Int) (x2 : Int) (x3 : Int) (x5 : Int) (x6 : Int) (x7 : Int) (x8 : Int) (x9 : Int) (all_0 : Int → Int) (level_0 : Int → Int) (above_0 : Int → Int) (r_0 : Int) (gx : Int) (k1 : 0 ≤ x1 ∧ x1 ≤ 23) (k2 : (-1) ≤ x2 ∧ x2 ≤ 23) (k3 : 0 ≤ x3 ∧ x3 ≤ 23) (k5 : 0 ≤ x5 ∧ x5 ≤ 23) (k6 : (-1) ≤ x6 ∧ x6 ≤ 23) (k7 : 0 ≤ x7 ∧ x7 ≤ 23) (k8 : (-1) ≤ x8 ∧ x8 ≤ 23) (k9 : (-2) ≤ x9 ∧ x9 ≤ 60) (d0 : x5 + (-4294967296) ≤ x1 ∧ x1 ≤ x5 + 0) (d1 : x6 + (-4294967296) ≤ x2 ∧ x2 ≤ x6 + 0) (d2 : x7 + (-4294967296) ≤ x3 ∧ x3 ≤ x7 + 0) (d3 : x1 + (-4294967296) ≤ x5 ∧ x5 ≤ x1 + 0) (d4 : x2 + (-4294967296) ≤ x6 ∧ x6 ≤ x2 + 0) (d5 : x3 + (-4294967296) ≤ x7 ∧ x7 ≤ x3 + 0) (f0 : ∀ j0 : Int, 0 ≤ j0 → j0 < 24 → (((j0 + 1) ≤ all_0 (r_0)) → (((-1) ≤ level_0 (j0)) ∧ ((level_0 (j0) ≤ 24) ∧ ((0 ≤ above_0 (j0)) → (((above_0 (j0) + 1) ≤ all_0 (r_0)) ∧ ((0 ≤ level_0 (above_0 (j0))) ∧ ((level_0 (above_0 (j0)) + 1) ≤ level_0 (j0))))))))) (f1 : (x8 ≤ (-1)) ∨ (((x8 + 1) ≤ all_0 (r_0)) ∧ ((level_0 (x8) + 1) ≤ x9))) (f2 : (-1) ≤ x9) (f3 : AH1 (above_0) (x1) (x2) (x8)) (hK_0_127 : ∀ j : Int, 0 ≤ j → j < 26 → (-1) ≤ above_0 j ∧ above_0 j ≤ 23) (hK_0_128 : ∀ j : Int, 0 ≤ j → j < 26 → (-23) ≤ level_0 j ∧ level_0 j ≤ 24) (ex2 : gx = (-1) + (1 * x9 + 0)) (ex3 : (-2) ≤ gx ∧ gx ≤ 60) : (x8 ≤ (-1)) ∨ (((x8 + 1) ≤ all_0 (r_0)) ∧ ((level_0 (x8) + 0) ≤ gx)) := by
  try simp only [Int.add_zero] at *
  first
    | omega
    | (have q := hK_0_128 x1 (by omega) (by omega); right; exact ⟨by omega, by omega⟩)
    | (have q := hK_0_128 x8 (by omega) (by omega); have g := f5 x8 (by omega) (by omega) (by omega); omega)
    | (have e : x12 = above_0 x8 := by assumption
       have g := f5 x8 (by omega) (by omega) (by omega)
       by_cases w : 0 ≤ x12
       · right
         have g2 := g.2.2 (by omega)
         rw [← e] at g2
         omega
       · left; omega)
  
set_option maxHeartbeats 4000000 in
theorem vc_Mo_isAhead_5_2 (x1 : Int) (x2 : Int) (x3 : Int) (x5 : Int) (x6 : Int) (x7 : Int) (x8 : Int) (x9 : Int) (all_0 : Int → Int) (level_0 : Int → Int) (above_0 : Int → Int) (r_0 : Int) (gx : Int) (k1 : 0 ≤ x1 ∧ x1 ≤ 23) (k2 : (-1) ≤ x2 ∧ x2 ≤ 23) (k3 : 0 ≤ x3 ∧ x3 ≤ 23) (k5 : 0 ≤ x5 ∧ x5 ≤ 23) (k6 : (-1) ≤ x6 ∧ x6 ≤ 23) (k7 : 0 ≤ x7 ∧ x7 ≤ 23) (k8 : (-1) ≤ x8 ∧ x8 ≤ 23) (k9 : (-2) ≤ x9 ∧ x9 ≤ 60) (d0 : x5 + (-4294967296) ≤ x1 ∧ x1 ≤ x5 + 0) (d1 : x6 + (-4294967296) ≤ x2 ∧ x2 ≤ x6 + 0) (d2 : x7 + (-4294967296) ≤ x3 ∧ x3 ≤ x7 + 0) (d3 : x1 + (-4294967296) ≤ x5 ∧ x5 ≤ x1 + 0) (d4 : x2 + (-4294967296) ≤ x6 ∧ x6 ≤ x2 + 0) (d5 : x3 + (-4294967296) ≤ x7 ∧ x7 ≤ x3 + 0) (f0 : ∀ j0 : Int, 0 ≤ j0 → j0 < 24 → (((j0 + 1) ≤ all_0 (r_0)) → (((-1) ≤ level_0 (j0)) ∧ ((level_0 (j0) ≤ 24) ∧ ((0 ≤ above_0 (j0)) → (((above_0 (j0) + 1) ≤ all_0 (r_0)) ∧ ((0 ≤ level_0 (above_0 (j0))) ∧ ((level_0 (above_0 (j0)) + 1) ≤ level_0 (j0))))))))) (f1 : (x8 ≤ (-1)) ∨ (((x8 + 1) ≤ all_0 (r_0)) ∧ ((level_0 (x8) + 1) ≤ x9))) (f2 : (-1) ≤ x9) (f3 : AH1 (above_0) (x1) (x2) (x8)) (hK_0_127 : ∀ j : Int, 0 ≤ j → j < 26 → (-1) ≤ above_0 j ∧ above_0 j ≤ 23) (hK_0_128 : ∀ j : Int, 0 ≤ j → j < 26 → (-23) ≤ level_0 j ∧ level_0 j ≤ 24) (ex2 : gx = (-1) + (1 * x9 + 0)) (ex3 : (-2) ≤ gx ∧ gx ≤ 60) : AH1 (above_0) (x1) (x2) (x8) := by
  first
    | assumption
    | exact fun _ _ => by omega
    | (intro a b
       have h := ‹AH1 _ _ _ _› a b
       have e : x11 = above_0 x8 := by assumption
       rw [h, b] at e
       exfalso; omega)
  
def o_Mo_isAhead_5 : or_T := (3, 10, [(0, (2, 0, 0, [165])), (1, (0, 0, 23, [])), (2, (0, -1, 23, [])), (3, (0, 0, 23, [])), (4, (2, 0, 0, [165])), (5, (0, 0, 23, [])), (6, (0, -1, 23, [])), (7, (0, 0, 23, [])), (8, (0, -1, 23, [])), (9, (0, -2, 60, []))], [(20, [4], [50, 1, 3, 5, 2, 128, 127, 5, 2, 0, 24, 4, 14, 0, 6, 4, 2, 7, 0, 0, 1, 3, 0, 2, 2, 0, 5, 2, 9, 0, 2, 0, -1, 3, 0, 128, 7, 0, 2, 9, 0, 5, 3, 0, 128, 7, 0, 0, 24, 4, 9, 0, 2, 0, 0, 3, 0, 127, 7, 0, 2, 17, 0, 9, 4, 5, 3, 0, 127, 7, 0, 0, 1, 3, 0, 2, 2, 0, 5, 2, 12, 0, 2, 0, 0, 3, 0, 128, 3, 0, 127, 7, 0, 0, 12, 4, 8, 3, 0, 128, 3, 0, 127, 7, 0, 0, 1, 3, 0, 128, 7, 0]), (20, [8, 4, 9], [50, 1, 2, 1005, 1002, 1128, 3, 6, 0, 2, 1, 0, 0, -1, 2, 14, 0, 6, 4, 2, 1, 0, 0, 1, 3, 1, 2, 2, 1, 5, 0, 9, 4, 5, 3, 1, 128, 1, 0, 0, 1, 1, 2]), (20, [9], [50, 0, 0, 0, 2, 0, -1, 1, 0]), (20, [4, 5, 6, 8], [60, 0, 1, 798, 127]), (24, [0, 4], []), (24, [1, 5], []), (24, [2, 6], []), (24, [3, 7], [])], [], [(0, -2, 60, [])], [(20, [4], [50, 1, 3, 5, 2, 128, 127, 5, 2, 0, 24, 4, 14, 0, 6, 4, 2, 7, 0, 0, 1, 3, 0, 2, 2, 0, 5, 2, 9, 0, 2, 0, -1, 3, 0, 128, 7, 0, 2, 9, 0, 5, 3, 0, 128, 7, 0, 0, 24, 4, 9, 0, 2, 0, 0, 3, 0, 127, 7, 0, 2, 17, 0, 9, 4, 5, 3, 0, 127, 7, 0, 0, 1, 3, 0, 2, 2, 0, 5, 2, 12, 0, 2, 0, 0, 3, 0, 128, 3, 0, 127, 7, 0, 0, 12, 4, 8, 3, 0, 128, 3, 0, 127, 7, 0, 0, 1, 3, 0, 128, 7, 0]), (20, [8, 4, 10], [50, 1, 2, 1005, 1002, 1128, 3, 6, 0, 2, 1, 0, 0, -1, 2, 14, 0, 6, 4, 2, 1, 0, 0, 1, 3, 1, 2, 2, 1, 5, 0, 9, 4, 5, 3, 1, 128, 1, 0, 0, 0, 1, 2]), (20, [4, 5, 6, 8], [60, 0, 1, 798, 127]), (24, [0, 4], []), (24, [1, 5], []), (24, [2, 6], []), (24, [3, 7], [])], [(10, 9, -1000000000000, -1)], [(1, 5, -4294967296, 0), (2, 6, -4294967296, 0), (3, 7, -4294967296, 0), (5, 1, -4294967296, 0), (6, 2, -4294967296, 0), (7, 3, -4294967296, 0)])
theorem oo_Mo_isAhead_5 {kA : Nat → ClassId} : or_ok PRD kA GG o_Mo_isAhead_5 := by
  refine or_mk fun A ta ws vs hD hth hl => ?_
  intro t0 r0 t1 k1 t2 k2 t3 k3 t4 r4 t5 k5 t6 k6 t7 k7 t8 k8 t9 k9 d0 d1 d2 d3 d4 d5 f0 f1 f2 f3 f4 f5 f6 f7
  replace f0 := shm_589 f0
  replace f1 := shm_596 f1
  replace f2 := shm_597 f2
  replace f3 := shm_594 f3
  replace f4 := shm_5 f4
  replace f5 := shm_5 f5
  replace f6 := shm_5 f6
  replace f7 := shm_5 f7
  have q4 : n_v vs 4 = n_v vs 0 := f4.symm
  have q5 : n_v vs 5 = n_v vs 1 := f5.symm
  have q6 : n_v vs 6 = n_v vs 2 := f6.symm
  have q7 : n_v vs 7 = n_v vs 3 := f7.symm
  simp only [q4, q5, q6] at f0 f1 f3
  have cr_0_2 := fdq_12 hD hth r0
  have cr_0_127 := fdq_153 hD hth r0
  have cr_0_128 := fdq_154 hD hth r0
  have hK_0_127 := elq_84 hD hth cr_0_127
  have hK_0_128 := elq_85 hD hth cr_0_128
  obtain ⟨x, ex, hx⟩ := iv_ex (ta := ta) (lo := (-2)) (hi := 60) (z := (-1) + (1 * v_iv (n_v vs 9) + 0)) (by omega) (by omega) (by omega) (by omega)
  have ex2 : v_iv (Value.int x) = (-1) + (1 * v_iv (n_v vs 9) + 0) := ex
  have ex3 : (-2) ≤ v_iv (Value.int x) ∧ v_iv (Value.int x) ≤ 60 := tv_rng hx
  have e_0 : n_v (vs ++ [Value.int x]) 0 = n_v vs 0 := n_v_old (by rw [hl]; decide)
  have e_1 : n_v (vs ++ [Value.int x]) 1 = n_v vs 1 := n_v_old (by rw [hl]; decide)
  have e_2 : n_v (vs ++ [Value.int x]) 2 = n_v vs 2 := n_v_old (by rw [hl]; decide)
  have e_3 : n_v (vs ++ [Value.int x]) 3 = n_v vs 3 := n_v_old (by rw [hl]; decide)
  have e_4 : n_v (vs ++ [Value.int x]) 4 = n_v vs 4 := n_v_old (by rw [hl]; decide)
  have e_5 : n_v (vs ++ [Value.int x]) 5 = n_v vs 5 := n_v_old (by rw [hl]; decide)
  have e_6 : n_v (vs ++ [Value.int x]) 6 = n_v vs 6 := n_v_old (by rw [hl]; decide)
  have e_7 : n_v (vs ++ [Value.int x]) 7 = n_v vs 7 := n_v_old (by rw [hl]; decide)
  have e_8 : n_v (vs ++ [Value.int x]) 8 = n_v vs 8 := n_v_old (by rw [hl]; decide)
  have e_10 : n_v (vs ++ [Value.int x]) 10 = Value.int x := n_v_new hl
  have nf0 : fc_1 PRD (20, [4], [50, 1, 3, 5, 2, 128, 127, 5, 2, 0, 24, 4, 14, 0, 6, 4, 2, 7, 0, 0, 1, 3, 0, 2, 2, 0, 5, 2, 9, 0, 2, 0, -1, 3, 0, 128, 7, 0, 2, 9, 0, 5, 3, 0, 128, 7, 0, 0, 24, 4, 9, 0, 2, 0, 0, 3, 0, 127, 7, 0, 2, 17, 0, 9, 4, 5, 3, 0, 127, 7, 0, 0, 1, 3, 0, 2, 2, 0, 5, 2, 12, 0, 2, 0, 0, 3, 0, 128, 3, 0, 127, 7, 0, 0, 12, 4, 8, 3, 0, 128, 3, 0, 127, 7, 0, 0, 1, 3, 0, 128, 7, 0]) ws (vs ++ [Value.int x]) := by
    refine ⟨nf_inA hl rfl, sgq_589 ?_⟩
    · show ∀ j0 : Int, 0 ≤ j0 → j0 < 24 → (((j0 + 1) ≤ w_ei ws (w_ar ws (n_v (vs ++ [Value.int x]) 4) 2) (w_fi ws (n_v (vs ++ [Value.int x]) 4) 5)) → (((-1) ≤ w_ei ws (w_ar ws (n_v (vs ++ [Value.int x]) 4) 128) (j0)) ∧ ((w_ei ws (w_ar ws (n_v (vs ++ [Value.int x]) 4) 128) (j0) ≤ 24) ∧ ((0 ≤ w_ei ws (w_ar ws (n_v (vs ++ [Value.int x]) 4) 127) (j0)) → (((w_ei ws (w_ar ws (n_v (vs ++ [Value.int x]) 4) 127) (j0) + 1) ≤ w_ei ws (w_ar ws (n_v (vs ++ [Value.int x]) 4) 2) (w_fi ws (n_v (vs ++ [Value.int x]) 4) 5)) ∧ ((0 ≤ w_ei ws (w_ar ws (n_v (vs ++ [Value.int x]) 4) 128) (w_ei ws (w_ar ws (n_v (vs ++ [Value.int x]) 4) 127) (j0))) ∧ ((w_ei ws (w_ar ws (n_v (vs ++ [Value.int x]) 4) 128) (w_ei ws (w_ar ws (n_v (vs ++ [Value.int x]) 4) 127) (j0)) + 1) ≤ w_ei ws (w_ar ws (n_v (vs ++ [Value.int x]) 4) 128) (j0))))))))
      simp only [e_4, q4]
      exact vc_Mo_isAhead_5_0 (v_iv (n_v vs 1)) (v_iv (n_v vs 2)) (v_iv (n_v vs 3)) (v_iv (n_v vs 5)) (v_iv (n_v vs 6)) (v_iv (n_v vs 7)) (v_iv (n_v vs 8)) (v_iv (n_v vs 9)) (w_ei ws (w_ar ws (n_v vs 0) 2)) (w_ei ws (w_ar ws (n_v vs 0) 128)) (w_ei ws (w_ar ws (n_v vs 0) 127)) (w_fi ws (n_v vs 0) 5) (v_iv (Value.int x)) k1 k2 k3 k5 k6 k7 k8 k9 d0 d1 d2 d3 d4 d5 f0 f1 f2 f3 hK_0_127 hK_0_128 ex2 ex3
  have nf1 : fc_1 PRD (20, [8, 4, 10], [50, 1, 2, 1005, 1002, 1128, 3, 6, 0, 2, 1, 0, 0, -1, 2, 14, 0, 6, 4, 2, 1, 0, 0, 1, 3, 1, 2, 2, 1, 5, 0, 9, 4, 5, 3, 1, 128, 1, 0, 0, 0, 1, 2]) ws (vs ++ [Value.int x]) := by
    refine ⟨nf_inA hl rfl, sgq_592 ?_⟩
    · show (v_iv (n_v (vs ++ [Value.int x]) 8) ≤ (-1)) ∨ (((v_iv (n_v (vs ++ [Value.int x]) 8) + 1) ≤ w_ei ws (w_ar ws (n_v (vs ++ [Value.int x]) 4) 2) (w_fi ws (n_v (vs ++ [Value.int x]) 4) 5)) ∧ ((w_ei ws (w_ar ws (n_v (vs ++ [Value.int x]) 4) 128) (v_iv (n_v (vs ++ [Value.int x]) 8)) + 0) ≤ v_iv (n_v (vs ++ [Value.int x]) 10)))
      simp only [e_4, e_8, e_10, q4]
      exact vc_Mo_isAhead_5_1 (v_iv (n_v vs 1)) (v_iv (n_v vs 2)) (v_iv (n_v vs 3)) (v_iv (n_v vs 5)) (v_iv (n_v vs 6)) (v_iv (n_v vs 7)) (v_iv (n_v vs 8)) (v_iv (n_v vs 9)) (w_ei ws (w_ar ws (n_v vs 0) 2)) (w_ei ws (w_ar ws (n_v vs 0) 128)) (w_ei ws (w_ar ws (n_v vs 0) 127)) (w_fi ws (n_v vs 0) 5) (v_iv (Value.int x)) k1 k2 k3 k5 k6 k7 k8 k9 d0 d1 d2 d3 d4 d5 f0 f1 f2 f3 hK_0_127 hK_0_128 ex2 ex3
  have nf2 : fc_1 PRD (20, [4, 5, 6, 8], [60, 0, 1, 798, 127]) ws (vs ++ [Value.int x]) := by
    refine ⟨nf_inA hl rfl, sgq_594 ?_⟩
    · show AH1 (w_ei ws (w_ar ws (n_v (vs ++ [Value.int x]) 4) 127)) (v_iv (n_v (vs ++ [Value.int x]) 5)) (v_iv (n_v (vs ++ [Value.int x]) 6)) (v_iv (n_v (vs ++ [Value.int x]) 8))
      simp only [e_4, e_5, e_6, e_8, q4, q5, q6]
      exact vc_Mo_isAhead_5_2 (v_iv (n_v vs 1)) (v_iv (n_v vs 2)) (v_iv (n_v vs 3)) (v_iv (n_v vs 5)) (v_iv (n_v vs 6)) (v_iv (n_v vs 7)) (v_iv (n_v vs 8)) (v_iv (n_v vs 9)) (w_ei ws (w_ar ws (n_v vs 0) 2)) (w_ei ws (w_ar ws (n_v vs 0) 128)) (w_ei ws (w_ar ws (n_v vs 0) 127)) (w_fi ws (n_v vs 0) 5) (v_iv (Value.int x)) k1 k2 k3 k5 k6 k7 k8 k9 d0 d1 d2 d3 d4 d5 f0 f1 f2 f3 hK_0_127 hK_0_128 ex2 ex3
  have nf3 : fc_1 PRD (24, [0, 4], []) ws (vs ++ [Value.int x]) := by
    refine ⟨nf_inA hl rfl, sgq_5 ?_⟩
    · show n_v (vs ++ [Value.int x]) 0 = n_v (vs ++ [Value.int x]) 4
      first | rfl | simp only [e_0, e_4, q4, q5, q6, q7]
  have nf4 : fc_1 PRD (24, [1, 5], []) ws (vs ++ [Value.int x]) := by
    refine ⟨nf_inA hl rfl, sgq_5 ?_⟩
    · show n_v (vs ++ [Value.int x]) 1 = n_v (vs ++ [Value.int x]) 5
      first | rfl | simp only [e_1, e_5, q4, q5, q6, q7]
  have nf5 : fc_1 PRD (24, [2, 6], []) ws (vs ++ [Value.int x]) := by
    refine ⟨nf_inA hl rfl, sgq_5 ?_⟩
    · show n_v (vs ++ [Value.int x]) 2 = n_v (vs ++ [Value.int x]) 6
      first | rfl | simp only [e_2, e_6, q4, q5, q6, q7]
  have nf6 : fc_1 PRD (24, [3, 7], []) ws (vs ++ [Value.int x]) := by
    refine ⟨nf_inA hl rfl, sgq_5 ?_⟩
    · show n_v (vs ++ [Value.int x]) 3 = n_v (vs ++ [Value.int x]) 7
      first | rfl | simp only [e_3, e_7, q4, q5, q6, q7]
  obtain ⟨x0, e0, _, _⟩ := tv_int t9 rfl
  have e1 : v_iv (n_v vs 9) = x0.toInt := by rw [e0]; rfl
  have ho : sy_ofs (vs ++ [Value.int x]) (10, 9, -1000000000000, -1) := by
    refine ⟨x, x0, by rw [List.getElem?_append_right (by rw [hl]; decide), hl]; rfl, ?_, ?_, ?_⟩
    · rw [List.getElem?_append_left (by rw [hl]; decide)]; exact n_v_some (by rw [hl]; decide) e0
    · show x0.toInt + (-1000000000000) ≤ x.toInt; omega
    · show x.toInt ≤ x0.toInt + (-1); omega
  exact ⟨(fun _ h => (by cases h)), [Value.int x], ag_one hx, List.forall_mem_cons.mpr ⟨⟨show (20 : Nat) < 100 from by decide, nf0⟩, List.forall_mem_cons.mpr ⟨⟨show (20 : Nat) < 100 from by decide, nf1⟩, List.forall_mem_cons.mpr ⟨⟨show (20 : Nat) < 100 from by decide, nf2⟩, List.forall_mem_cons.mpr ⟨⟨show (24 : Nat) < 100 from by decide, nf3⟩, List.forall_mem_cons.mpr ⟨⟨show (24 : Nat) < 100 from by decide, nf4⟩, List.forall_mem_cons.mpr ⟨⟨show (24 : Nat) < 100 from by decide, nf5⟩, List.forall_mem_cons.mpr ⟨⟨show (24 : Nat) < 100 from by decide, nf6⟩, (fun _ h => (by cases h))⟩⟩⟩⟩⟩⟩⟩, List.forall_mem_cons.mpr ⟨ho, (fun _ h => (by cases h))⟩⟩
def n_Mo_isAhead_an : List an_T := [(3, [(0, (2, 0, 0, [165])), (1, (0, 0, 23, [])), (2, (0, (Int.negSucc 0), 23, [])), (3, (0, 0, 23, [])), (4, (0, (Int.negSucc 0), 23, []))], [], (0, 0), [(0, 0, 99997), (2, 9, (Int.negSucc 1)), (0, 0, 100000)], [(1, 5, (Int.negSucc 999999999999), 0), (2, 6, (Int.negSucc 999999999999), 0), (3, 7, (Int.negSucc 999999999999), 0), (5, 1, (Int.negSucc 999999999999), 0), (6, 2, (Int.negSucc 999999999999), 0), (7, 3, (Int.negSucc 999999999999), 0)], [], [(2, 0, 0, [165]), (0, 0, 23, []), (0, (Int.negSucc 0), 23, []), (0, 0, 23, [])], 0, [(0, (Int.negSucc 1), 60, [])], [(20, [4], [50, 1, 3, 5, 2, 128, 127, 5, 2, 0, 24, 4, 14, 0, 6, 4, 2, 7, 0, 0, 1, 3, 0, 2, 2, 0, 5, 2, 9, 0, 2, 0, (Int.negSucc 0), 3, 0, 128, 7, 0, 2, 9, 0, 5, 3, 0, 128, 7, 0, 0, 24, 4, 9, 0, 2, 0, 0, 3, 0, 127, 7, 0, 2, 17, 0, 9, 4, 5, 3, 0, 127, 7, 0, 0, 1, 3, 0, 2, 2, 0, 5, 2, 12, 0, 2, 0, 0, 3, 0, 128, 3, 0, 127, 7, 0, 0, 12, 4, 8, 3, 0, 128, 3, 0, 127, 7, 0, 0, 1, 3, 0, 128, 7, 0]), (20, [8, 4, 9], [50, 1, 2, 1005, 1002, 1128, 3, 6, 0, 2, 1, 0, 0, (Int.negSucc 0), 2, 14, 0, 6, 4, 2, 1, 0, 0, 1, 3, 1, 2, 2, 1, 5, 0, 9, 4, 5, 3, 1, 128, 1, 0, 0, 0, 1, 2]), (20, [4, 5, 6, 8], [60, 0, 1, 798, 127]), (24, [0, 4], []), (24, [1, 5], []), (24, [2, 6], []), (24, [3, 7], [])]), (28, [(0, (2, 0, 0, [165])), (1, (0, 0, 23, [])), (2, (0, (Int.negSucc 0), 23, [])), (3, (0, 0, 23, [])), (4, (0, (Int.negSucc 0), 23, []))], [], (0, 0), [(0, 0, 99997), (2, 9, (Int.negSucc 1)), (0, 0, 99972)], [(1, 5, (Int.negSucc 999999999999), 0), (2, 6, (Int.negSucc 999999999999), 0), (3, 7, (Int.negSucc 999999999999), 0), (5, 1, (Int.negSucc 999999999999), 0), (6, 2, (Int.negSucc 999999999999), 0), (7, 3, (Int.negSucc 999999999999), 0)], [], [(2, 0, 0, [165]), (0, 0, 23, []), (0, (Int.negSucc 0), 23, []), (0, 0, 23, [])], 0, [(0, (Int.negSucc 1), 60, [])], [(20, [4], [50, 1, 3, 5, 2, 128, 127, 5, 2, 0, 24, 4, 14, 0, 6, 4, 2, 7, 0, 0, 1, 3, 0, 2, 2, 0, 5, 2, 9, 0, 2, 0, (Int.negSucc 0), 3, 0, 128, 7, 0, 2, 9, 0, 5, 3, 0, 128, 7, 0, 0, 24, 4, 9, 0, 2, 0, 0, 3, 0, 127, 7, 0, 2, 17, 0, 9, 4, 5, 3, 0, 127, 7, 0, 0, 1, 3, 0, 2, 2, 0, 5, 2, 12, 0, 2, 0, 0, 3, 0, 128, 3, 0, 127, 7, 0, 0, 12, 4, 8, 3, 0, 128, 3, 0, 127, 7, 0, 0, 1, 3, 0, 128, 7, 0]), (20, [8, 4, 9], [50, 1, 2, 1005, 1002, 1128, 3, 6, 0, 2, 1, 0, 0, (Int.negSucc 0), 2, 14, 0, 6, 4, 2, 1, 0, 0, 1, 3, 1, 2, 2, 1, 5, 0, 9, 4, 5, 3, 1, 128, 1, 0, 0, 1, 1, 2]), (20, [9], [50, 0, 0, 0, 2, 0, (Int.negSucc 0), 1, 0]), (20, [4, 5, 6, 8], [60, 0, 1, 798, 127]), (24, [0, 4], []), (24, [1, 5], []), (24, [2, 6], []), (24, [3, 7], [])])]
def t_Mo_isAhead_ct : ct_L := []
set_option maxRecDepth 100000 in
theorem c_Mo_isAhead {l : Launch} {D : va_G} {kA : Nat → ClassId} : ct_ok PRD l D kA GG y_Mo_isAhead z_Mo_isAhead e_Mo_isAhead := chk_all_ok (FT := [(290, 13, 127)]) (PT := []) (CT := t_Mo_isAhead_ct) (KT := []) (NT := []) (AN := n_Mo_isAhead_an) (OT := [o_Mo_isAhead_0, o_Mo_isAhead_1, o_Mo_isAhead_2, o_Mo_isAhead_3, o_Mo_isAhead_4, o_Mo_isAhead_5]) 3 200 (List.forall_mem_cons.mpr ⟨oo_Mo_isAhead_0, List.forall_mem_cons.mpr ⟨oo_Mo_isAhead_1, List.forall_mem_cons.mpr ⟨oo_Mo_isAhead_2, List.forall_mem_cons.mpr ⟨oo_Mo_isAhead_3, List.forall_mem_cons.mpr ⟨oo_Mo_isAhead_4, List.forall_mem_cons.mpr ⟨oo_Mo_isAhead_5, List.forall_mem_nil _⟩⟩⟩⟩⟩⟩) (by decide +kernel) ⟨List.forall_mem_cons.mpr ⟨gf_Mo_290, List.forall_mem_nil _⟩, List.forall_mem_nil _, List.forall_mem_nil _, List.forall_mem_nil _, List.forall_mem_nil _, GG_pl⟩ (by decide +kernel)
set_option maxHeartbeats 4000000 in
theorem vc_Mo_isEnd_0_0 (x1 : Int) (x2 : Int) (x4 : Int) (x5 : Int) (x6 : Int) (x7 : Int) (x8 : Int) (x9 : Int) (ends_0 : Int → Int) (k1 : 0 ≤ x1 ∧ x1 ≤ 79) (k2 : 0 ≤ x2 ∧ x2 ≤ 25) (k4 : 0 ≤ x4 ∧ x4 ≤ 33554431) (k5 : 0 ≤ x5 ∧ x5 ≤ 33554431) (k6 : 1 ≤ x6 ∧ x6 ≤ 1) (k7 : 0 ≤ x7 ∧ x7 ≤ 0) (k8 : 1 ≤ x8 ∧ x8 ≤ 1) (k9 : 0 ≤ x9 ∧ x9 ≤ 0) (f0 : x7 ≠ x8) (f1 : x7 = x5 % 2) (f2 : bvp (x7) = bvp (x5) &&& bvp (x6)) (f3 : bvp (x5) = bvp (x4) >>> (x2).toNat) (h4 : x4 = ends_0 (x1)) (hK_0_50 : ∀ j : Int, 0 ≤ j → j < 80 → 0 ≤ ends_0 j ∧ ends_0 j ≤ 33554431) : ISE (ends_0) (x1) (x2) (x9) := by
  first | subst h4 | skip
  unfold ISE
  have b1 := bit_shr (n := x5) (b := x2) (by assumption) (by omega)
  have b2 := bit_and (n := x7) (a := x5) (b := x6) (by assumption) 0
  have b3 := bit_01 (x := x7) (by omega) (by omega)
  have b4 : bit x6 0 := (bit_01 (by omega) (by omega)).mpr (by omega)
  rw [← b1]
  constructor
  · intro h
    exact (b2.mp (b3.mpr (by omega))).1
  · intro h
    have := b3.mp (b2.mpr ⟨h, b4⟩)
    omega
def o_Mo_isEnd_0 : or_T := (19, 10, [(0, (2, 0, 0, [165])), (1, (0, 0, 79, [])), (2, (0, 0, 25, [])), (3, (2, 0, 0, [193])), (4, (0, 0, 33554431, [])), (5, (0, 0, 33554431, [])), (6, (0, 1, 1, [])), (7, (0, 0, 0, [])), (8, (0, 1, 1, [])), (9, (0, 0, 0, []))], [(7, [7, 8], [1]), (12, [7, 5], [2]), (16, [7, 5, 6], [0]), (16, [5, 4, 2], [4]), (10, [4, 3, 1], []), (9, [3, 0], [50])], [], [], [(20, [0, 1, 2, 9], [60, 0, 1, 114, 50])], [], [])
theorem oo_Mo_isEnd_0 {kA : Nat → ClassId} : or_ok PRD kA GG o_Mo_isEnd_0 := by
  refine or_mk fun A ta ws vs hD hth hl => ?_
  intro t0 r0 t1 k1 t2 k2 t3 r3 t4 k4 t5 k5 t6 k6 t7 k7 t8 k8 t9 k9 f0 f1 f2 f3 f4 f5
  replace f4 := shm_106 f4
  replace f5 := shm_522 f5
  have cr_0_50 := fdq_138 hD hth r0
  have ad_3 : v_ad (n_v vs 3) = w_ar ws (n_v vs 0) 50 := congrArg v_ad f5
  simp only [ad_3] at f4
  have h4 : v_iv (n_v vs 4) = w_ei ws (w_ar ws (n_v vs 0) 50) (v_iv (n_v vs 1)) := f4
  have hK_0_50 := elq_75 hD hth cr_0_50
  have nf0 : fc_1 PRD (20, [0, 1, 2, 9], [60, 0, 1, 114, 50]) ws (vs) := ⟨nf_in hl rfl, sgq_598 (vc_Mo_isEnd_0_0 (v_iv (n_v vs 1)) (v_iv (n_v vs 2)) (v_iv (n_v vs 4)) (v_iv (n_v vs 5)) (v_iv (n_v vs 6)) (v_iv (n_v vs 7)) (v_iv (n_v vs 8)) (v_iv (n_v vs 9)) (w_ei ws (w_ar ws (n_v vs 0) 50)) k1 k2 k4 k5 k6 k7 k8 k9 (shm_40 f0) (shm_382 f1) (shm_11 f2) (shm_13 f3) h4 hK_0_50)⟩
  refine ⟨(fun _ h => (by cases h)), [], trivial, ?_, (fun _ h => (by cases h))⟩
  rw [List.append_nil]
  exact List.forall_mem_cons.mpr ⟨⟨show (20 : Nat) < 100 from by decide, nf0⟩, (fun _ h => (by cases h))⟩
set_option maxHeartbeats 4000000 in
theorem vc_Mo_isEnd_1_0 (x1 : Int) (x2 : Int) (x4 : Int) (x5 : Int) (x6 : Int) (x7 : Int) (x8 : Int) (x9 : Int) (ends_0 : Int → Int) (k1 : 0 ≤ x1 ∧ x1 ≤ 79) (k2 : 0 ≤ x2 ∧ x2 ≤ 25) (k4 : 0 ≤ x4 ∧ x4 ≤ 33554431) (k5 : 0 ≤ x5 ∧ x5 ≤ 33554431) (k6 : 1 ≤ x6 ∧ x6 ≤ 1) (k7 : 1 ≤ x7 ∧ x7 ≤ 1) (k8 : 1 ≤ x8 ∧ x8 ≤ 1) (k9 : 1 ≤ x9 ∧ x9 ≤ 1) (f0 : x7 = x8) (f1 : x7 = x5 % 2) (f2 : bvp (x7) = bvp (x5) &&& bvp (x6)) (f3 : bvp (x5) = bvp (x4) >>> (x2).toNat) (h4 : x4 = ends_0 (x1)) (hK_0_50 : ∀ j : Int, 0 ≤ j → j < 80 → 0 ≤ ends_0 j ∧ ends_0 j ≤ 33554431) : ISE (ends_0) (x1) (x2) (x9) := by
  first | subst h4 | skip
  unfold ISE
  have b1 := bit_shr (n := x5) (b := x2) (by assumption) (by omega)
  have b2 := bit_and (n := x7) (a := x5) (b := x6) (by assumption) 0
  have b3 := bit_01 (x := x7) (by omega) (by omega)
  have b4 : bit x6 0 := (bit_01 (by omega) (by omega)).mpr (by omega)
  rw [← b1]
  constructor
  · intro h
    exact (b2.mp (b3.mpr (by omega))).1
  · intro h
    have := b3.mp (b2.mpr ⟨h, b4⟩)
    omega
def o_Mo_isEnd_1 : or_T := (19, 10, [(0, (2, 0, 0, [165])), (1, (0, 0, 79, [])), (2, (0, 0, 25, [])), (3, (2, 0, 0, [193])), (4, (0, 0, 33554431, [])), (5, (0, 0, 33554431, [])), (6, (0, 1, 1, [])), (7, (0, 1, 1, [])), (8, (0, 1, 1, [])), (9, (0, 1, 1, []))], [(7, [7, 8], [0]), (12, [7, 5], [2]), (16, [7, 5, 6], [0]), (16, [5, 4, 2], [4]), (10, [4, 3, 1], []), (9, [3, 0], [50])], [], [], [(20, [0, 1, 2, 9], [60, 0, 1, 114, 50])], [], [])
theorem oo_Mo_isEnd_1 {kA : Nat → ClassId} : or_ok PRD kA GG o_Mo_isEnd_1 := by
  refine or_mk fun A ta ws vs hD hth hl => ?_
  intro t0 r0 t1 k1 t2 k2 t3 r3 t4 k4 t5 k5 t6 k6 t7 k7 t8 k8 t9 k9 f0 f1 f2 f3 f4 f5
  replace f4 := shm_106 f4
  replace f5 := shm_522 f5
  have cr_0_50 := fdq_138 hD hth r0
  have ad_3 : v_ad (n_v vs 3) = w_ar ws (n_v vs 0) 50 := congrArg v_ad f5
  simp only [ad_3] at f4
  have h4 : v_iv (n_v vs 4) = w_ei ws (w_ar ws (n_v vs 0) 50) (v_iv (n_v vs 1)) := f4
  have hK_0_50 := elq_75 hD hth cr_0_50
  have nf0 : fc_1 PRD (20, [0, 1, 2, 9], [60, 0, 1, 114, 50]) ws (vs) := ⟨nf_in hl rfl, sgq_598 (vc_Mo_isEnd_1_0 (v_iv (n_v vs 1)) (v_iv (n_v vs 2)) (v_iv (n_v vs 4)) (v_iv (n_v vs 5)) (v_iv (n_v vs 6)) (v_iv (n_v vs 7)) (v_iv (n_v vs 8)) (v_iv (n_v vs 9)) (w_ei ws (w_ar ws (n_v vs 0) 50)) k1 k2 k4 k5 k6 k7 k8 k9 (shm_37 f0) (shm_382 f1) (shm_11 f2) (shm_13 f3) h4 hK_0_50)⟩
  refine ⟨(fun _ h => (by cases h)), [], trivial, ?_, (fun _ h => (by cases h))⟩
  rw [List.append_nil]
  exact List.forall_mem_cons.mpr ⟨⟨show (20 : Nat) < 100 from by decide, nf0⟩, (fun _ h => (by cases h))⟩
def n_Mo_isEnd_an : List an_T := []
def t_Mo_isEnd_ct : ct_L := []
set_option maxRecDepth 100000 in
theorem c_Mo_isEnd {l : Launch} {D : va_G} {kA : Nat → ClassId} : ct_ok PRD l D kA GG y_Mo_isEnd z_Mo_isEnd e_Mo_isEnd := chk_all_ok (FT := [(96, 13, 50)]) (PT := []) (CT := t_Mo_isEnd_ct) (KT := []) (NT := []) (AN := n_Mo_isEnd_an) (OT := [o_Mo_isEnd_0, o_Mo_isEnd_1]) 0 200 (List.forall_mem_cons.mpr ⟨oo_Mo_isEnd_0, List.forall_mem_cons.mpr ⟨oo_Mo_isEnd_1, List.forall_mem_nil _⟩⟩) (by decide +kernel) ⟨List.forall_mem_cons.mpr ⟨gf_Mo_96, List.forall_mem_nil _⟩, List.forall_mem_nil _, List.forall_mem_nil _, List.forall_mem_nil _, List.forall_mem_nil _, GG_pl⟩ (by decide +kernel)
set_option maxHeartbeats 4000000 in
theorem vc_Mo_isMember_0_0 (x1 : Int) (x2 : Int) (member_0 : Int → Int) (members_0 : Int) (k1 : 0 ≤ x1 ∧ x1 ≤ 23) (k2 : 0 ≤ x2 ∧ x2 ≤ 0) (hK_0_98 : ∀ j : Int, 0 ≤ j → j < 26 → 0 ≤ member_0 j ∧ member_0 j ≤ 25) (kz_0_99 : 0 ≤ members_0 ∧ members_0 ≤ 26) : ISL (members_0) (member_0) (x1) (x2) := by
  first
    | (intro t a b; exfalso; omega)
    | exact isl_next ‹ISL _ _ _ _› (by omega) (by omega)
def o_Mo_isMember_0 : or_T := (2, 3, [(0, (2, 0, 0, [165])), (1, (0, 0, 23, [])), (2, (0, 0, 0, []))], [], [], [], [(20, [0, 1, 2], [60, 1, 1, 379, 99, 98]), (24, [0, 0], []), (24, [1, 1], [])], [], [])
theorem oo_Mo_isMember_0 {kA : Nat → ClassId} : or_ok PRD kA GG o_Mo_isMember_0 := by
  refine or_mk fun A ta ws vs hD hth hl => ?_
  intro t0 r0 t1 k1 t2 k2
  have cr_0_98 := fdq_156 hD hth r0
  have hK_0_98 := elq_87 hD hth cr_0_98
  have kz_0_99 := fdq_157 hD hth r0
  have nf0 : fc_1 PRD (20, [0, 1, 2], [60, 1, 1, 379, 99, 98]) ws (vs) := ⟨nf_in hl rfl, sgq_599 (vc_Mo_isMember_0_0 (v_iv (n_v vs 1)) (v_iv (n_v vs 2)) (w_ei ws (w_ar ws (n_v vs 0) 98)) (w_fi ws (n_v vs 0) 99) k1 k2 hK_0_98 kz_0_99)⟩
  have nf1 : fc_1 PRD (24, [0, 0], []) ws (vs) := by
    refine ⟨nf_in hl rfl, sgq_1 ?_⟩
    · show n_v vs 0 = n_v vs 0
      first | rfl | simp only [true_and]
  have nf2 : fc_1 PRD (24, [1, 1], []) ws (vs) := by
    refine ⟨nf_in hl rfl, sgq_1 ?_⟩
    · show n_v vs 1 = n_v vs 1
      first | rfl | simp only [true_and]
  refine ⟨(fun _ h => (by cases h)), [], trivial, ?_, (fun _ h => (by cases h))⟩
  rw [List.append_nil]
  exact List.forall_mem_cons.mpr ⟨⟨show (20 : Nat) < 100 from by decide, nf0⟩, List.forall_mem_cons.mpr ⟨⟨show (24 : Nat) < 100 from by decide, nf1⟩, List.forall_mem_cons.mpr ⟨⟨show (24 : Nat) < 100 from by decide, nf2⟩, (fun _ h => (by cases h))⟩⟩⟩
set_option maxHeartbeats 4000000 in
theorem vc_Mo_isMember_1_0 (x1 : Int) (x3 : Int) (x4 : Int) (x5 : Int) (x6 : Int) (members_0 : Int) (member_0 : Int → Int) (k1 : 0 ≤ x1 ∧ x1 ≤ 23) (k3 : 0 ≤ x3 ∧ x3 ≤ 23) (k4 : 0 ≤ x4 ∧ x4 ≤ 26) (k5 : 0 ≤ x5 ∧ x5 ≤ 26) (k6 : 0 ≤ x6 ∧ x6 ≤ 0) (d0 : x5 + 0 ≤ x4 ∧ x4 ≤ x5 + 4294967296) (d1 : x3 + (-4294967296) ≤ x1 ∧ x1 ≤ x3 + 0) (d2 : x1 + (-4294967296) ≤ x3 ∧ x3 ≤ x1 + 0) (f0 : x5 ≤ x4) (g1 : x5 = members_0) (f2 : ISL (members_0) (member_0) (x1) (x4)) (hK_0_98 : ∀ j : Int, 0 ≤ j → j < 26 → 0 ≤ member_0 j ∧ member_0 j ≤ 25) (kz_0_99 : 0 ≤ members_0 ∧ members_0 ≤ 26) : ISM (members_0) (member_0) (x1) (x6) := by
  first
    | (intro _; omega)
    | (have h := ‹ISL _ _ _ _›
       intro z
       obtain ⟨t, a, b, c⟩ := z
       exact absurd c (h t a (by omega)))
set_option maxHeartbeats 4000000 in
theorem vc_Mo_isMember_1_1 (x1 : Int) (x3 : Int) (x4 : Int) (x5 : Int) (x6 : Int) (members_0 : Int) (member_0 : Int → Int) (k1 : 0 ≤ x1 ∧ x1 ≤ 23) (k3 : 0 ≤ x3 ∧ x3 ≤ 23) (k4 : 0 ≤ x4 ∧ x4 ≤ 26) (k5 : 0 ≤ x5 ∧ x5 ≤ 26) (k6 : 0 ≤ x6 ∧ x6 ≤ 0) (d0 : x5 + 0 ≤ x4 ∧ x4 ≤ x5 + 4294967296) (d1 : x3 + (-4294967296) ≤ x1 ∧ x1 ≤ x3 + 0) (d2 : x1 + (-4294967296) ≤ x3 ∧ x3 ≤ x1 + 0) (f0 : x5 ≤ x4) (g1 : x5 = members_0) (f2 : ISL (members_0) (member_0) (x1) (x4)) (hK_0_98 : ∀ j : Int, 0 ≤ j → j < 26 → 0 ≤ member_0 j ∧ member_0 j ≤ 25) (kz_0_99 : 0 ≤ members_0 ∧ members_0 ≤ 26) : ISX (members_0) (member_0) (x1) (x6) := by
  first
    | (intro z; exfalso; omega)
    | exact fun _ => ⟨x4, by omega, by omega, by omega⟩
def o_Mo_isMember_1 : or_T := (29, 7, [(0, (2, 0, 0, [165])), (1, (0, 0, 23, [])), (3, (0, 0, 23, [])), (4, (0, 0, 26, [])), (5, (0, 0, 26, [])), (6, (0, 0, 0, []))], [(7, [4, 5], [3]), (9, [5, 2], [99]), (20, [2, 3, 4], [60, 1, 1, 379, 99, 98]), (24, [0, 2], []), (24, [1, 3], [])], [], [], [(20, [0, 1, 6], [60, 1, 1, 380, 99, 98]), (20, [0, 1, 6], [60, 1, 1, 385, 99, 98])], [], [(4, 5, 0, 4294967296), (1, 3, -4294967296, 0), (3, 1, -4294967296, 0)])
theorem oo_Mo_isMember_1 {kA : Nat → ClassId} : or_ok PRD kA GG o_Mo_isMember_1 := by
  refine or_mk fun A ta ws vs hD hth hl => ?_
  intro t0 r0 t1 k1 t3 k3 t4 k4 t5 k5 t6 k6 d0 d1 d2 f0 f1 f2 f3 f4
  replace f1 := shm_600 f1
  replace f2 := shm_599 f2
  replace f3 := shm_5 f3
  replace f4 := shm_5 f4
  have q2 : n_v vs 2 = n_v vs 0 := f3.symm
  have q3 : n_v vs 3 = n_v vs 1 := f4.symm
  simp only [q2, q3] at f1 f2
  have cr_0_98 := fdq_156 hD hth r0
  have g1 : v_iv (n_v vs 5) = w_fi ws (n_v vs 0) 99 := congrArg v_iv f1
  have hK_0_98 := elq_87 hD hth cr_0_98
  have kz_0_99 := fdq_157 hD hth r0
  have nf0 : fc_1 PRD (20, [0, 1, 6], [60, 1, 1, 380, 99, 98]) ws (vs) := ⟨nf_in hl rfl, sgq_601 (vc_Mo_isMember_1_0 (v_iv (n_v vs 1)) (v_iv (n_v vs 3)) (v_iv (n_v vs 4)) (v_iv (n_v vs 5)) (v_iv (n_v vs 6)) (w_fi ws (n_v vs 0) 99) (w_ei ws (w_ar ws (n_v vs 0) 98)) k1 k3 k4 k5 k6 d0 d1 d2 (shm_2 f0) g1 f2 hK_0_98 kz_0_99)⟩
  have nf1 : fc_1 PRD (20, [0, 1, 6], [60, 1, 1, 385, 99, 98]) ws (vs) := ⟨nf_in hl rfl, sgq_602 (vc_Mo_isMember_1_1 (v_iv (n_v vs 1)) (v_iv (n_v vs 3)) (v_iv (n_v vs 4)) (v_iv (n_v vs 5)) (v_iv (n_v vs 6)) (w_fi ws (n_v vs 0) 99) (w_ei ws (w_ar ws (n_v vs 0) 98)) k1 k3 k4 k5 k6 d0 d1 d2 (shm_2 f0) g1 f2 hK_0_98 kz_0_99)⟩
  refine ⟨(fun _ h => (by cases h)), [], trivial, ?_, (fun _ h => (by cases h))⟩
  rw [List.append_nil]
  exact List.forall_mem_cons.mpr ⟨⟨show (20 : Nat) < 100 from by decide, nf0⟩, List.forall_mem_cons.mpr ⟨⟨show (20 : Nat) < 100 from by decide, nf1⟩, (fun _ h => (by cases h))⟩⟩
set_option maxHeartbeats 4000000 in
theorem vc_Mo_isMember_2_0 (x1 : Int) (x3 : Int) (x4 : Int) (x5 : Int) (x7 : Int) (x8 : Int) (member_0 : Int → Int) (members_0 : Int) (k1 : 0 ≤ x1 ∧ x1 ≤ 23) (k3 : 0 ≤ x3 ∧ x3 ≤ 23) (k4 : 0 ≤ x4 ∧ x4 ≤ 25) (k5 : 1 ≤ x5 ∧ x5 ≤ 26) (k7 : 0 ≤ x7 ∧ x7 ≤ 25) (k8 : 1 ≤ x8 ∧ x8 ≤ 26) (d0 : x4 + 1 ≤ x8 ∧ x8 ≤ x4 + 1) (d1 : x5 + (-4294967296) ≤ x8 ∧ x8 ≤ x5 + 0) (d2 : x5 + (-4294967296) ≤ x4 ∧ x4 ≤ x5 + (-1)) (d3 : x3 + (-4294967296) ≤ x1 ∧ x1 ≤ x3 + 0) (d4 : x1 + (-4294967296) ≤ x3 ∧ x3 ≤ x1 + 0) (f0 : x8 = x4 + 1) (f1 : x7 ≠ x1) (h2 : x7 = member_0 (x4)) (f4 : x4 < x5) (g5 : x5 = members_0) (f6 : ISL (members_0) (member_0) (x1) (x4)) (hK_0_98 : ∀ j : Int, 0 ≤ j → j < 26 → 0 ≤ member_0 j ∧ member_0 j ≤ 25) (kz_0_99 : 0 ≤ members_0 ∧ members_0 ≤ 26) : ISL (members_0) (member_0) (x1) (x8) := by
  first
    | (intro t a b; exfalso; omega)
    | exact isl_next ‹ISL _ _ _ _› (by omega) (by omega)
def o_Mo_isMember_2 : or_T := (2, 9, [(0, (2, 0, 0, [165])), (1, (0, 0, 23, [])), (3, (0, 0, 23, [])), (4, (0, 0, 25, [])), (5, (0, 1, 26, [])), (7, (0, 0, 25, [])), (8, (0, 1, 26, []))], [(6, [8, 4], [1]), (7, [7, 3], [1]), (10, [7, 6, 4], []), (9, [6, 2], [98]), (7, [4, 5], [2]), (9, [5, 2], [99]), (20, [2, 3, 4], [60, 1, 1, 379, 99, 98]), (24, [0, 2], []), (24, [1, 3], [])], [], [], [(20, [2, 3, 8], [60, 1, 1, 379, 99, 98])], [], [(8, 4, 1, 1), (8, 5, -4294967296, 0), (4, 5, -4294967296, -1), (1, 3, -4294967296, 0), (3, 1, -4294967296, 0)])
theorem oo_Mo_isMember_2 {kA : Nat → ClassId} : or_ok PRD kA GG o_Mo_isMember_2 := by
  refine or_mk fun A ta ws vs hD hth hl => ?_
  intro t0 r0 t1 k1 t3 k3 t4 k4 t5 k5 t7 k7 t8 k8 d0 d1 d2 d3 d4 f0 f1 f2 f3 f4 f5 f6 f7 f8
  replace f0 := shm_4 f0
  replace f1 := shm_40 f1
  replace f2 := shm_106 f2
  replace f3 := shm_603 f3
  replace f4 := shm_6 f4
  replace f5 := shm_600 f5
  replace f6 := shm_599 f6
  replace f7 := shm_5 f7
  replace f8 := shm_5 f8
  have q2 : n_v vs 2 = n_v vs 0 := f7.symm
  have q3 : n_v vs 3 = n_v vs 1 := f8.symm
  simp only [q3, q2] at f1 f3 f5 f6
  have cr_0_98 := fdq_156 hD hth r0
  have ad_6 : v_ad (n_v vs 6) = w_ar ws (n_v vs 0) 98 := congrArg v_ad f3
  simp only [ad_6] at f2
  have h2 : v_iv (n_v vs 7) = w_ei ws (w_ar ws (n_v vs 0) 98) (v_iv (n_v vs 4)) := f2
  have g5 : v_iv (n_v vs 5) = w_fi ws (n_v vs 0) 99 := congrArg v_iv f5
  have hK_0_98 := elq_87 hD hth cr_0_98
  have kz_0_99 := fdq_157 hD hth r0
  have nf0 : fc_1 PRD (20, [2, 3, 8], [60, 1, 1, 379, 99, 98]) ws (vs) := by
    refine ⟨nf_in hl rfl, sgq_599 ?_⟩
    · show ISL (w_fi ws (n_v vs 2) 99) (w_ei ws (w_ar ws (n_v vs 2) 98)) (v_iv (n_v vs 3)) (v_iv (n_v vs 8))
      simp only [q2, q3]
      exact vc_Mo_isMember_2_0 (v_iv (n_v vs 1)) (v_iv (n_v vs 3)) (v_iv (n_v vs 4)) (v_iv (n_v vs 5)) (v_iv (n_v vs 7)) (v_iv (n_v vs 8)) (w_ei ws (w_ar ws (n_v vs 0) 98)) (w_fi ws (n_v vs 0) 99) k1 k3 k4 k5 k7 k8 d0 d1 d2 d3 d4 f0 f1 h2 f4 g5 f6 hK_0_98 kz_0_99
  refine ⟨(fun _ h => (by cases h)), [], trivial, ?_, (fun _ h => (by cases h))⟩
  rw [List.append_nil]
  exact List.forall_mem_cons.mpr ⟨⟨show (20 : Nat) < 100 from by decide, nf0⟩, (fun _ h => (by cases h))⟩
set_option maxHeartbeats 4000000 in
theorem vc_Mo_isMember_3_0 (x1 : Int) (x3 : Int) (x4 : Int) (x5 : Int) (x7 : Int) (x8 : Int) (member_0 : Int → Int) (members_0 : Int) (k1 : 0 ≤ x1 ∧ x1 ≤ 23) (k3 : 0 ≤ x3 ∧ x3 ≤ 23) (k4 : 0 ≤ x4 ∧ x4 ≤ 25) (k5 : 1 ≤ x5 ∧ x5 ≤ 26) (k7 : 0 ≤ x7 ∧ x7 ≤ 23) (k8 : 1 ≤ x8 ∧ x8 ≤ 1) (d0 : x3 + 0 ≤ x7 ∧ x7 ≤ x3 + 0) (d1 : x5 + (-4294967296) ≤ x4 ∧ x4 ≤ x5 + (-1)) (d2 : x3 + (-4294967296) ≤ x1 ∧ x1 ≤ x3 + 0) (d3 : x1 + (-4294967296) ≤ x3 ∧ x3 ≤ x1 + 0) (f0 : x7 = x1) (h1 : x7 = member_0 (x4)) (f3 : x4 < x5) (g4 : x5 = members_0) (f5 : ISL (members_0) (member_0) (x1) (x4)) (hK_0_98 : ∀ j : Int, 0 ≤ j → j < 26 → 0 ≤ member_0 j ∧ member_0 j ≤ 25) (kz_0_99 : 0 ≤ members_0 ∧ members_0 ≤ 26) : ISM (members_0) (member_0) (x1) (x8) := by
  first
    | (intro _; omega)
    | (have h := ‹ISL _ _ _ _›
       intro z
       obtain ⟨t, a, b, c⟩ := z
       exact absurd c (h t a (by omega)))
set_option maxHeartbeats 4000000 in
theorem vc_Mo_isMember_3_1 (x1 : Int) (x3 : Int) (x4 : Int) (x5 : Int) (x7 : Int) (x8 : Int) (member_0 : Int → Int) (members_0 : Int) (k1 : 0 ≤ x1 ∧ x1 ≤ 23) (k3 : 0 ≤ x3 ∧ x3 ≤ 23) (k4 : 0 ≤ x4 ∧ x4 ≤ 25) (k5 : 1 ≤ x5 ∧ x5 ≤ 26) (k7 : 0 ≤ x7 ∧ x7 ≤ 23) (k8 : 1 ≤ x8 ∧ x8 ≤ 1) (d0 : x3 + 0 ≤ x7 ∧ x7 ≤ x3 + 0) (d1 : x5 + (-4294967296) ≤ x4 ∧ x4 ≤ x5 + (-1)) (d2 : x3 + (-4294967296) ≤ x1 ∧ x1 ≤ x3 + 0) (d3 : x1 + (-4294967296) ≤ x3 ∧ x3 ≤ x1 + 0) (f0 : x7 = x1) (h1 : x7 = member_0 (x4)) (f3 : x4 < x5) (g4 : x5 = members_0) (f5 : ISL (members_0) (member_0) (x1) (x4)) (hK_0_98 : ∀ j : Int, 0 ≤ j → j < 26 → 0 ≤ member_0 j ∧ member_0 j ≤ 25) (kz_0_99 : 0 ≤ members_0 ∧ members_0 ≤ 26) : ISX (members_0) (member_0) (x1) (x8) := by
  first
    | (intro z; exfalso; omega)
    | exact fun _ => ⟨x4, by omega, by omega, by omega⟩
def o_Mo_isMember_3 : or_T := (21, 9, [(0, (2, 0, 0, [165])), (1, (0, 0, 23, [])), (3, (0, 0, 23, [])), (4, (0, 0, 25, [])), (5, (0, 1, 26, [])), (7, (0, 0, 23, [])), (8, (0, 1, 1, []))], [(7, [7, 3], [0]), (10, [7, 6, 4], []), (9, [6, 2], [98]), (7, [4, 5], [2]), (9, [5, 2], [99]), (20, [2, 3, 4], [60, 1, 1, 379, 99, 98]), (24, [0, 2], []), (24, [1, 3], [])], [], [], [(20, [0, 1, 8], [60, 1, 1, 380, 99, 98]), (20, [0, 1, 8], [60, 1, 1, 385, 99, 98])], [], [(7, 3, 0, 0), (4, 5, -4294967296, -1), (1, 3, -4294967296, 0), (3, 1, -4294967296, 0)])
theorem oo_Mo_isMember_3 {kA : Nat → ClassId} : or_ok PRD kA GG o_Mo_isMember_3 := by
  refine or_mk fun A ta ws vs hD hth hl => ?_
  intro t0 r0 t1 k1 t3 k3 t4 k4 t5 k5 t7 k7 t8 k8 d0 d1 d2 d3 f0 f1 f2 f3 f4 f5 f6 f7
  replace f0 := shm_37 f0
  replace f1 := shm_106 f1
  replace f2 := shm_603 f2
  replace f4 := shm_600 f4
  replace f5 := shm_599 f5
  replace f6 := shm_5 f6
  replace f7 := shm_5 f7
  have q2 : n_v vs 2 = n_v vs 0 := f6.symm
  have q3 : n_v vs 3 = n_v vs 1 := f7.symm
  simp only [q3, q2] at f0 f2 f4 f5
  have cr_0_98 := fdq_156 hD hth r0
  have ad_6 : v_ad (n_v vs 6) = w_ar ws (n_v vs 0) 98 := congrArg v_ad f2
  simp only [ad_6] at f1
  have h1 : v_iv (n_v vs 7) = w_ei ws (w_ar ws (n_v vs 0) 98) (v_iv (n_v vs 4)) := f1
  have g4 : v_iv (n_v vs 5) = w_fi ws (n_v vs 0) 99 := congrArg v_iv f4
  have hK_0_98 := elq_87 hD hth cr_0_98
  have kz_0_99 := fdq_157 hD hth r0
  have nf0 : fc_1 PRD (20, [0, 1, 8], [60, 1, 1, 380, 99, 98]) ws (vs) := ⟨nf_in hl rfl, sgq_601 (vc_Mo_isMember_3_0 (v_iv (n_v vs 1)) (v_iv (n_v vs 3)) (v_iv (n_v vs 4)) (v_iv (n_v vs 5)) (v_iv (n_v vs 7)) (v_iv (n_v vs 8)) (w_ei ws (w_ar ws (n_v vs 0) 98)) (w_fi ws (n_v vs 0) 99) k1 k3 k4 k5 k7 k8 d0 d1 d2 d3 f0 h1 (shm_6 f3) g4 f5 hK_0_98 kz_0_99)⟩
  have nf1 : fc_1 PRD (20, [0, 1, 8], [60, 1, 1, 385, 99, 98]) ws (vs) := ⟨nf_in hl rfl, sgq_602 (vc_Mo_isMember_3_1 (v_iv (n_v vs 1)) (v_iv (n_v vs 3)) (v_iv (n_v vs 4)) (v_iv (n_v vs 5)) (v_iv (n_v vs 7)) (v_iv (n_v vs 8)) (w_ei ws (w_ar ws (n_v vs 0) 98)) (w_fi ws (n_v vs 0) 99) k1 k3 k4 k5 k7 k8 d0 d1 d2 d3 f0 h1 (shm_6 f3) g4 f5 hK_0_98 kz_0_99)⟩
  refine ⟨(fun _ h => (by cases h)), [], trivial, ?_, (fun _ h => (by cases h))⟩
  rw [List.append_nil]
  exact List.forall_mem_cons.mpr ⟨⟨show (20 : Nat) < 100 from by decide, nf0⟩, List.forall_mem_cons.mpr ⟨⟨show (20 : Nat) < 100 from by decide, nf1⟩, (fun _ h => (by cases h))⟩⟩
def n_Mo_isMember_an : List an_T := [(2, [(0, (2, 0, 0, [165])), (1, (0, 0, 23, [])), (2, (0, 0, 26, []))], [], (0, 0), [(0, 0, 99998), (1, 4, 26), (0, 0, 100000)], [(1, 3, (Int.negSucc 999999999999), 0), (3, 1, (Int.negSucc 999999999999), 0)], [], [(2, 0, 0, [165]), (0, 0, 23, [])], 0, [], [(20, [2, 3, 4], [60, 1, 1, 379, 99, 98]), (24, [0, 2], []), (24, [1, 3], [])])]
def t_Mo_isMember_ct : ct_L := []
set_option maxRecDepth 100000 in
theorem c_Mo_isMember {l : Launch} {D : va_G} {kA : Nat → ClassId} : ct_ok PRD l D kA GG y_Mo_isMember z_Mo_isMember e_Mo_isMember := chk_all_ok (FT := [(219, 13, 98), (795, 13, 99)]) (PT := []) (CT := t_Mo_isMember_ct) (KT := []) (NT := []) (AN := n_Mo_isMember_an) (OT := [o_Mo_isMember_0, o_Mo_isMember_1, o_Mo_isMember_2, o_Mo_isMember_3]) 3 200 (List.forall_mem_cons.mpr ⟨oo_Mo_isMember_0, List.forall_mem_cons.mpr ⟨oo_Mo_isMember_1, List.forall_mem_cons.mpr ⟨oo_Mo_isMember_2, List.forall_mem_cons.mpr ⟨oo_Mo_isMember_3, List.forall_mem_nil _⟩⟩⟩⟩) (by decide +kernel) ⟨List.forall_mem_cons.mpr ⟨gf_Mo_219, List.forall_mem_cons.mpr ⟨gf_Mo_795, List.forall_mem_nil _⟩⟩, List.forall_mem_nil _, List.forall_mem_nil _, List.forall_mem_nil _, List.forall_mem_nil _, GG_pl⟩ (by decide +kernel)
set_option maxHeartbeats 4000000 in
theorem vc_Mo_isSmall_0_0 (x1 : Int) (layerSize_0 : Int → Int) (k1 : 0 ≤ x1 ∧ x1 ≤ 0) (hK_0_105 : ∀ j : Int, 0 ≤ j → j < 76 → 0 ≤ layerSize_0 j ∧ layerSize_0 j ≤ 76) : ISI (layerSize_0) (x1) := by
  first
    | (intro m a b; exfalso; omega)
    | (have h := ‹ISI _ _›; intro m a b; by_cases e : m = x2
       · subst e; omega
       · exact h m a (by omega))
def o_Mo_isSmall_0 : or_T := (2, 2, [(0, (2, 0, 0, [165])), (1, (0, 0, 0, []))], [], [], [], [(20, [0, 1], [60, 0, 1, 460, 105]), (24, [0, 0], [])], [], [])
theorem oo_Mo_isSmall_0 {kA : Nat → ClassId} : or_ok PRD kA GG o_Mo_isSmall_0 := by
  refine or_mk fun A ta ws vs hD hth hl => ?_
  intro t0 r0 t1 k1
  have cr_0_105 := fdq_121 hD hth r0
  have hK_0_105 := elq_62 hD hth cr_0_105
  have nf0 : fc_1 PRD (20, [0, 1], [60, 0, 1, 460, 105]) ws (vs) := ⟨nf_in hl rfl, sgq_604 (vc_Mo_isSmall_0_0 (v_iv (n_v vs 1)) (w_ei ws (w_ar ws (n_v vs 0) 105)) k1 hK_0_105)⟩
  have nf1 : fc_1 PRD (24, [0, 0], []) ws (vs) := by
    refine ⟨nf_in hl rfl, sgq_1 ?_⟩
    · show n_v vs 0 = n_v vs 0
      first | rfl | simp only [true_and]
  refine ⟨(fun _ h => (by cases h)), [], trivial, ?_, (fun _ h => (by cases h))⟩
  rw [List.append_nil]
  exact List.forall_mem_cons.mpr ⟨⟨show (20 : Nat) < 100 from by decide, nf0⟩, List.forall_mem_cons.mpr ⟨⟨show (24 : Nat) < 100 from by decide, nf1⟩, (fun _ h => (by cases h))⟩⟩
set_option maxHeartbeats 4000000 in
theorem vc_Mo_isSmall_1_0 (x2 : Int) (x3 : Int) (x4 : Int) (layerMany_0 : Int) (layerSize_0 : Int → Int) (k2 : 0 ≤ x2 ∧ x2 ≤ 76) (k3 : 0 ≤ x3 ∧ x3 ≤ 76) (k4 : 1 ≤ x4 ∧ x4 ≤ 1) (d0 : x3 + 0 ≤ x2 ∧ x2 ≤ x3 + 4294967296) (f0 : x3 ≤ x2) (g1 : x3 = layerMany_0) (f2 : ISI (layerSize_0) (x2)) (hK_0_105 : ∀ j : Int, 0 ≤ j → j < 76 → 0 ≤ layerSize_0 j ∧ layerSize_0 j ≤ 76) (kz_0_101 : 0 ≤ layerMany_0 ∧ layerMany_0 ≤ 76) : ISS (layerMany_0) (layerSize_0) (x4) := by
  first
    | (intro z; exfalso; omega)
    | exact fun _ l a b => ‹ISI _ _› l a (by omega)
def o_Mo_isSmall_1 : or_T := (30, 5, [(0, (2, 0, 0, [165])), (2, (0, 0, 76, [])), (3, (0, 0, 76, [])), (4, (0, 1, 1, []))], [(7, [2, 3], [3]), (9, [3, 1], [101]), (20, [1, 2], [60, 0, 1, 460, 105]), (24, [0, 1], [])], [], [], [(20, [0, 4], [60, 1, 1, 459, 101, 105])], [], [(2, 3, 0, 4294967296)])
theorem oo_Mo_isSmall_1 {kA : Nat → ClassId} : or_ok PRD kA GG o_Mo_isSmall_1 := by
  refine or_mk fun A ta ws vs hD hth hl => ?_
  intro t0 r0 t2 k2 t3 k3 t4 k4 d0 f0 f1 f2 f3
  replace f1 := shm_605 f1
  replace f2 := shm_604 f2
  replace f3 := shm_5 f3
  have q1 : n_v vs 1 = n_v vs 0 := f3.symm
  simp only [q1] at f1 f2
  have cr_0_105 := fdq_121 hD hth r0
  have g1 : v_iv (n_v vs 3) = w_fi ws (n_v vs 0) 101 := congrArg v_iv f1
  have hK_0_105 := elq_62 hD hth cr_0_105
  have kz_0_101 := fdq_124 hD hth r0
  have nf0 : fc_1 PRD (20, [0, 4], [60, 1, 1, 459, 101, 105]) ws (vs) := ⟨nf_in hl rfl, sgq_606 (vc_Mo_isSmall_1_0 (v_iv (n_v vs 2)) (v_iv (n_v vs 3)) (v_iv (n_v vs 4)) (w_fi ws (n_v vs 0) 101) (w_ei ws (w_ar ws (n_v vs 0) 105)) k2 k3 k4 d0 (shm_2 f0) g1 f2 hK_0_105 kz_0_101)⟩
  refine ⟨(fun _ h => (by cases h)), [], trivial, ?_, (fun _ h => (by cases h))⟩
  rw [List.append_nil]
  exact List.forall_mem_cons.mpr ⟨⟨show (20 : Nat) < 100 from by decide, nf0⟩, (fun _ h => (by cases h))⟩
set_option maxHeartbeats 4000000 in
theorem vc_Mo_isSmall_2_0 (x2 : Int) (x3 : Int) (x5 : Int) (x6 : Int) (x7 : Int) (layerSize_0 : Int → Int) (layerMany_0 : Int) (k2 : 0 ≤ x2 ∧ x2 ≤ 75) (k3 : 1 ≤ x3 ∧ x3 ≤ 76) (k5 : 0 ≤ x5 ∧ x5 ≤ 6) (k6 : 6 ≤ x6 ∧ x6 ≤ 6) (k7 : 1 ≤ x7 ∧ x7 ≤ 76) (d0 : x2 + 1 ≤ x7 ∧ x7 ≤ x2 + 1) (d1 : x3 + (-4294967296) ≤ x7 ∧ x7 ≤ x3 + 0) (d2 : x3 + (-4294967296) ≤ x2 ∧ x2 ≤ x3 + (-1)) (f0 : x7 = x2 + 1) (f1 : x5 ≤ x6) (h2 : x5 = layerSize_0 (x2)) (f4 : x2 < x3) (g5 : x3 = layerMany_0) (f6 : ISI (layerSize_0) (x2)) (hK_0_105 : ∀ j : Int, 0 ≤ j → j < 76 → 0 ≤ layerSize_0 j ∧ layerSize_0 j ≤ 76) (kz_0_101 : 0 ≤ layerMany_0 ∧ layerMany_0 ≤ 76) : ISI (layerSize_0) (x7) := by
  first
    | (intro m a b; exfalso; omega)
    | (have h := ‹ISI _ _›; intro m a b; by_cases e : m = x2
       · subst e; omega
       · exact h m a (by omega))
def o_Mo_isSmall_2 : or_T := (2, 8, [(0, (2, 0, 0, [165])), (2, (0, 0, 75, [])), (3, (0, 1, 76, [])), (5, (0, 0, 6, [])), (6, (0, 6, 6, [])), (7, (0, 1, 76, []))], [(6, [7, 2], [1]), (7, [5, 6], [5]), (10, [5, 4, 2], []), (9, [4, 1], [105]), (7, [2, 3], [2]), (9, [3, 1], [101]), (20, [1, 2], [60, 0, 1, 460, 105]), (24, [0, 1], [])], [], [], [(20, [1, 7], [60, 0, 1, 460, 105])], [], [(7, 2, 1, 1), (7, 3, -4294967296, 0), (2, 3, -4294967296, -1)])
theorem oo_Mo_isSmall_2 {kA : Nat → ClassId} : or_ok PRD kA GG o_Mo_isSmall_2 := by
  refine or_mk fun A ta ws vs hD hth hl => ?_
  intro t0 r0 t2 k2 t3 k3 t5 k5 t6 k6 t7 k7 d0 d1 d2 f0 f1 f2 f3 f4 f5 f6 f7
  replace f0 := shm_4 f0
  replace f1 := shm_24 f1
  replace f2 := shm_106 f2
  replace f3 := shm_607 f3
  replace f4 := shm_6 f4
  replace f5 := shm_605 f5
  replace f6 := shm_604 f6
  replace f7 := shm_5 f7
  have q1 : n_v vs 1 = n_v vs 0 := f7.symm
  simp only [q1] at f3 f5 f6
  have cr_0_105 := fdq_121 hD hth r0
  have ad_4 : v_ad (n_v vs 4) = w_ar ws (n_v vs 0) 105 := congrArg v_ad f3
  simp only [ad_4] at f2
  have h2 : v_iv (n_v vs 5) = w_ei ws (w_ar ws (n_v vs 0) 105) (v_iv (n_v vs 2)) := f2
  have g5 : v_iv (n_v vs 3) = w_fi ws (n_v vs 0) 101 := congrArg v_iv f5
  have hK_0_105 := elq_62 hD hth cr_0_105
  have kz_0_101 := fdq_124 hD hth r0
  have nf0 : fc_1 PRD (20, [1, 7], [60, 0, 1, 460, 105]) ws (vs) := by
    refine ⟨nf_in hl rfl, sgq_604 ?_⟩
    · show ISI (w_ei ws (w_ar ws (n_v vs 1) 105)) (v_iv (n_v vs 7))
      rw [q1]
      exact vc_Mo_isSmall_2_0 (v_iv (n_v vs 2)) (v_iv (n_v vs 3)) (v_iv (n_v vs 5)) (v_iv (n_v vs 6)) (v_iv (n_v vs 7)) (w_ei ws (w_ar ws (n_v vs 0) 105)) (w_fi ws (n_v vs 0) 101) k2 k3 k5 k6 k7 d0 d1 d2 f0 f1 h2 f4 g5 f6 hK_0_105 kz_0_101
  refine ⟨(fun _ h => (by cases h)), [], trivial, ?_, (fun _ h => (by cases h))⟩
  rw [List.append_nil]
  exact List.forall_mem_cons.mpr ⟨⟨show (20 : Nat) < 100 from by decide, nf0⟩, (fun _ h => (by cases h))⟩
set_option maxHeartbeats 4000000 in
theorem vc_Mo_isSmall_3_0 (x2 : Int) (x3 : Int) (x5 : Int) (x6 : Int) (x7 : Int) (layerSize_0 : Int → Int) (layerMany_0 : Int) (k2 : 0 ≤ x2 ∧ x2 ≤ 75) (k3 : 1 ≤ x3 ∧ x3 ≤ 76) (k5 : 7 ≤ x5 ∧ x5 ≤ 76) (k6 : 6 ≤ x6 ∧ x6 ≤ 6) (k7 : 0 ≤ x7 ∧ x7 ≤ 0) (d0 : x3 + (-4294967296) ≤ x2 ∧ x2 ≤ x3 + (-1)) (f0 : x6 < x5) (h1 : x5 = layerSize_0 (x2)) (f3 : x2 < x3) (g4 : x3 = layerMany_0) (f5 : ISI (layerSize_0) (x2)) (hK_0_105 : ∀ j : Int, 0 ≤ j → j < 76 → 0 ≤ layerSize_0 j ∧ layerSize_0 j ≤ 76) (kz_0_101 : 0 ≤ layerMany_0 ∧ layerMany_0 ≤ 76) : ISS (layerMany_0) (layerSize_0) (x7) := by
  first
    | (intro z; exfalso; omega)
    | exact fun _ l a b => ‹ISI _ _› l a (by omega)
def o_Mo_isSmall_3 : or_T := (22, 8, [(0, (2, 0, 0, [165])), (2, (0, 0, 75, [])), (3, (0, 1, 76, [])), (5, (0, 7, 76, [])), (6, (0, 6, 6, [])), (7, (0, 0, 0, []))], [(7, [5, 6], [4]), (10, [5, 4, 2], []), (9, [4, 1], [105]), (7, [2, 3], [2]), (9, [3, 1], [101]), (20, [1, 2], [60, 0, 1, 460, 105]), (24, [0, 1], [])], [], [], [(20, [0, 7], [60, 1, 1, 459, 101, 105])], [], [(2, 3, -4294967296, -1)])
theorem oo_Mo_isSmall_3 {kA : Nat → ClassId} : or_ok PRD kA GG o_Mo_isSmall_3 := by
  refine or_mk fun A ta ws vs hD hth hl => ?_
  intro t0 r0 t2 k2 t3 k3 t5 k5 t6 k6 t7 k7 d0 f0 f1 f2 f3 f4 f5 f6
  replace f1 := shm_106 f1
  replace f2 := shm_607 f2
  replace f4 := shm_605 f4
  replace f5 := shm_604 f5
  replace f6 := shm_5 f6
  have q1 : n_v vs 1 = n_v vs 0 := f6.symm
  simp only [q1] at f2 f4 f5
  have cr_0_105 := fdq_121 hD hth r0
  have ad_4 : v_ad (n_v vs 4) = w_ar ws (n_v vs 0) 105 := congrArg v_ad f2
  simp only [ad_4] at f1
  have h1 : v_iv (n_v vs 5) = w_ei ws (w_ar ws (n_v vs 0) 105) (v_iv (n_v vs 2)) := f1
  have g4 : v_iv (n_v vs 3) = w_fi ws (n_v vs 0) 101 := congrArg v_iv f4
  have hK_0_105 := elq_62 hD hth cr_0_105
  have kz_0_101 := fdq_124 hD hth r0
  have nf0 : fc_1 PRD (20, [0, 7], [60, 1, 1, 459, 101, 105]) ws (vs) := ⟨nf_in hl rfl, sgq_606 (vc_Mo_isSmall_3_0 (v_iv (n_v vs 2)) (v_iv (n_v vs 3)) (v_iv (n_v vs 5)) (v_iv (n_v vs 6)) (v_iv (n_v vs 7)) (w_ei ws (w_ar ws (n_v vs 0) 105)) (w_fi ws (n_v vs 0) 101) k2 k3 k5 k6 k7 d0 (shm_21 f0) h1 (shm_6 f3) g4 f5 hK_0_105 kz_0_101)⟩
  refine ⟨(fun _ h => (by cases h)), [], trivial, ?_, (fun _ h => (by cases h))⟩
  rw [List.append_nil]
  exact List.forall_mem_cons.mpr ⟨⟨show (20 : Nat) < 100 from by decide, nf0⟩, (fun _ h => (by cases h))⟩
def n_Mo_isSmall_an : List an_T := [(2, [(0, (2, 0, 0, [165])), (1, (0, 0, 76, []))], [], (0, 0), [(0, 0, 99998), (1, 2, 76), (0, 0, 100000)], [], [], [(2, 0, 0, [165])], 0, [], [(20, [1, 2], [60, 0, 1, 460, 105]), (24, [0, 1], [])])]
def t_Mo_isSmall_ct : ct_L := []
set_option maxRecDepth 100000 in
theorem c_Mo_isSmall {l : Launch} {D : va_G} {kA : Nat → ClassId} : ct_ok PRD l D kA GG y_Mo_isSmall z_Mo_isSmall e_Mo_isSmall := chk_all_ok (FT := [(231, 13, 105), (852, 13, 101)]) (PT := []) (CT := t_Mo_isSmall_ct) (KT := []) (NT := []) (AN := n_Mo_isSmall_an) (OT := [o_Mo_isSmall_0, o_Mo_isSmall_1, o_Mo_isSmall_2, o_Mo_isSmall_3]) 3 200 (List.forall_mem_cons.mpr ⟨oo_Mo_isSmall_0, List.forall_mem_cons.mpr ⟨oo_Mo_isSmall_1, List.forall_mem_cons.mpr ⟨oo_Mo_isSmall_2, List.forall_mem_cons.mpr ⟨oo_Mo_isSmall_3, List.forall_mem_nil _⟩⟩⟩⟩) (by decide +kernel) ⟨List.forall_mem_cons.mpr ⟨gf_Mo_231, List.forall_mem_cons.mpr ⟨gf_Mo_852, List.forall_mem_nil _⟩⟩, List.forall_mem_nil _, List.forall_mem_nil _, List.forall_mem_nil _, List.forall_mem_nil _, GG_pl⟩ (by decide +kernel)

set_option maxHeartbeats 4000000 in
theorem vc_Mo_isUnder_0_0 (x1 : Int) (x2 : Int) (all_0 : Int → Int) (level_0 : Int → Int) (above_0 : Int → Int) (r_0 : Int) (gx : Int) (k1 : 0 ≤ x1 ∧ x1 ≤ 23) (k2 : 0 ≤ x2 ∧ x2 ≤ 23) (f0 : ∀ j0 : Int, 0 ≤ j0 → j0 < 24 → (((j0 + 1) ≤ all_0 (r_0)) → (((-1) ≤ level_0 (j0)) ∧ ((level_0 (j0) ≤ 24) ∧ ((0 ≤ above_0 (j0)) → (((above_0 (j0) + 1) ≤ all_0 (r_0)) ∧ ((0 ≤ level_0 (above_0 (j0))) ∧ ((level_0 (above_0 (j0)) + 1) ≤ level_0 (j0))))))))) (f1 : 1 * x1 + ((-1) * all_0 (r_0 + 0) + 0) ≤ (-1)) (hK_0_127 : ∀ j : Int, 0 ≤ j → j < 26 → (-1) ≤ above_0 j ∧ above_0 j ≤ 23) (hK_0_128 : ∀ j : Int, 0 ≤ j → j < 26 → (-23) ≤ level_0 j ∧ level_0 j ≤ 24) (ex2 : gx = 60) (ex3 : (-2) ≤ gx ∧ gx ≤ 60) : ∀ j0 : Int, 0 ≤ j0 → j0 < 24 → (((j0 + 1) ≤ all_0 (r_0)) → (((-1) ≤ level_0 (j0)) ∧ ((level_0 (j0) ≤ 24) ∧ ((0 ≤ above_0 (j0)) → (((above_0 (j0) + 1) ≤ all_0 (r_0)) ∧ ((0 ≤ level_0 (above_0 (j0))) ∧ ((level_0 (above_0 (j0)) + 1) ≤ level_0 (j0)))))))) := by
  try simp only [Int.add_zero] at *
  first
    | omega
    | (have q := hK_0_128 x1 (by omega) (by omega); right; exact ⟨by omega, by omega⟩)
    | (have q := hK_0_128 x6 (by omega) (by omega); have g := f4 x6 (by omega) (by omega) (by omega); omega)
    | (have g := f4 x6 (by omega) (by omega) (by omega)
       have e : x9 = above_0 x6 := by assumption
       by_cases w : 0 ≤ x9
       · right
         have g2 := g.2.2 (by omega)
         rw [← e] at g2
         omega
       · left; omega)
  
set_option maxHeartbeats 4000000 in
theorem vc_Mo_isUnder_0_1 (x1 : Int) (x2 : Int) (all_0 : Int → Int) (level_0 : Int → Int) (above_0 : Int → Int) (r_0 : Int) (gx : Int) (k1 : 0 ≤ x1 ∧ x1 ≤ 23) (k2 : 0 ≤ x2 ∧ x2 ≤ 23) (f0 : ∀ j0 : Int, 0 ≤ j0 → j0 < 24 → (((j0 + 1) ≤ all_0 (r_0)) → (((-1) ≤ level_0 (j0)) ∧ ((level_0 (j0) ≤ 24) ∧ ((0 ≤ above_0 (j0)) → (((above_0 (j0) + 1) ≤ all_0 (r_0)) ∧ ((0 ≤ level_0 (above_0 (j0))) ∧ ((level_0 (above_0 (j0)) + 1) ≤ level_0 (j0))))))))) (f1 : 1 * x1 + ((-1) * all_0 (r_0 + 0) + 0) ≤ (-1)) (hK_0_127 : ∀ j : Int, 0 ≤ j → j < 26 → (-1) ≤ above_0 j ∧ above_0 j ≤ 23) (hK_0_128 : ∀ j : Int, 0 ≤ j → j < 26 → (-23) ≤ level_0 j ∧ level_0 j ≤ 24) (ex2 : gx = 60) (ex3 : (-2) ≤ gx ∧ gx ≤ 60) : (x1 ≤ (-1)) ∨ (((x1 + 1) ≤ all_0 (r_0)) ∧ ((level_0 (x1) + 0) ≤ gx)) := by
  try simp only [Int.add_zero] at *
  first
    | omega
    | (have q := hK_0_128 x1 (by omega) (by omega); right; exact ⟨by omega, by omega⟩)
    | (have q := hK_0_128 x6 (by omega) (by omega); have g := f4 x6 (by omega) (by omega) (by omega); omega)
    | (have g := f4 x6 (by omega) (by omega) (by omega)
       have e : x9 = above_0 x6 := by assumption
       by_cases w : 0 ≤ x9
       · right
         have g2 := g.2.2 (by omega)
         rw [← e] at g2
         omega
       · left; omega)
  
set_option maxHeartbeats 4000000 in
theorem vc_Mo_isUnder_0_2 (x1 : Int) (x2 : Int) (all_0 : Int → Int) (level_0 : Int → Int) (above_0 : Int → Int) (r_0 : Int) (gx : Int) (k1 : 0 ≤ x1 ∧ x1 ≤ 23) (k2 : 0 ≤ x2 ∧ x2 ≤ 23) (f0 : ∀ j0 : Int, 0 ≤ j0 → j0 < 24 → (((j0 + 1) ≤ all_0 (r_0)) → (((-1) ≤ level_0 (j0)) ∧ ((level_0 (j0) ≤ 24) ∧ ((0 ≤ above_0 (j0)) → (((above_0 (j0) + 1) ≤ all_0 (r_0)) ∧ ((0 ≤ level_0 (above_0 (j0))) ∧ ((level_0 (above_0 (j0)) + 1) ≤ level_0 (j0))))))))) (f1 : 1 * x1 + ((-1) * all_0 (r_0 + 0) + 0) ≤ (-1)) (hK_0_127 : ∀ j : Int, 0 ≤ j → j < 26 → (-1) ≤ above_0 j ∧ above_0 j ≤ 23) (hK_0_128 : ∀ j : Int, 0 ≤ j → j < 26 → (-23) ≤ level_0 j ∧ level_0 j ≤ 24) (ex2 : gx = 60) (ex3 : (-2) ≤ gx ∧ gx ≤ 60) : UN1 (level_0) (x1) (x2) (x1) := by
  first
    | assumption
    | exact ⟨fun e => by omega, Or.inl (by omega)⟩
    | (have h := ‹UN1 _ _ _ _›
       have g := f4 x6 (by omega) (by omega) (by omega)
       have e : x9 = above_0 x6 := by assumption
       refine ⟨fun q => by have := h.1 q; omega, ?_⟩
       by_cases w : 0 ≤ x9
       · right; right
         have g2 := (g.2.2 (by omega)).2.2
         rw [← e] at g2
         rcases h.2 with q | q | q
         · rw [q] at g2; omega
         · omega
         · omega
       · right; left; omega)
  
def o_Mo_isUnder_0 : or_T := (2, 3, [(0, (2, 0, 0, [165])), (1, (0, 0, 23, [])), (2, (0, 0, 23, []))], [(20, [0], [50, 1, 3, 5, 2, 128, 127, 5, 2, 0, 24, 4, 14, 0, 6, 4, 2, 7, 0, 0, 1, 3, 0, 2, 2, 0, 5, 2, 9, 0, 2, 0, -1, 3, 0, 128, 7, 0, 2, 9, 0, 5, 3, 0, 128, 7, 0, 0, 24, 4, 9, 0, 2, 0, 0, 3, 0, 127, 7, 0, 2, 17, 0, 9, 4, 5, 3, 0, 127, 7, 0, 0, 1, 3, 0, 2, 2, 0, 5, 2, 12, 0, 2, 0, 0, 3, 0, 128, 3, 0, 127, 7, 0, 0, 12, 4, 8, 3, 0, 128, 3, 0, 127, 7, 0, 0, 1, 3, 0, 128, 7, 0]), (20, [1, 0], [30, -1, 1, 0, 0, -1, 3, 2005000])], [], [(0, -2, 60, [])], [(20, [0], [50, 1, 3, 5, 2, 128, 127, 5, 2, 0, 24, 4, 14, 0, 6, 4, 2, 7, 0, 0, 1, 3, 0, 2, 2, 0, 5, 2, 9, 0, 2, 0, -1, 3, 0, 128, 7, 0, 2, 9, 0, 5, 3, 0, 128, 7, 0, 0, 24, 4, 9, 0, 2, 0, 0, 3, 0, 127, 7, 0, 2, 17, 0, 9, 4, 5, 3, 0, 127, 7, 0, 0, 1, 3, 0, 2, 2, 0, 5, 2, 12, 0, 2, 0, 0, 3, 0, 128, 3, 0, 127, 7, 0, 0, 12, 4, 8, 3, 0, 128, 3, 0, 127, 7, 0, 0, 1, 3, 0, 128, 7, 0]), (20, [1, 0, 3], [50, 1, 2, 1005, 1002, 1128, 3, 6, 0, 2, 1, 0, 0, -1, 2, 14, 0, 6, 4, 2, 1, 0, 0, 1, 3, 1, 2, 2, 1, 5, 0, 9, 4, 5, 3, 1, 128, 1, 0, 0, 0, 1, 2]), (20, [0, 1, 2, 1], [60, 0, 1, 796, 128]), (24, [0, 0], []), (24, [1, 1], []), (24, [2, 2], [])], [], [])
theorem oo_Mo_isUnder_0 {kA : Nat → ClassId} : or_ok PRD kA GG o_Mo_isUnder_0 := by
  refine or_mk fun A ta ws vs hD hth hl => ?_
  intro t0 r0 t1 k1 t2 k2 f0 f1
  replace f0 := shm_589 f0
  replace f1 := shm_294 f1
  have cr_0_127 := fdq_153 hD hth r0
  have cr_0_128 := fdq_154 hD hth r0
  have hK_0_127 := elq_84 hD hth cr_0_127
  have hK_0_128 := elq_85 hD hth cr_0_128
  obtain ⟨x, ex, hx⟩ := iv_ex (ta := ta) (lo := (-2)) (hi := 60) (z := 60) (by omega) (by omega) (by omega) (by omega)
  have ex2 : v_iv (Value.int x) = 60 := ex
  have ex3 : (-2) ≤ v_iv (Value.int x) ∧ v_iv (Value.int x) ≤ 60 := tv_rng hx
  have e_0 : n_v (vs ++ [Value.int x]) 0 = n_v vs 0 := n_v_old (by rw [hl]; decide)
  have e_1 : n_v (vs ++ [Value.int x]) 1 = n_v vs 1 := n_v_old (by rw [hl]; decide)
  have e_2 : n_v (vs ++ [Value.int x]) 2 = n_v vs 2 := n_v_old (by rw [hl]; decide)
  have e_3 : n_v (vs ++ [Value.int x]) 3 = Value.int x := n_v_new hl
  have nf0 : fc_1 PRD (20, [0], [50, 1, 3, 5, 2, 128, 127, 5, 2, 0, 24, 4, 14, 0, 6, 4, 2, 7, 0, 0, 1, 3, 0, 2, 2, 0, 5, 2, 9, 0, 2, 0, -1, 3, 0, 128, 7, 0, 2, 9, 0, 5, 3, 0, 128, 7, 0, 0, 24, 4, 9, 0, 2, 0, 0, 3, 0, 127, 7, 0, 2, 17, 0, 9, 4, 5, 3, 0, 127, 7, 0, 0, 1, 3, 0, 2, 2, 0, 5, 2, 12, 0, 2, 0, 0, 3, 0, 128, 3, 0, 127, 7, 0, 0, 12, 4, 8, 3, 0, 128, 3, 0, 127, 7, 0, 0, 1, 3, 0, 128, 7, 0]) ws (vs ++ [Value.int x]) := by
    refine ⟨nf_inA hl rfl, sgq_589 ?_⟩
    · show ∀ j0 : Int, 0 ≤ j0 → j0 < 24 → (((j0 + 1) ≤ w_ei ws (w_ar ws (n_v (vs ++ [Value.int x]) 0) 2) (w_fi ws (n_v (vs ++ [Value.int x]) 0) 5)) → (((-1) ≤ w_ei ws (w_ar ws (n_v (vs ++ [Value.int x]) 0) 128) (j0)) ∧ ((w_ei ws (w_ar ws (n_v (vs ++ [Value.int x]) 0) 128) (j0) ≤ 24) ∧ ((0 ≤ w_ei ws (w_ar ws (n_v (vs ++ [Value.int x]) 0) 127) (j0)) → (((w_ei ws (w_ar ws (n_v (vs ++ [Value.int x]) 0) 127) (j0) + 1) ≤ w_ei ws (w_ar ws (n_v (vs ++ [Value.int x]) 0) 2) (w_fi ws (n_v (vs ++ [Value.int x]) 0) 5)) ∧ ((0 ≤ w_ei ws (w_ar ws (n_v (vs ++ [Value.int x]) 0) 128) (w_ei ws (w_ar ws (n_v (vs ++ [Value.int x]) 0) 127) (j0))) ∧ ((w_ei ws (w_ar ws (n_v (vs ++ [Value.int x]) 0) 128) (w_ei ws (w_ar ws (n_v (vs ++ [Value.int x]) 0) 127) (j0)) + 1) ≤ w_ei ws (w_ar ws (n_v (vs ++ [Value.int x]) 0) 128) (j0))))))))
      rw [e_0]
      exact vc_Mo_isUnder_0_0 (v_iv (n_v vs 1)) (v_iv (n_v vs 2)) (w_ei ws (w_ar ws (n_v vs 0) 2)) (w_ei ws (w_ar ws (n_v vs 0) 128)) (w_ei ws (w_ar ws (n_v vs 0) 127)) (w_fi ws (n_v vs 0) 5) (v_iv (Value.int x)) k1 k2 f0 f1 hK_0_127 hK_0_128 ex2 ex3
  have nf1 : fc_1 PRD (20, [1, 0, 3], [50, 1, 2, 1005, 1002, 1128, 3, 6, 0, 2, 1, 0, 0, -1, 2, 14, 0, 6, 4, 2, 1, 0, 0, 1, 3, 1, 2, 2, 1, 5, 0, 9, 4, 5, 3, 1, 128, 1, 0, 0, 0, 1, 2]) ws (vs ++ [Value.int x]) := by
    refine ⟨nf_inA hl rfl, sgq_592 ?_⟩
    · show (v_iv (n_v (vs ++ [Value.int x]) 1) ≤ (-1)) ∨ (((v_iv (n_v (vs ++ [Value.int x]) 1) + 1) ≤ w_ei ws (w_ar ws (n_v (vs ++ [Value.int x]) 0) 2) (w_fi ws (n_v (vs ++ [Value.int x]) 0) 5)) ∧ ((w_ei ws (w_ar ws (n_v (vs ++ [Value.int x]) 0) 128) (v_iv (n_v (vs ++ [Value.int x]) 1)) + 0) ≤ v_iv (n_v (vs ++ [Value.int x]) 3)))
      simp only [e_0, e_1, e_3]
      exact vc_Mo_isUnder_0_1 (v_iv (n_v vs 1)) (v_iv (n_v vs 2)) (w_ei ws (w_ar ws (n_v vs 0) 2)) (w_ei ws (w_ar ws (n_v vs 0) 128)) (w_ei ws (w_ar ws (n_v vs 0) 127)) (w_fi ws (n_v vs 0) 5) (v_iv (Value.int x)) k1 k2 f0 f1 hK_0_127 hK_0_128 ex2 ex3
  have nf2 : fc_1 PRD (20, [0, 1, 2, 1], [60, 0, 1, 796, 128]) ws (vs ++ [Value.int x]) := by
    refine ⟨nf_inA hl rfl, sgq_608 ?_⟩
    · show UN1 (w_ei ws (w_ar ws (n_v (vs ++ [Value.int x]) 0) 128)) (v_iv (n_v (vs ++ [Value.int x]) 1)) (v_iv (n_v (vs ++ [Value.int x]) 2)) (v_iv (n_v (vs ++ [Value.int x]) 1))
      simp only [e_0, e_1, e_2]
      exact vc_Mo_isUnder_0_2 (v_iv (n_v vs 1)) (v_iv (n_v vs 2)) (w_ei ws (w_ar ws (n_v vs 0) 2)) (w_ei ws (w_ar ws (n_v vs 0) 128)) (w_ei ws (w_ar ws (n_v vs 0) 127)) (w_fi ws (n_v vs 0) 5) (v_iv (Value.int x)) k1 k2 f0 f1 hK_0_127 hK_0_128 ex2 ex3
  have nf3 : fc_1 PRD (24, [0, 0], []) ws (vs ++ [Value.int x]) := by
    refine ⟨nf_inA hl rfl, sgq_1 ?_⟩
    · show n_v (vs ++ [Value.int x]) 0 = n_v (vs ++ [Value.int x]) 0
      first | rfl | simp only [e_0]
  have nf4 : fc_1 PRD (24, [1, 1], []) ws (vs ++ [Value.int x]) := by
    refine ⟨nf_inA hl rfl, sgq_1 ?_⟩
    · show n_v (vs ++ [Value.int x]) 1 = n_v (vs ++ [Value.int x]) 1
      first | rfl | simp only [e_1]
  have nf5 : fc_1 PRD (24, [2, 2], []) ws (vs ++ [Value.int x]) := by
    refine ⟨nf_inA hl rfl, sgq_1 ?_⟩
    · show n_v (vs ++ [Value.int x]) 2 = n_v (vs ++ [Value.int x]) 2
      first | rfl | simp only [e_2]
  exact ⟨(fun _ h => (by cases h)), [Value.int x], ag_one hx, List.forall_mem_cons.mpr ⟨⟨show (20 : Nat) < 100 from by decide, nf0⟩, List.forall_mem_cons.mpr ⟨⟨show (20 : Nat) < 100 from by decide, nf1⟩, List.forall_mem_cons.mpr ⟨⟨show (20 : Nat) < 100 from by decide, nf2⟩, List.forall_mem_cons.mpr ⟨⟨show (24 : Nat) < 100 from by decide, nf3⟩, List.forall_mem_cons.mpr ⟨⟨show (24 : Nat) < 100 from by decide, nf4⟩, List.forall_mem_cons.mpr ⟨⟨show (24 : Nat) < 100 from by decide, nf5⟩, (fun _ h => (by cases h))⟩⟩⟩⟩⟩⟩, (fun _ h => (by cases h))⟩
set_option maxHeartbeats 4000000 in
theorem vc_Mo_isUnder_1_0 (x1 : Int) (x2 : Int) (x4 : Int) (x5 : Int) (x6 : Int) (x7 : Int) (x8 : Int) (all_0 : Int → Int) (level_0 : Int → Int) (above_0 : Int → Int) (r_0 : Int) (k1 : 0 ≤ x1 ∧ x1 ≤ 23) (k2 : 0 ≤ x2 ∧ x2 ≤ 23) (k4 : 0 ≤ x4 ∧ x4 ≤ 23) (k5 : 0 ≤ x5 ∧ x5 ≤ 23) (k6 : 0 ≤ x6 ∧ x6 ≤ 23) (k7 : (-2) ≤ x7 ∧ x7 ≤ 60) (k8 : 0 ≤ x8 ∧ x8 ≤ 0) (d0 : x5 + 0 ≤ x6 ∧ x6 ≤ x5 + 0) (d1 : x4 + (-4294967296) ≤ x1 ∧ x1 ≤ x4 + 0) (d2 : x5 + (-4294967296) ≤ x2 ∧ x2 ≤ x5 + 0) (d3 : x1 + (-4294967296) ≤ x4 ∧ x4 ≤ x1 + 0) (d4 : x2 + (-4294967296) ≤ x5 ∧ x5 ≤ x2 + 0) (f0 : x6 ≠ x2) (f1 : x6 = x2) (f2 : ∀ j0 : Int, 0 ≤ j0 → j0 < 24 → (((j0 + 1) ≤ all_0 (r_0)) → (((-1) ≤ level_0 (j0)) ∧ ((level_0 (j0) ≤ 24) ∧ ((0 ≤ above_0 (j0)) → (((above_0 (j0) + 1) ≤ all_0 (r_0)) ∧ ((0 ≤ level_0 (above_0 (j0))) ∧ ((level_0 (above_0 (j0)) + 1) ≤ level_0 (j0))))))))) (f3 : (x6 ≤ (-1)) ∨ (((x6 + 1) ≤ all_0 (r_0)) ∧ ((level_0 (x6) + 0) ≤ x7))) (f4 : UN1 (level_0) (x1) (x2) (x6)) (hK_0_127 : ∀ j : Int, 0 ≤ j → j < 26 → (-1) ≤ above_0 j ∧ above_0 j ≤ 23) (hK_0_128 : ∀ j : Int, 0 ≤ j → j < 26 → (-23) ≤ level_0 j ∧ level_0 j ≤ 24) : UNQ2 (level_0) (x1) (x2) (x8) := by
  first
    | (have h := ‹UN1 _ _ _ _›
       exact ⟨fun e => by have := h.1 e; omega, fun z => by rcases h.2 with q | q | q <;> first | (left; omega) | (exfalso; omega) | (right; rw [show x2 = x6 by omega]; exact q)⟩)
  
def o_Mo_isUnder_1 : or_T := (31, 9, [(0, (2, 0, 0, [165])), (1, (0, 0, 23, [])), (2, (0, 0, 23, [])), (3, (2, 0, 0, [165])), (4, (0, 0, 23, [])), (5, (0, 0, 23, [])), (6, (0, 0, 23, [])), (7, (0, -2, 60, [])), (8, (0, 0, 0, []))], [(7, [6, 5], [1]), (7, [6, 5], [0]), (20, [3], [50, 1, 3, 5, 2, 128, 127, 5, 2, 0, 24, 4, 14, 0, 6, 4, 2, 7, 0, 0, 1, 3, 0, 2, 2, 0, 5, 2, 9, 0, 2, 0, -1, 3, 0, 128, 7, 0, 2, 9, 0, 5, 3, 0, 128, 7, 0, 0, 24, 4, 9, 0, 2, 0, 0, 3, 0, 127, 7, 0, 2, 17, 0, 9, 4, 5, 3, 0, 127, 7, 0, 0, 1, 3, 0, 2, 2, 0, 5, 2, 12, 0, 2, 0, 0, 3, 0, 128, 3, 0, 127, 7, 0, 0, 12, 4, 8, 3, 0, 128, 3, 0, 127, 7, 0, 0, 1, 3, 0, 128, 7, 0]), (20, [6, 3, 7], [50, 1, 2, 1005, 1002, 1128, 3, 6, 0, 2, 1, 0, 0, -1, 2, 14, 0, 6, 4, 2, 1, 0, 0, 1, 3, 1, 2, 2, 1, 5, 0, 9, 4, 5, 3, 1, 128, 1, 0, 0, 0, 1, 2]), (20, [3, 4, 5, 6], [60, 0, 1, 796, 128]), (24, [0, 3], []), (24, [1, 4], []), (24, [2, 5], [])], [], [], [(20, [0, 1, 2, 8], [60, 0, 1, 797, 128])], [], [(6, 5, 0, 0), (1, 4, -4294967296, 0), (2, 5, -4294967296, 0), (4, 1, -4294967296, 0), (5, 2, -4294967296, 0)])
theorem oo_Mo_isUnder_1 {kA : Nat → ClassId} : or_ok PRD kA GG o_Mo_isUnder_1 := by
  refine or_mk fun A ta ws vs hD hth hl => ?_
  intro t0 r0 t1 k1 t2 k2 t3 r3 t4 k4 t5 k5 t6 k6 t7 k7 t8 k8 d0 d1 d2 d3 d4 f0 f1 f2 f3 f4 f5 f6 f7
  replace f0 := shm_40 f0
  replace f1 := shm_37 f1
  replace f2 := shm_589 f2
  replace f3 := shm_592 f3
  replace f4 := shm_609 f4
  replace f5 := shm_5 f5
  replace f6 := shm_5 f6
  replace f7 := shm_5 f7
  have q3 : n_v vs 3 = n_v vs 0 := f5.symm
  have q4 : n_v vs 4 = n_v vs 1 := f6.symm
  have q5 : n_v vs 5 = n_v vs 2 := f7.symm
  simp only [q5, q3, q4] at f0 f1 f2 f3 f4
  have cr_0_127 := fdq_153 hD hth r0
  have cr_0_128 := fdq_154 hD hth r0
  have hK_0_127 := elq_84 hD hth cr_0_127
  have hK_0_128 := elq_85 hD hth cr_0_128
  have nf0 : fc_1 PRD (20, [0, 1, 2, 8], [60, 0, 1, 797, 128]) ws (vs) := ⟨nf_in hl rfl, sgq_610 (vc_Mo_isUnder_1_0 (v_iv (n_v vs 1)) (v_iv (n_v vs 2)) (v_iv (n_v vs 4)) (v_iv (n_v vs 5)) (v_iv (n_v vs 6)) (v_iv (n_v vs 7)) (v_iv (n_v vs 8)) (w_ei ws (w_ar ws (n_v vs 0) 2)) (w_ei ws (w_ar ws (n_v vs 0) 128)) (w_ei ws (w_ar ws (n_v vs 0) 127)) (w_fi ws (n_v vs 0) 5) k1 k2 k4 k5 k6 k7 k8 d0 d1 d2 d3 d4 f0 f1 f2 f3 f4 hK_0_127 hK_0_128)⟩
  refine ⟨(fun _ h => (by cases h)), [], trivial, ?_, (fun _ h => (by cases h))⟩
  rw [List.append_nil]
  exact List.forall_mem_cons.mpr ⟨⟨show (20 : Nat) < 100 from by decide, nf0⟩, (fun _ h => (by cases h))⟩
set_option maxHeartbeats 4000000 in
theorem vc_Mo_isUnder_2_0 (x1 : Int) (x2 : Int) (x4 : Int) (x5 : Int) (x6 : Int) (x7 : Int) (x8 : Int) (all_0 : Int → Int) (level_0 : Int → Int) (above_0 : Int → Int) (r_0 : Int) (k1 : 0 ≤ x1 ∧ x1 ≤ 23) (k2 : 0 ≤ x2 ∧ x2 ≤ 23) (k4 : 0 ≤ x4 ∧ x4 ≤ 23) (k5 : 0 ≤ x5 ∧ x5 ≤ 23) (k6 : 0 ≤ x6 ∧ x6 ≤ 23) (k7 : (-2) ≤ x7 ∧ x7 ≤ 60) (k8 : 1 ≤ x8 ∧ x8 ≤ 1) (d0 : x5 + 0 ≤ x6 ∧ x6 ≤ x5 + 0) (d1 : x4 + (-4294967296) ≤ x1 ∧ x1 ≤ x4 + 0) (d2 : x5 + (-4294967296) ≤ x2 ∧ x2 ≤ x5 + 0) (d3 : x1 + (-4294967296) ≤ x4 ∧ x4 ≤ x1 + 0) (d4 : x2 + (-4294967296) ≤ x5 ∧ x5 ≤ x2 + 0) (f0 : x6 = x2) (f1 : x6 = x2) (f2 : ∀ j0 : Int, 0 ≤ j0 → j0 < 24 → (((j0 + 1) ≤ all_0 (r_0)) → (((-1) ≤ level_0 (j0)) ∧ ((level_0 (j0) ≤ 24) ∧ ((0 ≤ above_0 (j0)) → (((above_0 (j0) + 1) ≤ all_0 (r_0)) ∧ ((0 ≤ level_0 (above_0 (j0))) ∧ ((level_0 (above_0 (j0)) + 1) ≤ level_0 (j0))))))))) (f3 : (x6 ≤ (-1)) ∨ (((x6 + 1) ≤ all_0 (r_0)) ∧ ((level_0 (x6) + 0) ≤ x7))) (f4 : UN1 (level_0) (x1) (x2) (x6)) (hK_0_127 : ∀ j : Int, 0 ≤ j → j < 26 → (-1) ≤ above_0 j ∧ above_0 j ≤ 23) (hK_0_128 : ∀ j : Int, 0 ≤ j → j < 26 → (-23) ≤ level_0 j ∧ level_0 j ≤ 24) : UNQ2 (level_0) (x1) (x2) (x8) := by
  first
    | (have h := ‹UN1 _ _ _ _›
       exact ⟨fun e => by have := h.1 e; omega, fun z => by rcases h.2 with q | q | q <;> first | (left; omega) | (exfalso; omega) | (right; rw [show x2 = x6 by omega]; exact q)⟩)
  
def o_Mo_isUnder_2 : or_T := (31, 9, [(0, (2, 0, 0, [165])), (1, (0, 0, 23, [])), (2, (0, 0, 23, [])), (3, (2, 0, 0, [165])), (4, (0, 0, 23, [])), (5, (0, 0, 23, [])), (6, (0, 0, 23, [])), (7, (0, -2, 60, [])), (8, (0, 1, 1, []))], [(7, [6, 5], [0]), (7, [6, 5], [0]), (20, [3], [50, 1, 3, 5, 2, 128, 127, 5, 2, 0, 24, 4, 14, 0, 6, 4, 2, 7, 0, 0, 1, 3, 0, 2, 2, 0, 5, 2, 9, 0, 2, 0, -1, 3, 0, 128, 7, 0, 2, 9, 0, 5, 3, 0, 128, 7, 0, 0, 24, 4, 9, 0, 2, 0, 0, 3, 0, 127, 7, 0, 2, 17, 0, 9, 4, 5, 3, 0, 127, 7, 0, 0, 1, 3, 0, 2, 2, 0, 5, 2, 12, 0, 2, 0, 0, 3, 0, 128, 3, 0, 127, 7, 0, 0, 12, 4, 8, 3, 0, 128, 3, 0, 127, 7, 0, 0, 1, 3, 0, 128, 7, 0]), (20, [6, 3, 7], [50, 1, 2, 1005, 1002, 1128, 3, 6, 0, 2, 1, 0, 0, -1, 2, 14, 0, 6, 4, 2, 1, 0, 0, 1, 3, 1, 2, 2, 1, 5, 0, 9, 4, 5, 3, 1, 128, 1, 0, 0, 0, 1, 2]), (20, [3, 4, 5, 6], [60, 0, 1, 796, 128]), (24, [0, 3], []), (24, [1, 4], []), (24, [2, 5], [])], [], [], [(20, [0, 1, 2, 8], [60, 0, 1, 797, 128])], [], [(6, 5, 0, 0), (1, 4, -4294967296, 0), (2, 5, -4294967296, 0), (4, 1, -4294967296, 0), (5, 2, -4294967296, 0)])
theorem oo_Mo_isUnder_2 {kA : Nat → ClassId} : or_ok PRD kA GG o_Mo_isUnder_2 := by
  refine or_mk fun A ta ws vs hD hth hl => ?_
  intro t0 r0 t1 k1 t2 k2 t3 r3 t4 k4 t5 k5 t6 k6 t7 k7 t8 k8 d0 d1 d2 d3 d4 f0 f1 f2 f3 f4 f5 f6 f7
  replace f0 := shm_37 f0
  replace f1 := shm_37 f1
  replace f2 := shm_589 f2
  replace f3 := shm_592 f3
  replace f4 := shm_609 f4
  replace f5 := shm_5 f5
  replace f6 := shm_5 f6
  replace f7 := shm_5 f7
  have q3 : n_v vs 3 = n_v vs 0 := f5.symm
  have q4 : n_v vs 4 = n_v vs 1 := f6.symm
  have q5 : n_v vs 5 = n_v vs 2 := f7.symm
  simp only [q5, q3, q4] at f0 f1 f2 f3 f4
  have cr_0_127 := fdq_153 hD hth r0
  have cr_0_128 := fdq_154 hD hth r0
  have hK_0_127 := elq_84 hD hth cr_0_127
  have hK_0_128 := elq_85 hD hth cr_0_128
  have nf0 : fc_1 PRD (20, [0, 1, 2, 8], [60, 0, 1, 797, 128]) ws (vs) := ⟨nf_in hl rfl, sgq_610 (vc_Mo_isUnder_2_0 (v_iv (n_v vs 1)) (v_iv (n_v vs 2)) (v_iv (n_v vs 4)) (v_iv (n_v vs 5)) (v_iv (n_v vs 6)) (v_iv (n_v vs 7)) (v_iv (n_v vs 8)) (w_ei ws (w_ar ws (n_v vs 0) 2)) (w_ei ws (w_ar ws (n_v vs 0) 128)) (w_ei ws (w_ar ws (n_v vs 0) 127)) (w_fi ws (n_v vs 0) 5) k1 k2 k4 k5 k6 k7 k8 d0 d1 d2 d3 d4 f0 f1 f2 f3 f4 hK_0_127 hK_0_128)⟩
  refine ⟨(fun _ h => (by cases h)), [], trivial, ?_, (fun _ h => (by cases h))⟩
  rw [List.append_nil]
  exact List.forall_mem_cons.mpr ⟨⟨show (20 : Nat) < 100 from by decide, nf0⟩, (fun _ h => (by cases h))⟩
set_option maxHeartbeats 4000000 in
theorem vc_Mo_isUnder_3_0 (x1 : Int) (x2 : Int) (x4 : Int) (x5 : Int) (x6 : Int) (x7 : Int) (x8 : Int) (all_0 : Int → Int) (level_0 : Int → Int) (above_0 : Int → Int) (r_0 : Int) (k1 : 0 ≤ x1 ∧ x1 ≤ 23) (k2 : 0 ≤ x2 ∧ x2 ≤ 23) (k4 : 0 ≤ x4 ∧ x4 ≤ 23) (k5 : 0 ≤ x5 ∧ x5 ≤ 23) (k6 : (-1) ≤ x6 ∧ x6 ≤ (-1)) (k7 : (-2) ≤ x7 ∧ x7 ≤ 60) (k8 : 0 ≤ x8 ∧ x8 ≤ 0) (d0 : x4 + (-4294967296) ≤ x1 ∧ x1 ≤ x4 + 0) (d1 : x5 + (-4294967296) ≤ x2 ∧ x2 ≤ x5 + 0) (d2 : x1 + (-4294967296) ≤ x4 ∧ x4 ≤ x1 + 0) (d3 : x2 + (-4294967296) ≤ x5 ∧ x5 ≤ x2 + 0) (f0 : x6 ≠ x2) (f1 : x6 < 0) (f2 : x6 ≠ x2) (f3 : ∀ j0 : Int, 0 ≤ j0 → j0 < 24 → (((j0 + 1) ≤ all_0 (r_0)) → (((-1) ≤ level_0 (j0)) ∧ ((level_0 (j0) ≤ 24) ∧ ((0 ≤ above_0 (j0)) → (((above_0 (j0) + 1) ≤ all_0 (r_0)) ∧ ((0 ≤ level_0 (above_0 (j0))) ∧ ((level_0 (above_0 (j0)) + 1) ≤ level_0 (j0))))))))) (f4 : (x6 ≤ (-1)) ∨ (((x6 + 1) ≤ all_0 (r_0)) ∧ ((level_0 (x6) + 0) ≤ x7))) (f5 : UN1 (level_0) (x1) (x2) (x6)) (hK_0_127 : ∀ j : Int, 0 ≤ j → j < 26 → (-1) ≤ above_0 j ∧ above_0 j ≤ 23) (hK_0_128 : ∀ j : Int, 0 ≤ j → j < 26 → (-23) ≤ level_0 j ∧ level_0 j ≤ 24) : UNQ2 (level_0) (x1) (x2) (x8) := by
  first
    | (have h := ‹UN1 _ _ _ _›
       exact ⟨fun e => by have := h.1 e; omega, fun z => by rcases h.2 with q | q | q <;> first | (left; omega) | (exfalso; omega) | (right; rw [show x2 = x6 by omega]; exact q)⟩)
  
def o_Mo_isUnder_3 : or_T := (31, 9, [(0, (2, 0, 0, [165])), (1, (0, 0, 23, [])), (2, (0, 0, 23, [])), (3, (2, 0, 0, [165])), (4, (0, 0, 23, [])), (5, (0, 0, 23, [])), (6, (0, -1, -1, [])), (7, (0, -2, 60, [])), (8, (0, 0, 0, []))], [(7, [6, 5], [1]), (8, [6], [2]), (7, [6, 5], [1]), (20, [3], [50, 1, 3, 5, 2, 128, 127, 5, 2, 0, 24, 4, 14, 0, 6, 4, 2, 7, 0, 0, 1, 3, 0, 2, 2, 0, 5, 2, 9, 0, 2, 0, -1, 3, 0, 128, 7, 0, 2, 9, 0, 5, 3, 0, 128, 7, 0, 0, 24, 4, 9, 0, 2, 0, 0, 3, 0, 127, 7, 0, 2, 17, 0, 9, 4, 5, 3, 0, 127, 7, 0, 0, 1, 3, 0, 2, 2, 0, 5, 2, 12, 0, 2, 0, 0, 3, 0, 128, 3, 0, 127, 7, 0, 0, 12, 4, 8, 3, 0, 128, 3, 0, 127, 7, 0, 0, 1, 3, 0, 128, 7, 0]), (20, [6, 3, 7], [50, 1, 2, 1005, 1002, 1128, 3, 6, 0, 2, 1, 0, 0, -1, 2, 14, 0, 6, 4, 2, 1, 0, 0, 1, 3, 1, 2, 2, 1, 5, 0, 9, 4, 5, 3, 1, 128, 1, 0, 0, 0, 1, 2]), (20, [3, 4, 5, 6], [60, 0, 1, 796, 128]), (24, [0, 3], []), (24, [1, 4], []), (24, [2, 5], [])], [], [], [(20, [0, 1, 2, 8], [60, 0, 1, 797, 128])], [], [(1, 4, -4294967296, 0), (2, 5, -4294967296, 0), (4, 1, -4294967296, 0), (5, 2, -4294967296, 0)])
theorem oo_Mo_isUnder_3 {kA : Nat → ClassId} : or_ok PRD kA GG o_Mo_isUnder_3 := by
  refine or_mk fun A ta ws vs hD hth hl => ?_
  intro t0 r0 t1 k1 t2 k2 t3 r3 t4 k4 t5 k5 t6 k6 t7 k7 t8 k8 d0 d1 d2 d3 f0 f1 f2 f3 f4 f5 f6 f7 f8
  replace f0 := shm_40 f0
  replace f2 := shm_40 f2
  replace f3 := shm_589 f3
  replace f4 := shm_592 f4
  replace f5 := shm_609 f5
  replace f6 := shm_5 f6
  replace f7 := shm_5 f7
  replace f8 := shm_5 f8
  have q3 : n_v vs 3 = n_v vs 0 := f6.symm
  have q4 : n_v vs 4 = n_v vs 1 := f7.symm
  have q5 : n_v vs 5 = n_v vs 2 := f8.symm
  simp only [q5, q3, q4] at f0 f2 f3 f4 f5
  have cr_0_127 := fdq_153 hD hth r0
  have cr_0_128 := fdq_154 hD hth r0
  have hK_0_127 := elq_84 hD hth cr_0_127
  have hK_0_128 := elq_85 hD hth cr_0_128
  have nf0 : fc_1 PRD (20, [0, 1, 2, 8], [60, 0, 1, 797, 128]) ws (vs) := ⟨nf_in hl rfl, sgq_610 (vc_Mo_isUnder_3_0 (v_iv (n_v vs 1)) (v_iv (n_v vs 2)) (v_iv (n_v vs 4)) (v_iv (n_v vs 5)) (v_iv (n_v vs 6)) (v_iv (n_v vs 7)) (v_iv (n_v vs 8)) (w_ei ws (w_ar ws (n_v vs 0) 2)) (w_ei ws (w_ar ws (n_v vs 0) 128)) (w_ei ws (w_ar ws (n_v vs 0) 127)) (w_fi ws (n_v vs 0) 5) k1 k2 k4 k5 k6 k7 k8 d0 d1 d2 d3 f0 (shm_39 f1) f2 f3 f4 f5 hK_0_127 hK_0_128)⟩
  refine ⟨(fun _ h => (by cases h)), [], trivial, ?_, (fun _ h => (by cases h))⟩
  rw [List.append_nil]
  exact List.forall_mem_cons.mpr ⟨⟨show (20 : Nat) < 100 from by decide, nf0⟩, (fun _ h => (by cases h))⟩
set_option maxHeartbeats 4000000 in
theorem vc_Mo_isUnder_4_0 (x1 : Int) (x2 : Int) (x4 : Int) (x5 : Int) (x6 : Int) (x7 : Int) (x9 : Int) (above_0 : Int → Int) (all_0 : Int → Int) (level_0 : Int → Int) (r_0 : Int) (gx : Int) (k1 : 0 ≤ x1 ∧ x1 ≤ 23) (k2 : 0 ≤ x2 ∧ x2 ≤ 23) (k4 : 0 ≤ x4 ∧ x4 ≤ 23) (k5 : 0 ≤ x5 ∧ x5 ≤ 23) (k6 : 0 ≤ x6 ∧ x6 ≤ 23) (k7 : (-2) ≤ x7 ∧ x7 ≤ 60) (k9 : (-1) ≤ x9 ∧ x9 ≤ 23) (d0 : x4 + (-4294967296) ≤ x1 ∧ x1 ≤ x4 + 0) (d1 : x5 + (-4294967296) ≤ x2 ∧ x2 ≤ x5 + 0) (d2 : x1 + (-4294967296) ≤ x4 ∧ x4 ≤ x1 + 0) (d3 : x2 + (-4294967296) ≤ x5 ∧ x5 ≤ x2 + 0) (h0 : x9 = above_0 (x6)) (f2 : 0 ≤ x6) (f3 : x6 ≠ x2) (f4 : ∀ j0 : Int, 0 ≤ j0 → j0 < 24 → (((j0 + 1) ≤ all_0 (r_0)) → (((-1) ≤ level_0 (j0)) ∧ ((level_0 (j0) ≤ 24) ∧ ((0 ≤ above_0 (j0)) → (((above_0 (j0) + 1) ≤ all_0 (r_0)) ∧ ((0 ≤ level_0 (above_0 (j0))) ∧ ((level_0 (above_0 (j0)) + 1) ≤ level_0 (j0))))))))) (f5 : (x6 ≤ (-1)) ∨ (((x6 + 1) ≤ all_0 (r_0)) ∧ ((level_0 (x6) + 0) ≤ x7))) (f6 : UN1 (level_0) (x1) (x2) (x6)) (hK_0_127 : ∀ j : Int, 0 ≤ j → j < 26 → (-1) ≤ above_0 j ∧ above_0 j ≤ 23) (hK_0_128 : ∀ j : Int, 0 ≤ j → j < 26 → (-23) ≤ level_0 j ∧ level_0 j ≤ 24) (ex2 : gx = 0 + (1 * x7 + 0)) (ex3 : (-2) ≤ gx ∧ gx ≤ 60) : ∀ j0 : Int, 0 ≤ j0 → j0 < 24 → (((j0 + 1) ≤ all_0 (r_0)) → (((-1) ≤ level_0 (j0)) ∧ ((level_0 (j0) ≤ 24) ∧ ((0 ≤ above_0 (j0)) → (((above_0 (j0) + 1) ≤ all_0 (r_0)) ∧ ((0 ≤ level_0 (above_0 (j0))) ∧ ((level_0 (above_0 (j0)) + 1) ≤ level_0 (j0)))))))) := by
  try simp only [Int.add_zero] at *
  first
    | omega
    | (have q := hK_0_128 x1 (by omega) (by omega); right; exact ⟨by omega, by omega⟩)
    | (have q := hK_0_128 x6 (by omega) (by omega); have g := f4 x6 (by omega) (by omega) (by omega); omega)
    | (have g := f4 x6 (by omega) (by omega) (by omega)
       have e : x9 = above_0 x6 := by assumption
       by_cases w : 0 ≤ x9
       · right
         have g2 := g.2.2 (by omega)
         rw [← e] at g2
         omega
       · left; omega)
  
set_option maxHeartbeats 4000000 in
theorem vc_Mo_isUnder_4_1 (x1 : Int) (x2 : Int) (x4 : Int) (x5 : Int) (x6 : Int) (x7 : Int) (x9 : Int) (above_0 : Int → Int) (all_0 : Int → Int) (level_0 : Int → Int) (r_0 : Int) (gx : Int) (k1 : 0 ≤ x1 ∧ x1 ≤ 23) (k2 : 0 ≤ x2 ∧ x2 ≤ 23) (k4 : 0 ≤ x4 ∧ x4 ≤ 23) (k5 : 0 ≤ x5 ∧ x5 ≤ 23) (k6 : 0 ≤ x6 ∧ x6 ≤ 23) (k7 : (-2) ≤ x7 ∧ x7 ≤ 60) (k9 : (-1) ≤ x9 ∧ x9 ≤ 23) (d0 : x4 + (-4294967296) ≤ x1 ∧ x1 ≤ x4 + 0) (d1 : x5 + (-4294967296) ≤ x2 ∧ x2 ≤ x5 + 0) (d2 : x1 + (-4294967296) ≤ x4 ∧ x4 ≤ x1 + 0) (d3 : x2 + (-4294967296) ≤ x5 ∧ x5 ≤ x2 + 0) (h0 : x9 = above_0 (x6)) (f2 : 0 ≤ x6) (f3 : x6 ≠ x2) (f4 : ∀ j0 : Int, 0 ≤ j0 → j0 < 24 → (((j0 + 1) ≤ all_0 (r_0)) → (((-1) ≤ level_0 (j0)) ∧ ((level_0 (j0) ≤ 24) ∧ ((0 ≤ above_0 (j0)) → (((above_0 (j0) + 1) ≤ all_0 (r_0)) ∧ ((0 ≤ level_0 (above_0 (j0))) ∧ ((level_0 (above_0 (j0)) + 1) ≤ level_0 (j0))))))))) (f5 : (x6 ≤ (-1)) ∨ (((x6 + 1) ≤ all_0 (r_0)) ∧ ((level_0 (x6) + 0) ≤ x7))) (f6 : UN1 (level_0) (x1) (x2) (x6)) (hK_0_127 : ∀ j : Int, 0 ≤ j → j < 26 → (-1) ≤ above_0 j ∧ above_0 j ≤ 23) (hK_0_128 : ∀ j : Int, 0 ≤ j → j < 26 → (-23) ≤ level_0 j ∧ level_0 j ≤ 24) (ex2 : gx = 0 + (1 * x7 + 0)) (ex3 : (-2) ≤ gx ∧ gx ≤ 60) : (x9 ≤ (-1)) ∨ (((x9 + 1) ≤ all_0 (r_0)) ∧ ((level_0 (x9) + 1) ≤ gx)) := by
  try simp only [Int.add_zero] at *
  first
    | omega
    | (have q := hK_0_128 x1 (by omega) (by omega); right; exact ⟨by omega, by omega⟩)
    | (have q := hK_0_128 x6 (by omega) (by omega); have g := f4 x6 (by omega) (by omega) (by omega); omega)
    | (have g := f4 x6 (by omega) (by omega) (by omega)
       have e : x9 = above_0 x6 := by assumption
       by_cases w : 0 ≤ x9
       · right
         have g2 := g.2.2 (by omega)
         rw [← e] at g2
         omega
       · left; omega)
  
set_option maxHeartbeats 4000000 in
theorem vc_Mo_isUnder_4_2 (x1 : Int) (x2 : Int) (x4 : Int) (x5 : Int) (x6 : Int) (x7 : Int) (x9 : Int) (above_0 : Int → Int) (all_0 : Int → Int) (level_0 : Int → Int) (r_0 : Int) (gx : Int) (k1 : 0 ≤ x1 ∧ x1 ≤ 23) (k2 : 0 ≤ x2 ∧ x2 ≤ 23) (k4 : 0 ≤ x4 ∧ x4 ≤ 23) (k5 : 0 ≤ x5 ∧ x5 ≤ 23) (k6 : 0 ≤ x6 ∧ x6 ≤ 23) (k7 : (-2) ≤ x7 ∧ x7 ≤ 60) (k9 : (-1) ≤ x9 ∧ x9 ≤ 23) (d0 : x4 + (-4294967296) ≤ x1 ∧ x1 ≤ x4 + 0) (d1 : x5 + (-4294967296) ≤ x2 ∧ x2 ≤ x5 + 0) (d2 : x1 + (-4294967296) ≤ x4 ∧ x4 ≤ x1 + 0) (d3 : x2 + (-4294967296) ≤ x5 ∧ x5 ≤ x2 + 0) (h0 : x9 = above_0 (x6)) (f2 : 0 ≤ x6) (f3 : x6 ≠ x2) (f4 : ∀ j0 : Int, 0 ≤ j0 → j0 < 24 → (((j0 + 1) ≤ all_0 (r_0)) → (((-1) ≤ level_0 (j0)) ∧ ((level_0 (j0) ≤ 24) ∧ ((0 ≤ above_0 (j0)) → (((above_0 (j0) + 1) ≤ all_0 (r_0)) ∧ ((0 ≤ level_0 (above_0 (j0))) ∧ ((level_0 (above_0 (j0)) + 1) ≤ level_0 (j0))))))))) (f5 : (x6 ≤ (-1)) ∨ (((x6 + 1) ≤ all_0 (r_0)) ∧ ((level_0 (x6) + 0) ≤ x7))) (f6 : UN1 (level_0) (x1) (x2) (x6)) (hK_0_127 : ∀ j : Int, 0 ≤ j → j < 26 → (-1) ≤ above_0 j ∧ above_0 j ≤ 23) (hK_0_128 : ∀ j : Int, 0 ≤ j → j < 26 → (-23) ≤ level_0 j ∧ level_0 j ≤ 24) (ex2 : gx = 0 + (1 * x7 + 0)) (ex3 : (-2) ≤ gx ∧ gx ≤ 60) : (-1) ≤ gx := by
  try simp only [Int.add_zero] at *
  first
    | omega
    | (have q := hK_0_128 x1 (by omega) (by omega); right; exact ⟨by omega, by omega⟩)
    | (have q := hK_0_128 x6 (by omega) (by omega); have g := f4 x6 (by omega) (by omega) (by omega); omega)
    | (have g := f4 x6 (by omega) (by omega) (by omega)
       have e : x9 = above_0 x6 := by assumption
       by_cases w : 0 ≤ x9
       · right
         have g2 := g.2.2 (by omega)
         rw [← e] at g2
         omega
       · left; omega)
  
set_option maxHeartbeats 4000000 in
theorem vc_Mo_isUnder_4_3 (x1 : Int) (x2 : Int) (x4 : Int) (x5 : Int) (x6 : Int) (x7 : Int) (x9 : Int) (above_0 : Int → Int) (all_0 : Int → Int) (level_0 : Int → Int) (r_0 : Int) (gx : Int) (k1 : 0 ≤ x1 ∧ x1 ≤ 23) (k2 : 0 ≤ x2 ∧ x2 ≤ 23) (k4 : 0 ≤ x4 ∧ x4 ≤ 23) (k5 : 0 ≤ x5 ∧ x5 ≤ 23) (k6 : 0 ≤ x6 ∧ x6 ≤ 23) (k7 : (-2) ≤ x7 ∧ x7 ≤ 60) (k9 : (-1) ≤ x9 ∧ x9 ≤ 23) (d0 : x4 + (-4294967296) ≤ x1 ∧ x1 ≤ x4 + 0) (d1 : x5 + (-4294967296) ≤ x2 ∧ x2 ≤ x5 + 0) (d2 : x1 + (-4294967296) ≤ x4 ∧ x4 ≤ x1 + 0) (d3 : x2 + (-4294967296) ≤ x5 ∧ x5 ≤ x2 + 0) (h0 : x9 = above_0 (x6)) (f2 : 0 ≤ x6) (f3 : x6 ≠ x2) (f4 : ∀ j0 : Int, 0 ≤ j0 → j0 < 24 → (((j0 + 1) ≤ all_0 (r_0)) → (((-1) ≤ level_0 (j0)) ∧ ((level_0 (j0) ≤ 24) ∧ ((0 ≤ above_0 (j0)) → (((above_0 (j0) + 1) ≤ all_0 (r_0)) ∧ ((0 ≤ level_0 (above_0 (j0))) ∧ ((level_0 (above_0 (j0)) + 1) ≤ level_0 (j0))))))))) (f5 : (x6 ≤ (-1)) ∨ (((x6 + 1) ≤ all_0 (r_0)) ∧ ((level_0 (x6) + 0) ≤ x7))) (f6 : UN1 (level_0) (x1) (x2) (x6)) (hK_0_127 : ∀ j : Int, 0 ≤ j → j < 26 → (-1) ≤ above_0 j ∧ above_0 j ≤ 23) (hK_0_128 : ∀ j : Int, 0 ≤ j → j < 26 → (-23) ≤ level_0 j ∧ level_0 j ≤ 24) (ex2 : gx = 0 + (1 * x7 + 0)) (ex3 : (-2) ≤ gx ∧ gx ≤ 60) : UN1 (level_0) (x1) (x2) (x9) := by
  first
    | assumption
    | exact ⟨fun e => by omega, Or.inl (by omega)⟩
    | (have h := ‹UN1 _ _ _ _›
       have g := f4 x6 (by omega) (by omega) (by omega)
       have e : x9 = above_0 x6 := by assumption
       refine ⟨fun q => by have := h.1 q; omega, ?_⟩
       by_cases w : 0 ≤ x9
       · right; right
         have g2 := (g.2.2 (by omega)).2.2
         rw [← e] at g2
         rcases h.2 with q | q | q
         · rw [q] at g2; omega
         · omega
         · omega
       · right; left; omega)
  
def o_Mo_isUnder_4 : or_T := (18, 10, [(0, (2, 0, 0, [165])), (1, (0, 0, 23, [])), (2, (0, 0, 23, [])), (3, (2, 0, 0, [165])), (4, (0, 0, 23, [])), (5, (0, 0, 23, [])), (6, (0, 0, 23, [])), (7, (0, -2, 60, [])), (8, (2, 0, 0, [257])), (9, (0, -1, 23, []))], [(10, [9, 8, 6], []), (9, [8, 3], [127]), (8, [6], [3]), (7, [6, 5], [1]), (20, [3], [50, 1, 3, 5, 2, 128, 127, 5, 2, 0, 24, 4, 14, 0, 6, 4, 2, 7, 0, 0, 1, 3, 0, 2, 2, 0, 5, 2, 9, 0, 2, 0, -1, 3, 0, 128, 7, 0, 2, 9, 0, 5, 3, 0, 128, 7, 0, 0, 24, 4, 9, 0, 2, 0, 0, 3, 0, 127, 7, 0, 2, 17, 0, 9, 4, 5, 3, 0, 127, 7, 0, 0, 1, 3, 0, 2, 2, 0, 5, 2, 12, 0, 2, 0, 0, 3, 0, 128, 3, 0, 127, 7, 0, 0, 12, 4, 8, 3, 0, 128, 3, 0, 127, 7, 0, 0, 1, 3, 0, 128, 7, 0]), (20, [6, 3, 7], [50, 1, 2, 1005, 1002, 1128, 3, 6, 0, 2, 1, 0, 0, -1, 2, 14, 0, 6, 4, 2, 1, 0, 0, 1, 3, 1, 2, 2, 1, 5, 0, 9, 4, 5, 3, 1, 128, 1, 0, 0, 0, 1, 2]), (20, [3, 4, 5, 6], [60, 0, 1, 796, 128]), (24, [0, 3], []), (24, [1, 4], []), (24, [2, 5], [])], [], [(0, -2, 60, [])], [(20, [3], [50, 1, 3, 5, 2, 128, 127, 5, 2, 0, 24, 4, 14, 0, 6, 4, 2, 7, 0, 0, 1, 3, 0, 2, 2, 0, 5, 2, 9, 0, 2, 0, -1, 3, 0, 128, 7, 0, 2, 9, 0, 5, 3, 0, 128, 7, 0, 0, 24, 4, 9, 0, 2, 0, 0, 3, 0, 127, 7, 0, 2, 17, 0, 9, 4, 5, 3, 0, 127, 7, 0, 0, 1, 3, 0, 2, 2, 0, 5, 2, 12, 0, 2, 0, 0, 3, 0, 128, 3, 0, 127, 7, 0, 0, 12, 4, 8, 3, 0, 128, 3, 0, 127, 7, 0, 0, 1, 3, 0, 128, 7, 0]), (20, [9, 3, 10], [50, 1, 2, 1005, 1002, 1128, 3, 6, 0, 2, 1, 0, 0, -1, 2, 14, 0, 6, 4, 2, 1, 0, 0, 1, 3, 1, 2, 2, 1, 5, 0, 9, 4, 5, 3, 1, 128, 1, 0, 0, 1, 1, 2]), (20, [10], [50, 0, 0, 0, 2, 0, -1, 1, 0]), (20, [3, 4, 5, 9], [60, 0, 1, 796, 128]), (24, [0, 3], []), (24, [1, 4], []), (24, [2, 5], [])], [(10, 7, 0, 0)], [(1, 4, -4294967296, 0), (2, 5, -4294967296, 0), (4, 1, -4294967296, 0), (5, 2, -4294967296, 0)])
theorem oo_Mo_isUnder_4 {kA : Nat → ClassId} : or_ok PRD kA GG o_Mo_isUnder_4 := by
  refine or_mk fun A ta ws vs hD hth hl => ?_
  intro t0 r0 t1 k1 t2 k2 t3 r3 t4 k4 t5 k5 t6 k6 t7 k7 t8 r8 t9 k9 d0 d1 d2 d3 f0 f1 f2 f3 f4 f5 f6 f7 f8 f9
  replace f0 := shm_106 f0
  replace f1 := shm_588 f1
  replace f2 := shm_32 f2
  replace f3 := shm_40 f3
  replace f4 := shm_589 f4
  replace f5 := shm_592 f5
  replace f6 := shm_609 f6
  replace f7 := shm_5 f7
  replace f8 := shm_5 f8
  replace f9 := shm_5 f9
  have q3 : n_v vs 3 = n_v vs 0 := f7.symm
  have q4 : n_v vs 4 = n_v vs 1 := f8.symm
  have q5 : n_v vs 5 = n_v vs 2 := f9.symm
  simp only [q3, q5, q4] at f1 f3 f4 f5 f6
  have cr_0_2 := fdq_12 hD hth r0
  have cr_0_127 := fdq_153 hD hth r0
  have cr_0_128 := fdq_154 hD hth r0
  have ad_8 : v_ad (n_v vs 8) = w_ar ws (n_v vs 0) 127 := congrArg v_ad f1
  simp only [ad_8] at f0
  have h0 : v_iv (n_v vs 9) = w_ei ws (w_ar ws (n_v vs 0) 127) (v_iv (n_v vs 6)) := f0
  have hK_0_127 := elq_84 hD hth cr_0_127
  have hK_0_128 := elq_85 hD hth cr_0_128
  obtain ⟨x, ex, hx⟩ := iv_ex (ta := ta) (lo := (-2)) (hi := 60) (z := 0 + (1 * v_iv (n_v vs 7) + 0)) (by omega) (by omega) (by omega) (by omega)
  have ex2 : v_iv (Value.int x) = 0 + (1 * v_iv (n_v vs 7) + 0) := ex
  have ex3 : (-2) ≤ v_iv (Value.int x) ∧ v_iv (Value.int x) ≤ 60 := tv_rng hx
  have e_0 : n_v (vs ++ [Value.int x]) 0 = n_v vs 0 := n_v_old (by rw [hl]; decide)
  have e_1 : n_v (vs ++ [Value.int x]) 1 = n_v vs 1 := n_v_old (by rw [hl]; decide)
  have e_2 : n_v (vs ++ [Value.int x]) 2 = n_v vs 2 := n_v_old (by rw [hl]; decide)
  have e_3 : n_v (vs ++ [Value.int x]) 3 = n_v vs 3 := n_v_old (by rw [hl]; decide)
  have e_4 : n_v (vs ++ [Value.int x]) 4 = n_v vs 4 := n_v_old (by rw [hl]; decide)
  have e_5 : n_v (vs ++ [Value.int x]) 5 = n_v vs 5 := n_v_old (by rw [hl]; decide)
  have e_9 : n_v (vs ++ [Value.int x]) 9 = n_v vs 9 := n_v_old (by rw [hl]; decide)
  have e_10 : n_v (vs ++ [Value.int x]) 10 = Value.int x := n_v_new hl
  have nf0 : fc_1 PRD (20, [3], [50, 1, 3, 5, 2, 128, 127, 5, 2, 0, 24, 4, 14, 0, 6, 4, 2, 7, 0, 0, 1, 3, 0, 2, 2, 0, 5, 2, 9, 0, 2, 0, -1, 3, 0, 128, 7, 0, 2, 9, 0, 5, 3, 0, 128, 7, 0, 0, 24, 4, 9, 0, 2, 0, 0, 3, 0, 127, 7, 0, 2, 17, 0, 9, 4, 5, 3, 0, 127, 7, 0, 0, 1, 3, 0, 2, 2, 0, 5, 2, 12, 0, 2, 0, 0, 3, 0, 128, 3, 0, 127, 7, 0, 0, 12, 4, 8, 3, 0, 128, 3, 0, 127, 7, 0, 0, 1, 3, 0, 128, 7, 0]) ws (vs ++ [Value.int x]) := by
    refine ⟨nf_inA hl rfl, sgq_589 ?_⟩
    · show ∀ j0 : Int, 0 ≤ j0 → j0 < 24 → (((j0 + 1) ≤ w_ei ws (w_ar ws (n_v (vs ++ [Value.int x]) 3) 2) (w_fi ws (n_v (vs ++ [Value.int x]) 3) 5)) → (((-1) ≤ w_ei ws (w_ar ws (n_v (vs ++ [Value.int x]) 3) 128) (j0)) ∧ ((w_ei ws (w_ar ws (n_v (vs ++ [Value.int x]) 3) 128) (j0) ≤ 24) ∧ ((0 ≤ w_ei ws (w_ar ws (n_v (vs ++ [Value.int x]) 3) 127) (j0)) → (((w_ei ws (w_ar ws (n_v (vs ++ [Value.int x]) 3) 127) (j0) + 1) ≤ w_ei ws (w_ar ws (n_v (vs ++ [Value.int x]) 3) 2) (w_fi ws (n_v (vs ++ [Value.int x]) 3) 5)) ∧ ((0 ≤ w_ei ws (w_ar ws (n_v (vs ++ [Value.int x]) 3) 128) (w_ei ws (w_ar ws (n_v (vs ++ [Value.int x]) 3) 127) (j0))) ∧ ((w_ei ws (w_ar ws (n_v (vs ++ [Value.int x]) 3) 128) (w_ei ws (w_ar ws (n_v (vs ++ [Value.int x]) 3) 127) (j0)) + 1) ≤ w_ei ws (w_ar ws (n_v (vs ++ [Value.int x]) 3) 128) (j0))))))))
      simp only [e_3, q3]
      exact vc_Mo_isUnder_4_0 (v_iv (n_v vs 1)) (v_iv (n_v vs 2)) (v_iv (n_v vs 4)) (v_iv (n_v vs 5)) (v_iv (n_v vs 6)) (v_iv (n_v vs 7)) (v_iv (n_v vs 9)) (w_ei ws (w_ar ws (n_v vs 0) 127)) (w_ei ws (w_ar ws (n_v vs 0) 2)) (w_ei ws (w_ar ws (n_v vs 0) 128)) (w_fi ws (n_v vs 0) 5) (v_iv (Value.int x)) k1 k2 k4 k5 k6 k7 k9 d0 d1 d2 d3 h0 f2 f3 f4 f5 f6 hK_0_127 hK_0_128 ex2 ex3
  have nf1 : fc_1 PRD (20, [9, 3, 10], [50, 1, 2, 1005, 1002, 1128, 3, 6, 0, 2, 1, 0, 0, -1, 2, 14, 0, 6, 4, 2, 1, 0, 0, 1, 3, 1, 2, 2, 1, 5, 0, 9, 4, 5, 3, 1, 128, 1, 0, 0, 1, 1, 2]) ws (vs ++ [Value.int x]) := by
    refine ⟨nf_inA hl rfl, sgq_596 ?_⟩
    · show (v_iv (n_v (vs ++ [Value.int x]) 9) ≤ (-1)) ∨ (((v_iv (n_v (vs ++ [Value.int x]) 9) + 1) ≤ w_ei ws (w_ar ws (n_v (vs ++ [Value.int x]) 3) 2) (w_fi ws (n_v (vs ++ [Value.int x]) 3) 5)) ∧ ((w_ei ws (w_ar ws (n_v (vs ++ [Value.int x]) 3) 128) (v_iv (n_v (vs ++ [Value.int x]) 9)) + 1) ≤ v_iv (n_v (vs ++ [Value.int x]) 10)))
      simp only [e_3, e_9, e_10, q3]
      exact vc_Mo_isUnder_4_1 (v_iv (n_v vs 1)) (v_iv (n_v vs 2)) (v_iv (n_v vs 4)) (v_iv (n_v vs 5)) (v_iv (n_v vs 6)) (v_iv (n_v vs 7)) (v_iv (n_v vs 9)) (w_ei ws (w_ar ws (n_v vs 0) 127)) (w_ei ws (w_ar ws (n_v vs 0) 2)) (w_ei ws (w_ar ws (n_v vs 0) 128)) (w_fi ws (n_v vs 0) 5) (v_iv (Value.int x)) k1 k2 k4 k5 k6 k7 k9 d0 d1 d2 d3 h0 f2 f3 f4 f5 f6 hK_0_127 hK_0_128 ex2 ex3
  have nf2 : fc_1 PRD (20, [10], [50, 0, 0, 0, 2, 0, -1, 1, 0]) ws (vs ++ [Value.int x]) := by
    refine ⟨nf_inA hl rfl, sgq_597 ?_⟩
    · show (-1) ≤ v_iv (n_v (vs ++ [Value.int x]) 10)
      rw [e_10]
      exact vc_Mo_isUnder_4_2 (v_iv (n_v vs 1)) (v_iv (n_v vs 2)) (v_iv (n_v vs 4)) (v_iv (n_v vs 5)) (v_iv (n_v vs 6)) (v_iv (n_v vs 7)) (v_iv (n_v vs 9)) (w_ei ws (w_ar ws (n_v vs 0) 127)) (w_ei ws (w_ar ws (n_v vs 0) 2)) (w_ei ws (w_ar ws (n_v vs 0) 128)) (w_fi ws (n_v vs 0) 5) (v_iv (Value.int x)) k1 k2 k4 k5 k6 k7 k9 d0 d1 d2 d3 h0 f2 f3 f4 f5 f6 hK_0_127 hK_0_128 ex2 ex3
  have nf3 : fc_1 PRD (20, [3, 4, 5, 9], [60, 0, 1, 796, 128]) ws (vs ++ [Value.int x]) := by
    refine ⟨nf_inA hl rfl, sgq_609 ?_⟩
    · show UN1 (w_ei ws (w_ar ws (n_v (vs ++ [Value.int x]) 3) 128)) (v_iv (n_v (vs ++ [Value.int x]) 4)) (v_iv (n_v (vs ++ [Value.int x]) 5)) (v_iv (n_v (vs ++ [Value.int x]) 9))
      simp only [e_3, e_4, e_5, e_9, q3, q4, q5]
      exact vc_Mo_isUnder_4_3 (v_iv (n_v vs 1)) (v_iv (n_v vs 2)) (v_iv (n_v vs 4)) (v_iv (n_v vs 5)) (v_iv (n_v vs 6)) (v_iv (n_v vs 7)) (v_iv (n_v vs 9)) (w_ei ws (w_ar ws (n_v vs 0) 127)) (w_ei ws (w_ar ws (n_v vs 0) 2)) (w_ei ws (w_ar ws (n_v vs 0) 128)) (w_fi ws (n_v vs 0) 5) (v_iv (Value.int x)) k1 k2 k4 k5 k6 k7 k9 d0 d1 d2 d3 h0 f2 f3 f4 f5 f6 hK_0_127 hK_0_128 ex2 ex3
  have nf4 : fc_1 PRD (24, [0, 3], []) ws (vs ++ [Value.int x]) := by
    refine ⟨nf_inA hl rfl, sgq_5 ?_⟩
    · show n_v (vs ++ [Value.int x]) 0 = n_v (vs ++ [Value.int x]) 3
      first | rfl | simp only [e_0, e_3, q3, q4, q5]
  have nf5 : fc_1 PRD (24, [1, 4], []) ws (vs ++ [Value.int x]) := by
    refine ⟨nf_inA hl rfl, sgq_5 ?_⟩
    · show n_v (vs ++ [Value.int x]) 1 = n_v (vs ++ [Value.int x]) 4
      first | rfl | simp only [e_1, e_4, q3, q4, q5]
  have nf6 : fc_1 PRD (24, [2, 5], []) ws (vs ++ [Value.int x]) := by
    refine ⟨nf_inA hl rfl, sgq_5 ?_⟩
    · show n_v (vs ++ [Value.int x]) 2 = n_v (vs ++ [Value.int x]) 5
      first | rfl | simp only [e_2, e_5, q3, q4, q5]
  obtain ⟨x0, e0, _, _⟩ := tv_int t7 rfl
  have e1 : v_iv (n_v vs 7) = x0.toInt := by rw [e0]; rfl
  have ho : sy_ofs (vs ++ [Value.int x]) (10, 7, 0, 0) := by
    refine ⟨x, x0, by rw [List.getElem?_append_right (by rw [hl]; decide), hl]; rfl, ?_, ?_, ?_⟩
    · rw [List.getElem?_append_left (by rw [hl]; decide)]; exact n_v_some (by rw [hl]; decide) e0
    · show x0.toInt + 0 ≤ x.toInt; omega
    · show x.toInt ≤ x0.toInt + 0; omega
  exact ⟨(fun _ h => (by cases h)), [Value.int x], ag_one hx, List.forall_mem_cons.mpr ⟨⟨show (20 : Nat) < 100 from by decide, nf0⟩, List.forall_mem_cons.mpr ⟨⟨show (20 : Nat) < 100 from by decide, nf1⟩, List.forall_mem_cons.mpr ⟨⟨show (20 : Nat) < 100 from by decide, nf2⟩, List.forall_mem_cons.mpr ⟨⟨show (20 : Nat) < 100 from by decide, nf3⟩, List.forall_mem_cons.mpr ⟨⟨show (24 : Nat) < 100 from by decide, nf4⟩, List.forall_mem_cons.mpr ⟨⟨show (24 : Nat) < 100 from by decide, nf5⟩, List.forall_mem_cons.mpr ⟨⟨show (24 : Nat) < 100 from by decide, nf6⟩, (fun _ h => (by cases h))⟩⟩⟩⟩⟩⟩⟩, List.forall_mem_cons.mpr ⟨ho, (fun _ h => (by cases h))⟩⟩
set_option maxHeartbeats 4000000 in
theorem vc_Mo_isUnder_5_0 (x1 : Int) (x2 : Int) (x4 : Int) (x5 : Int) (x6 : Int) (x7 : Int) (all_0 : Int → Int) (level_0 : Int → Int) (above_0 : Int → Int) (r_0 : Int) (gx : Int) (k1 : 0 ≤ x1 ∧ x1 ≤ 23) (k2 : 0 ≤ x2 ∧ x2 ≤ 23) (k4 : 0 ≤ x4 ∧ x4 ≤ 23) (k5 : 0 ≤ x5 ∧ x5 ≤ 23) (k6 : (-1) ≤ x6 ∧ x6 ≤ 23) (k7 : (-2) ≤ x7 ∧ x7 ≤ 60) (d0 : x4 + (-4294967296) ≤ x1 ∧ x1 ≤ x4 + 0) (d1 : x5 + (-4294967296) ≤ x2 ∧ x2 ≤ x5 + 0) (d2 : x1 + (-4294967296) ≤ x4 ∧ x4 ≤ x1 + 0) (d3 : x2 + (-4294967296) ≤ x5 ∧ x5 ≤ x2 + 0) (f0 : ∀ j0 : Int, 0 ≤ j0 → j0 < 24 → (((j0 + 1) ≤ all_0 (r_0)) → (((-1) ≤ level_0 (j0)) ∧ ((level_0 (j0) ≤ 24) ∧ ((0 ≤ above_0 (j0)) → (((above_0 (j0) + 1) ≤ all_0 (r_0)) ∧ ((0 ≤ level_0 (above_0 (j0))) ∧ ((level_0 (above_0 (j0)) + 1) ≤ level_0 (j0))))))))) (f1 : (x6 ≤ (-1)) ∨ (((x6 + 1) ≤ all_0 (r_0)) ∧ ((level_0 (x6) + 1) ≤ x7))) (f2 : (-1) ≤ x7) (f3 : UN1 (level_0) (x1) (x2) (x6)) (hK_0_127 : ∀ j : Int, 0 ≤ j → j < 26 → (-1) ≤ above_0 j ∧ above_0 j ≤ 23) (hK_0_128 : ∀ j : Int, 0 ≤ j → j < 26 → (-23) ≤ level_0 j ∧ level_0 j ≤ 24) (ex2 : gx = (-1) + (1 * x7 + 0)) (ex3 : (-2) ≤ gx ∧ gx ≤ 60) : ∀ j0 : Int, 0 ≤ j0 → j0 < 24 → (((j0 + 1) ≤ all_0 (r_0)) → (((-1) ≤ level_0 (j0)) ∧ ((level_0 (j0) ≤ 24) ∧ ((0 ≤ above_0 (j0)) → (((above_0 (j0) + 1) ≤ all_0 (r_0)) ∧ ((0 ≤ level_0 (above_0 (j0))) ∧ ((level_0 (above_0 (j0)) + 1) ≤ level_0 (j0)))))))) := by
  try simp only [Int.add_zero] at *
  first
    | omega
    | (have q := hK_0_128 x1 (by omega) (by omega); right; exact ⟨by omega, by omega⟩)
    | (have q := hK_0_128 x6 (by omega) (by omega); have g := f4 x6 (by omega) (by omega) (by omega); omega)
    | (have g := f4 x6 (by omega) (by omega) (by omega)
       have e : x9 = above_0 x6 := by assumption
       by_cases w : 0 ≤ x9
       · right
         have g2 := g.2.2 (by omega)
         rw [← e] at g2
         omega
       · left; omega)
  
set_option maxHeartbeats 4000000 in
theorem vc_Mo_isUnder_5_1 (x1 : Int) (x2 : Int) (x4 : Int) (x5 : Int) (x6 : Int) (x7 : Int) (all_0 : Int → Int) (level_0 : Int → Int) (above_0 : Int → Int) (r_0 : Int) (gx : Int) (k1 : 0 ≤ x1 ∧ x1 ≤ 23) (k2 : 0 ≤ x2 ∧ x2 ≤ 23) (k4 : 0 ≤ x4 ∧ x4 ≤ 23) (k5 : 0 ≤ x5 ∧ x5 ≤ 23) (k6 : (-1) ≤ x6 ∧ x6 ≤ 23) (k7 : (-2) ≤ x7 ∧ x7 ≤ 60) (d0 : x4 + (-4294967296) ≤ x1 ∧ x1 ≤ x4 + 0) (d1 : x5 + (-4294967296) ≤ x2 ∧ x2 ≤ x5 + 0) (d2 : x1 + (-4294967296) ≤ x4 ∧ x4 ≤ x1 + 0) (d3 : x2 + (-4294967296) ≤ x5 ∧ x5 ≤ x2 + 0) (f0 : ∀ j0 : Int, 0 ≤ j0 → j0 < 24 → (((j0 + 1) ≤ all_0 (r_0)) → (((-1) ≤ level_0 (j0)) ∧ ((level_0 (j0) ≤ 24) ∧ ((0 ≤ above_0 (j0)) → (((above_0 (j0) + 1) ≤ all_0 (r_0)) ∧ ((0 ≤ level_0 (above_0 (j0))) ∧ ((level_0 (above_0 (j0)) + 1) ≤ level_0 (j0))))))))) (f1 : (x6 ≤ (-1)) ∨ (((x6 + 1) ≤ all_0 (r_0)) ∧ ((level_0 (x6) + 1) ≤ x7))) (f2 : (-1) ≤ x7) (f3 : UN1 (level_0) (x1) (x2) (x6)) (hK_0_127 : ∀ j : Int, 0 ≤ j → j < 26 → (-1) ≤ above_0 j ∧ above_0 j ≤ 23) (hK_0_128 : ∀ j : Int, 0 ≤ j → j < 26 → (-23) ≤ level_0 j ∧ level_0 j ≤ 24) (ex2 : gx = (-1) + (1 * x7 + 0)) (ex3 : (-2) ≤ gx ∧ gx ≤ 60) : (x6 ≤ (-1)) ∨ (((x6 + 1) ≤ all_0 (r_0)) ∧ ((level_0 (x6) + 0) ≤ gx)) := by
  try simp only [Int.add_zero] at *
  first
    | omega
    | (have q := hK_0_128 x1 (by omega) (by omega); right; exact ⟨by omega, by omega⟩)
    | (have q := hK_0_128 x6 (by omega) (by omega); have g := f4 x6 (by omega) (by omega) (by omega); omega)
    | (have g := f4 x6 (by omega) (by omega) (by omega)
       have e : x9 = above_0 x6 := by assumption
       by_cases w : 0 ≤ x9
       · right
         have g2 := g.2.2 (by omega)
         rw [← e] at g2
         omega
       · left; omega)
  
set_option maxHeartbeats 4000000 in
theorem vc_Mo_isUnder_5_2 (x1 : Int) (x2 : Int) (x4 : Int) (x5 : Int) (x6 : Int) (x7 : Int) (all_0 : Int → Int) (level_0 : Int → Int) (above_0 : Int → Int) (r_0 : Int) (gx : Int) (k1 : 0 ≤ x1 ∧ x1 ≤ 23) (k2 : 0 ≤ x2 ∧ x2 ≤ 23) (k4 : 0 ≤ x4 ∧ x4 ≤ 23) (k5 : 0 ≤ x5 ∧ x5 ≤ 23) (k6 : (-1) ≤ x6 ∧ x6 ≤ 23) (k7 : (-2) ≤ x7 ∧ x7 ≤ 60) (d0 : x4 + (-4294967296) ≤ x1 ∧ x1 ≤ x4 + 0) (d1 : x5 + (-4294967296) ≤ x2 ∧ x2 ≤ x5 + 0) (d2 : x1 + (-4294967296) ≤ x4 ∧ x4 ≤ x1 + 0) (d3 : x2 + (-4294967296) ≤ x5 ∧ x5 ≤ x2 + 0) (f0 : ∀ j0 : Int, 0 ≤ j0 → j0 < 24 → (((j0 + 1) ≤ all_0 (r_0)) → (((-1) ≤ level_0 (j0)) ∧ ((level_0 (j0) ≤ 24) ∧ ((0 ≤ above_0 (j0)) → (((above_0 (j0) + 1) ≤ all_0 (r_0)) ∧ ((0 ≤ level_0 (above_0 (j0))) ∧ ((level_0 (above_0 (j0)) + 1) ≤ level_0 (j0))))))))) (f1 : (x6 ≤ (-1)) ∨ (((x6 + 1) ≤ all_0 (r_0)) ∧ ((level_0 (x6) + 1) ≤ x7))) (f2 : (-1) ≤ x7) (f3 : UN1 (level_0) (x1) (x2) (x6)) (hK_0_127 : ∀ j : Int, 0 ≤ j → j < 26 → (-1) ≤ above_0 j ∧ above_0 j ≤ 23) (hK_0_128 : ∀ j : Int, 0 ≤ j → j < 26 → (-23) ≤ level_0 j ∧ level_0 j ≤ 24) (ex2 : gx = (-1) + (1 * x7 + 0)) (ex3 : (-2) ≤ gx ∧ gx ≤ 60) : UN1 (level_0) (x1) (x2) (x6) := by
  first
    | assumption
    | exact ⟨fun e => by omega, Or.inl (by omega)⟩
    | (have h := ‹UN1 _ _ _ _›
       have g := f4 x6 (by omega) (by omega) (by omega)
       have e : x9 = above_0 x6 := by assumption
       refine ⟨fun q => by have := h.1 q; omega, ?_⟩
       by_cases w : 0 ≤ x9
       · right; right
         have g2 := (g.2.2 (by omega)).2.2
         rw [← e] at g2
         rcases h.2 with q | q | q
         · rw [q] at g2; omega
         · omega
         · omega
       · right; left; omega)
  
def o_Mo_isUnder_5 : or_T := (2, 8, [(0, (2, 0, 0, [165])), (1, (0, 0, 23, [])), (2, (0, 0, 23, [])), (3, (2, 0, 0, [165])), (4, (0, 0, 23, [])), (5, (0, 0, 23, [])), (6, (0, -1, 23, [])), (7, (0, -2, 60, []))], [(20, [3], [50, 1, 3, 5, 2, 128, 127, 5, 2, 0, 24, 4, 14, 0, 6, 4, 2, 7, 0, 0, 1, 3, 0, 2, 2, 0, 5, 2, 9, 0, 2, 0, -1, 3, 0, 128, 7, 0, 2, 9, 0, 5, 3, 0, 128, 7, 0, 0, 24, 4, 9, 0, 2, 0, 0, 3, 0, 127, 7, 0, 2, 17, 0, 9, 4, 5, 3, 0, 127, 7, 0, 0, 1, 3, 0, 2, 2, 0, 5, 2, 12, 0, 2, 0, 0, 3, 0, 128, 3, 0, 127, 7, 0, 0, 12, 4, 8, 3, 0, 128, 3, 0, 127, 7, 0, 0, 1, 3, 0, 128, 7, 0]), (20, [6, 3, 7], [50, 1, 2, 1005, 1002, 1128, 3, 6, 0, 2, 1, 0, 0, -1, 2, 14, 0, 6, 4, 2, 1, 0, 0, 1, 3, 1, 2, 2, 1, 5, 0, 9, 4, 5, 3, 1, 128, 1, 0, 0, 1, 1, 2]), (20, [7], [50, 0, 0, 0, 2, 0, -1, 1, 0]), (20, [3, 4, 5, 6], [60, 0, 1, 796, 128]), (24, [0, 3], []), (24, [1, 4], []), (24, [2, 5], [])], [], [(0, -2, 60, [])], [(20, [3], [50, 1, 3, 5, 2, 128, 127, 5, 2, 0, 24, 4, 14, 0, 6, 4, 2, 7, 0, 0, 1, 3, 0, 2, 2, 0, 5, 2, 9, 0, 2, 0, -1, 3, 0, 128, 7, 0, 2, 9, 0, 5, 3, 0, 128, 7, 0, 0, 24, 4, 9, 0, 2, 0, 0, 3, 0, 127, 7, 0, 2, 17, 0, 9, 4, 5, 3, 0, 127, 7, 0, 0, 1, 3, 0, 2, 2, 0, 5, 2, 12, 0, 2, 0, 0, 3, 0, 128, 3, 0, 127, 7, 0, 0, 12, 4, 8, 3, 0, 128, 3, 0, 127, 7, 0, 0, 1, 3, 0, 128, 7, 0]), (20, [6, 3, 8], [50, 1, 2, 1005, 1002, 1128, 3, 6, 0, 2, 1, 0, 0, -1, 2, 14, 0, 6, 4, 2, 1, 0, 0, 1, 3, 1, 2, 2, 1, 5, 0, 9, 4, 5, 3, 1, 128, 1, 0, 0, 0, 1, 2]), (20, [3, 4, 5, 6], [60, 0, 1, 796, 128]), (24, [0, 3], []), (24, [1, 4], []), (24, [2, 5], [])], [(8, 7, -1000000000000, -1)], [(1, 4, -4294967296, 0), (2, 5, -4294967296, 0), (4, 1, -4294967296, 0), (5, 2, -4294967296, 0)])
theorem oo_Mo_isUnder_5 {kA : Nat → ClassId} : or_ok PRD kA GG o_Mo_isUnder_5 := by
  refine or_mk fun A ta ws vs hD hth hl => ?_
  intro t0 r0 t1 k1 t2 k2 t3 r3 t4 k4 t5 k5 t6 k6 t7 k7 d0 d1 d2 d3 f0 f1 f2 f3 f4 f5 f6
  replace f0 := shm_589 f0
  replace f1 := shm_596 f1
  replace f2 := shm_597 f2
  replace f3 := shm_609 f3
  replace f4 := shm_5 f4
  replace f5 := shm_5 f5
  replace f6 := shm_5 f6
  have q3 : n_v vs 3 = n_v vs 0 := f4.symm
  have q4 : n_v vs 4 = n_v vs 1 := f5.symm
  have q5 : n_v vs 5 = n_v vs 2 := f6.symm
  simp only [q3, q4, q5] at f0 f1 f3
  have cr_0_2 := fdq_12 hD hth r0
  have cr_0_127 := fdq_153 hD hth r0
  have cr_0_128 := fdq_154 hD hth r0
  have hK_0_127 := elq_84 hD hth cr_0_127
  have hK_0_128 := elq_85 hD hth cr_0_128
  obtain ⟨x, ex, hx⟩ := iv_ex (ta := ta) (lo := (-2)) (hi := 60) (z := (-1) + (1 * v_iv (n_v vs 7) + 0)) (by omega) (by omega) (by omega) (by omega)
  have ex2 : v_iv (Value.int x) = (-1) + (1 * v_iv (n_v vs 7) + 0) := ex
  have ex3 : (-2) ≤ v_iv (Value.int x) ∧ v_iv (Value.int x) ≤ 60 := tv_rng hx
  have e_0 : n_v (vs ++ [Value.int x]) 0 = n_v vs 0 := n_v_old (by rw [hl]; decide)
  have e_1 : n_v (vs ++ [Value.int x]) 1 = n_v vs 1 := n_v_old (by rw [hl]; decide)
  have e_2 : n_v (vs ++ [Value.int x]) 2 = n_v vs 2 := n_v_old (by rw [hl]; decide)
  have e_3 : n_v (vs ++ [Value.int x]) 3 = n_v vs 3 := n_v_old (by rw [hl]; decide)
  have e_4 : n_v (vs ++ [Value.int x]) 4 = n_v vs 4 := n_v_old (by rw [hl]; decide)
  have e_5 : n_v (vs ++ [Value.int x]) 5 = n_v vs 5 := n_v_old (by rw [hl]; decide)
  have e_6 : n_v (vs ++ [Value.int x]) 6 = n_v vs 6 := n_v_old (by rw [hl]; decide)
  have e_8 : n_v (vs ++ [Value.int x]) 8 = Value.int x := n_v_new hl
  have nf0 : fc_1 PRD (20, [3], [50, 1, 3, 5, 2, 128, 127, 5, 2, 0, 24, 4, 14, 0, 6, 4, 2, 7, 0, 0, 1, 3, 0, 2, 2, 0, 5, 2, 9, 0, 2, 0, -1, 3, 0, 128, 7, 0, 2, 9, 0, 5, 3, 0, 128, 7, 0, 0, 24, 4, 9, 0, 2, 0, 0, 3, 0, 127, 7, 0, 2, 17, 0, 9, 4, 5, 3, 0, 127, 7, 0, 0, 1, 3, 0, 2, 2, 0, 5, 2, 12, 0, 2, 0, 0, 3, 0, 128, 3, 0, 127, 7, 0, 0, 12, 4, 8, 3, 0, 128, 3, 0, 127, 7, 0, 0, 1, 3, 0, 128, 7, 0]) ws (vs ++ [Value.int x]) := by
    refine ⟨nf_inA hl rfl, sgq_589 ?_⟩
    · show ∀ j0 : Int, 0 ≤ j0 → j0 < 24 → (((j0 + 1) ≤ w_ei ws (w_ar ws (n_v (vs ++ [Value.int x]) 3) 2) (w_fi ws (n_v (vs ++ [Value.int x]) 3) 5)) → (((-1) ≤ w_ei ws (w_ar ws (n_v (vs ++ [Value.int x]) 3) 128) (j0)) ∧ ((w_ei ws (w_ar ws (n_v (vs ++ [Value.int x]) 3) 128) (j0) ≤ 24) ∧ ((0 ≤ w_ei ws (w_ar ws (n_v (vs ++ [Value.int x]) 3) 127) (j0)) → (((w_ei ws (w_ar ws (n_v (vs ++ [Value.int x]) 3) 127) (j0) + 1) ≤ w_ei ws (w_ar ws (n_v (vs ++ [Value.int x]) 3) 2) (w_fi ws (n_v (vs ++ [Value.int x]) 3) 5)) ∧ ((0 ≤ w_ei ws (w_ar ws (n_v (vs ++ [Value.int x]) 3) 128) (w_ei ws (w_ar ws (n_v (vs ++ [Value.int x]) 3) 127) (j0))) ∧ ((w_ei ws (w_ar ws (n_v (vs ++ [Value.int x]) 3) 128) (w_ei ws (w_ar ws (n_v (vs ++ [Value.int x]) 3) 127) (j0)) + 1) ≤ w_ei ws (w_ar ws (n_v (vs ++ [Value.int x]) 3) 128) (j0))))))))
      simp only [e_3, q3]
      exact vc_Mo_isUnder_5_0 (v_iv (n_v vs 1)) (v_iv (n_v vs 2)) (v_iv (n_v vs 4)) (v_iv (n_v vs 5)) (v_iv (n_v vs 6)) (v_iv (n_v vs 7)) (w_ei ws (w_ar ws (n_v vs 0) 2)) (w_ei ws (w_ar ws (n_v vs 0) 128)) (w_ei ws (w_ar ws (n_v vs 0) 127)) (w_fi ws (n_v vs 0) 5) (v_iv (Value.int x)) k1 k2 k4 k5 k6 k7 d0 d1 d2 d3 f0 f1 f2 f3 hK_0_127 hK_0_128 ex2 ex3
  have nf1 : fc_1 PRD (20, [6, 3, 8], [50, 1, 2, 1005, 1002, 1128, 3, 6, 0, 2, 1, 0, 0, -1, 2, 14, 0, 6, 4, 2, 1, 0, 0, 1, 3, 1, 2, 2, 1, 5, 0, 9, 4, 5, 3, 1, 128, 1, 0, 0, 0, 1, 2]) ws (vs ++ [Value.int x]) := by
    refine ⟨nf_inA hl rfl, sgq_592 ?_⟩
    · show (v_iv (n_v (vs ++ [Value.int x]) 6) ≤ (-1)) ∨ (((v_iv (n_v (vs ++ [Value.int x]) 6) + 1) ≤ w_ei ws (w_ar ws (n_v (vs ++ [Value.int x]) 3) 2) (w_fi ws (n_v (vs ++ [Value.int x]) 3) 5)) ∧ ((w_ei ws (w_ar ws (n_v (vs ++ [Value.int x]) 3) 128) (v_iv (n_v (vs ++ [Value.int x]) 6)) + 0) ≤ v_iv (n_v (vs ++ [Value.int x]) 8)))
      simp only [e_3, e_6, e_8, q3]
      exact vc_Mo_isUnder_5_1 (v_iv (n_v vs 1)) (v_iv (n_v vs 2)) (v_iv (n_v vs 4)) (v_iv (n_v vs 5)) (v_iv (n_v vs 6)) (v_iv (n_v vs 7)) (w_ei ws (w_ar ws (n_v vs 0) 2)) (w_ei ws (w_ar ws (n_v vs 0) 128)) (w_ei ws (w_ar ws (n_v vs 0) 127)) (w_fi ws (n_v vs 0) 5) (v_iv (Value.int x)) k1 k2 k4 k5 k6 k7 d0 d1 d2 d3 f0 f1 f2 f3 hK_0_127 hK_0_128 ex2 ex3
  have nf2 : fc_1 PRD (20, [3, 4, 5, 6], [60, 0, 1, 796, 128]) ws (vs ++ [Value.int x]) := by
    refine ⟨nf_inA hl rfl, sgq_609 ?_⟩
    · show UN1 (w_ei ws (w_ar ws (n_v (vs ++ [Value.int x]) 3) 128)) (v_iv (n_v (vs ++ [Value.int x]) 4)) (v_iv (n_v (vs ++ [Value.int x]) 5)) (v_iv (n_v (vs ++ [Value.int x]) 6))
      simp only [e_3, e_4, e_5, e_6, q3, q4, q5]
      exact vc_Mo_isUnder_5_2 (v_iv (n_v vs 1)) (v_iv (n_v vs 2)) (v_iv (n_v vs 4)) (v_iv (n_v vs 5)) (v_iv (n_v vs 6)) (v_iv (n_v vs 7)) (w_ei ws (w_ar ws (n_v vs 0) 2)) (w_ei ws (w_ar ws (n_v vs 0) 128)) (w_ei ws (w_ar ws (n_v vs 0) 127)) (w_fi ws (n_v vs 0) 5) (v_iv (Value.int x)) k1 k2 k4 k5 k6 k7 d0 d1 d2 d3 f0 f1 f2 f3 hK_0_127 hK_0_128 ex2 ex3
  have nf3 : fc_1 PRD (24, [0, 3], []) ws (vs ++ [Value.int x]) := by
    refine ⟨nf_inA hl rfl, sgq_5 ?_⟩
    · show n_v (vs ++ [Value.int x]) 0 = n_v (vs ++ [Value.int x]) 3
      first | rfl | simp only [e_0, e_3, q3, q4, q5]
  have nf4 : fc_1 PRD (24, [1, 4], []) ws (vs ++ [Value.int x]) := by
    refine ⟨nf_inA hl rfl, sgq_5 ?_⟩
    · show n_v (vs ++ [Value.int x]) 1 = n_v (vs ++ [Value.int x]) 4
      first | rfl | simp only [e_1, e_4, q3, q4, q5]
  have nf5 : fc_1 PRD (24, [2, 5], []) ws (vs ++ [Value.int x]) := by
    refine ⟨nf_inA hl rfl, sgq_5 ?_⟩
    · show n_v (vs ++ [Value.int x]) 2 = n_v (vs ++ [Value.int x]) 5
      first | rfl | simp only [e_2, e_5, q3, q4, q5]
  obtain ⟨x0, e0, _, _⟩ := tv_int t7 rfl
  have e1 : v_iv (n_v vs 7) = x0.toInt := by rw [e0]; rfl
  have ho : sy_ofs (vs ++ [Value.int x]) (8, 7, -1000000000000, -1) := by
    refine ⟨x, x0, by rw [List.getElem?_append_right (by rw [hl]; decide), hl]; rfl, ?_, ?_, ?_⟩
    · rw [List.getElem?_append_left (by rw [hl]; decide)]; exact n_v_some (by rw [hl]; decide) e0
    · show x0.toInt + (-1000000000000) ≤ x.toInt; omega
    · show x.toInt ≤ x0.toInt + (-1); omega
  exact ⟨(fun _ h => (by cases h)), [Value.int x], ag_one hx, List.forall_mem_cons.mpr ⟨⟨show (20 : Nat) < 100 from by decide, nf0⟩, List.forall_mem_cons.mpr ⟨⟨show (20 : Nat) < 100 from by decide, nf1⟩, List.forall_mem_cons.mpr ⟨⟨show (20 : Nat) < 100 from by decide, nf2⟩, List.forall_mem_cons.mpr ⟨⟨show (24 : Nat) < 100 from by decide, nf3⟩, List.forall_mem_cons.mpr ⟨⟨show (24 : Nat) < 100 from by decide, nf4⟩, List.forall_mem_cons.mpr ⟨⟨show (24 : Nat) < 100 from by decide, nf5⟩, (fun _ h => (by cases h))⟩⟩⟩⟩⟩⟩, List.forall_mem_cons.mpr ⟨ho, (fun _ h => (by cases h))⟩⟩
def n_Mo_isUnder_an : List an_T := [(2, [(0, (2, 0, 0, [165])), (1, (0, 0, 23, [])), (2, (0, 0, 23, [])), (3, (0, (Int.negSucc 0), 23, []))], [], (0, 0), [(0, 0, 99998), (2, 7, (Int.negSucc 1)), (0, 0, 100000)], [(1, 4, (Int.negSucc 999999999999), 0), (2, 5, (Int.negSucc 999999999999), 0), (4, 1, (Int.negSucc 999999999999), 0), (5, 2, (Int.negSucc 999999999999), 0)], [], [(2, 0, 0, [165]), (0, 0, 23, []), (0, 0, 23, [])], 0, [(0, (Int.negSucc 1), 60, [])], [(20, [3], [50, 1, 3, 5, 2, 128, 127, 5, 2, 0, 24, 4, 14, 0, 6, 4, 2, 7, 0, 0, 1, 3, 0, 2, 2, 0, 5, 2, 9, 0, 2, 0, (Int.negSucc 0), 3, 0, 128, 7, 0, 2, 9, 0, 5, 3, 0, 128, 7, 0, 0, 24, 4, 9, 0, 2, 0, 0, 3, 0, 127, 7, 0, 2, 17, 0, 9, 4, 5, 3, 0, 127, 7, 0, 0, 1, 3, 0, 2, 2, 0, 5, 2, 12, 0, 2, 0, 0, 3, 0, 128, 3, 0, 127, 7, 0, 0, 12, 4, 8, 3, 0, 128, 3, 0, 127, 7, 0, 0, 1, 3, 0, 128, 7, 0]), (20, [6, 3, 7], [50, 1, 2, 1005, 1002, 1128, 3, 6, 0, 2, 1, 0, 0, (Int.negSucc 0), 2, 14, 0, 6, 4, 2, 1, 0, 0, 1, 3, 1, 2, 2, 1, 5, 0, 9, 4, 5, 3, 1, 128, 1, 0, 0, 0, 1, 2]), (20, [3, 4, 5, 6], [60, 0, 1, 796, 128]), (24, [0, 3], []), (24, [1, 4], []), (24, [2, 5], [])]), (18, [(0, (2, 0, 0, [165])), (1, (0, 0, 23, [])), (2, (0, 0, 23, [])), (3, (0, (Int.negSucc 0), 23, []))], [], (0, 0), [(0, 0, 99998), (2, 7, (Int.negSucc 1)), (0, 0, 99982)], [(1, 4, (Int.negSucc 999999999999), 0), (2, 5, (Int.negSucc 999999999999), 0), (4, 1, (Int.negSucc 999999999999), 0), (5, 2, (Int.negSucc 999999999999), 0)], [], [(2, 0, 0, [165]), (0, 0, 23, []), (0, 0, 23, [])], 0, [(0, (Int.negSucc 1), 60, [])], [(20, [3], [50, 1, 3, 5, 2, 128, 127, 5, 2, 0, 24, 4, 14, 0, 6, 4, 2, 7, 0, 0, 1, 3, 0, 2, 2, 0, 5, 2, 9, 0, 2, 0, (Int.negSucc 0), 3, 0, 128, 7, 0, 2, 9, 0, 5, 3, 0, 128, 7, 0, 0, 24, 4, 9, 0, 2, 0, 0, 3, 0, 127, 7, 0, 2, 17, 0, 9, 4, 5, 3, 0, 127, 7, 0, 0, 1, 3, 0, 2, 2, 0, 5, 2, 12, 0, 2, 0, 0, 3, 0, 128, 3, 0, 127, 7, 0, 0, 12, 4, 8, 3, 0, 128, 3, 0, 127, 7, 0, 0, 1, 3, 0, 128, 7, 0]), (20, [6, 3, 7], [50, 1, 2, 1005, 1002, 1128, 3, 6, 0, 2, 1, 0, 0, (Int.negSucc 0), 2, 14, 0, 6, 4, 2, 1, 0, 0, 1, 3, 1, 2, 2, 1, 5, 0, 9, 4, 5, 3, 1, 128, 1, 0, 0, 1, 1, 2]), (20, [7], [50, 0, 0, 0, 2, 0, (Int.negSucc 0), 1, 0]), (20, [3, 4, 5, 6], [60, 0, 1, 796, 128]), (24, [0, 3], []), (24, [1, 4], []), (24, [2, 5], [])])]
def t_Mo_isUnder_ct : ct_L := []
set_option maxRecDepth 100000 in
theorem c_Mo_isUnder {l : Launch} {D : va_G} {kA : Nat → ClassId} : ct_ok PRD l D kA GG y_Mo_isUnder z_Mo_isUnder e_Mo_isUnder := chk_all_ok (FT := [(290, 13, 127)]) (PT := []) (CT := t_Mo_isUnder_ct) (KT := []) (NT := []) (AN := n_Mo_isUnder_an) (OT := [o_Mo_isUnder_0, o_Mo_isUnder_1, o_Mo_isUnder_2, o_Mo_isUnder_3, o_Mo_isUnder_4, o_Mo_isUnder_5]) 3 200 (List.forall_mem_cons.mpr ⟨oo_Mo_isUnder_0, List.forall_mem_cons.mpr ⟨oo_Mo_isUnder_1, List.forall_mem_cons.mpr ⟨oo_Mo_isUnder_2, List.forall_mem_cons.mpr ⟨oo_Mo_isUnder_3, List.forall_mem_cons.mpr ⟨oo_Mo_isUnder_4, List.forall_mem_cons.mpr ⟨oo_Mo_isUnder_5, List.forall_mem_nil _⟩⟩⟩⟩⟩⟩) (by decide +kernel) ⟨List.forall_mem_cons.mpr ⟨gf_Mo_290, List.forall_mem_nil _⟩, List.forall_mem_nil _, List.forall_mem_nil _, List.forall_mem_nil _, List.forall_mem_nil _, GG_pl⟩ (by decide +kernel)
set_option maxHeartbeats 4000000 in
theorem vc_Mo_isWithin_0_0 (x1 : Int) (x2 : Int) (gx : Int) (k1 : (-1) ≤ x1 ∧ x1 ≤ 7) (k2 : (-1) ≤ x2 ∧ x2 ≤ 7) (ex2 : gx = 8) (ex3 : (-1) ≤ gx ∧ gx ≤ 8) : 1 * x1 + ((-1) * gx + 0) ≤ 0 := by
  first
    | omega
  
set_option maxHeartbeats 4000000 in
theorem vc_Mo_isWithin_0_1 (x1 : Int) (x2 : Int) (gx : Int) (all_0 : Int → Int) (r_0 : Int) (k1 : (-1) ≤ x1 ∧ x1 ≤ 7) (k2 : (-1) ≤ x2 ∧ x2 ≤ 7) (ex2 : gx = 8) (ex3 : (-1) ≤ gx ∧ gx ≤ 8) : WI1 (r_0) (all_0) (x1) (x2) (x1) := by
  first
    | exact wi1_start rfl
    | assumption
    | exact wi1_step (x := x6) (p := x12) ‹WI1 _ _ _ _ _› (by omega) (by omega) (by omega) (by assumption)
  
def o_Mo_isWithin_0 : or_T := (2, 3, [(1, (0, -1, 7, [])), (2, (0, -1, 7, []))], [], [], [(0, -1, 8, [])], [(23, [1, 3], [0, 1, -1]), (20, [0, 1, 2, 1], [60, 1, 1, 778, 5, 2]), (24, [0, 0], []), (24, [1, 1], []), (24, [2, 2], [])], [], [])
theorem oo_Mo_isWithin_0 {kA : Nat → ClassId} : or_ok PRD kA GG o_Mo_isWithin_0 := by
  refine or_mk fun A ta ws vs hD hth hl => ?_
  intro t1 k1 t2 k2
  obtain ⟨x, ex, hx⟩ := iv_ex (ta := ta) (lo := (-1)) (hi := 8) (z := 8) (by omega) (by omega) (by omega) (by omega)
  have ex2 : v_iv (Value.int x) = 8 := ex
  have ex3 : (-1) ≤ v_iv (Value.int x) ∧ v_iv (Value.int x) ≤ 8 := tv_rng hx
  have e_0 : n_v (vs ++ [Value.int x]) 0 = n_v vs 0 := n_v_old (by rw [hl]; decide)
  have e_1 : n_v (vs ++ [Value.int x]) 1 = n_v vs 1 := n_v_old (by rw [hl]; decide)
  have e_2 : n_v (vs ++ [Value.int x]) 2 = n_v vs 2 := n_v_old (by rw [hl]; decide)
  have e_3 : n_v (vs ++ [Value.int x]) 3 = Value.int x := n_v_new hl
  have nf0 : fc_1 PRD (23, [1, 3], [0, 1, -1]) ws (vs ++ [Value.int x]) := by
    refine ⟨nf_inA hl rfl, sgq_7 ?_⟩
    · show 1 * v_iv (n_v (vs ++ [Value.int x]) 1) + ((-1) * v_iv (n_v (vs ++ [Value.int x]) 3) + 0) ≤ 0
      simp only [e_1, e_3]
      exact vc_Mo_isWithin_0_0 (v_iv (n_v vs 1)) (v_iv (n_v vs 2)) (v_iv (Value.int x)) k1 k2 ex2 ex3
  have nf1 : fc_1 PRD (20, [0, 1, 2, 1], [60, 1, 1, 778, 5, 2]) ws (vs ++ [Value.int x]) := by
    refine ⟨nf_inA hl rfl, sgq_611 ?_⟩
    · show WI1 (w_fi ws (n_v (vs ++ [Value.int x]) 0) 5) (w_ei ws (w_ar ws (n_v (vs ++ [Value.int x]) 0) 2)) (v_iv (n_v (vs ++ [Value.int x]) 1)) (v_iv (n_v (vs ++ [Value.int x]) 2)) (v_iv (n_v (vs ++ [Value.int x]) 1))
      simp only [e_0, e_1, e_2]
      exact vc_Mo_isWithin_0_1 (v_iv (n_v vs 1)) (v_iv (n_v vs 2)) (v_iv (Value.int x)) (w_ei ws (w_ar ws (n_v vs 0) 2)) (w_fi ws (n_v vs 0) 5) k1 k2 ex2 ex3
  have nf2 : fc_1 PRD (24, [0, 0], []) ws (vs ++ [Value.int x]) := by
    refine ⟨nf_inA hl rfl, sgq_1 ?_⟩
    · show n_v (vs ++ [Value.int x]) 0 = n_v (vs ++ [Value.int x]) 0
      first | rfl | simp only [e_0]
  have nf3 : fc_1 PRD (24, [1, 1], []) ws (vs ++ [Value.int x]) := by
    refine ⟨nf_inA hl rfl, sgq_1 ?_⟩
    · show n_v (vs ++ [Value.int x]) 1 = n_v (vs ++ [Value.int x]) 1
      first | rfl | simp only [e_1]
  have nf4 : fc_1 PRD (24, [2, 2], []) ws (vs ++ [Value.int x]) := by
    refine ⟨nf_inA hl rfl, sgq_1 ?_⟩
    · show n_v (vs ++ [Value.int x]) 2 = n_v (vs ++ [Value.int x]) 2
      first | rfl | simp only [e_2]
  exact ⟨(fun _ h => (by cases h)), [Value.int x], ag_one hx, List.forall_mem_cons.mpr ⟨⟨show (23 : Nat) < 100 from by decide, nf0⟩, List.forall_mem_cons.mpr ⟨⟨show (20 : Nat) < 100 from by decide, nf1⟩, List.forall_mem_cons.mpr ⟨⟨show (24 : Nat) < 100 from by decide, nf2⟩, List.forall_mem_cons.mpr ⟨⟨show (24 : Nat) < 100 from by decide, nf3⟩, List.forall_mem_cons.mpr ⟨⟨show (24 : Nat) < 100 from by decide, nf4⟩, (fun _ h => (by cases h))⟩⟩⟩⟩⟩, (fun _ h => (by cases h))⟩
set_option maxHeartbeats 4000000 in
theorem vc_Mo_isWithin_1_0 (x1 : Int) (x2 : Int) (x4 : Int) (x5 : Int) (x6 : Int) (x7 : Int) (x8 : Int) (all_0 : Int → Int) (r_0 : Int) (k1 : (-1) ≤ x1 ∧ x1 ≤ 7) (k2 : (-1) ≤ x2 ∧ x2 ≤ 7) (k4 : (-1) ≤ x4 ∧ x4 ≤ 7) (k5 : (-1) ≤ x5 ∧ x5 ≤ 7) (k6 : (-1) ≤ x6 ∧ x6 ≤ 0) (k7 : (-1) ≤ x7 ∧ x7 ≤ 8) (k8 : 0 ≤ x8 ∧ x8 ≤ 0) (d0 : x4 + (-4294967296) ≤ x1 ∧ x1 ≤ x4 + 0) (d1 : x5 + (-4294967296) ≤ x2 ∧ x2 ≤ x5 + 0) (d2 : x1 + (-4294967296) ≤ x4 ∧ x4 ≤ x1 + 0) (d3 : x2 + (-4294967296) ≤ x5 ∧ x5 ≤ x2 + 0) (f0 : x6 ≠ x2) (f1 : x6 ≤ 0) (f2 : 1 * x6 + ((-1) * x7 + 0) ≤ 0) (f3 : WI1 (r_0) (all_0) (x1) (x2) (x6)) : WIN (r_0) (all_0) (x1) (x2) (x8) := by
  first
    | exact win_end ‹WI1 _ _ _ _ _› (by omega) (by omega)
  
def o_Mo_isWithin_1 : or_T := (40, 9, [(0, (2, 0, 0, [165])), (1, (0, -1, 7, [])), (2, (0, -1, 7, [])), (3, (2, 0, 0, [165])), (4, (0, -1, 7, [])), (5, (0, -1, 7, [])), (6, (0, -1, 0, [])), (7, (0, -1, 8, [])), (8, (0, 0, 0, []))], [(7, [6, 5], [1]), (8, [6], [5]), (23, [6, 7], [0, 1, -1]), (20, [3, 4, 5, 6], [60, 1, 1, 778, 5, 2]), (24, [0, 3], []), (24, [1, 4], []), (24, [2, 5], [])], [], [], [(20, [0, 1, 2, 8], [60, 1, 1, 779, 5, 2])], [], [(1, 4, -4294967296, 0), (2, 5, -4294967296, 0), (4, 1, -4294967296, 0), (5, 2, -4294967296, 0)])
theorem oo_Mo_isWithin_1 {kA : Nat → ClassId} : or_ok PRD kA GG o_Mo_isWithin_1 := by
  refine or_mk fun A ta ws vs hD hth hl => ?_
  intro t0 r0 t1 k1 t2 k2 t3 r3 t4 k4 t5 k5 t6 k6 t7 k7 t8 k8 d0 d1 d2 d3 f0 f1 f2 f3 f4 f5 f6
  replace f0 := shm_40 f0
  replace f3 := shm_612 f3
  replace f4 := shm_5 f4
  replace f5 := shm_5 f5
  replace f6 := shm_5 f6
  have q3 : n_v vs 3 = n_v vs 0 := f4.symm
  have q4 : n_v vs 4 = n_v vs 1 := f5.symm
  have q5 : n_v vs 5 = n_v vs 2 := f6.symm
  simp only [q5, q3, q4] at f0 f3
  have nf0 : fc_1 PRD (20, [0, 1, 2, 8], [60, 1, 1, 779, 5, 2]) ws (vs) := ⟨nf_in hl rfl, sgq_613 (vc_Mo_isWithin_1_0 (v_iv (n_v vs 1)) (v_iv (n_v vs 2)) (v_iv (n_v vs 4)) (v_iv (n_v vs 5)) (v_iv (n_v vs 6)) (v_iv (n_v vs 7)) (v_iv (n_v vs 8)) (w_ei ws (w_ar ws (n_v vs 0) 2)) (w_fi ws (n_v vs 0) 5) k1 k2 k4 k5 k6 k7 k8 d0 d1 d2 d3 f0 (shm_142 f1) (shm_7 f2) f3)⟩
  refine ⟨(fun _ h => (by cases h)), [], trivial, ?_, (fun _ h => (by cases h))⟩
  rw [List.append_nil]
  exact List.forall_mem_cons.mpr ⟨⟨show (20 : Nat) < 100 from by decide, nf0⟩, (fun _ h => (by cases h))⟩
set_option maxHeartbeats 4000000 in
theorem vc_Mo_isWithin_2_0 (x1 : Int) (x2 : Int) (x4 : Int) (x5 : Int) (x6 : Int) (x7 : Int) (x8 : Int) (all_0 : Int → Int) (r_0 : Int) (k1 : (-1) ≤ x1 ∧ x1 ≤ 7) (k2 : (-1) ≤ x2 ∧ x2 ≤ 0) (k4 : (-1) ≤ x4 ∧ x4 ≤ 7) (k5 : (-1) ≤ x5 ∧ x5 ≤ 0) (k6 : (-1) ≤ x6 ∧ x6 ≤ 0) (k7 : (-1) ≤ x7 ∧ x7 ≤ 8) (k8 : 1 ≤ x8 ∧ x8 ≤ 1) (d0 : x5 + 0 ≤ x6 ∧ x6 ≤ x5 + 0) (d1 : x4 + (-4294967296) ≤ x1 ∧ x1 ≤ x4 + 0) (d2 : x5 + (-4294967296) ≤ x2 ∧ x2 ≤ x5 + 0) (d3 : x1 + (-4294967296) ≤ x4 ∧ x4 ≤ x1 + 0) (d4 : x2 + (-4294967296) ≤ x5 ∧ x5 ≤ x2 + 0) (f0 : x6 = x2) (f1 : x6 ≤ 0) (f2 : 1 * x6 + ((-1) * x7 + 0) ≤ 0) (f3 : WI1 (r_0) (all_0) (x1) (x2) (x6)) : WIN (r_0) (all_0) (x1) (x2) (x8) := by
  first
    | exact win_end ‹WI1 _ _ _ _ _› (by omega) (by omega)
  
def o_Mo_isWithin_2 : or_T := (40, 9, [(0, (2, 0, 0, [165])), (1, (0, -1, 7, [])), (2, (0, -1, 0, [])), (3, (2, 0, 0, [165])), (4, (0, -1, 7, [])), (5, (0, -1, 0, [])), (6, (0, -1, 0, [])), (7, (0, -1, 8, [])), (8, (0, 1, 1, []))], [(7, [6, 5], [0]), (8, [6], [5]), (23, [6, 7], [0, 1, -1]), (20, [3, 4, 5, 6], [60, 1, 1, 778, 5, 2]), (24, [0, 3], []), (24, [1, 4], []), (24, [2, 5], [])], [], [], [(20, [0, 1, 2, 8], [60, 1, 1, 779, 5, 2])], [], [(6, 5, 0, 0), (1, 4, -4294967296, 0), (2, 5, -4294967296, 0), (4, 1, -4294967296, 0), (5, 2, -4294967296, 0)])
theorem oo_Mo_isWithin_2 {kA : Nat → ClassId} : or_ok PRD kA GG o_Mo_isWithin_2 := by
  refine or_mk fun A ta ws vs hD hth hl => ?_
  intro t0 r0 t1 k1 t2 k2 t3 r3 t4 k4 t5 k5 t6 k6 t7 k7 t8 k8 d0 d1 d2 d3 d4 f0 f1 f2 f3 f4 f5 f6
  replace f0 := shm_37 f0
  replace f3 := shm_612 f3
  replace f4 := shm_5 f4
  replace f5 := shm_5 f5
  replace f6 := shm_5 f6
  have q3 : n_v vs 3 = n_v vs 0 := f4.symm
  have q4 : n_v vs 4 = n_v vs 1 := f5.symm
  have q5 : n_v vs 5 = n_v vs 2 := f6.symm
  simp only [q5, q3, q4] at f0 f3
  have nf0 : fc_1 PRD (20, [0, 1, 2, 8], [60, 1, 1, 779, 5, 2]) ws (vs) := ⟨nf_in hl rfl, sgq_613 (vc_Mo_isWithin_2_0 (v_iv (n_v vs 1)) (v_iv (n_v vs 2)) (v_iv (n_v vs 4)) (v_iv (n_v vs 5)) (v_iv (n_v vs 6)) (v_iv (n_v vs 7)) (v_iv (n_v vs 8)) (w_ei ws (w_ar ws (n_v vs 0) 2)) (w_fi ws (n_v vs 0) 5) k1 k2 k4 k5 k6 k7 k8 d0 d1 d2 d3 d4 f0 (shm_142 f1) (shm_7 f2) f3)⟩
  refine ⟨(fun _ h => (by cases h)), [], trivial, ?_, (fun _ h => (by cases h))⟩
  rw [List.append_nil]
  exact List.forall_mem_cons.mpr ⟨⟨show (20 : Nat) < 100 from by decide, nf0⟩, (fun _ h => (by cases h))⟩
set_option maxHeartbeats 4000000 in
theorem vc_Mo_isWithin_3_0 (x1 : Int) (x2 : Int) (x4 : Int) (x5 : Int) (x6 : Int) (x7 : Int) (x8 : Int) (all_0 : Int → Int) (r_0 : Int) (k1 : (-1) ≤ x1 ∧ x1 ≤ 7) (k2 : 1 ≤ x2 ∧ x2 ≤ 7) (k4 : (-1) ≤ x4 ∧ x4 ≤ 7) (k5 : 1 ≤ x5 ∧ x5 ≤ 7) (k6 : 1 ≤ x6 ∧ x6 ≤ 7) (k7 : (-1) ≤ x7 ∧ x7 ≤ 8) (k8 : 0 ≤ x8 ∧ x8 ≤ 0) (d0 : x5 + 0 ≤ x6 ∧ x6 ≤ x5 + 0) (d1 : x4 + (-4294967296) ≤ x1 ∧ x1 ≤ x4 + 0) (d2 : x5 + (-4294967296) ≤ x2 ∧ x2 ≤ x5 + 0) (d3 : x1 + (-4294967296) ≤ x4 ∧ x4 ≤ x1 + 0) (d4 : x2 + (-4294967296) ≤ x5 ∧ x5 ≤ x2 + 0) (d5 : x1 + (-4294967296) ≤ x6 ∧ x6 ≤ x1 + 7) (d6 : x4 + (-4294967296) ≤ x6 ∧ x6 ≤ x4 + 7) (f0 : x6 ≠ x2) (f1 : x6 = x2) (f2 : 0 < x6) (f3 : 1 * x6 + ((-1) * x7 + 0) ≤ 0) (f4 : WI1 (r_0) (all_0) (x1) (x2) (x6)) : WIN (r_0) (all_0) (x1) (x2) (x8) := by
  first
    | exact win_end ‹WI1 _ _ _ _ _› (by omega) (by omega)
  
def o_Mo_isWithin_3 : or_T := (40, 9, [(0, (2, 0, 0, [165])), (1, (0, -1, 7, [])), (2, (0, 1, 7, [])), (3, (2, 0, 0, [165])), (4, (0, -1, 7, [])), (5, (0, 1, 7, [])), (6, (0, 1, 7, [])), (7, (0, -1, 8, [])), (8, (0, 0, 0, []))], [(7, [6, 5], [1]), (7, [6, 5], [0]), (8, [6], [4]), (23, [6, 7], [0, 1, -1]), (20, [3, 4, 5, 6], [60, 1, 1, 778, 5, 2]), (24, [0, 3], []), (24, [1, 4], []), (24, [2, 5], [])], [], [], [(20, [0, 1, 2, 8], [60, 1, 1, 779, 5, 2])], [], [(6, 5, 0, 0), (1, 4, -4294967296, 0), (2, 5, -4294967296, 0), (4, 1, -4294967296, 0), (5, 2, -4294967296, 0), (6, 1, -4294967296, 7), (6, 4, -4294967296, 7)])
theorem oo_Mo_isWithin_3 {kA : Nat → ClassId} : or_ok PRD kA GG o_Mo_isWithin_3 := by
  refine or_mk fun A ta ws vs hD hth hl => ?_
  intro t0 r0 t1 k1 t2 k2 t3 r3 t4 k4 t5 k5 t6 k6 t7 k7 t8 k8 d0 d1 d2 d3 d4 d5 d6 f0 f1 f2 f3 f4 f5 f6 f7
  replace f0 := shm_40 f0
  replace f1 := shm_37 f1
  replace f4 := shm_612 f4
  replace f5 := shm_5 f5
  replace f6 := shm_5 f6
  replace f7 := shm_5 f7
  have q3 : n_v vs 3 = n_v vs 0 := f5.symm
  have q4 : n_v vs 4 = n_v vs 1 := f6.symm
  have q5 : n_v vs 5 = n_v vs 2 := f7.symm
  simp only [q5, q3, q4] at f0 f1 f4
  have nf0 : fc_1 PRD (20, [0, 1, 2, 8], [60, 1, 1, 779, 5, 2]) ws (vs) := ⟨nf_in hl rfl, sgq_613 (vc_Mo_isWithin_3_0 (v_iv (n_v vs 1)) (v_iv (n_v vs 2)) (v_iv (n_v vs 4)) (v_iv (n_v vs 5)) (v_iv (n_v vs 6)) (v_iv (n_v vs 7)) (v_iv (n_v vs 8)) (w_ei ws (w_ar ws (n_v vs 0) 2)) (w_fi ws (n_v vs 0) 5) k1 k2 k4 k5 k6 k7 k8 d0 d1 d2 d3 d4 d5 d6 f0 f1 (shm_145 f2) (shm_7 f3) f4)⟩
  refine ⟨(fun _ h => (by cases h)), [], trivial, ?_, (fun _ h => (by cases h))⟩
  rw [List.append_nil]
  exact List.forall_mem_cons.mpr ⟨⟨show (20 : Nat) < 100 from by decide, nf0⟩, (fun _ h => (by cases h))⟩
set_option maxHeartbeats 4000000 in
theorem vc_Mo_isWithin_4_0 (x1 : Int) (x2 : Int) (x4 : Int) (x5 : Int) (x6 : Int) (x7 : Int) (x8 : Int) (all_0 : Int → Int) (r_0 : Int) (k1 : (-1) ≤ x1 ∧ x1 ≤ 7) (k2 : 1 ≤ x2 ∧ x2 ≤ 7) (k4 : (-1) ≤ x4 ∧ x4 ≤ 7) (k5 : 1 ≤ x5 ∧ x5 ≤ 7) (k6 : 1 ≤ x6 ∧ x6 ≤ 7) (k7 : (-1) ≤ x7 ∧ x7 ≤ 8) (k8 : 1 ≤ x8 ∧ x8 ≤ 1) (d0 : x5 + 0 ≤ x6 ∧ x6 ≤ x5 + 0) (d1 : x4 + (-4294967296) ≤ x1 ∧ x1 ≤ x4 + 0) (d2 : x5 + (-4294967296) ≤ x2 ∧ x2 ≤ x5 + 0) (d3 : x1 + (-4294967296) ≤ x4 ∧ x4 ≤ x1 + 0) (d4 : x2 + (-4294967296) ≤ x5 ∧ x5 ≤ x2 + 0) (d5 : x1 + (-4294967296) ≤ x6 ∧ x6 ≤ x1 + 7) (d6 : x4 + (-4294967296) ≤ x6 ∧ x6 ≤ x4 + 7) (f0 : x6 = x2) (f1 : x6 = x2) (f2 : 0 < x6) (f3 : 1 * x6 + ((-1) * x7 + 0) ≤ 0) (f4 : WI1 (r_0) (all_0) (x1) (x2) (x6)) : WIN (r_0) (all_0) (x1) (x2) (x8) := by
  first
    | exact win_end ‹WI1 _ _ _ _ _› (by omega) (by omega)
  
def o_Mo_isWithin_4 : or_T := (40, 9, [(0, (2, 0, 0, [165])), (1, (0, -1, 7, [])), (2, (0, 1, 7, [])), (3, (2, 0, 0, [165])), (4, (0, -1, 7, [])), (5, (0, 1, 7, [])), (6, (0, 1, 7, [])), (7, (0, -1, 8, [])), (8, (0, 1, 1, []))], [(7, [6, 5], [0]), (7, [6, 5], [0]), (8, [6], [4]), (23, [6, 7], [0, 1, -1]), (20, [3, 4, 5, 6], [60, 1, 1, 778, 5, 2]), (24, [0, 3], []), (24, [1, 4], []), (24, [2, 5], [])], [], [], [(20, [0, 1, 2, 8], [60, 1, 1, 779, 5, 2])], [], [(6, 5, 0, 0), (1, 4, -4294967296, 0), (2, 5, -4294967296, 0), (4, 1, -4294967296, 0), (5, 2, -4294967296, 0), (6, 1, -4294967296, 7), (6, 4, -4294967296, 7)])
theorem oo_Mo_isWithin_4 {kA : Nat → ClassId} : or_ok PRD kA GG o_Mo_isWithin_4 := by
  refine or_mk fun A ta ws vs hD hth hl => ?_
  intro t0 r0 t1 k1 t2 k2 t3 r3 t4 k4 t5 k5 t6 k6 t7 k7 t8 k8 d0 d1 d2 d3 d4 d5 d6 f0 f1 f2 f3 f4 f5 f6 f7
  replace f0 := shm_37 f0
  replace f1 := shm_37 f1
  replace f4 := shm_612 f4
  replace f5 := shm_5 f5
  replace f6 := shm_5 f6
  replace f7 := shm_5 f7
  have q3 : n_v vs 3 = n_v vs 0 := f5.symm
  have q4 : n_v vs 4 = n_v vs 1 := f6.symm
  have q5 : n_v vs 5 = n_v vs 2 := f7.symm
  simp only [q5, q3, q4] at f0 f1 f4
  have nf0 : fc_1 PRD (20, [0, 1, 2, 8], [60, 1, 1, 779, 5, 2]) ws (vs) := ⟨nf_in hl rfl, sgq_613 (vc_Mo_isWithin_4_0 (v_iv (n_v vs 1)) (v_iv (n_v vs 2)) (v_iv (n_v vs 4)) (v_iv (n_v vs 5)) (v_iv (n_v vs 6)) (v_iv (n_v vs 7)) (v_iv (n_v vs 8)) (w_ei ws (w_ar ws (n_v vs 0) 2)) (w_fi ws (n_v vs 0) 5) k1 k2 k4 k5 k6 k7 k8 d0 d1 d2 d3 d4 d5 d6 f0 f1 (shm_145 f2) (shm_7 f3) f4)⟩
  refine ⟨(fun _ h => (by cases h)), [], trivial, ?_, (fun _ h => (by cases h))⟩
  rw [List.append_nil]
  exact List.forall_mem_cons.mpr ⟨⟨show (20 : Nat) < 100 from by decide, nf0⟩, (fun _ h => (by cases h))⟩
def o_Mo_isWithin_5 : or_T := (26, 14, [(6, (0, 1, 7, [])), (7, (0, -1, 8, [])), (9, (5, 0, 66297, [539])), (10, (0, 531, 531, [])), (11, (0, 531, 66828, [])), (12, (0, 532, 66835, [])), (13, (0, -1, 6, [])), (8, (2, 0, 0, [167]))], [(10, [13, 8, 12], []), (1, [12, 11, 6], []), (1, [11, 9, 10], []), (8, [6], [4]), (23, [6, 7], [0, 1, -1])], [], [], [(23, [13, 6], [-1, 1, -1])], [], [(12, 6, 531, 66828), (12, 11, 1, 7), (12, 9, 532, 538), (11, 9, 531, 531)])
theorem oo_Mo_isWithin_5 {kA : Nat → ClassId} : or_ok PRD kA GG o_Mo_isWithin_5 := by
  refine or_mk fun A ta ws vs hD hth hl => ?_
  intro t6 k6 t7 k7 t9 t10 k10 t11 k11 t12 k12 t13 k13 t8 r8 d0 d1 d2 d3 f0 f1 f2 f3 f4
  obtain ⟨k9, q9_⟩ : (0 ≤ v_iv (n_v vs 9) ∧ v_iv (n_v vs 9) ≤ 66297) ∧ ∃ q : Int, v_iv (n_v vs 9) = 539 * q := tv_dvk t9
  obtain ⟨q9, hq9⟩ := q9_
  replace f0 := shm_106 f0
  replace f1 := shm_12 f1
  replace f2 := shm_12 f2
  replace f3 := shm_145 f3
  replace f4 := shm_7 f4
  have e0 := pl_cp hD hth r8 (g := GG_167) rfl rfl rfl pl_M1 (i := (v_iv (n_v vs 12)).toNat) (j := (v_iv (n_v vs 12)).toNat) (by show (v_iv (n_v vs 12)).toNat < 66836; omega) rfl
  rw [← f0] at e0
  have e1 := pl_gin e0 (k := v_iv (n_v vs 6)) (by omega) (by omega) (by omega)
  have nf0 : fc_1 PRD (23, [13, 6], [-1, 1, -1]) ws (vs) := by
    refine ⟨nf_in hl rfl, sgq_211 ?_⟩
    · show 1 * v_iv (n_v vs 13) + ((-1) * v_iv (n_v vs 6) + 0) ≤ (-1)
      omega
  refine ⟨(fun _ h => (by cases h)), [], trivial, ?_, (fun _ h => (by cases h))⟩
  rw [List.append_nil]
  exact List.forall_mem_cons.mpr ⟨⟨show (23 : Nat) < 100 from by decide, nf0⟩, (fun _ h => (by cases h))⟩
set_option maxHeartbeats 4000000 in
theorem vc_Mo_isWithin_6_0 (x1 : Int) (x2 : Int) (x4 : Int) (x5 : Int) (x6 : Int) (x7 : Int) (x9 : Int) (x10 : Int) (x11 : Int) (x12 : Int) (x13 : Int) (all_0 : Int → Int) (r_0 : Int) (gx : Int) (k1 : (-1) ≤ x1 ∧ x1 ≤ 7) (k2 : (-1) ≤ x2 ∧ x2 ≤ 7) (k4 : (-1) ≤ x4 ∧ x4 ≤ 7) (k5 : (-1) ≤ x5 ∧ x5 ≤ 7) (k6 : 1 ≤ x6 ∧ x6 ≤ 7) (k7 : (-1) ≤ x7 ∧ x7 ≤ 8) (k9 : 0 ≤ x9 ∧ x9 ≤ 66297) (k10 : 531 ≤ x10 ∧ x10 ≤ 531) (k11 : 531 ≤ x11 ∧ x11 ≤ 66828) (k12 : 532 ≤ x12 ∧ x12 ≤ 66835) (k13 : (-1) ≤ x13 ∧ x13 ≤ 6) (d0 : x6 + 531 ≤ x12 ∧ x12 ≤ x6 + 66828) (d1 : x1 + (-4294967296) ≤ x12 ∧ x12 ≤ x1 + 66835) (d2 : x4 + (-4294967296) ≤ x12 ∧ x12 ≤ x4 + 66835) (d3 : x11 + 1 ≤ x12 ∧ x12 ≤ x11 + 7) (d4 : x9 + 532 ≤ x12 ∧ x12 ≤ x9 + 538) (d5 : x9 + 531 ≤ x11 ∧ x11 ≤ x9 + 531) (d6 : x4 + (-4294967296) ≤ x1 ∧ x1 ≤ x4 + 0) (d7 : x5 + (-4294967296) ≤ x2 ∧ x2 ≤ x5 + 0) (d8 : x1 + (-4294967296) ≤ x4 ∧ x4 ≤ x1 + 0) (d9 : x2 + (-4294967296) ≤ x5 ∧ x5 ≤ x2 + 0) (d10 : x1 + (-4294967296) ≤ x6 ∧ x6 ≤ x1 + 7) (d11 : x4 + (-4294967296) ≤ x6 ∧ x6 ≤ x4 + 7) (f0 : 1 * x13 + ((-1) * x6 + 0) ≤ (-1)) (h1 : x13 = all_0 (x12)) (f2 : x12 = x11 + x6) (f3 : x11 = x9 + x10) (g4 : x9 = r_0) (f6 : x6 ≠ x2) (f7 : 0 < x6) (f8 : 1 * x6 + ((-1) * x7 + 0) ≤ 0) (f9 : WI1 (r_0) (all_0) (x1) (x2) (x6)) (ex2 : gx = 0 + (1 * x7 + 0)) (ex3 : (-1) ≤ gx ∧ gx ≤ 8) : 1 * x13 + ((-1) * gx + 0) ≤ (-1) := by
  first
    | omega
  
set_option maxHeartbeats 4000000 in
theorem vc_Mo_isWithin_6_1 (x1 : Int) (x2 : Int) (x4 : Int) (x5 : Int) (x6 : Int) (x7 : Int) (x9 : Int) (x10 : Int) (x11 : Int) (x12 : Int) (x13 : Int) (all_0 : Int → Int) (r_0 : Int) (gx : Int) (k1 : (-1) ≤ x1 ∧ x1 ≤ 7) (k2 : (-1) ≤ x2 ∧ x2 ≤ 7) (k4 : (-1) ≤ x4 ∧ x4 ≤ 7) (k5 : (-1) ≤ x5 ∧ x5 ≤ 7) (k6 : 1 ≤ x6 ∧ x6 ≤ 7) (k7 : (-1) ≤ x7 ∧ x7 ≤ 8) (k9 : 0 ≤ x9 ∧ x9 ≤ 66297) (k10 : 531 ≤ x10 ∧ x10 ≤ 531) (k11 : 531 ≤ x11 ∧ x11 ≤ 66828) (k12 : 532 ≤ x12 ∧ x12 ≤ 66835) (k13 : (-1) ≤ x13 ∧ x13 ≤ 6) (d0 : x6 + 531 ≤ x12 ∧ x12 ≤ x6 + 66828) (d1 : x1 + (-4294967296) ≤ x12 ∧ x12 ≤ x1 + 66835) (d2 : x4 + (-4294967296) ≤ x12 ∧ x12 ≤ x4 + 66835) (d3 : x11 + 1 ≤ x12 ∧ x12 ≤ x11 + 7) (d4 : x9 + 532 ≤ x12 ∧ x12 ≤ x9 + 538) (d5 : x9 + 531 ≤ x11 ∧ x11 ≤ x9 + 531) (d6 : x4 + (-4294967296) ≤ x1 ∧ x1 ≤ x4 + 0) (d7 : x5 + (-4294967296) ≤ x2 ∧ x2 ≤ x5 + 0) (d8 : x1 + (-4294967296) ≤ x4 ∧ x4 ≤ x1 + 0) (d9 : x2 + (-4294967296) ≤ x5 ∧ x5 ≤ x2 + 0) (d10 : x1 + (-4294967296) ≤ x6 ∧ x6 ≤ x1 + 7) (d11 : x4 + (-4294967296) ≤ x6 ∧ x6 ≤ x4 + 7) (f0 : 1 * x13 + ((-1) * x6 + 0) ≤ (-1)) (h1 : x13 = all_0 (x12)) (f2 : x12 = x11 + x6) (f3 : x11 = x9 + x10) (g4 : x9 = r_0) (f6 : x6 ≠ x2) (f7 : 0 < x6) (f8 : 1 * x6 + ((-1) * x7 + 0) ≤ 0) (f9 : WI1 (r_0) (all_0) (x1) (x2) (x6)) (ex2 : gx = 0 + (1 * x7 + 0)) (ex3 : (-1) ≤ gx ∧ gx ≤ 8) : (-1) * gx + 0 ≤ (-1) := by
  first
    | omega
  
set_option maxHeartbeats 4000000 in
theorem vc_Mo_isWithin_6_2 (x1 : Int) (x2 : Int) (x4 : Int) (x5 : Int) (x6 : Int) (x7 : Int) (x9 : Int) (x10 : Int) (x11 : Int) (x12 : Int) (x13 : Int) (all_0 : Int → Int) (r_0 : Int) (gx : Int) (k1 : (-1) ≤ x1 ∧ x1 ≤ 7) (k2 : (-1) ≤ x2 ∧ x2 ≤ 7) (k4 : (-1) ≤ x4 ∧ x4 ≤ 7) (k5 : (-1) ≤ x5 ∧ x5 ≤ 7) (k6 : 1 ≤ x6 ∧ x6 ≤ 7) (k7 : (-1) ≤ x7 ∧ x7 ≤ 8) (k9 : 0 ≤ x9 ∧ x9 ≤ 66297) (k10 : 531 ≤ x10 ∧ x10 ≤ 531) (k11 : 531 ≤ x11 ∧ x11 ≤ 66828) (k12 : 532 ≤ x12 ∧ x12 ≤ 66835) (k13 : (-1) ≤ x13 ∧ x13 ≤ 6) (d0 : x6 + 531 ≤ x12 ∧ x12 ≤ x6 + 66828) (d1 : x1 + (-4294967296) ≤ x12 ∧ x12 ≤ x1 + 66835) (d2 : x4 + (-4294967296) ≤ x12 ∧ x12 ≤ x4 + 66835) (d3 : x11 + 1 ≤ x12 ∧ x12 ≤ x11 + 7) (d4 : x9 + 532 ≤ x12 ∧ x12 ≤ x9 + 538) (d5 : x9 + 531 ≤ x11 ∧ x11 ≤ x9 + 531) (d6 : x4 + (-4294967296) ≤ x1 ∧ x1 ≤ x4 + 0) (d7 : x5 + (-4294967296) ≤ x2 ∧ x2 ≤ x5 + 0) (d8 : x1 + (-4294967296) ≤ x4 ∧ x4 ≤ x1 + 0) (d9 : x2 + (-4294967296) ≤ x5 ∧ x5 ≤ x2 + 0) (d10 : x1 + (-4294967296) ≤ x6 ∧ x6 ≤ x1 + 7) (d11 : x4 + (-4294967296) ≤ x6 ∧ x6 ≤ x4 + 7) (f0 : 1 * x13 + ((-1) * x6 + 0) ≤ (-1)) (h1 : x13 = all_0 (x12)) (f2 : x12 = x11 + x6) (f3 : x11 = x9 + x10) (g4 : x9 = r_0) (f6 : x6 ≠ x2) (f7 : 0 < x6) (f8 : 1 * x6 + ((-1) * x7 + 0) ≤ 0) (f9 : WI1 (r_0) (all_0) (x1) (x2) (x6)) (ex2 : gx = 0 + (1 * x7 + 0)) (ex3 : (-1) ≤ gx ∧ gx ≤ 8) : WI1 (r_0) (all_0) (x1) (x2) (x13) := by
  first
    | exact wi1_start rfl
    | assumption
    | exact wi1_step (x := x6) (p := x12) ‹WI1 _ _ _ _ _› (by omega) (by omega) (by omega) (by assumption)
  
def o_Mo_isWithin_6 : or_T := (27, 14, [(0, (2, 0, 0, [165])), (1, (0, -1, 7, [])), (2, (0, -1, 7, [])), (3, (2, 0, 0, [165])), (4, (0, -1, 7, [])), (5, (0, -1, 7, [])), (6, (0, 1, 7, [])), (7, (0, -1, 8, [])), (8, (2, 0, 0, [167])), (9, (0, 0, 66297, [])), (10, (0, 531, 531, [])), (11, (0, 531, 66828, [])), (12, (0, 532, 66835, [])), (13, (0, -1, 6, []))], [(23, [13, 6], [-1, 1, -1]), (10, [13, 8, 12], []), (1, [12, 11, 6], []), (1, [11, 9, 10], []), (9, [9, 3], [5]), (9, [8, 3], [2]), (7, [6, 5], [1]), (8, [6], [4]), (23, [6, 7], [0, 1, -1]), (20, [3, 4, 5, 6], [60, 1, 1, 778, 5, 2]), (24, [0, 3], []), (24, [1, 4], []), (24, [2, 5], [])], [], [(0, -1, 8, [])], [(23, [13, 14], [-1, 1, -1]), (23, [14], [-1, -1]), (20, [3, 4, 5, 13], [60, 1, 1, 778, 5, 2]), (24, [0, 3], []), (24, [1, 4], []), (24, [2, 5], [])], [(14, 7, 0, 0)], [(12, 6, 531, 66828), (12, 1, -4294967296, 66835), (12, 4, -4294967296, 66835), (12, 11, 1, 7), (12, 9, 532, 538), (11, 9, 531, 531), (1, 4, -4294967296, 0), (2, 5, -4294967296, 0), (4, 1, -4294967296, 0), (5, 2, -4294967296, 0), (6, 1, -4294967296, 7), (6, 4, -4294967296, 7)])
theorem oo_Mo_isWithin_6 {kA : Nat → ClassId} : or_ok PRD kA GG o_Mo_isWithin_6 := by
  refine or_mk fun A ta ws vs hD hth hl => ?_
  intro t0 r0 t1 k1 t2 k2 t3 r3 t4 k4 t5 k5 t6 k6 t7 k7 t8 r8 t9 k9 t10 k10 t11 k11 t12 k12 t13 k13 d0 d1 d2 d3 d4 d5 d6 d7 d8 d9 d10 d11 f0 f1 f2 f3 f4 f5 f6 f7 f8 f9 f10 f11 f12
  replace f0 := shm_211 f0
  replace f1 := shm_106 f1
  replace f2 := shm_12 f2
  replace f3 := shm_12 f3
  replace f4 := shm_109 f4
  replace f5 := shm_129 f5
  replace f6 := shm_40 f6
  replace f7 := shm_145 f7
  replace f8 := shm_7 f8
  replace f9 := shm_612 f9
  replace f10 := shm_5 f10
  replace f11 := shm_5 f11
  replace f12 := shm_5 f12
  have q3 : n_v vs 3 = n_v vs 0 := f10.symm
  have q4 : n_v vs 4 = n_v vs 1 := f11.symm
  have q5 : n_v vs 5 = n_v vs 2 := f12.symm
  simp only [q3, q5, q4] at f4 f5 f6 f9
  have cr_0_2 := fdq_12 hD hth r0
  have ad_8 : v_ad (n_v vs 8) = w_ar ws (n_v vs 0) 2 := congrArg v_ad f5
  simp only [ad_8] at f1
  have h1 : v_iv (n_v vs 13) = w_ei ws (w_ar ws (n_v vs 0) 2) (v_iv (n_v vs 12)) := f1
  have g4 : v_iv (n_v vs 9) = w_fi ws (n_v vs 0) 5 := congrArg v_iv f4
  obtain ⟨x, ex, hx⟩ := iv_ex (ta := ta) (lo := (-1)) (hi := 8) (z := 0 + (1 * v_iv (n_v vs 7) + 0)) (by omega) (by omega) (by omega) (by omega)
  have ex2 : v_iv (Value.int x) = 0 + (1 * v_iv (n_v vs 7) + 0) := ex
  have ex3 : (-1) ≤ v_iv (Value.int x) ∧ v_iv (Value.int x) ≤ 8 := tv_rng hx
  have e_0 : n_v (vs ++ [Value.int x]) 0 = n_v vs 0 := n_v_old (by rw [hl]; decide)
  have e_1 : n_v (vs ++ [Value.int x]) 1 = n_v vs 1 := n_v_old (by rw [hl]; decide)
  have e_2 : n_v (vs ++ [Value.int x]) 2 = n_v vs 2 := n_v_old (by rw [hl]; decide)
  have e_3 : n_v (vs ++ [Value.int x]) 3 = n_v vs 3 := n_v_old (by rw [hl]; decide)
  have e_4 : n_v (vs ++ [Value.int x]) 4 = n_v vs 4 := n_v_old (by rw [hl]; decide)
  have e_5 : n_v (vs ++ [Value.int x]) 5 = n_v vs 5 := n_v_old (by rw [hl]; decide)
  have e_13 : n_v (vs ++ [Value.int x]) 13 = n_v vs 13 := n_v_old (by rw [hl]; decide)
  have e_14 : n_v (vs ++ [Value.int x]) 14 = Value.int x := n_v_new hl
  have nf0 : fc_1 PRD (23, [13, 14], [-1, 1, -1]) ws (vs ++ [Value.int x]) := by
    refine ⟨nf_inA hl rfl, sgq_211 ?_⟩
    · show 1 * v_iv (n_v (vs ++ [Value.int x]) 13) + ((-1) * v_iv (n_v (vs ++ [Value.int x]) 14) + 0) ≤ (-1)
      simp only [e_13, e_14]
      exact vc_Mo_isWithin_6_0 (v_iv (n_v vs 1)) (v_iv (n_v vs 2)) (v_iv (n_v vs 4)) (v_iv (n_v vs 5)) (v_iv (n_v vs 6)) (v_iv (n_v vs 7)) (v_iv (n_v vs 9)) (v_iv (n_v vs 10)) (v_iv (n_v vs 11)) (v_iv (n_v vs 12)) (v_iv (n_v vs 13)) (w_ei ws (w_ar ws (n_v vs 0) 2)) (w_fi ws (n_v vs 0) 5) (v_iv (Value.int x)) k1 k2 k4 k5 k6 k7 k9 k10 k11 k12 k13 d0 d1 d2 d3 d4 d5 d6 d7 d8 d9 d10 d11 f0 h1 f2 f3 g4 f6 f7 f8 f9 ex2 ex3
  have nf1 : fc_1 PRD (23, [14], [-1, -1]) ws (vs ++ [Value.int x]) := by
    refine ⟨nf_inA hl rfl, sgq_614 ?_⟩
    · show (-1) * v_iv (n_v (vs ++ [Value.int x]) 14) + 0 ≤ (-1)
      rw [e_14]
      exact vc_Mo_isWithin_6_1 (v_iv (n_v vs 1)) (v_iv (n_v vs 2)) (v_iv (n_v vs 4)) (v_iv (n_v vs 5)) (v_iv (n_v vs 6)) (v_iv (n_v vs 7)) (v_iv (n_v vs 9)) (v_iv (n_v vs 10)) (v_iv (n_v vs 11)) (v_iv (n_v vs 12)) (v_iv (n_v vs 13)) (w_ei ws (w_ar ws (n_v vs 0) 2)) (w_fi ws (n_v vs 0) 5) (v_iv (Value.int x)) k1 k2 k4 k5 k6 k7 k9 k10 k11 k12 k13 d0 d1 d2 d3 d4 d5 d6 d7 d8 d9 d10 d11 f0 h1 f2 f3 g4 f6 f7 f8 f9 ex2 ex3
  have nf2 : fc_1 PRD (20, [3, 4, 5, 13], [60, 1, 1, 778, 5, 2]) ws (vs ++ [Value.int x]) := by
    refine ⟨nf_inA hl rfl, sgq_612 ?_⟩
    · show WI1 (w_fi ws (n_v (vs ++ [Value.int x]) 3) 5) (w_ei ws (w_ar ws (n_v (vs ++ [Value.int x]) 3) 2)) (v_iv (n_v (vs ++ [Value.int x]) 4)) (v_iv (n_v (vs ++ [Value.int x]) 5)) (v_iv (n_v (vs ++ [Value.int x]) 13))
      simp only [e_3, e_4, e_5, e_13, q3, q4, q5]
      exact vc_Mo_isWithin_6_2 (v_iv (n_v vs 1)) (v_iv (n_v vs 2)) (v_iv (n_v vs 4)) (v_iv (n_v vs 5)) (v_iv (n_v vs 6)) (v_iv (n_v vs 7)) (v_iv (n_v vs 9)) (v_iv (n_v vs 10)) (v_iv (n_v vs 11)) (v_iv (n_v vs 12)) (v_iv (n_v vs 13)) (w_ei ws (w_ar ws (n_v vs 0) 2)) (w_fi ws (n_v vs 0) 5) (v_iv (Value.int x)) k1 k2 k4 k5 k6 k7 k9 k10 k11 k12 k13 d0 d1 d2 d3 d4 d5 d6 d7 d8 d9 d10 d11 f0 h1 f2 f3 g4 f6 f7 f8 f9 ex2 ex3
  have nf3 : fc_1 PRD (24, [0, 3], []) ws (vs ++ [Value.int x]) := by
    refine ⟨nf_inA hl rfl, sgq_5 ?_⟩
    · show n_v (vs ++ [Value.int x]) 0 = n_v (vs ++ [Value.int x]) 3
      first | rfl | simp only [e_0, e_3, q3, q4, q5]
  have nf4 : fc_1 PRD (24, [1, 4], []) ws (vs ++ [Value.int x]) := by
    refine ⟨nf_inA hl rfl, sgq_5 ?_⟩
    · show n_v (vs ++ [Value.int x]) 1 = n_v (vs ++ [Value.int x]) 4
      first | rfl | simp only [e_1, e_4, q3, q4, q5]
  have nf5 : fc_1 PRD (24, [2, 5], []) ws (vs ++ [Value.int x]) := by
    refine ⟨nf_inA hl rfl, sgq_5 ?_⟩
    · show n_v (vs ++ [Value.int x]) 2 = n_v (vs ++ [Value.int x]) 5
      first | rfl | simp only [e_2, e_5, q3, q4, q5]
  obtain ⟨x0, e0, _, _⟩ := tv_int t7 rfl
  have e1 : v_iv (n_v vs 7) = x0.toInt := by rw [e0]; rfl
  have ho : sy_ofs (vs ++ [Value.int x]) (14, 7, 0, 0) := by
    refine ⟨x, x0, by rw [List.getElem?_append_right (by rw [hl]; decide), hl]; rfl, ?_, ?_, ?_⟩
    · rw [List.getElem?_append_left (by rw [hl]; decide)]; exact n_v_some (by rw [hl]; decide) e0
    · show x0.toInt + 0 ≤ x.toInt; omega
    · show x.toInt ≤ x0.toInt + 0; omega
  exact ⟨(fun _ h => (by cases h)), [Value.int x], ag_one hx, List.forall_mem_cons.mpr ⟨⟨show (23 : Nat) < 100 from by decide, nf0⟩, List.forall_mem_cons.mpr ⟨⟨show (23 : Nat) < 100 from by decide, nf1⟩, List.forall_mem_cons.mpr ⟨⟨show (20 : Nat) < 100 from by decide, nf2⟩, List.forall_mem_cons.mpr ⟨⟨show (24 : Nat) < 100 from by decide, nf3⟩, List.forall_mem_cons.mpr ⟨⟨show (24 : Nat) < 100 from by decide, nf4⟩, List.forall_mem_cons.mpr ⟨⟨show (24 : Nat) < 100 from by decide, nf5⟩, (fun _ h => (by cases h))⟩⟩⟩⟩⟩⟩, List.forall_mem_cons.mpr ⟨ho, (fun _ h => (by cases h))⟩⟩
set_option maxHeartbeats 4000000 in
theorem vc_Mo_isWithin_7_0 (x1 : Int) (x2 : Int) (x4 : Int) (x5 : Int) (x6 : Int) (x8 : Int) (all_0 : Int → Int) (r_0 : Int) (gx : Int) (k1 : (-1) ≤ x1 ∧ x1 ≤ 7) (k2 : (-1) ≤ x2 ∧ x2 ≤ 7) (k4 : (-1) ≤ x4 ∧ x4 ≤ 7) (k5 : (-1) ≤ x5 ∧ x5 ≤ 7) (k6 : (-1) ≤ x6 ∧ x6 ≤ 6) (k8 : (-1) ≤ x8 ∧ x8 ≤ 8) (d0 : x4 + (-4294967296) ≤ x1 ∧ x1 ≤ x4 + 0) (d1 : x5 + (-4294967296) ≤ x2 ∧ x2 ≤ x5 + 0) (d2 : x1 + (-4294967296) ≤ x4 ∧ x4 ≤ x1 + 0) (d3 : x2 + (-4294967296) ≤ x5 ∧ x5 ≤ x2 + 0) (f0 : 1 * x6 + ((-1) * x8 + 0) ≤ (-1)) (f1 : (-1) * x8 + 0 ≤ (-1)) (f2 : WI1 (r_0) (all_0) (x1) (x2) (x6)) (ex2 : gx = (-1) + (1 * x8 + 0)) (ex3 : (-1) ≤ gx ∧ gx ≤ 8) : 1 * x6 + ((-1) * gx + 0) ≤ 0 := by
  first
    | omega
  
set_option maxHeartbeats 4000000 in
theorem vc_Mo_isWithin_7_1 (x1 : Int) (x2 : Int) (x4 : Int) (x5 : Int) (x6 : Int) (x8 : Int) (all_0 : Int → Int) (r_0 : Int) (gx : Int) (k1 : (-1) ≤ x1 ∧ x1 ≤ 7) (k2 : (-1) ≤ x2 ∧ x2 ≤ 7) (k4 : (-1) ≤ x4 ∧ x4 ≤ 7) (k5 : (-1) ≤ x5 ∧ x5 ≤ 7) (k6 : (-1) ≤ x6 ∧ x6 ≤ 6) (k8 : (-1) ≤ x8 ∧ x8 ≤ 8) (d0 : x4 + (-4294967296) ≤ x1 ∧ x1 ≤ x4 + 0) (d1 : x5 + (-4294967296) ≤ x2 ∧ x2 ≤ x5 + 0) (d2 : x1 + (-4294967296) ≤ x4 ∧ x4 ≤ x1 + 0) (d3 : x2 + (-4294967296) ≤ x5 ∧ x5 ≤ x2 + 0) (f0 : 1 * x6 + ((-1) * x8 + 0) ≤ (-1)) (f1 : (-1) * x8 + 0 ≤ (-1)) (f2 : WI1 (r_0) (all_0) (x1) (x2) (x6)) (ex2 : gx = (-1) + (1 * x8 + 0)) (ex3 : (-1) ≤ gx ∧ gx ≤ 8) : WI1 (r_0) (all_0) (x1) (x2) (x6) := by
  first
    | exact wi1_start rfl
    | assumption
    | exact wi1_step (x := x6) (p := x12) ‹WI1 _ _ _ _ _› (by omega) (by omega) (by omega) (by assumption)
  
def o_Mo_isWithin_7 : or_T := (2, 9, [(0, (2, 0, 0, [165])), (1, (0, -1, 7, [])), (2, (0, -1, 7, [])), (3, (2, 0, 0, [165])), (4, (0, -1, 7, [])), (5, (0, -1, 7, [])), (6, (0, -1, 6, [])), (8, (0, -1, 8, []))], [(23, [6, 8], [-1, 1, -1]), (23, [8], [-1, -1]), (20, [3, 4, 5, 6], [60, 1, 1, 778, 5, 2]), (24, [0, 3], []), (24, [1, 4], []), (24, [2, 5], [])], [], [(0, -1, 8, [])], [(23, [6, 9], [0, 1, -1]), (20, [3, 4, 5, 6], [60, 1, 1, 778, 5, 2]), (24, [0, 3], []), (24, [1, 4], []), (24, [2, 5], [])], [(9, 8, -1000000000000, -1)], [(1, 4, -4294967296, 0), (2, 5, -4294967296, 0), (4, 1, -4294967296, 0), (5, 2, -4294967296, 0)])
theorem oo_Mo_isWithin_7 {kA : Nat → ClassId} : or_ok PRD kA GG o_Mo_isWithin_7 := by
  refine or_mk fun A ta ws vs hD hth hl => ?_
  intro t0 r0 t1 k1 t2 k2 t3 r3 t4 k4 t5 k5 t6 k6 t8 k8 d0 d1 d2 d3 f0 f1 f2 f3 f4 f5
  replace f0 := shm_211 f0
  replace f1 := shm_614 f1
  replace f2 := shm_612 f2
  replace f3 := shm_5 f3
  replace f4 := shm_5 f4
  replace f5 := shm_5 f5
  have q3 : n_v vs 3 = n_v vs 0 := f3.symm
  have q4 : n_v vs 4 = n_v vs 1 := f4.symm
  have q5 : n_v vs 5 = n_v vs 2 := f5.symm
  simp only [q3, q4, q5] at f2
  have cr_0_2 := fdq_12 hD hth r0
  obtain ⟨x, ex, hx⟩ := iv_ex (ta := ta) (lo := (-1)) (hi := 8) (z := (-1) + (1 * v_iv (n_v vs 8) + 0)) (by omega) (by omega) (by omega) (by omega)
  have ex2 : v_iv (Value.int x) = (-1) + (1 * v_iv (n_v vs 8) + 0) := ex
  have ex3 : (-1) ≤ v_iv (Value.int x) ∧ v_iv (Value.int x) ≤ 8 := tv_rng hx
  have e_0 : n_v (vs ++ [Value.int x]) 0 = n_v vs 0 := n_v_old (by rw [hl]; decide)
  have e_1 : n_v (vs ++ [Value.int x]) 1 = n_v vs 1 := n_v_old (by rw [hl]; decide)
  have e_2 : n_v (vs ++ [Value.int x]) 2 = n_v vs 2 := n_v_old (by rw [hl]; decide)
  have e_3 : n_v (vs ++ [Value.int x]) 3 = n_v vs 3 := n_v_old (by rw [hl]; decide)
  have e_4 : n_v (vs ++ [Value.int x]) 4 = n_v vs 4 := n_v_old (by rw [hl]; decide)
  have e_5 : n_v (vs ++ [Value.int x]) 5 = n_v vs 5 := n_v_old (by rw [hl]; decide)
  have e_6 : n_v (vs ++ [Value.int x]) 6 = n_v vs 6 := n_v_old (by rw [hl]; decide)
  have e_9 : n_v (vs ++ [Value.int x]) 9 = Value.int x := n_v_new hl
  have nf0 : fc_1 PRD (23, [6, 9], [0, 1, -1]) ws (vs ++ [Value.int x]) := by
    refine ⟨nf_inA hl rfl, sgq_7 ?_⟩
    · show 1 * v_iv (n_v (vs ++ [Value.int x]) 6) + ((-1) * v_iv (n_v (vs ++ [Value.int x]) 9) + 0) ≤ 0
      simp only [e_6, e_9]
      exact vc_Mo_isWithin_7_0 (v_iv (n_v vs 1)) (v_iv (n_v vs 2)) (v_iv (n_v vs 4)) (v_iv (n_v vs 5)) (v_iv (n_v vs 6)) (v_iv (n_v vs 8)) (w_ei ws (w_ar ws (n_v vs 0) 2)) (w_fi ws (n_v vs 0) 5) (v_iv (Value.int x)) k1 k2 k4 k5 k6 k8 d0 d1 d2 d3 f0 f1 f2 ex2 ex3
  have nf1 : fc_1 PRD (20, [3, 4, 5, 6], [60, 1, 1, 778, 5, 2]) ws (vs ++ [Value.int x]) := by
    refine ⟨nf_inA hl rfl, sgq_612 ?_⟩
    · show WI1 (w_fi ws (n_v (vs ++ [Value.int x]) 3) 5) (w_ei ws (w_ar ws (n_v (vs ++ [Value.int x]) 3) 2)) (v_iv (n_v (vs ++ [Value.int x]) 4)) (v_iv (n_v (vs ++ [Value.int x]) 5)) (v_iv (n_v (vs ++ [Value.int x]) 6))
      simp only [e_3, e_4, e_5, e_6, q3, q4, q5]
      exact vc_Mo_isWithin_7_1 (v_iv (n_v vs 1)) (v_iv (n_v vs 2)) (v_iv (n_v vs 4)) (v_iv (n_v vs 5)) (v_iv (n_v vs 6)) (v_iv (n_v vs 8)) (w_ei ws (w_ar ws (n_v vs 0) 2)) (w_fi ws (n_v vs 0) 5) (v_iv (Value.int x)) k1 k2 k4 k5 k6 k8 d0 d1 d2 d3 f0 f1 f2 ex2 ex3
  have nf2 : fc_1 PRD (24, [0, 3], []) ws (vs ++ [Value.int x]) := by
    refine ⟨nf_inA hl rfl, sgq_5 ?_⟩
    · show n_v (vs ++ [Value.int x]) 0 = n_v (vs ++ [Value.int x]) 3
      first | rfl | simp only [e_0, e_3, q3, q4, q5]
  have nf3 : fc_1 PRD (24, [1, 4], []) ws (vs ++ [Value.int x]) := by
    refine ⟨nf_inA hl rfl, sgq_5 ?_⟩
    · show n_v (vs ++ [Value.int x]) 1 = n_v (vs ++ [Value.int x]) 4
      first | rfl | simp only [e_1, e_4, q3, q4, q5]
  have nf4 : fc_1 PRD (24, [2, 5], []) ws (vs ++ [Value.int x]) := by
    refine ⟨nf_inA hl rfl, sgq_5 ?_⟩
    · show n_v (vs ++ [Value.int x]) 2 = n_v (vs ++ [Value.int x]) 5
      first | rfl | simp only [e_2, e_5, q3, q4, q5]
  obtain ⟨x0, e0, _, _⟩ := tv_int t8 rfl
  have e1 : v_iv (n_v vs 8) = x0.toInt := by rw [e0]; rfl
  have ho : sy_ofs (vs ++ [Value.int x]) (9, 8, -1000000000000, -1) := by
    refine ⟨x, x0, by rw [List.getElem?_append_right (by rw [hl]; decide), hl]; rfl, ?_, ?_, ?_⟩
    · rw [List.getElem?_append_left (by rw [hl]; decide)]; exact n_v_some (by rw [hl]; decide) e0
    · show x0.toInt + (-1000000000000) ≤ x.toInt; omega
    · show x.toInt ≤ x0.toInt + (-1); omega
  exact ⟨(fun _ h => (by cases h)), [Value.int x], ag_one hx, List.forall_mem_cons.mpr ⟨⟨show (23 : Nat) < 100 from by decide, nf0⟩, List.forall_mem_cons.mpr ⟨⟨show (20 : Nat) < 100 from by decide, nf1⟩, List.forall_mem_cons.mpr ⟨⟨show (24 : Nat) < 100 from by decide, nf2⟩, List.forall_mem_cons.mpr ⟨⟨show (24 : Nat) < 100 from by decide, nf3⟩, List.forall_mem_cons.mpr ⟨⟨show (24 : Nat) < 100 from by decide, nf4⟩, (fun _ h => (by cases h))⟩⟩⟩⟩⟩, List.forall_mem_cons.mpr ⟨ho, (fun _ h => (by cases h))⟩⟩
def n_Mo_isWithin_an : List an_T := [(2, [(0, (2, 0, 0, [165])), (1, (0, (Int.negSucc 0), 7, [])), (2, (0, (Int.negSucc 0), 7, [])), (3, (0, (Int.negSucc 0), 7, []))], [], (0, 0), [(0, 0, 99998), (2, 7, (Int.negSucc 0)), (0, 0, 100000)], [(1, 4, (Int.negSucc 999999999999), 0), (2, 5, (Int.negSucc 999999999999), 0), (4, 1, (Int.negSucc 999999999999), 0), (5, 2, (Int.negSucc 999999999999), 0), (6, 1, (Int.negSucc 999999999999), 7), (6, 4, (Int.negSucc 999999999999), 7)], [], [(2, 0, 0, [165]), (0, (Int.negSucc 0), 7, []), (0, (Int.negSucc 0), 7, [])], 0, [(0, (Int.negSucc 0), 8, [])], [(23, [6, 7], [0, 1, (Int.negSucc 0)]), (20, [3, 4, 5, 6], [60, 1, 1, 778, 5, 2]), (24, [0, 3], []), (24, [1, 4], []), (24, [2, 5], [])]), (27, [(0, (2, 0, 0, [165])), (1, (0, (Int.negSucc 0), 7, [])), (2, (0, (Int.negSucc 0), 7, [])), (3, (0, (Int.negSucc 0), 6, []))], [], (0, 0), [(0, 0, 99998), (2, 8, (Int.negSucc 0)), (0, 0, 99973)], [(1, 4, (Int.negSucc 999999999999), 0), (2, 5, (Int.negSucc 999999999999), 0), (4, 1, (Int.negSucc 999999999999), 0), (5, 2, (Int.negSucc 999999999999), 0)], [((0, 5), (5, 0, 66297, [539]))], [(2, 0, 0, [165]), (0, (Int.negSucc 0), 7, []), (0, (Int.negSucc 0), 7, [])], 0, [(0, (Int.negSucc 0), 8, [])], [(23, [6, 8], [(Int.negSucc 0), 1, (Int.negSucc 0)]), (23, [8], [(Int.negSucc 0), (Int.negSucc 0)]), (20, [3, 4, 5, 6], [60, 1, 1, 778, 5, 2]), (24, [0, 3], []), (24, [1, 4], []), (24, [2, 5], [])])]
def t_Mo_isWithin_ct : ct_L := []
set_option maxRecDepth 100000 in
theorem c_Mo_isWithin {l : Launch} {D : va_G} {kA : Nat → ClassId} : ct_ok PRD l D kA GG y_Mo_isWithin z_Mo_isWithin e_Mo_isWithin := chk_all_ok (FT := [(16, 13, 2), (391, 13, 5)]) (PT := []) (CT := t_Mo_isWithin_ct) (KT := []) (NT := []) (AN := n_Mo_isWithin_an) (OT := [o_Mo_isWithin_0, o_Mo_isWithin_1, o_Mo_isWithin_2, o_Mo_isWithin_3, o_Mo_isWithin_4, o_Mo_isWithin_5, o_Mo_isWithin_6, o_Mo_isWithin_7]) 3 200 (List.forall_mem_cons.mpr ⟨oo_Mo_isWithin_0, List.forall_mem_cons.mpr ⟨oo_Mo_isWithin_1, List.forall_mem_cons.mpr ⟨oo_Mo_isWithin_2, List.forall_mem_cons.mpr ⟨oo_Mo_isWithin_3, List.forall_mem_cons.mpr ⟨oo_Mo_isWithin_4, List.forall_mem_cons.mpr ⟨oo_Mo_isWithin_5, List.forall_mem_cons.mpr ⟨oo_Mo_isWithin_6, List.forall_mem_cons.mpr ⟨oo_Mo_isWithin_7, List.forall_mem_nil _⟩⟩⟩⟩⟩⟩⟩⟩) (by decide +kernel) ⟨List.forall_mem_cons.mpr ⟨gf_Mo_16, List.forall_mem_cons.mpr ⟨gf_Mo_391, List.forall_mem_nil _⟩⟩, List.forall_mem_nil _, List.forall_mem_nil _, List.forall_mem_nil _, List.forall_mem_nil _, GG_pl⟩ (by decide +kernel)
set_option maxHeartbeats 4000000 in
theorem vc_Mo_line_at_g1_0_r0 (x1 : Int) (x2 : Int) (x3 : Int) (x5 : Int) (lines_0 : Int) (all_0 : Int → Int) (itemLayer_0 : Int → Int) (lineA_0 : Int → Int) (lineB_0 : Int → Int) (r_0 : Int) (items_0 : Int) (k1 : 0 ≤ x1 ∧ x1 ≤ 75) (k2 : 0 ≤ x2 ∧ x2 ≤ 75) (k3 : 0 ≤ x3 ∧ x3 ≤ 129) (k5 : 0 ≤ x5 ∧ x5 ≤ 130) (g0 : x5 = lines_0) (f2 : lines_0 = x3) (f3 : LNP (r_0) (lines_0) (items_0) (all_0) (itemLayer_0) (lineA_0) (lineB_0)) (f4 : LNM (r_0) (items_0) (all_0) (itemLayer_0) (x1) (x2)) (hK_0_102 : ∀ j : Int, 0 ≤ j → j < 76 → 0 ≤ itemLayer_0 j ∧ itemLayer_0 j ≤ 75) (hK_0_108 : ∀ j : Int, 0 ≤ j → j < 130 → 0 ≤ lineA_0 j ∧ lineA_0 j ≤ 75) (hK_0_109 : ∀ j : Int, 0 ≤ j → j < 130 → 0 ≤ lineB_0 j ∧ lineB_0 j ≤ 75) (kz_0_100 : 0 ≤ items_0 ∧ items_0 ≤ 76) (kz_0_107 : 0 ≤ lines_0 ∧ lines_0 ≤ 130) : 0 ≤ x5 ∧ x5 ≤ 129 := by
  omega
def o_Mo_line_at_g1_0 : or_T := (9, 6, [(0, (2, 0, 0, [165])), (1, (0, 0, 75, [])), (2, (0, 0, 75, [])), (3, (0, 0, 129, [])), (4, (2, 0, 0, [240])), (5, (0, 0, 130, []))], [(9, [5, 0], [107]), (9, [4, 0], [108]), (20, [0, 3], [50, 1, 0, 107, 1, 3, 2, 0, 107, 1, 1]), (20, [0], [60, 3, 4, 439, 5, 107, 100, 2, 102, 108, 109]), (20, [0, 1, 2], [60, 2, 2, 465, 5, 100, 2, 102])], [(5, (0, 0, 129, []))], [], [], [], [])
theorem oo_Mo_line_at_g1_0 {kA : Nat → ClassId} : or_ok PRD kA GG o_Mo_line_at_g1_0 := by
  refine or_mk fun A ta ws vs hD hth hl => ?_
  intro t0 r0 t1 k1 t2 k2 t3 k3 t4 r4 t5 k5 f0 f1 f2 f3 f4
  replace f0 := shm_615 f0
  have cr_0_102 := fdq_158 hD hth r0
  have cr_0_108 := fdq_159 hD hth r0
  have cr_0_109 := fdq_160 hD hth r0
  have g0 : v_iv (n_v vs 5) = w_fi ws (n_v vs 0) 107 := congrArg v_iv f0
  have hK_0_102 := elq_88 hD hth cr_0_102
  have hK_0_108 := elq_89 hD hth cr_0_108
  have hK_0_109 := elq_90 hD hth cr_0_109
  have kz_0_100 := fdq_161 hD hth r0
  have kz_0_107 := fdq_162 hD hth r0
  have hrf0 : 0 ≤ v_iv (n_v vs 5) ∧ v_iv (n_v vs 5) ≤ 129 := vc_Mo_line_at_g1_0_r0 (v_iv (n_v vs 1)) (v_iv (n_v vs 2)) (v_iv (n_v vs 3)) (v_iv (n_v vs 5)) (w_fi ws (n_v vs 0) 107) (w_ei ws (w_ar ws (n_v vs 0) 2)) (w_ei ws (w_ar ws (n_v vs 0) 102)) (w_ei ws (w_ar ws (n_v vs 0) 108)) (w_ei ws (w_ar ws (n_v vs 0) 109)) (w_fi ws (n_v vs 0) 5) (w_fi ws (n_v vs 0) 100) k1 k2 k3 k5 g0 (shm_617 f2) (shm_618 f3) (shm_619 f4) hK_0_102 hK_0_108 hK_0_109 kz_0_100 kz_0_107
  have rf5 : tv_ok ta (0, 0, 129, []) (n_v vs 5) := tv_in t5 (by first | omega | grind) (by first | omega | grind)
  refine ⟨List.forall_mem_cons.mpr ⟨rf5, (fun _ h => (by cases h))⟩, [], trivial, ?_, (fun _ h => (by cases h))⟩
  rw [List.append_nil]
  exact (fun _ h => (by cases h))
set_option maxHeartbeats 4000000 in
theorem vc_Mo_line_at_g1_1_0 (x1 : Int) (x2 : Int) (x3 : Int) (x5 : Int) (x7 : Int) (x8 : Int) (all_0 : Int → Int) (itemLayer_0 : Int → Int) (r_0 : Int) (items_0 : Int) (lines_1 : Int) (all_1 : Int → Int) (itemLayer_1 : Int → Int) (r_1 : Int) (items_1 : Int) (lines_2 : Int) (all_2 : Int → Int) (itemLayer_2 : Int → Int) (r_2 : Int) (items_2 : Int) (lines_3 : Int) (all_3 : Int → Int) (itemLayer_3 : Int → Int) (lineA_3 : Int → Int) (lineB_3 : Int → Int) (r_3 : Int) (items_3 : Int) (lines_0 : Int) (lineA_0 : Int → Int) (lineA_1 : Int → Int) (lineA_2 : Int → Int) (lineB_0 : Int → Int) (lineB_1 : Int → Int) (lineB_2 : Int → Int) (k1 : 0 ≤ x1 ∧ x1 ≤ 75) (k2 : 0 ≤ x2 ∧ x2 ≤ 75) (k3 : 0 ≤ x3 ∧ x3 ≤ 129) (k5 : 0 ≤ x5 ∧ x5 ≤ 129) (k7 : 1 ≤ x7 ∧ x7 ≤ 1) (k8 : 1 ≤ x8 ∧ x8 ≤ 130) (d0 : x5 + 1 ≤ x8 ∧ x8 ≤ x5 + 1) (f0 : LNM (r_0) (items_0) (all_0) (itemLayer_0) (x1) (x2)) (f2 : x8 = x5 + x7) (g3 : x5 = lines_1) (f4 : lines_1 = x3) (f5 : LNM (r_1) (items_1) (all_1) (itemLayer_1) (x1) (x2)) (f8 : lines_2 = x3) (f9 : LNM (r_2) (items_2) (all_2) (itemLayer_2) (x1) (x2)) (f12 : lines_3 = x3) (f13 : LNP (r_3) (lines_3) (items_3) (all_3) (itemLayer_3) (lineA_3) (lineB_3)) (f14 : LNM (r_3) (items_3) (all_3) (itemLayer_3) (x1) (x2)) (fe_0_5_1 : r_0 = r_1) (fe_0_100_1 : items_0 = items_1) (fe_0_107_1 : lines_0 = x8) (fe_0_5_2 : r_1 = r_2) (fe_0_100_2 : items_1 = items_2) (fe_0_107_2 : lines_1 = lines_2) (fe_0_5_3 : r_2 = r_3) (fe_0_100_3 : items_2 = items_3) (fe_0_107_3 : lines_2 = lines_3) (hE_0_2_1 : ∀ j : Int, all_0 j = all_1 j) (hE_0_2_2 : ∀ j : Int, all_1 j = all_2 j) (hE_0_2_3 : ∀ j : Int, all_2 j = all_3 j) (hE_0_102_1 : ∀ j : Int, itemLayer_0 j = itemLayer_1 j) (hE_0_102_2 : ∀ j : Int, itemLayer_1 j = itemLayer_2 j) (hE_0_102_3 : ∀ j : Int, itemLayer_2 j = itemLayer_3 j) (hK_0_102 : ∀ j : Int, 0 ≤ j → j < 76 → 0 ≤ itemLayer_0 j ∧ itemLayer_0 j ≤ 75) (hE_0_108_1 : ∀ j : Int, lineA_0 j = lineA_1 j) (hE_0_108_2 : ∀ j : Int, lineA_1 j = lineA_2 j) (hE_0_108_3 : ∀ j : Int, 0 ≤ j → (j = x5 → lineA_2 j = x1) ∧ (j ≠ x5 → lineA_2 j = lineA_3 j)) (hK_0_108 : ∀ j : Int, 0 ≤ j → j < 130 → 0 ≤ lineA_0 j ∧ lineA_0 j ≤ 75) (hE_0_109_1 : ∀ j : Int, lineB_0 j = lineB_1 j) (hE_0_109_2 : ∀ j : Int, 0 ≤ j → (j = x5 → lineB_1 j = x2) ∧ (j ≠ x5 → lineB_1 j = lineB_2 j)) (hE_0_109_3 : ∀ j : Int, lineB_2 j = lineB_3 j) (hK_0_109 : ∀ j : Int, 0 ≤ j → j < 130 → 0 ≤ lineB_0 j ∧ lineB_0 j ≤ 75) (kz_0_100 : 0 ≤ items_0 ∧ items_0 ≤ 76) (kz_0_107 : 0 ≤ lines_0 ∧ lines_0 ≤ 130) : lines_0 = (x3 + 1) := by
  subst fe_0_5_1
  subst fe_0_100_1
  subst fe_0_5_2
  subst fe_0_100_2
  subst fe_0_107_2
  subst fe_0_5_3
  subst fe_0_100_3
  subst fe_0_107_3
  have e_hE_0_2_1 := funext hE_0_2_1; subst e_hE_0_2_1
  have e_hE_0_2_2 := funext hE_0_2_2; subst e_hE_0_2_2
  have e_hE_0_2_3 := funext hE_0_2_3; subst e_hE_0_2_3
  have e_hE_0_102_1 := funext hE_0_102_1; subst e_hE_0_102_1
  have e_hE_0_102_2 := funext hE_0_102_2; subst e_hE_0_102_2
  have e_hE_0_102_3 := funext hE_0_102_3; subst e_hE_0_102_3
  have e_hE_0_108_1 := funext hE_0_108_1; subst e_hE_0_108_1
  have e_hE_0_108_2 := funext hE_0_108_2; subst e_hE_0_108_2
  have e_hE_0_109_1 := funext hE_0_109_1; subst e_hE_0_109_1
  have e_hE_0_109_3 := funext hE_0_109_3; subst e_hE_0_109_3
  omega
set_option maxHeartbeats 4000000 in
theorem vc_Mo_line_at_g1_1_1 (x1 : Int) (x2 : Int) (x3 : Int) (x5 : Int) (x7 : Int) (x8 : Int) (all_0 : Int → Int) (itemLayer_0 : Int → Int) (r_0 : Int) (items_0 : Int) (lines_1 : Int) (all_1 : Int → Int) (itemLayer_1 : Int → Int) (r_1 : Int) (items_1 : Int) (lines_2 : Int) (all_2 : Int → Int) (itemLayer_2 : Int → Int) (r_2 : Int) (items_2 : Int) (lines_3 : Int) (all_3 : Int → Int) (itemLayer_3 : Int → Int) (lineA_3 : Int → Int) (lineB_3 : Int → Int) (r_3 : Int) (items_3 : Int) (lines_0 : Int) (lineA_0 : Int → Int) (lineA_1 : Int → Int) (lineA_2 : Int → Int) (lineB_0 : Int → Int) (lineB_1 : Int → Int) (lineB_2 : Int → Int) (k1 : 0 ≤ x1 ∧ x1 ≤ 75) (k2 : 0 ≤ x2 ∧ x2 ≤ 75) (k3 : 0 ≤ x3 ∧ x3 ≤ 129) (k5 : 0 ≤ x5 ∧ x5 ≤ 129) (k7 : 1 ≤ x7 ∧ x7 ≤ 1) (k8 : 1 ≤ x8 ∧ x8 ≤ 130) (d0 : x5 + 1 ≤ x8 ∧ x8 ≤ x5 + 1) (f0 : LNM (r_0) (items_0) (all_0) (itemLayer_0) (x1) (x2)) (f2 : x8 = x5 + x7) (g3 : x5 = lines_1) (f4 : lines_1 = x3) (f5 : LNM (r_1) (items_1) (all_1) (itemLayer_1) (x1) (x2)) (f8 : lines_2 = x3) (f9 : LNM (r_2) (items_2) (all_2) (itemLayer_2) (x1) (x2)) (f12 : lines_3 = x3) (f13 : LNP (r_3) (lines_3) (items_3) (all_3) (itemLayer_3) (lineA_3) (lineB_3)) (f14 : LNM (r_3) (items_3) (all_3) (itemLayer_3) (x1) (x2)) (fe_0_5_1 : r_0 = r_1) (fe_0_100_1 : items_0 = items_1) (fe_0_107_1 : lines_0 = x8) (fe_0_5_2 : r_1 = r_2) (fe_0_100_2 : items_1 = items_2) (fe_0_107_2 : lines_1 = lines_2) (fe_0_5_3 : r_2 = r_3) (fe_0_100_3 : items_2 = items_3) (fe_0_107_3 : lines_2 = lines_3) (hE_0_2_1 : ∀ j : Int, all_0 j = all_1 j) (hE_0_2_2 : ∀ j : Int, all_1 j = all_2 j) (hE_0_2_3 : ∀ j : Int, all_2 j = all_3 j) (hE_0_102_1 : ∀ j : Int, itemLayer_0 j = itemLayer_1 j) (hE_0_102_2 : ∀ j : Int, itemLayer_1 j = itemLayer_2 j) (hE_0_102_3 : ∀ j : Int, itemLayer_2 j = itemLayer_3 j) (hK_0_102 : ∀ j : Int, 0 ≤ j → j < 76 → 0 ≤ itemLayer_0 j ∧ itemLayer_0 j ≤ 75) (hE_0_108_1 : ∀ j : Int, lineA_0 j = lineA_1 j) (hE_0_108_2 : ∀ j : Int, lineA_1 j = lineA_2 j) (hE_0_108_3 : ∀ j : Int, 0 ≤ j → (j = x5 → lineA_2 j = x1) ∧ (j ≠ x5 → lineA_2 j = lineA_3 j)) (hK_0_108 : ∀ j : Int, 0 ≤ j → j < 130 → 0 ≤ lineA_0 j ∧ lineA_0 j ≤ 75) (hE_0_109_1 : ∀ j : Int, lineB_0 j = lineB_1 j) (hE_0_109_2 : ∀ j : Int, 0 ≤ j → (j = x5 → lineB_1 j = x2) ∧ (j ≠ x5 → lineB_1 j = lineB_2 j)) (hE_0_109_3 : ∀ j : Int, lineB_2 j = lineB_3 j) (hK_0_109 : ∀ j : Int, 0 ≤ j → j < 130 → 0 ≤ lineB_0 j ∧ lineB_0 j ≤ 75) (kz_0_100 : 0 ≤ items_0 ∧ items_0 ≤ 76) (kz_0_107 : 0 ≤ lines_0 ∧ lines_0 ≤ 130) : LNX (r_0) (lines_0) (items_0) (all_0) (itemLayer_0) (lineA_0) (lineB_0) := by
  subst fe_0_5_1
  subst fe_0_100_1
  subst fe_0_5_2
  subst fe_0_100_2
  subst fe_0_107_2
  subst fe_0_5_3
  subst fe_0_100_3
  subst fe_0_107_3
  have e_hE_0_2_1 := funext hE_0_2_1; subst e_hE_0_2_1
  have e_hE_0_2_2 := funext hE_0_2_2; subst e_hE_0_2_2
  have e_hE_0_2_3 := funext hE_0_2_3; subst e_hE_0_2_3
  have e_hE_0_102_1 := funext hE_0_102_1; subst e_hE_0_102_1
  have e_hE_0_102_2 := funext hE_0_102_2; subst e_hE_0_102_2
  have e_hE_0_102_3 := funext hE_0_102_3; subst e_hE_0_102_3
  have e_hE_0_108_1 := funext hE_0_108_1; subst e_hE_0_108_1
  have e_hE_0_108_2 := funext hE_0_108_2; subst e_hE_0_108_2
  have e_hE_0_109_1 := funext hE_0_109_1; subst e_hE_0_109_1
  have e_hE_0_109_3 := funext hE_0_109_3; subst e_hE_0_109_3
  exact lnp_more ‹LNP _ _ _ _ _ _ _› (by omega) (by omega) (by omega) ‹LNM _ _ _ _ _ _› (by assumption) (by assumption) (by omega) (by omega)
def o_Mo_line_at_g1_1 : or_T := (30, 9, [(0, (2, 0, 0, [165])), (1, (0, 0, 75, [])), (2, (0, 0, 75, [])), (3, (0, 0, 129, [])), (4, (2, 0, 0, [240])), (5, (0, 0, 129, [])), (6, (2, 0, 0, [241])), (7, (0, 1, 1, [])), (8, (0, 1, 130, []))], [(20, [0, 1, 2], [60, 2, 2, 465, 5, 100, 2, 102]), (101, [0, 8], [107]), (1, [8, 5, 7], []), (9, [5, 0], [107]), (20, [0, 3], [50, 1, 0, 107, 1, 3, 2, 0, 107, 1, 1]), (20, [0, 1, 2], [60, 2, 2, 465, 5, 100, 2, 102]), (100, [6, 5, 2], []), (9, [6, 0], [109]), (20, [0, 3], [50, 1, 0, 107, 1, 3, 2, 0, 107, 1, 1]), (20, [0, 1, 2], [60, 2, 2, 465, 5, 100, 2, 102]), (100, [4, 5, 1], []), (9, [4, 0], [108]), (20, [0, 3], [50, 1, 0, 107, 1, 3, 2, 0, 107, 1, 1]), (20, [0], [60, 3, 4, 439, 5, 107, 100, 2, 102, 108, 109]), (20, [0, 1, 2], [60, 2, 2, 465, 5, 100, 2, 102])], [], [], [(20, [0, 3], [50, 1, 0, 107, 1, 3, 2, 0, 107, 4, 2, 1, 1, 0, 1]), (20, [0], [60, 3, 4, 440, 5, 107, 100, 2, 102, 108, 109])], [], [(8, 5, 1, 1)])
theorem oo_Mo_line_at_g1_1 {kA : Nat → ClassId} : or_ok PRD kA GG o_Mo_line_at_g1_1 := by
  refine or_mk fun A ta ws vs hD hth hl => ?_
  intro t0 r0 t1 k1 t2 k2 t3 k3 t4 r4 t5 k5 t6 r6 t7 k7 t8 k8 d0 f0 ta1 w1 le1 s1 f2 f3 f4 f5 ta2 w2 le2 s2 f7 f8 f9 ta3 w3 le3 s3 f11 f12 f13 f14
  have s1 : (∀ b j, w_el ws b j = w_el w1 b j) ∧ ∀ b j, w_fd ws b j = if b = v_ad (n_v vs 0) ∧ j = 107 then n_v vs 8 else w_fd w1 b j := s1.2
  replace f3 := shm_615 f3
  replace f5 := shm_619 f5
  have s2 : (∀ b j, w_el w1 b j = if b = v_ad (n_v vs 6) ∧ j = (v_iv (n_v vs 5)).toNat then v_iv (n_v vs 2) else w_el w2 b j) ∧ ∀ b k, w_fd w1 b k = w_fd w2 b k := s2.2
  replace f7 := shm_620 f7
  replace f9 := shm_619 f9
  have s3 : (∀ b j, w_el w2 b j = if b = v_ad (n_v vs 4) ∧ j = (v_iv (n_v vs 5)).toNat then v_iv (n_v vs 1) else w_el w3 b j) ∧ ∀ b k, w_fd w2 b k = w_fd w3 b k := s3.2
  replace f11 := shm_616 f11
  replace f13 := shm_618 f13
  replace f14 := shm_619 f14
  have ar_0_2_1 : w_ar w1 (n_v vs 0) 2 = w_ar ws (n_v vs 0) 2 := by show v_ad (w_fd w1 _ _) = v_ad (w_fd ws _ _); rw [s1.2, if_neg (fun e => absurd e.2 (by decide))]
  have ar_0_2_2 : w_ar w2 (n_v vs 0) 2 = w_ar ws (n_v vs 0) 2 := by rw [← ar_0_2_1]; show v_ad (w_fd w2 _ _) = v_ad (w_fd w1 _ _); rw [s2.2]
  have ar_0_2_3 : w_ar w3 (n_v vs 0) 2 = w_ar ws (n_v vs 0) 2 := by rw [← ar_0_2_2]; show v_ad (w_fd w3 _ _) = v_ad (w_fd w2 _ _); rw [s3.2]
  have cr_0_2 := fdq_12 hD hth r0
  have ar_0_102_1 : w_ar w1 (n_v vs 0) 102 = w_ar ws (n_v vs 0) 102 := by show v_ad (w_fd w1 _ _) = v_ad (w_fd ws _ _); rw [s1.2, if_neg (fun e => absurd e.2 (by decide))]
  have ar_0_102_2 : w_ar w2 (n_v vs 0) 102 = w_ar ws (n_v vs 0) 102 := by rw [← ar_0_102_1]; show v_ad (w_fd w2 _ _) = v_ad (w_fd w1 _ _); rw [s2.2]
  have ar_0_102_3 : w_ar w3 (n_v vs 0) 102 = w_ar ws (n_v vs 0) 102 := by rw [← ar_0_102_2]; show v_ad (w_fd w3 _ _) = v_ad (w_fd w2 _ _); rw [s3.2]
  have cr_0_102 := fdq_158 hD hth r0
  have ar_0_108_1 : w_ar w1 (n_v vs 0) 108 = w_ar ws (n_v vs 0) 108 := by show v_ad (w_fd w1 _ _) = v_ad (w_fd ws _ _); rw [s1.2, if_neg (fun e => absurd e.2 (by decide))]
  have ar_0_108_2 : w_ar w2 (n_v vs 0) 108 = w_ar ws (n_v vs 0) 108 := by rw [← ar_0_108_1]; show v_ad (w_fd w2 _ _) = v_ad (w_fd w1 _ _); rw [s2.2]
  have ar_0_108_3 : w_ar w3 (n_v vs 0) 108 = w_ar ws (n_v vs 0) 108 := by rw [← ar_0_108_2]; show v_ad (w_fd w3 _ _) = v_ad (w_fd w2 _ _); rw [s3.2]
  have cr_0_108 := fdq_159 hD hth r0
  have ar_0_109_1 : w_ar w1 (n_v vs 0) 109 = w_ar ws (n_v vs 0) 109 := by show v_ad (w_fd w1 _ _) = v_ad (w_fd ws _ _); rw [s1.2, if_neg (fun e => absurd e.2 (by decide))]
  have ar_0_109_2 : w_ar w2 (n_v vs 0) 109 = w_ar ws (n_v vs 0) 109 := by rw [← ar_0_109_1]; show v_ad (w_fd w2 _ _) = v_ad (w_fd w1 _ _); rw [s2.2]
  have ar_0_109_3 : w_ar w3 (n_v vs 0) 109 = w_ar ws (n_v vs 0) 109 := by rw [← ar_0_109_2]; show v_ad (w_fd w3 _ _) = v_ad (w_fd w2 _ _); rw [s3.2]
  have cr_0_109 := fdq_160 hD hth r0
  have ad_6 : v_ad (n_v vs 6) = w_ar ws (n_v vs 0) 109 := (congrArg v_ad f7).trans ar_0_109_2
  have ad_4 : v_ad (n_v vs 4) = w_ar ws (n_v vs 0) 108 := (congrArg v_ad f11).trans ar_0_108_3
  have g3 : v_iv (n_v vs 5) = w_fi w1 (n_v vs 0) 107 := congrArg v_iv f3
  simp only [ar_0_2_1, ar_0_102_1, ar_0_2_2, ar_0_102_2, ar_0_2_3, ar_0_102_3, ar_0_108_3, ar_0_109_3] at f5 f9 f13 f14
  have fe_0_5_1 : w_fi ws (n_v vs 0) 5 = w_fi w1 (n_v vs 0) 5 := by show v_iv (w_fd _ _ _) = v_iv (w_fd _ _ _); rw [s1.2, if_neg (fun e => absurd e.2 (by decide))]
  have fe_0_100_1 : w_fi ws (n_v vs 0) 100 = w_fi w1 (n_v vs 0) 100 := by show v_iv (w_fd _ _ _) = v_iv (w_fd _ _ _); rw [s1.2, if_neg (fun e => absurd e.2 (by decide))]
  have fe_0_107_1 : w_fi ws (n_v vs 0) 107 = v_iv (n_v vs 8) := by show v_iv (w_fd _ _ _) = _; rw [s1.2, if_pos ⟨rfl, rfl⟩]
  have fe_0_5_2 : w_fi w1 (n_v vs 0) 5 = w_fi w2 (n_v vs 0) 5 := congrArg v_iv (s2.2 _ _)
  have fe_0_100_2 : w_fi w1 (n_v vs 0) 100 = w_fi w2 (n_v vs 0) 100 := congrArg v_iv (s2.2 _ _)
  have fe_0_107_2 : w_fi w1 (n_v vs 0) 107 = w_fi w2 (n_v vs 0) 107 := congrArg v_iv (s2.2 _ _)
  have fe_0_5_3 : w_fi w2 (n_v vs 0) 5 = w_fi w3 (n_v vs 0) 5 := congrArg v_iv (s3.2 _ _)
  have fe_0_100_3 : w_fi w2 (n_v vs 0) 100 = w_fi w3 (n_v vs 0) 100 := congrArg v_iv (s3.2 _ _)
  have fe_0_107_3 : w_fi w2 (n_v vs 0) 107 = w_fi w3 (n_v vs 0) 107 := congrArg v_iv (s3.2 _ _)
  have hE_0_2_1 : ∀ j : Int, w_ei ws (w_ar ws (n_v vs 0) 2) j = w_ei w1 (w_ar ws (n_v vs 0) 2) j := fun j => s1.1 _ _
  have hE_0_2_2 : ∀ j : Int, w_ei w1 (w_ar ws (n_v vs 0) 2) j = w_ei w2 (w_ar ws (n_v vs 0) 2) j := el_kp s2.1 r6 cr_0_2 (by decide)
  have hE_0_2_3 : ∀ j : Int, w_ei w2 (w_ar ws (n_v vs 0) 2) j = w_ei w3 (w_ar ws (n_v vs 0) 2) j := el_kp s3.1 r4 cr_0_2 (by decide)
  have hE_0_102_1 : ∀ j : Int, w_ei ws (w_ar ws (n_v vs 0) 102) j = w_ei w1 (w_ar ws (n_v vs 0) 102) j := fun j => s1.1 _ _
  have hE_0_102_2 : ∀ j : Int, w_ei w1 (w_ar ws (n_v vs 0) 102) j = w_ei w2 (w_ar ws (n_v vs 0) 102) j := el_kp s2.1 r6 cr_0_102 (by decide)
  have hE_0_102_3 : ∀ j : Int, w_ei w2 (w_ar ws (n_v vs 0) 102) j = w_ei w3 (w_ar ws (n_v vs 0) 102) j := el_kp s3.1 r4 cr_0_102 (by decide)
  have hK_0_102 := elq_88 hD hth cr_0_102
  have hE_0_108_1 : ∀ j : Int, w_ei ws (w_ar ws (n_v vs 0) 108) j = w_ei w1 (w_ar ws (n_v vs 0) 108) j := fun j => s1.1 _ _
  have hE_0_108_2 : ∀ j : Int, w_ei w1 (w_ar ws (n_v vs 0) 108) j = w_ei w2 (w_ar ws (n_v vs 0) 108) j := el_kp s2.1 r6 cr_0_108 (by decide)
  have hE_0_108_3 : ∀ j : Int, 0 ≤ j → (j = v_iv (n_v vs 5) → w_ei w2 (w_ar ws (n_v vs 0) 108) j = v_iv (n_v vs 1)) ∧ (j ≠ v_iv (n_v vs 5) → w_ei w2 (w_ar ws (n_v vs 0) 108) j = w_ei w3 (w_ar ws (n_v vs 0) 108) j) := fun j hj => ⟨fun h => by unfold w_ei; rw [s3.1, if_pos ⟨ad_4.symm, by rw [h]⟩], fun h => by unfold w_ei; rw [s3.1, if_neg (fun e => h (by have := e.2; omega))]⟩
  have hK_0_108 := elq_89 hD hth cr_0_108
  have hE_0_109_1 : ∀ j : Int, w_ei ws (w_ar ws (n_v vs 0) 109) j = w_ei w1 (w_ar ws (n_v vs 0) 109) j := fun j => s1.1 _ _
  have hE_0_109_2 : ∀ j : Int, 0 ≤ j → (j = v_iv (n_v vs 5) → w_ei w1 (w_ar ws (n_v vs 0) 109) j = v_iv (n_v vs 2)) ∧ (j ≠ v_iv (n_v vs 5) → w_ei w1 (w_ar ws (n_v vs 0) 109) j = w_ei w2 (w_ar ws (n_v vs 0) 109) j) := fun j hj => ⟨fun h => by unfold w_ei; rw [s2.1, if_pos ⟨ad_6.symm, by rw [h]⟩], fun h => by unfold w_ei; rw [s2.1, if_neg (fun e => h (by have := e.2; omega))]⟩
  have hE_0_109_3 : ∀ j : Int, w_ei w2 (w_ar ws (n_v vs 0) 109) j = w_ei w3 (w_ar ws (n_v vs 0) 109) j := el_kp s3.1 r4 cr_0_109 (by decide)
  have hK_0_109 := elq_90 hD hth cr_0_109
  have kz_0_100 := fdq_161 hD hth r0
  have kz_0_107 := fdq_162 hD hth r0
  have nf0 : fc_1 PRD (20, [0, 3], [50, 1, 0, 107, 1, 3, 2, 0, 107, 4, 2, 1, 1, 0, 1]) ws (vs) := ⟨nf_in hl rfl, sgq_621 (vc_Mo_line_at_g1_1_0 (v_iv (n_v vs 1)) (v_iv (n_v vs 2)) (v_iv (n_v vs 3)) (v_iv (n_v vs 5)) (v_iv (n_v vs 7)) (v_iv (n_v vs 8)) (w_ei ws (w_ar ws (n_v vs 0) 2)) (w_ei ws (w_ar ws (n_v vs 0) 102)) (w_fi ws (n_v vs 0) 5) (w_fi ws (n_v vs 0) 100) (w_fi w1 (n_v vs 0) 107) (w_ei w1 (w_ar ws (n_v vs 0) 2)) (w_ei w1 (w_ar ws (n_v vs 0) 102)) (w_fi w1 (n_v vs 0) 5) (w_fi w1 (n_v vs 0) 100) (w_fi w2 (n_v vs 0) 107) (w_ei w2 (w_ar ws (n_v vs 0) 2)) (w_ei w2 (w_ar ws (n_v vs 0) 102)) (w_fi w2 (n_v vs 0) 5) (w_fi w2 (n_v vs 0) 100) (w_fi w3 (n_v vs 0) 107) (w_ei w3 (w_ar ws (n_v vs 0) 2)) (w_ei w3 (w_ar ws (n_v vs 0) 102)) (w_ei w3 (w_ar ws (n_v vs 0) 108)) (w_ei w3 (w_ar ws (n_v vs 0) 109)) (w_fi w3 (n_v vs 0) 5) (w_fi w3 (n_v vs 0) 100) (w_fi ws (n_v vs 0) 107) (w_ei ws (w_ar ws (n_v vs 0) 108)) (w_ei w1 (w_ar ws (n_v vs 0) 108)) (w_ei w2 (w_ar ws (n_v vs 0) 108)) (w_ei ws (w_ar ws (n_v vs 0) 109)) (w_ei w1 (w_ar ws (n_v vs 0) 109)) (w_ei w2 (w_ar ws (n_v vs 0) 109)) k1 k2 k3 k5 k7 k8 d0 (shm_619 f0) (shm_12 f2) g3 (shm_617 f4) f5 (shm_617 f8) f9 (shm_617 f12) f13 f14 fe_0_5_1 fe_0_100_1 fe_0_107_1 fe_0_5_2 fe_0_100_2 fe_0_107_2 fe_0_5_3 fe_0_100_3 fe_0_107_3 hE_0_2_1 hE_0_2_2 hE_0_2_3 hE_0_102_1 hE_0_102_2 hE_0_102_3 hK_0_102 hE_0_108_1 hE_0_108_2 hE_0_108_3 hK_0_108 hE_0_109_1 hE_0_109_2 hE_0_109_3 hK_0_109 kz_0_100 kz_0_107)⟩
  have nf1 : fc_1 PRD (20, [0], [60, 3, 4, 440, 5, 107, 100, 2, 102, 108, 109]) ws (vs) := ⟨nf_in hl rfl, sgq_622 (vc_Mo_line_at_g1_1_1 (v_iv (n_v vs 1)) (v_iv (n_v vs 2)) (v_iv (n_v vs 3)) (v_iv (n_v vs 5)) (v_iv (n_v vs 7)) (v_iv (n_v vs 8)) (w_ei ws (w_ar ws (n_v vs 0) 2)) (w_ei ws (w_ar ws (n_v vs 0) 102)) (w_fi ws (n_v vs 0) 5) (w_fi ws (n_v vs 0) 100) (w_fi w1 (n_v vs 0) 107) (w_ei w1 (w_ar ws (n_v vs 0) 2)) (w_ei w1 (w_ar ws (n_v vs 0) 102)) (w_fi w1 (n_v vs 0) 5) (w_fi w1 (n_v vs 0) 100) (w_fi w2 (n_v vs 0) 107) (w_ei w2 (w_ar ws (n_v vs 0) 2)) (w_ei w2 (w_ar ws (n_v vs 0) 102)) (w_fi w2 (n_v vs 0) 5) (w_fi w2 (n_v vs 0) 100) (w_fi w3 (n_v vs 0) 107) (w_ei w3 (w_ar ws (n_v vs 0) 2)) (w_ei w3 (w_ar ws (n_v vs 0) 102)) (w_ei w3 (w_ar ws (n_v vs 0) 108)) (w_ei w3 (w_ar ws (n_v vs 0) 109)) (w_fi w3 (n_v vs 0) 5) (w_fi w3 (n_v vs 0) 100) (w_fi ws (n_v vs 0) 107) (w_ei ws (w_ar ws (n_v vs 0) 108)) (w_ei w1 (w_ar ws (n_v vs 0) 108)) (w_ei w2 (w_ar ws (n_v vs 0) 108)) (w_ei ws (w_ar ws (n_v vs 0) 109)) (w_ei w1 (w_ar ws (n_v vs 0) 109)) (w_ei w2 (w_ar ws (n_v vs 0) 109)) k1 k2 k3 k5 k7 k8 d0 (shm_619 f0) (shm_12 f2) g3 (shm_617 f4) f5 (shm_617 f8) f9 (shm_617 f12) f13 f14 fe_0_5_1 fe_0_100_1 fe_0_107_1 fe_0_5_2 fe_0_100_2 fe_0_107_2 fe_0_5_3 fe_0_100_3 fe_0_107_3 hE_0_2_1 hE_0_2_2 hE_0_2_3 hE_0_102_1 hE_0_102_2 hE_0_102_3 hK_0_102 hE_0_108_1 hE_0_108_2 hE_0_108_3 hK_0_108 hE_0_109_1 hE_0_109_2 hE_0_109_3 hK_0_109 kz_0_100 kz_0_107)⟩
  refine ⟨(fun _ h => (by cases h)), [], trivial, ?_, (fun _ h => (by cases h))⟩
  rw [List.append_nil]
  exact List.forall_mem_cons.mpr ⟨⟨show (20 : Nat) < 100 from by decide, nf0⟩, List.forall_mem_cons.mpr ⟨⟨show (20 : Nat) < 100 from by decide, nf1⟩, (fun _ h => (by cases h))⟩⟩
def n_Mo_line_at_g1_an : List an_T := []
def t_Mo_line_at_g1_ct : ct_L := []
set_option maxRecDepth 100000 in
theorem c_Mo_line_at_g1 {l : Launch} {D : va_G} {kA : Nat → ClassId} : ct_ok PRD l D kA GG y_Mo_line_at_g1 z_Mo_line_at_g1 e_Mo_line_at_g1 := chk_all_ok (FT := [(237, 13, 108), (240, 13, 109), (847, 13, 107)]) (PT := [(847, 13, 107, .int)]) (CT := t_Mo_line_at_g1_ct) (KT := []) (NT := []) (AN := n_Mo_line_at_g1_an) (OT := [o_Mo_line_at_g1_0, o_Mo_line_at_g1_1]) 0 200 (List.forall_mem_cons.mpr ⟨oo_Mo_line_at_g1_0, List.forall_mem_cons.mpr ⟨oo_Mo_line_at_g1_1, List.forall_mem_nil _⟩⟩) (by decide +kernel) ⟨List.forall_mem_cons.mpr ⟨gf_Mo_237, List.forall_mem_cons.mpr ⟨gf_Mo_240, List.forall_mem_cons.mpr ⟨gf_Mo_847, List.forall_mem_nil _⟩⟩⟩, List.forall_mem_cons.mpr ⟨pf_Mo_847, List.forall_mem_nil _⟩, List.forall_mem_nil _, List.forall_mem_nil _, List.forall_mem_nil _, GG_pl⟩ (by decide +kernel)
set_option maxHeartbeats 4000000 in
theorem vc_Mo_line_at_g2_0_r0 (x1 : Int) (x2 : Int) (x3 : Int) (x5 : Int) (lines_0 : Int) (all_0 : Int → Int) (itemLayer_0 : Int → Int) (lineA_0 : Int → Int) (lineB_0 : Int → Int) (r_0 : Int) (items_0 : Int) (k1 : 0 ≤ x1 ∧ x1 ≤ 75) (k2 : 0 ≤ x2 ∧ x2 ≤ 75) (k3 : 0 ≤ x3 ∧ x3 ≤ 129) (k5 : 0 ≤ x5 ∧ x5 ≤ 130) (g0 : x5 = lines_0) (f2 : lines_0 = x3) (f3 : LNP (r_0) (lines_0) (items_0) (all_0) (itemLayer_0) (lineA_0) (lineB_0)) (f4 : LNK (r_0) (items_0) (all_0) (itemLayer_0) (x1) (x2)) (hK_0_102 : ∀ j : Int, 0 ≤ j → j < 76 → 0 ≤ itemLayer_0 j ∧ itemLayer_0 j ≤ 75) (hK_0_108 : ∀ j : Int, 0 ≤ j → j < 130 → 0 ≤ lineA_0 j ∧ lineA_0 j ≤ 75) (hK_0_109 : ∀ j : Int, 0 ≤ j → j < 130 → 0 ≤ lineB_0 j ∧ lineB_0 j ≤ 75) (kz_0_100 : 0 ≤ items_0 ∧ items_0 ≤ 76) (kz_0_107 : 0 ≤ lines_0 ∧ lines_0 ≤ 130) : 0 ≤ x5 ∧ x5 ≤ 129 := by
  omega
def o_Mo_line_at_g2_0 : or_T := (9, 6, [(0, (2, 0, 0, [165])), (1, (0, 0, 75, [])), (2, (0, 0, 75, [])), (3, (0, 0, 129, [])), (4, (2, 0, 0, [240])), (5, (0, 0, 130, []))], [(9, [5, 0], [107]), (9, [4, 0], [108]), (20, [0, 3], [50, 1, 0, 107, 1, 3, 2, 0, 107, 1, 1]), (20, [0], [60, 3, 4, 439, 5, 107, 100, 2, 102, 108, 109]), (20, [0, 1, 2], [60, 2, 2, 464, 5, 100, 2, 102])], [(5, (0, 0, 129, []))], [], [], [], [])
theorem oo_Mo_line_at_g2_0 {kA : Nat → ClassId} : or_ok PRD kA GG o_Mo_line_at_g2_0 := by
  refine or_mk fun A ta ws vs hD hth hl => ?_
  intro t0 r0 t1 k1 t2 k2 t3 k3 t4 r4 t5 k5 f0 f1 f2 f3 f4
  replace f0 := shm_615 f0
  have cr_0_102 := fdq_158 hD hth r0
  have cr_0_108 := fdq_159 hD hth r0
  have cr_0_109 := fdq_160 hD hth r0
  have g0 : v_iv (n_v vs 5) = w_fi ws (n_v vs 0) 107 := congrArg v_iv f0
  have hK_0_102 := elq_88 hD hth cr_0_102
  have hK_0_108 := elq_89 hD hth cr_0_108
  have hK_0_109 := elq_90 hD hth cr_0_109
  have kz_0_100 := fdq_161 hD hth r0
  have kz_0_107 := fdq_162 hD hth r0
  have hrf0 : 0 ≤ v_iv (n_v vs 5) ∧ v_iv (n_v vs 5) ≤ 129 := vc_Mo_line_at_g2_0_r0 (v_iv (n_v vs 1)) (v_iv (n_v vs 2)) (v_iv (n_v vs 3)) (v_iv (n_v vs 5)) (w_fi ws (n_v vs 0) 107) (w_ei ws (w_ar ws (n_v vs 0) 2)) (w_ei ws (w_ar ws (n_v vs 0) 102)) (w_ei ws (w_ar ws (n_v vs 0) 108)) (w_ei ws (w_ar ws (n_v vs 0) 109)) (w_fi ws (n_v vs 0) 5) (w_fi ws (n_v vs 0) 100) k1 k2 k3 k5 g0 (shm_617 f2) (shm_618 f3) (shm_623 f4) hK_0_102 hK_0_108 hK_0_109 kz_0_100 kz_0_107
  have rf5 : tv_ok ta (0, 0, 129, []) (n_v vs 5) := tv_in t5 (by first | omega | grind) (by first | omega | grind)
  refine ⟨List.forall_mem_cons.mpr ⟨rf5, (fun _ h => (by cases h))⟩, [], trivial, ?_, (fun _ h => (by cases h))⟩
  rw [List.append_nil]
  exact (fun _ h => (by cases h))
set_option maxHeartbeats 4000000 in
theorem vc_Mo_line_at_g2_1_0 (x1 : Int) (x2 : Int) (x3 : Int) (x5 : Int) (x7 : Int) (x8 : Int) (all_0 : Int → Int) (itemLayer_0 : Int → Int) (r_0 : Int) (items_0 : Int) (lines_1 : Int) (all_1 : Int → Int) (itemLayer_1 : Int → Int) (r_1 : Int) (items_1 : Int) (lines_2 : Int) (all_2 : Int → Int) (itemLayer_2 : Int → Int) (r_2 : Int) (items_2 : Int) (lines_3 : Int) (all_3 : Int → Int) (itemLayer_3 : Int → Int) (lineA_3 : Int → Int) (lineB_3 : Int → Int) (r_3 : Int) (items_3 : Int) (lines_0 : Int) (lineA_0 : Int → Int) (lineA_1 : Int → Int) (lineA_2 : Int → Int) (lineB_0 : Int → Int) (lineB_1 : Int → Int) (lineB_2 : Int → Int) (k1 : 0 ≤ x1 ∧ x1 ≤ 75) (k2 : 0 ≤ x2 ∧ x2 ≤ 75) (k3 : 0 ≤ x3 ∧ x3 ≤ 129) (k5 : 0 ≤ x5 ∧ x5 ≤ 129) (k7 : 1 ≤ x7 ∧ x7 ≤ 1) (k8 : 1 ≤ x8 ∧ x8 ≤ 130) (d0 : x5 + 1 ≤ x8 ∧ x8 ≤ x5 + 1) (f0 : LNK (r_0) (items_0) (all_0) (itemLayer_0) (x1) (x2)) (f2 : x8 = x5 + x7) (g3 : x5 = lines_1) (f4 : lines_1 = x3) (f5 : LNK (r_1) (items_1) (all_1) (itemLayer_1) (x1) (x2)) (f8 : lines_2 = x3) (f9 : LNK (r_2) (items_2) (all_2) (itemLayer_2) (x1) (x2)) (f12 : lines_3 = x3) (f13 : LNP (r_3) (lines_3) (items_3) (all_3) (itemLayer_3) (lineA_3) (lineB_3)) (f14 : LNK (r_3) (items_3) (all_3) (itemLayer_3) (x1) (x2)) (fe_0_5_1 : r_0 = r_1) (fe_0_100_1 : items_0 = items_1) (fe_0_107_1 : lines_0 = x8) (fe_0_5_2 : r_1 = r_2) (fe_0_100_2 : items_1 = items_2) (fe_0_107_2 : lines_1 = lines_2) (fe_0_5_3 : r_2 = r_3) (fe_0_100_3 : items_2 = items_3) (fe_0_107_3 : lines_2 = lines_3) (hE_0_2_1 : ∀ j : Int, all_0 j = all_1 j) (hE_0_2_2 : ∀ j : Int, all_1 j = all_2 j) (hE_0_2_3 : ∀ j : Int, all_2 j = all_3 j) (hE_0_102_1 : ∀ j : Int, itemLayer_0 j = itemLayer_1 j) (hE_0_102_2 : ∀ j : Int, itemLayer_1 j = itemLayer_2 j) (hE_0_102_3 : ∀ j : Int, itemLayer_2 j = itemLayer_3 j) (hK_0_102 : ∀ j : Int, 0 ≤ j → j < 76 → 0 ≤ itemLayer_0 j ∧ itemLayer_0 j ≤ 75) (hE_0_108_1 : ∀ j : Int, lineA_0 j = lineA_1 j) (hE_0_108_2 : ∀ j : Int, lineA_1 j = lineA_2 j) (hE_0_108_3 : ∀ j : Int, 0 ≤ j → (j = x5 → lineA_2 j = x1) ∧ (j ≠ x5 → lineA_2 j = lineA_3 j)) (hK_0_108 : ∀ j : Int, 0 ≤ j → j < 130 → 0 ≤ lineA_0 j ∧ lineA_0 j ≤ 75) (hE_0_109_1 : ∀ j : Int, lineB_0 j = lineB_1 j) (hE_0_109_2 : ∀ j : Int, 0 ≤ j → (j = x5 → lineB_1 j = x2) ∧ (j ≠ x5 → lineB_1 j = lineB_2 j)) (hE_0_109_3 : ∀ j : Int, lineB_2 j = lineB_3 j) (hK_0_109 : ∀ j : Int, 0 ≤ j → j < 130 → 0 ≤ lineB_0 j ∧ lineB_0 j ≤ 75) (kz_0_100 : 0 ≤ items_0 ∧ items_0 ≤ 76) (kz_0_107 : 0 ≤ lines_0 ∧ lines_0 ≤ 130) : lines_0 = (x3 + 1) := by
  subst fe_0_5_1
  subst fe_0_100_1
  subst fe_0_5_2
  subst fe_0_100_2
  subst fe_0_107_2
  subst fe_0_5_3
  subst fe_0_100_3
  subst fe_0_107_3
  have e_hE_0_2_1 := funext hE_0_2_1; subst e_hE_0_2_1
  have e_hE_0_2_2 := funext hE_0_2_2; subst e_hE_0_2_2
  have e_hE_0_2_3 := funext hE_0_2_3; subst e_hE_0_2_3
  have e_hE_0_102_1 := funext hE_0_102_1; subst e_hE_0_102_1
  have e_hE_0_102_2 := funext hE_0_102_2; subst e_hE_0_102_2
  have e_hE_0_102_3 := funext hE_0_102_3; subst e_hE_0_102_3
  have e_hE_0_108_1 := funext hE_0_108_1; subst e_hE_0_108_1
  have e_hE_0_108_2 := funext hE_0_108_2; subst e_hE_0_108_2
  have e_hE_0_109_1 := funext hE_0_109_1; subst e_hE_0_109_1
  have e_hE_0_109_3 := funext hE_0_109_3; subst e_hE_0_109_3
  omega
set_option maxHeartbeats 4000000 in
theorem vc_Mo_line_at_g2_1_1 (x1 : Int) (x2 : Int) (x3 : Int) (x5 : Int) (x7 : Int) (x8 : Int) (all_0 : Int → Int) (itemLayer_0 : Int → Int) (r_0 : Int) (items_0 : Int) (lines_1 : Int) (all_1 : Int → Int) (itemLayer_1 : Int → Int) (r_1 : Int) (items_1 : Int) (lines_2 : Int) (all_2 : Int → Int) (itemLayer_2 : Int → Int) (r_2 : Int) (items_2 : Int) (lines_3 : Int) (all_3 : Int → Int) (itemLayer_3 : Int → Int) (lineA_3 : Int → Int) (lineB_3 : Int → Int) (r_3 : Int) (items_3 : Int) (lines_0 : Int) (lineA_0 : Int → Int) (lineA_1 : Int → Int) (lineA_2 : Int → Int) (lineB_0 : Int → Int) (lineB_1 : Int → Int) (lineB_2 : Int → Int) (k1 : 0 ≤ x1 ∧ x1 ≤ 75) (k2 : 0 ≤ x2 ∧ x2 ≤ 75) (k3 : 0 ≤ x3 ∧ x3 ≤ 129) (k5 : 0 ≤ x5 ∧ x5 ≤ 129) (k7 : 1 ≤ x7 ∧ x7 ≤ 1) (k8 : 1 ≤ x8 ∧ x8 ≤ 130) (d0 : x5 + 1 ≤ x8 ∧ x8 ≤ x5 + 1) (f0 : LNK (r_0) (items_0) (all_0) (itemLayer_0) (x1) (x2)) (f2 : x8 = x5 + x7) (g3 : x5 = lines_1) (f4 : lines_1 = x3) (f5 : LNK (r_1) (items_1) (all_1) (itemLayer_1) (x1) (x2)) (f8 : lines_2 = x3) (f9 : LNK (r_2) (items_2) (all_2) (itemLayer_2) (x1) (x2)) (f12 : lines_3 = x3) (f13 : LNP (r_3) (lines_3) (items_3) (all_3) (itemLayer_3) (lineA_3) (lineB_3)) (f14 : LNK (r_3) (items_3) (all_3) (itemLayer_3) (x1) (x2)) (fe_0_5_1 : r_0 = r_1) (fe_0_100_1 : items_0 = items_1) (fe_0_107_1 : lines_0 = x8) (fe_0_5_2 : r_1 = r_2) (fe_0_100_2 : items_1 = items_2) (fe_0_107_2 : lines_1 = lines_2) (fe_0_5_3 : r_2 = r_3) (fe_0_100_3 : items_2 = items_3) (fe_0_107_3 : lines_2 = lines_3) (hE_0_2_1 : ∀ j : Int, all_0 j = all_1 j) (hE_0_2_2 : ∀ j : Int, all_1 j = all_2 j) (hE_0_2_3 : ∀ j : Int, all_2 j = all_3 j) (hE_0_102_1 : ∀ j : Int, itemLayer_0 j = itemLayer_1 j) (hE_0_102_2 : ∀ j : Int, itemLayer_1 j = itemLayer_2 j) (hE_0_102_3 : ∀ j : Int, itemLayer_2 j = itemLayer_3 j) (hK_0_102 : ∀ j : Int, 0 ≤ j → j < 76 → 0 ≤ itemLayer_0 j ∧ itemLayer_0 j ≤ 75) (hE_0_108_1 : ∀ j : Int, lineA_0 j = lineA_1 j) (hE_0_108_2 : ∀ j : Int, lineA_1 j = lineA_2 j) (hE_0_108_3 : ∀ j : Int, 0 ≤ j → (j = x5 → lineA_2 j = x1) ∧ (j ≠ x5 → lineA_2 j = lineA_3 j)) (hK_0_108 : ∀ j : Int, 0 ≤ j → j < 130 → 0 ≤ lineA_0 j ∧ lineA_0 j ≤ 75) (hE_0_109_1 : ∀ j : Int, lineB_0 j = lineB_1 j) (hE_0_109_2 : ∀ j : Int, 0 ≤ j → (j = x5 → lineB_1 j = x2) ∧ (j ≠ x5 → lineB_1 j = lineB_2 j)) (hE_0_109_3 : ∀ j : Int, lineB_2 j = lineB_3 j) (hK_0_109 : ∀ j : Int, 0 ≤ j → j < 130 → 0 ≤ lineB_0 j ∧ lineB_0 j ≤ 75) (kz_0_100 : 0 ≤ items_0 ∧ items_0 ≤ 76) (kz_0_107 : 0 ≤ lines_0 ∧ lines_0 ≤ 130) : LNP (r_0) (lines_0) (items_0) (all_0) (itemLayer_0) (lineA_0) (lineB_0) := by
  subst fe_0_5_1
  subst fe_0_100_1
  subst fe_0_5_2
  subst fe_0_100_2
  subst fe_0_107_2
  subst fe_0_5_3
  subst fe_0_100_3
  subst fe_0_107_3
  have e_hE_0_2_1 := funext hE_0_2_1; subst e_hE_0_2_1
  have e_hE_0_2_2 := funext hE_0_2_2; subst e_hE_0_2_2
  have e_hE_0_2_3 := funext hE_0_2_3; subst e_hE_0_2_3
  have e_hE_0_102_1 := funext hE_0_102_1; subst e_hE_0_102_1
  have e_hE_0_102_2 := funext hE_0_102_2; subst e_hE_0_102_2
  have e_hE_0_102_3 := funext hE_0_102_3; subst e_hE_0_102_3
  have e_hE_0_108_1 := funext hE_0_108_1; subst e_hE_0_108_1
  have e_hE_0_108_2 := funext hE_0_108_2; subst e_hE_0_108_2
  have e_hE_0_109_1 := funext hE_0_109_1; subst e_hE_0_109_1
  have e_hE_0_109_3 := funext hE_0_109_3; subst e_hE_0_109_3
  exact lnp_more ‹LNP _ _ _ _ _ _ _› (by omega) (Int.le_refl _) (by omega) ‹LNK _ _ _ _ _ _› (by assumption) (by assumption) (by omega) (by omega)
def o_Mo_line_at_g2_1 : or_T := (30, 9, [(0, (2, 0, 0, [165])), (1, (0, 0, 75, [])), (2, (0, 0, 75, [])), (3, (0, 0, 129, [])), (4, (2, 0, 0, [240])), (5, (0, 0, 129, [])), (6, (2, 0, 0, [241])), (7, (0, 1, 1, [])), (8, (0, 1, 130, []))], [(20, [0, 1, 2], [60, 2, 2, 464, 5, 100, 2, 102]), (101, [0, 8], [107]), (1, [8, 5, 7], []), (9, [5, 0], [107]), (20, [0, 3], [50, 1, 0, 107, 1, 3, 2, 0, 107, 1, 1]), (20, [0, 1, 2], [60, 2, 2, 464, 5, 100, 2, 102]), (100, [6, 5, 2], []), (9, [6, 0], [109]), (20, [0, 3], [50, 1, 0, 107, 1, 3, 2, 0, 107, 1, 1]), (20, [0, 1, 2], [60, 2, 2, 464, 5, 100, 2, 102]), (100, [4, 5, 1], []), (9, [4, 0], [108]), (20, [0, 3], [50, 1, 0, 107, 1, 3, 2, 0, 107, 1, 1]), (20, [0], [60, 3, 4, 439, 5, 107, 100, 2, 102, 108, 109]), (20, [0, 1, 2], [60, 2, 2, 464, 5, 100, 2, 102])], [], [], [(20, [0, 3], [50, 1, 0, 107, 1, 3, 2, 0, 107, 4, 2, 1, 1, 0, 1]), (20, [0], [60, 3, 4, 439, 5, 107, 100, 2, 102, 108, 109])], [], [(8, 5, 1, 1)])
theorem oo_Mo_line_at_g2_1 {kA : Nat → ClassId} : or_ok PRD kA GG o_Mo_line_at_g2_1 := by
  refine or_mk fun A ta ws vs hD hth hl => ?_
  intro t0 r0 t1 k1 t2 k2 t3 k3 t4 r4 t5 k5 t6 r6 t7 k7 t8 k8 d0 f0 ta1 w1 le1 s1 f2 f3 f4 f5 ta2 w2 le2 s2 f7 f8 f9 ta3 w3 le3 s3 f11 f12 f13 f14
  have s1 : (∀ b j, w_el ws b j = w_el w1 b j) ∧ ∀ b j, w_fd ws b j = if b = v_ad (n_v vs 0) ∧ j = 107 then n_v vs 8 else w_fd w1 b j := s1.2
  replace f3 := shm_615 f3
  replace f5 := shm_623 f5
  have s2 : (∀ b j, w_el w1 b j = if b = v_ad (n_v vs 6) ∧ j = (v_iv (n_v vs 5)).toNat then v_iv (n_v vs 2) else w_el w2 b j) ∧ ∀ b k, w_fd w1 b k = w_fd w2 b k := s2.2
  replace f7 := shm_620 f7
  replace f9 := shm_623 f9
  have s3 : (∀ b j, w_el w2 b j = if b = v_ad (n_v vs 4) ∧ j = (v_iv (n_v vs 5)).toNat then v_iv (n_v vs 1) else w_el w3 b j) ∧ ∀ b k, w_fd w2 b k = w_fd w3 b k := s3.2
  replace f11 := shm_616 f11
  replace f13 := shm_618 f13
  replace f14 := shm_623 f14
  have ar_0_2_1 : w_ar w1 (n_v vs 0) 2 = w_ar ws (n_v vs 0) 2 := by show v_ad (w_fd w1 _ _) = v_ad (w_fd ws _ _); rw [s1.2, if_neg (fun e => absurd e.2 (by decide))]
  have ar_0_2_2 : w_ar w2 (n_v vs 0) 2 = w_ar ws (n_v vs 0) 2 := by rw [← ar_0_2_1]; show v_ad (w_fd w2 _ _) = v_ad (w_fd w1 _ _); rw [s2.2]
  have ar_0_2_3 : w_ar w3 (n_v vs 0) 2 = w_ar ws (n_v vs 0) 2 := by rw [← ar_0_2_2]; show v_ad (w_fd w3 _ _) = v_ad (w_fd w2 _ _); rw [s3.2]
  have cr_0_2 := fdq_12 hD hth r0
  have ar_0_102_1 : w_ar w1 (n_v vs 0) 102 = w_ar ws (n_v vs 0) 102 := by show v_ad (w_fd w1 _ _) = v_ad (w_fd ws _ _); rw [s1.2, if_neg (fun e => absurd e.2 (by decide))]
  have ar_0_102_2 : w_ar w2 (n_v vs 0) 102 = w_ar ws (n_v vs 0) 102 := by rw [← ar_0_102_1]; show v_ad (w_fd w2 _ _) = v_ad (w_fd w1 _ _); rw [s2.2]
  have ar_0_102_3 : w_ar w3 (n_v vs 0) 102 = w_ar ws (n_v vs 0) 102 := by rw [← ar_0_102_2]; show v_ad (w_fd w3 _ _) = v_ad (w_fd w2 _ _); rw [s3.2]
  have cr_0_102 := fdq_158 hD hth r0
  have ar_0_108_1 : w_ar w1 (n_v vs 0) 108 = w_ar ws (n_v vs 0) 108 := by show v_ad (w_fd w1 _ _) = v_ad (w_fd ws _ _); rw [s1.2, if_neg (fun e => absurd e.2 (by decide))]
  have ar_0_108_2 : w_ar w2 (n_v vs 0) 108 = w_ar ws (n_v vs 0) 108 := by rw [← ar_0_108_1]; show v_ad (w_fd w2 _ _) = v_ad (w_fd w1 _ _); rw [s2.2]
  have ar_0_108_3 : w_ar w3 (n_v vs 0) 108 = w_ar ws (n_v vs 0) 108 := by rw [← ar_0_108_2]; show v_ad (w_fd w3 _ _) = v_ad (w_fd w2 _ _); rw [s3.2]
  have cr_0_108 := fdq_159 hD hth r0
  have ar_0_109_1 : w_ar w1 (n_v vs 0) 109 = w_ar ws (n_v vs 0) 109 := by show v_ad (w_fd w1 _ _) = v_ad (w_fd ws _ _); rw [s1.2, if_neg (fun e => absurd e.2 (by decide))]
  have ar_0_109_2 : w_ar w2 (n_v vs 0) 109 = w_ar ws (n_v vs 0) 109 := by rw [← ar_0_109_1]; show v_ad (w_fd w2 _ _) = v_ad (w_fd w1 _ _); rw [s2.2]
  have ar_0_109_3 : w_ar w3 (n_v vs 0) 109 = w_ar ws (n_v vs 0) 109 := by rw [← ar_0_109_2]; show v_ad (w_fd w3 _ _) = v_ad (w_fd w2 _ _); rw [s3.2]
  have cr_0_109 := fdq_160 hD hth r0
  have ad_6 : v_ad (n_v vs 6) = w_ar ws (n_v vs 0) 109 := (congrArg v_ad f7).trans ar_0_109_2
  have ad_4 : v_ad (n_v vs 4) = w_ar ws (n_v vs 0) 108 := (congrArg v_ad f11).trans ar_0_108_3
  have g3 : v_iv (n_v vs 5) = w_fi w1 (n_v vs 0) 107 := congrArg v_iv f3
  simp only [ar_0_2_1, ar_0_102_1, ar_0_2_2, ar_0_102_2, ar_0_2_3, ar_0_102_3, ar_0_108_3, ar_0_109_3] at f5 f9 f13 f14
  have fe_0_5_1 : w_fi ws (n_v vs 0) 5 = w_fi w1 (n_v vs 0) 5 := by show v_iv (w_fd _ _ _) = v_iv (w_fd _ _ _); rw [s1.2, if_neg (fun e => absurd e.2 (by decide))]
  have fe_0_100_1 : w_fi ws (n_v vs 0) 100 = w_fi w1 (n_v vs 0) 100 := by show v_iv (w_fd _ _ _) = v_iv (w_fd _ _ _); rw [s1.2, if_neg (fun e => absurd e.2 (by decide))]
  have fe_0_107_1 : w_fi ws (n_v vs 0) 107 = v_iv (n_v vs 8) := by show v_iv (w_fd _ _ _) = _; rw [s1.2, if_pos ⟨rfl, rfl⟩]
  have fe_0_5_2 : w_fi w1 (n_v vs 0) 5 = w_fi w2 (n_v vs 0) 5 := congrArg v_iv (s2.2 _ _)
  have fe_0_100_2 : w_fi w1 (n_v vs 0) 100 = w_fi w2 (n_v vs 0) 100 := congrArg v_iv (s2.2 _ _)
  have fe_0_107_2 : w_fi w1 (n_v vs 0) 107 = w_fi w2 (n_v vs 0) 107 := congrArg v_iv (s2.2 _ _)
  have fe_0_5_3 : w_fi w2 (n_v vs 0) 5 = w_fi w3 (n_v vs 0) 5 := congrArg v_iv (s3.2 _ _)
  have fe_0_100_3 : w_fi w2 (n_v vs 0) 100 = w_fi w3 (n_v vs 0) 100 := congrArg v_iv (s3.2 _ _)
  have fe_0_107_3 : w_fi w2 (n_v vs 0) 107 = w_fi w3 (n_v vs 0) 107 := congrArg v_iv (s3.2 _ _)
  have hE_0_2_1 : ∀ j : Int, w_ei ws (w_ar ws (n_v vs 0) 2) j = w_ei w1 (w_ar ws (n_v vs 0) 2) j := fun j => s1.1 _ _
  have hE_0_2_2 : ∀ j : Int, w_ei w1 (w_ar ws (n_v vs 0) 2) j = w_ei w2 (w_ar ws (n_v vs 0) 2) j := el_kp s2.1 r6 cr_0_2 (by decide)
  have hE_0_2_3 : ∀ j : Int, w_ei w2 (w_ar ws (n_v vs 0) 2) j = w_ei w3 (w_ar ws (n_v vs 0) 2) j := el_kp s3.1 r4 cr_0_2 (by decide)
  have hE_0_102_1 : ∀ j : Int, w_ei ws (w_ar ws (n_v vs 0) 102) j = w_ei w1 (w_ar ws (n_v vs 0) 102) j := fun j => s1.1 _ _
  have hE_0_102_2 : ∀ j : Int, w_ei w1 (w_ar ws (n_v vs 0) 102) j = w_ei w2 (w_ar ws (n_v vs 0) 102) j := el_kp s2.1 r6 cr_0_102 (by decide)
  have hE_0_102_3 : ∀ j : Int, w_ei w2 (w_ar ws (n_v vs 0) 102) j = w_ei w3 (w_ar ws (n_v vs 0) 102) j := el_kp s3.1 r4 cr_0_102 (by decide)
  have hK_0_102 := elq_88 hD hth cr_0_102
  have hE_0_108_1 : ∀ j : Int, w_ei ws (w_ar ws (n_v vs 0) 108) j = w_ei w1 (w_ar ws (n_v vs 0) 108) j := fun j => s1.1 _ _
  have hE_0_108_2 : ∀ j : Int, w_ei w1 (w_ar ws (n_v vs 0) 108) j = w_ei w2 (w_ar ws (n_v vs 0) 108) j := el_kp s2.1 r6 cr_0_108 (by decide)
  have hE_0_108_3 : ∀ j : Int, 0 ≤ j → (j = v_iv (n_v vs 5) → w_ei w2 (w_ar ws (n_v vs 0) 108) j = v_iv (n_v vs 1)) ∧ (j ≠ v_iv (n_v vs 5) → w_ei w2 (w_ar ws (n_v vs 0) 108) j = w_ei w3 (w_ar ws (n_v vs 0) 108) j) := fun j hj => ⟨fun h => by unfold w_ei; rw [s3.1, if_pos ⟨ad_4.symm, by rw [h]⟩], fun h => by unfold w_ei; rw [s3.1, if_neg (fun e => h (by have := e.2; omega))]⟩
  have hK_0_108 := elq_89 hD hth cr_0_108
  have hE_0_109_1 : ∀ j : Int, w_ei ws (w_ar ws (n_v vs 0) 109) j = w_ei w1 (w_ar ws (n_v vs 0) 109) j := fun j => s1.1 _ _
  have hE_0_109_2 : ∀ j : Int, 0 ≤ j → (j = v_iv (n_v vs 5) → w_ei w1 (w_ar ws (n_v vs 0) 109) j = v_iv (n_v vs 2)) ∧ (j ≠ v_iv (n_v vs 5) → w_ei w1 (w_ar ws (n_v vs 0) 109) j = w_ei w2 (w_ar ws (n_v vs 0) 109) j) := fun j hj => ⟨fun h => by unfold w_ei; rw [s2.1, if_pos ⟨ad_6.symm, by rw [h]⟩], fun h => by unfold w_ei; rw [s2.1, if_neg (fun e => h (by have := e.2; omega))]⟩
  have hE_0_109_3 : ∀ j : Int, w_ei w2 (w_ar ws (n_v vs 0) 109) j = w_ei w3 (w_ar ws (n_v vs 0) 109) j := el_kp s3.1 r4 cr_0_109 (by decide)
  have hK_0_109 := elq_90 hD hth cr_0_109
  have kz_0_100 := fdq_161 hD hth r0
  have kz_0_107 := fdq_162 hD hth r0
  have nf0 : fc_1 PRD (20, [0, 3], [50, 1, 0, 107, 1, 3, 2, 0, 107, 4, 2, 1, 1, 0, 1]) ws (vs) := ⟨nf_in hl rfl, sgq_621 (vc_Mo_line_at_g2_1_0 (v_iv (n_v vs 1)) (v_iv (n_v vs 2)) (v_iv (n_v vs 3)) (v_iv (n_v vs 5)) (v_iv (n_v vs 7)) (v_iv (n_v vs 8)) (w_ei ws (w_ar ws (n_v vs 0) 2)) (w_ei ws (w_ar ws (n_v vs 0) 102)) (w_fi ws (n_v vs 0) 5) (w_fi ws (n_v vs 0) 100) (w_fi w1 (n_v vs 0) 107) (w_ei w1 (w_ar ws (n_v vs 0) 2)) (w_ei w1 (w_ar ws (n_v vs 0) 102)) (w_fi w1 (n_v vs 0) 5) (w_fi w1 (n_v vs 0) 100) (w_fi w2 (n_v vs 0) 107) (w_ei w2 (w_ar ws (n_v vs 0) 2)) (w_ei w2 (w_ar ws (n_v vs 0) 102)) (w_fi w2 (n_v vs 0) 5) (w_fi w2 (n_v vs 0) 100) (w_fi w3 (n_v vs 0) 107) (w_ei w3 (w_ar ws (n_v vs 0) 2)) (w_ei w3 (w_ar ws (n_v vs 0) 102)) (w_ei w3 (w_ar ws (n_v vs 0) 108)) (w_ei w3 (w_ar ws (n_v vs 0) 109)) (w_fi w3 (n_v vs 0) 5) (w_fi w3 (n_v vs 0) 100) (w_fi ws (n_v vs 0) 107) (w_ei ws (w_ar ws (n_v vs 0) 108)) (w_ei w1 (w_ar ws (n_v vs 0) 108)) (w_ei w2 (w_ar ws (n_v vs 0) 108)) (w_ei ws (w_ar ws (n_v vs 0) 109)) (w_ei w1 (w_ar ws (n_v vs 0) 109)) (w_ei w2 (w_ar ws (n_v vs 0) 109)) k1 k2 k3 k5 k7 k8 d0 (shm_623 f0) (shm_12 f2) g3 (shm_617 f4) f5 (shm_617 f8) f9 (shm_617 f12) f13 f14 fe_0_5_1 fe_0_100_1 fe_0_107_1 fe_0_5_2 fe_0_100_2 fe_0_107_2 fe_0_5_3 fe_0_100_3 fe_0_107_3 hE_0_2_1 hE_0_2_2 hE_0_2_3 hE_0_102_1 hE_0_102_2 hE_0_102_3 hK_0_102 hE_0_108_1 hE_0_108_2 hE_0_108_3 hK_0_108 hE_0_109_1 hE_0_109_2 hE_0_109_3 hK_0_109 kz_0_100 kz_0_107)⟩
  have nf1 : fc_1 PRD (20, [0], [60, 3, 4, 439, 5, 107, 100, 2, 102, 108, 109]) ws (vs) := ⟨nf_in hl rfl, sgq_618 (vc_Mo_line_at_g2_1_1 (v_iv (n_v vs 1)) (v_iv (n_v vs 2)) (v_iv (n_v vs 3)) (v_iv (n_v vs 5)) (v_iv (n_v vs 7)) (v_iv (n_v vs 8)) (w_ei ws (w_ar ws (n_v vs 0) 2)) (w_ei ws (w_ar ws (n_v vs 0) 102)) (w_fi ws (n_v vs 0) 5) (w_fi ws (n_v vs 0) 100) (w_fi w1 (n_v vs 0) 107) (w_ei w1 (w_ar ws (n_v vs 0) 2)) (w_ei w1 (w_ar ws (n_v vs 0) 102)) (w_fi w1 (n_v vs 0) 5) (w_fi w1 (n_v vs 0) 100) (w_fi w2 (n_v vs 0) 107) (w_ei w2 (w_ar ws (n_v vs 0) 2)) (w_ei w2 (w_ar ws (n_v vs 0) 102)) (w_fi w2 (n_v vs 0) 5) (w_fi w2 (n_v vs 0) 100) (w_fi w3 (n_v vs 0) 107) (w_ei w3 (w_ar ws (n_v vs 0) 2)) (w_ei w3 (w_ar ws (n_v vs 0) 102)) (w_ei w3 (w_ar ws (n_v vs 0) 108)) (w_ei w3 (w_ar ws (n_v vs 0) 109)) (w_fi w3 (n_v vs 0) 5) (w_fi w3 (n_v vs 0) 100) (w_fi ws (n_v vs 0) 107) (w_ei ws (w_ar ws (n_v vs 0) 108)) (w_ei w1 (w_ar ws (n_v vs 0) 108)) (w_ei w2 (w_ar ws (n_v vs 0) 108)) (w_ei ws (w_ar ws (n_v vs 0) 109)) (w_ei w1 (w_ar ws (n_v vs 0) 109)) (w_ei w2 (w_ar ws (n_v vs 0) 109)) k1 k2 k3 k5 k7 k8 d0 (shm_623 f0) (shm_12 f2) g3 (shm_617 f4) f5 (shm_617 f8) f9 (shm_617 f12) f13 f14 fe_0_5_1 fe_0_100_1 fe_0_107_1 fe_0_5_2 fe_0_100_2 fe_0_107_2 fe_0_5_3 fe_0_100_3 fe_0_107_3 hE_0_2_1 hE_0_2_2 hE_0_2_3 hE_0_102_1 hE_0_102_2 hE_0_102_3 hK_0_102 hE_0_108_1 hE_0_108_2 hE_0_108_3 hK_0_108 hE_0_109_1 hE_0_109_2 hE_0_109_3 hK_0_109 kz_0_100 kz_0_107)⟩
  refine ⟨(fun _ h => (by cases h)), [], trivial, ?_, (fun _ h => (by cases h))⟩
  rw [List.append_nil]
  exact List.forall_mem_cons.mpr ⟨⟨show (20 : Nat) < 100 from by decide, nf0⟩, List.forall_mem_cons.mpr ⟨⟨show (20 : Nat) < 100 from by decide, nf1⟩, (fun _ h => (by cases h))⟩⟩
def n_Mo_line_at_g2_an : List an_T := []
def t_Mo_line_at_g2_ct : ct_L := []
set_option maxRecDepth 100000 in
theorem c_Mo_line_at_g2 {l : Launch} {D : va_G} {kA : Nat → ClassId} : ct_ok PRD l D kA GG y_Mo_line_at_g2 z_Mo_line_at_g2 e_Mo_line_at_g2 := chk_all_ok (FT := [(237, 13, 108), (240, 13, 109), (847, 13, 107)]) (PT := [(847, 13, 107, .int)]) (CT := t_Mo_line_at_g2_ct) (KT := []) (NT := []) (AN := n_Mo_line_at_g2_an) (OT := [o_Mo_line_at_g2_0, o_Mo_line_at_g2_1]) 0 200 (List.forall_mem_cons.mpr ⟨oo_Mo_line_at_g2_0, List.forall_mem_cons.mpr ⟨oo_Mo_line_at_g2_1, List.forall_mem_nil _⟩⟩) (by decide +kernel) ⟨List.forall_mem_cons.mpr ⟨gf_Mo_237, List.forall_mem_cons.mpr ⟨gf_Mo_240, List.forall_mem_cons.mpr ⟨gf_Mo_847, List.forall_mem_nil _⟩⟩⟩, List.forall_mem_cons.mpr ⟨pf_Mo_847, List.forall_mem_nil _⟩, List.forall_mem_nil _, List.forall_mem_nil _, List.forall_mem_nil _, GG_pl⟩ (by decide +kernel)
set_option maxHeartbeats 4000000 in
theorem vc_Mo_low_0_0 (x1 : Int) (x4 : Int) (x7 : Int) (x9 : Int) (ph_0 : Int → Int) (pt_0 : Int → Int) (k1 : 0 ≤ x1 ∧ x1 ≤ 79) (k4 : 0 ≤ x4 ∧ x4 ≤ 24) (k7 : 0 ≤ x7 ∧ x7 ≤ 24) (k9 : 0 ≤ x9 ∧ x9 ≤ 24) (h0 : x9 = ph_0 (x1)) (h2 : x7 = ph_0 (x1)) (h3 : x4 = pt_0 (x1)) (hK_0_33 : ∀ j : Int, 0 ≤ j → j < 80 → 0 ≤ pt_0 j ∧ pt_0 j ≤ 24) (hK_0_34 : ∀ j : Int, 0 ≤ j → j < 80 → 0 ≤ ph_0 j ∧ ph_0 j ≤ 24) : LWE (pt_0) (ph_0) (x1) (x9) := by
  first
    | exact Or.inl (by omega)
    | exact Or.inr (by omega)
    | exact Or.inl (by assumption)
    | exact Or.inr (by assumption)
  
def o_Mo_low_0 : or_T := (40, 10, [(0, (2, 0, 0, [165])), (1, (0, 0, 79, [])), (3, (2, 0, 0, [180])), (4, (0, 0, 24, [])), (6, (2, 0, 0, [181])), (7, (0, 0, 24, [])), (9, (0, 0, 24, []))], [(10, [9, 6, 1], []), (9, [6, 0], [34]), (10, [7, 6, 1], []), (10, [4, 3, 1], []), (9, [3, 0], [33])], [], [], [(20, [0, 1, 9], [60, 0, 2, 788, 33, 34])], [], [])
theorem oo_Mo_low_0 {kA : Nat → ClassId} : or_ok PRD kA GG o_Mo_low_0 := by
  refine or_mk fun A ta ws vs hD hth hl => ?_
  intro t0 r0 t1 k1 t3 r3 t4 k4 t6 r6 t7 k7 t9 k9 f0 f1 f2 f3 f4
  replace f0 := shm_106 f0
  replace f1 := shm_490 f1
  replace f2 := shm_106 f2
  replace f3 := shm_106 f3
  replace f4 := shm_488 f4
  have cr_0_33 := fdq_116 hD hth r0
  have cr_0_34 := fdq_117 hD hth r0
  have ad_6 : v_ad (n_v vs 6) = w_ar ws (n_v vs 0) 34 := congrArg v_ad f1
  have ad_3 : v_ad (n_v vs 3) = w_ar ws (n_v vs 0) 33 := congrArg v_ad f4
  simp only [ad_6] at f0
  have h0 : v_iv (n_v vs 9) = w_ei ws (w_ar ws (n_v vs 0) 34) (v_iv (n_v vs 1)) := f0
  simp only [ad_6] at f2
  have h2 : v_iv (n_v vs 7) = w_ei ws (w_ar ws (n_v vs 0) 34) (v_iv (n_v vs 1)) := f2
  simp only [ad_3] at f3
  have h3 : v_iv (n_v vs 4) = w_ei ws (w_ar ws (n_v vs 0) 33) (v_iv (n_v vs 1)) := f3
  have hK_0_33 := elq_57 hD hth cr_0_33
  have hK_0_34 := elq_58 hD hth cr_0_34
  have nf0 : fc_1 PRD (20, [0, 1, 9], [60, 0, 2, 788, 33, 34]) ws (vs) := ⟨nf_in hl rfl, sgq_624 (vc_Mo_low_0_0 (v_iv (n_v vs 1)) (v_iv (n_v vs 4)) (v_iv (n_v vs 7)) (v_iv (n_v vs 9)) (w_ei ws (w_ar ws (n_v vs 0) 34)) (w_ei ws (w_ar ws (n_v vs 0) 33)) k1 k4 k7 k9 h0 h2 h3 hK_0_33 hK_0_34)⟩
  refine ⟨(fun _ h => (by cases h)), [], trivial, ?_, (fun _ h => (by cases h))⟩
  rw [List.append_nil]
  exact List.forall_mem_cons.mpr ⟨⟨show (20 : Nat) < 100 from by decide, nf0⟩, (fun _ h => (by cases h))⟩
set_option maxHeartbeats 4000000 in
theorem vc_Mo_low_1_0 (x1 : Int) (x4 : Int) (x7 : Int) (x9 : Int) (pt_0 : Int → Int) (ph_0 : Int → Int) (k1 : 0 ≤ x1 ∧ x1 ≤ 79) (k4 : 0 ≤ x4 ∧ x4 ≤ 24) (k7 : 0 ≤ x7 ∧ x7 ≤ 24) (k9 : 0 ≤ x9 ∧ x9 ≤ 24) (h0 : x9 = pt_0 (x1)) (h2 : x7 = ph_0 (x1)) (h4 : x4 = pt_0 (x1)) (hK_0_33 : ∀ j : Int, 0 ≤ j → j < 80 → 0 ≤ pt_0 j ∧ pt_0 j ≤ 24) (hK_0_34 : ∀ j : Int, 0 ≤ j → j < 80 → 0 ≤ ph_0 j ∧ ph_0 j ≤ 24) : LWE (pt_0) (ph_0) (x1) (x9) := by
  first
    | exact Or.inl (by omega)
    | exact Or.inr (by omega)
    | exact Or.inl (by assumption)
    | exact Or.inr (by assumption)
  
def o_Mo_low_1 : or_T := (40, 10, [(0, (2, 0, 0, [165])), (1, (0, 0, 79, [])), (3, (2, 0, 0, [180])), (4, (0, 0, 24, [])), (6, (2, 0, 0, [181])), (7, (0, 0, 24, [])), (9, (0, 0, 24, []))], [(10, [9, 3, 1], []), (9, [3, 0], [33]), (10, [7, 6, 1], []), (9, [6, 0], [34]), (10, [4, 3, 1], [])], [], [], [(20, [0, 1, 9], [60, 0, 2, 788, 33, 34])], [], [])
theorem oo_Mo_low_1 {kA : Nat → ClassId} : or_ok PRD kA GG o_Mo_low_1 := by
  refine or_mk fun A ta ws vs hD hth hl => ?_
  intro t0 r0 t1 k1 t3 r3 t4 k4 t6 r6 t7 k7 t9 k9 f0 f1 f2 f3 f4
  replace f0 := shm_106 f0
  replace f1 := shm_488 f1
  replace f2 := shm_106 f2
  replace f3 := shm_490 f3
  replace f4 := shm_106 f4
  have cr_0_33 := fdq_116 hD hth r0
  have cr_0_34 := fdq_117 hD hth r0
  have ad_3 : v_ad (n_v vs 3) = w_ar ws (n_v vs 0) 33 := congrArg v_ad f1
  have ad_6 : v_ad (n_v vs 6) = w_ar ws (n_v vs 0) 34 := congrArg v_ad f3
  simp only [ad_3] at f0
  have h0 : v_iv (n_v vs 9) = w_ei ws (w_ar ws (n_v vs 0) 33) (v_iv (n_v vs 1)) := f0
  simp only [ad_6] at f2
  have h2 : v_iv (n_v vs 7) = w_ei ws (w_ar ws (n_v vs 0) 34) (v_iv (n_v vs 1)) := f2
  simp only [ad_3] at f4
  have h4 : v_iv (n_v vs 4) = w_ei ws (w_ar ws (n_v vs 0) 33) (v_iv (n_v vs 1)) := f4
  have hK_0_33 := elq_57 hD hth cr_0_33
  have hK_0_34 := elq_58 hD hth cr_0_34
  have nf0 : fc_1 PRD (20, [0, 1, 9], [60, 0, 2, 788, 33, 34]) ws (vs) := ⟨nf_in hl rfl, sgq_624 (vc_Mo_low_1_0 (v_iv (n_v vs 1)) (v_iv (n_v vs 4)) (v_iv (n_v vs 7)) (v_iv (n_v vs 9)) (w_ei ws (w_ar ws (n_v vs 0) 33)) (w_ei ws (w_ar ws (n_v vs 0) 34)) k1 k4 k7 k9 h0 h2 h4 hK_0_33 hK_0_34)⟩
  refine ⟨(fun _ h => (by cases h)), [], trivial, ?_, (fun _ h => (by cases h))⟩
  rw [List.append_nil]
  exact List.forall_mem_cons.mpr ⟨⟨show (20 : Nat) < 100 from by decide, nf0⟩, (fun _ h => (by cases h))⟩
def n_Mo_low_an : List an_T := []
def t_Mo_low_ct : ct_L := []
set_option maxRecDepth 100000 in
theorem c_Mo_low {l : Launch} {D : va_G} {kA : Nat → ClassId} : ct_ok PRD l D kA GG y_Mo_low z_Mo_low e_Mo_low := chk_all_ok (FT := [(57, 13, 33), (60, 13, 34), (284, 13, 124)]) (PT := []) (CT := t_Mo_low_ct) (KT := []) (NT := []) (AN := n_Mo_low_an) (OT := [o_Mo_low_0, o_Mo_low_1]) 0 200 (List.forall_mem_cons.mpr ⟨oo_Mo_low_0, List.forall_mem_cons.mpr ⟨oo_Mo_low_1, List.forall_mem_nil _⟩⟩) (by decide +kernel) ⟨List.forall_mem_cons.mpr ⟨gf_Mo_57, List.forall_mem_cons.mpr ⟨gf_Mo_60, List.forall_mem_cons.mpr ⟨gf_Mo_284, List.forall_mem_nil _⟩⟩⟩, List.forall_mem_nil _, List.forall_mem_nil _, List.forall_mem_nil _, List.forall_mem_nil _, GG_pl⟩ (by decide +kernel)
set_option maxHeartbeats 4000000 in
theorem vc_Mo_mayGo_0_0 (x1 : Int) (x3 : Int) (x4 : Int) (drawnEdge_0 : Int → Int) (pieceOf_0 : Int → Int) (onlyPiece_0 : Int) (k1 : 0 ≤ x1 ∧ x1 ≤ 79) (k3 : 1 ≤ x3 ∧ x3 ≤ 1) (k4 : 0 ≤ x4 ∧ x4 ≤ 0) (f0 : x3 ≠ 0) (h1 : x3 = drawnEdge_0 (x1)) (hK_0_43 : ∀ j : Int, 0 ≤ j → j < 80 → 0 ≤ drawnEdge_0 j ∧ drawnEdge_0 j ≤ 1) (hK_0_44 : ∀ j : Int, 0 ≤ j → j < 80 → (-1) ≤ pieceOf_0 j ∧ pieceOf_0 j ≤ 79) (kz_0_49 : (-1) ≤ onlyPiece_0 ∧ onlyPiece_0 ≤ 79) : MGP (onlyPiece_0) (drawnEdge_0) (pieceOf_0) (x1) (x4) := by
  unfold MGP mgE
  constructor
  · intro h
    first
      | (exfalso; omega)
      | exact ⟨by omega, Or.inl (by omega)⟩
      | exact ⟨by omega, Or.inr (by omega)⟩
  · intro h
    first
      | omega
      | (exfalso; have := h.1; omega)
      | (exfalso; have := h.2; omega)
def o_Mo_mayGo_0 : or_T := (34, 5, [(0, (2, 0, 0, [165])), (1, (0, 0, 79, [])), (3, (0, 1, 1, [])), (4, (0, 0, 0, []))], [(8, [3], [1]), (10, [3, 2, 1], []), (9, [2, 0], [43])], [], [], [(20, [0, 1, 4], [60, 1, 2, 120, 49, 43, 44])], [], [])
theorem oo_Mo_mayGo_0 {kA : Nat → ClassId} : or_ok PRD kA GG o_Mo_mayGo_0 := by
  refine or_mk fun A ta ws vs hD hth hl => ?_
  intro t0 r0 t1 k1 t3 k3 t4 k4 f0 f1 f2
  replace f1 := shm_106 f1
  replace f2 := shm_526 f2
  have cr_0_43 := fdq_136 hD hth r0
  have cr_0_44 := fdq_137 hD hth r0
  have ad_2 : v_ad (n_v vs 2) = w_ar ws (n_v vs 0) 43 := congrArg v_ad f2
  simp only [ad_2] at f1
  have h1 : v_iv (n_v vs 3) = w_ei ws (w_ar ws (n_v vs 0) 43) (v_iv (n_v vs 1)) := f1
  have hK_0_43 := elq_73 hD hth cr_0_43
  have hK_0_44 := elq_74 hD hth cr_0_44
  have kz_0_49 := fdq_145 hD hth r0
  have nf0 : fc_1 PRD (20, [0, 1, 4], [60, 1, 2, 120, 49, 43, 44]) ws (vs) := ⟨nf_in hl rfl, sgq_625 (vc_Mo_mayGo_0_0 (v_iv (n_v vs 1)) (v_iv (n_v vs 3)) (v_iv (n_v vs 4)) (w_ei ws (w_ar ws (n_v vs 0) 43)) (w_ei ws (w_ar ws (n_v vs 0) 44)) (w_fi ws (n_v vs 0) 49) k1 k3 k4 (shm_154 f0) h1 hK_0_43 hK_0_44 kz_0_49)⟩
  refine ⟨(fun _ h => (by cases h)), [], trivial, ?_, (fun _ h => (by cases h))⟩
  rw [List.append_nil]
  exact List.forall_mem_cons.mpr ⟨⟨show (20 : Nat) < 100 from by decide, nf0⟩, (fun _ h => (by cases h))⟩
set_option maxHeartbeats 4000000 in
theorem vc_Mo_mayGo_1_0 (x1 : Int) (x3 : Int) (x4 : Int) (x5 : Int) (onlyPiece_0 : Int) (drawnEdge_0 : Int → Int) (pieceOf_0 : Int → Int) (k1 : 0 ≤ x1 ∧ x1 ≤ 79) (k3 : 0 ≤ x3 ∧ x3 ≤ 0) (k4 : (-1) ≤ x4 ∧ x4 ≤ (-1)) (k5 : 1 ≤ x5 ∧ x5 ≤ 1) (f0 : x4 < 0) (g1 : x4 = onlyPiece_0) (f2 : x3 = 0) (h3 : x3 = drawnEdge_0 (x1)) (hK_0_43 : ∀ j : Int, 0 ≤ j → j < 80 → 0 ≤ drawnEdge_0 j ∧ drawnEdge_0 j ≤ 1) (hK_0_44 : ∀ j : Int, 0 ≤ j → j < 80 → (-1) ≤ pieceOf_0 j ∧ pieceOf_0 j ≤ 79) (kz_0_49 : (-1) ≤ onlyPiece_0 ∧ onlyPiece_0 ≤ 79) : MGP (onlyPiece_0) (drawnEdge_0) (pieceOf_0) (x1) (x5) := by
  unfold MGP mgE
  constructor
  · intro h
    first
      | (exfalso; omega)
      | exact ⟨by omega, Or.inl (by omega)⟩
      | exact ⟨by omega, Or.inr (by omega)⟩
  · intro h
    first
      | omega
      | (exfalso; have := h.1; omega)
      | (exfalso; have := h.2; omega)
def o_Mo_mayGo_1 : or_T := (34, 6, [(0, (2, 0, 0, [165])), (1, (0, 0, 79, [])), (3, (0, 0, 0, [])), (4, (0, -1, -1, [])), (5, (0, 1, 1, []))], [(8, [4], [2]), (9, [4, 0], [49]), (8, [3], [0]), (10, [3, 2, 1], []), (9, [2, 0], [43])], [], [], [(20, [0, 1, 5], [60, 1, 2, 120, 49, 43, 44])], [], [])
theorem oo_Mo_mayGo_1 {kA : Nat → ClassId} : or_ok PRD kA GG o_Mo_mayGo_1 := by
  refine or_mk fun A ta ws vs hD hth hl => ?_
  intro t0 r0 t1 k1 t3 k3 t4 k4 t5 k5 f0 f1 f2 f3 f4
  replace f1 := shm_626 f1
  replace f3 := shm_106 f3
  replace f4 := shm_526 f4
  have cr_0_43 := fdq_136 hD hth r0
  have cr_0_44 := fdq_137 hD hth r0
  have ad_2 : v_ad (n_v vs 2) = w_ar ws (n_v vs 0) 43 := congrArg v_ad f4
  have g1 : v_iv (n_v vs 4) = w_fi ws (n_v vs 0) 49 := congrArg v_iv f1
  simp only [ad_2] at f3
  have h3 : v_iv (n_v vs 3) = w_ei ws (w_ar ws (n_v vs 0) 43) (v_iv (n_v vs 1)) := f3
  have hK_0_43 := elq_73 hD hth cr_0_43
  have hK_0_44 := elq_74 hD hth cr_0_44
  have kz_0_49 := fdq_145 hD hth r0
  have nf0 : fc_1 PRD (20, [0, 1, 5], [60, 1, 2, 120, 49, 43, 44]) ws (vs) := ⟨nf_in hl rfl, sgq_625 (vc_Mo_mayGo_1_0 (v_iv (n_v vs 1)) (v_iv (n_v vs 3)) (v_iv (n_v vs 4)) (v_iv (n_v vs 5)) (w_fi ws (n_v vs 0) 49) (w_ei ws (w_ar ws (n_v vs 0) 43)) (w_ei ws (w_ar ws (n_v vs 0) 44)) k1 k3 k4 k5 (shm_39 f0) g1 (shm_210 f2) h3 hK_0_43 hK_0_44 kz_0_49)⟩
  refine ⟨(fun _ h => (by cases h)), [], trivial, ?_, (fun _ h => (by cases h))⟩
  rw [List.append_nil]
  exact List.forall_mem_cons.mpr ⟨⟨show (20 : Nat) < 100 from by decide, nf0⟩, (fun _ h => (by cases h))⟩
set_option maxHeartbeats 4000000 in
theorem vc_Mo_mayGo_2_0 (x1 : Int) (x3 : Int) (x4 : Int) (x6 : Int) (x7 : Int) (onlyPiece_0 : Int) (pieceOf_0 : Int → Int) (drawnEdge_0 : Int → Int) (k1 : 0 ≤ x1 ∧ x1 ≤ 79) (k3 : 0 ≤ x3 ∧ x3 ≤ 0) (k4 : 0 ≤ x4 ∧ x4 ≤ 79) (k6 : (-1) ≤ x6 ∧ x6 ≤ 79) (k7 : 0 ≤ x7 ∧ x7 ≤ 0) (f0 : x6 ≠ x4) (g1 : x4 = onlyPiece_0) (h2 : x6 = pieceOf_0 (x1)) (f4 : 0 ≤ x4) (f5 : x3 = 0) (h6 : x3 = drawnEdge_0 (x1)) (hK_0_43 : ∀ j : Int, 0 ≤ j → j < 80 → 0 ≤ drawnEdge_0 j ∧ drawnEdge_0 j ≤ 1) (hK_0_44 : ∀ j : Int, 0 ≤ j → j < 80 → (-1) ≤ pieceOf_0 j ∧ pieceOf_0 j ≤ 79) (kz_0_49 : (-1) ≤ onlyPiece_0 ∧ onlyPiece_0 ≤ 79) : MGP (onlyPiece_0) (drawnEdge_0) (pieceOf_0) (x1) (x7) := by
  unfold MGP mgE
  constructor
  · intro h
    first
      | (exfalso; omega)
      | exact ⟨by omega, Or.inl (by omega)⟩
      | exact ⟨by omega, Or.inr (by omega)⟩
  · intro h
    first
      | omega
      | (exfalso; have := h.1; omega)
      | (exfalso; have := h.2; omega)
def o_Mo_mayGo_2 : or_T := (34, 8, [(0, (2, 0, 0, [165])), (1, (0, 0, 79, [])), (2, (2, 0, 0, [189])), (3, (0, 0, 0, [])), (4, (0, 0, 79, [])), (5, (2, 0, 0, [190])), (6, (0, -1, 79, [])), (7, (0, 0, 0, []))], [(7, [6, 4], [1]), (9, [4, 0], [49]), (10, [6, 5, 1], []), (9, [5, 0], [44]), (8, [4], [3]), (8, [3], [0]), (10, [3, 2, 1], []), (9, [2, 0], [43])], [], [], [(20, [0, 1, 7], [60, 1, 2, 120, 49, 43, 44])], [], [])
theorem oo_Mo_mayGo_2 {kA : Nat → ClassId} : or_ok PRD kA GG o_Mo_mayGo_2 := by
  refine or_mk fun A ta ws vs hD hth hl => ?_
  intro t0 r0 t1 k1 t2 r2 t3 k3 t4 k4 t5 r5 t6 k6 t7 k7 f0 f1 f2 f3 f4 f5 f6 f7
  replace f1 := shm_626 f1
  replace f2 := shm_106 f2
  replace f3 := shm_527 f3
  replace f6 := shm_106 f6
  replace f7 := shm_526 f7
  have cr_0_43 := fdq_136 hD hth r0
  have cr_0_44 := fdq_137 hD hth r0
  have ad_5 : v_ad (n_v vs 5) = w_ar ws (n_v vs 0) 44 := congrArg v_ad f3
  have ad_2 : v_ad (n_v vs 2) = w_ar ws (n_v vs 0) 43 := congrArg v_ad f7
  have g1 : v_iv (n_v vs 4) = w_fi ws (n_v vs 0) 49 := congrArg v_iv f1
  simp only [ad_5] at f2
  have h2 : v_iv (n_v vs 6) = w_ei ws (w_ar ws (n_v vs 0) 44) (v_iv (n_v vs 1)) := f2
  simp only [ad_2] at f6
  have h6 : v_iv (n_v vs 3) = w_ei ws (w_ar ws (n_v vs 0) 43) (v_iv (n_v vs 1)) := f6
  have hK_0_43 := elq_73 hD hth cr_0_43
  have hK_0_44 := elq_74 hD hth cr_0_44
  have kz_0_49 := fdq_145 hD hth r0
  have nf0 : fc_1 PRD (20, [0, 1, 7], [60, 1, 2, 120, 49, 43, 44]) ws (vs) := ⟨nf_in hl rfl, sgq_625 (vc_Mo_mayGo_2_0 (v_iv (n_v vs 1)) (v_iv (n_v vs 3)) (v_iv (n_v vs 4)) (v_iv (n_v vs 6)) (v_iv (n_v vs 7)) (w_fi ws (n_v vs 0) 49) (w_ei ws (w_ar ws (n_v vs 0) 44)) (w_ei ws (w_ar ws (n_v vs 0) 43)) k1 k3 k4 k6 k7 (shm_40 f0) g1 h2 (shm_32 f4) (shm_210 f5) h6 hK_0_43 hK_0_44 kz_0_49)⟩
  refine ⟨(fun _ h => (by cases h)), [], trivial, ?_, (fun _ h => (by cases h))⟩
  rw [List.append_nil]
  exact List.forall_mem_cons.mpr ⟨⟨show (20 : Nat) < 100 from by decide, nf0⟩, (fun _ h => (by cases h))⟩
set_option maxHeartbeats 4000000 in
theorem vc_Mo_mayGo_3_0 (x1 : Int) (x3 : Int) (x4 : Int) (x6 : Int) (x7 : Int) (onlyPiece_0 : Int) (pieceOf_0 : Int → Int) (drawnEdge_0 : Int → Int) (k1 : 0 ≤ x1 ∧ x1 ≤ 79) (k3 : 0 ≤ x3 ∧ x3 ≤ 0) (k4 : 0 ≤ x4 ∧ x4 ≤ 79) (k6 : 0 ≤ x6 ∧ x6 ≤ 79) (k7 : 1 ≤ x7 ∧ x7 ≤ 1) (d0 : x4 + 0 ≤ x6 ∧ x6 ≤ x4 + 0) (f0 : x6 = x4) (g1 : x4 = onlyPiece_0) (h2 : x6 = pieceOf_0 (x1)) (f4 : 0 ≤ x4) (f5 : x3 = 0) (h6 : x3 = drawnEdge_0 (x1)) (hK_0_43 : ∀ j : Int, 0 ≤ j → j < 80 → 0 ≤ drawnEdge_0 j ∧ drawnEdge_0 j ≤ 1) (hK_0_44 : ∀ j : Int, 0 ≤ j → j < 80 → (-1) ≤ pieceOf_0 j ∧ pieceOf_0 j ≤ 79) (kz_0_49 : (-1) ≤ onlyPiece_0 ∧ onlyPiece_0 ≤ 79) : MGP (onlyPiece_0) (drawnEdge_0) (pieceOf_0) (x1) (x7) := by
  unfold MGP mgE
  constructor
  · intro h
    first
      | (exfalso; omega)
      | exact ⟨by omega, Or.inl (by omega)⟩
      | exact ⟨by omega, Or.inr (by omega)⟩
  · intro h
    first
      | omega
      | (exfalso; have := h.1; omega)
      | (exfalso; have := h.2; omega)
def o_Mo_mayGo_3 : or_T := (34, 8, [(0, (2, 0, 0, [165])), (1, (0, 0, 79, [])), (2, (2, 0, 0, [189])), (3, (0, 0, 0, [])), (4, (0, 0, 79, [])), (5, (2, 0, 0, [190])), (6, (0, 0, 79, [])), (7, (0, 1, 1, []))], [(7, [6, 4], [0]), (9, [4, 0], [49]), (10, [6, 5, 1], []), (9, [5, 0], [44]), (8, [4], [3]), (8, [3], [0]), (10, [3, 2, 1], []), (9, [2, 0], [43])], [], [], [(20, [0, 1, 7], [60, 1, 2, 120, 49, 43, 44])], [], [(6, 4, 0, 0)])
theorem oo_Mo_mayGo_3 {kA : Nat → ClassId} : or_ok PRD kA GG o_Mo_mayGo_3 := by
  refine or_mk fun A ta ws vs hD hth hl => ?_
  intro t0 r0 t1 k1 t2 r2 t3 k3 t4 k4 t5 r5 t6 k6 t7 k7 d0 f0 f1 f2 f3 f4 f5 f6 f7
  replace f1 := shm_626 f1
  replace f2 := shm_106 f2
  replace f3 := shm_527 f3
  replace f6 := shm_106 f6
  replace f7 := shm_526 f7
  have cr_0_43 := fdq_136 hD hth r0
  have cr_0_44 := fdq_137 hD hth r0
  have ad_5 : v_ad (n_v vs 5) = w_ar ws (n_v vs 0) 44 := congrArg v_ad f3
  have ad_2 : v_ad (n_v vs 2) = w_ar ws (n_v vs 0) 43 := congrArg v_ad f7
  have g1 : v_iv (n_v vs 4) = w_fi ws (n_v vs 0) 49 := congrArg v_iv f1
  simp only [ad_5] at f2
  have h2 : v_iv (n_v vs 6) = w_ei ws (w_ar ws (n_v vs 0) 44) (v_iv (n_v vs 1)) := f2
  simp only [ad_2] at f6
  have h6 : v_iv (n_v vs 3) = w_ei ws (w_ar ws (n_v vs 0) 43) (v_iv (n_v vs 1)) := f6
  have hK_0_43 := elq_73 hD hth cr_0_43
  have hK_0_44 := elq_74 hD hth cr_0_44
  have kz_0_49 := fdq_145 hD hth r0
  have nf0 : fc_1 PRD (20, [0, 1, 7], [60, 1, 2, 120, 49, 43, 44]) ws (vs) := ⟨nf_in hl rfl, sgq_625 (vc_Mo_mayGo_3_0 (v_iv (n_v vs 1)) (v_iv (n_v vs 3)) (v_iv (n_v vs 4)) (v_iv (n_v vs 6)) (v_iv (n_v vs 7)) (w_fi ws (n_v vs 0) 49) (w_ei ws (w_ar ws (n_v vs 0) 44)) (w_ei ws (w_ar ws (n_v vs 0) 43)) k1 k3 k4 k6 k7 d0 (shm_37 f0) g1 h2 (shm_32 f4) (shm_210 f5) h6 hK_0_43 hK_0_44 kz_0_49)⟩
  refine ⟨(fun _ h => (by cases h)), [], trivial, ?_, (fun _ h => (by cases h))⟩
  rw [List.append_nil]
  exact List.forall_mem_cons.mpr ⟨⟨show (20 : Nat) < 100 from by decide, nf0⟩, (fun _ h => (by cases h))⟩
def n_Mo_mayGo_an : List an_T := []
def t_Mo_mayGo_ct : ct_L := []
set_option maxRecDepth 100000 in
theorem c_Mo_mayGo {l : Launch} {D : va_G} {kA : Nat → ClassId} : ct_ok PRD l D kA GG y_Mo_mayGo z_Mo_mayGo e_Mo_mayGo := chk_all_ok (FT := [(84, 13, 43), (87, 13, 44), (649, 13, 49)]) (PT := []) (CT := t_Mo_mayGo_ct) (KT := []) (NT := []) (AN := n_Mo_mayGo_an) (OT := [o_Mo_mayGo_0, o_Mo_mayGo_1, o_Mo_mayGo_2, o_Mo_mayGo_3]) 0 200 (List.forall_mem_cons.mpr ⟨oo_Mo_mayGo_0, List.forall_mem_cons.mpr ⟨oo_Mo_mayGo_1, List.forall_mem_cons.mpr ⟨oo_Mo_mayGo_2, List.forall_mem_cons.mpr ⟨oo_Mo_mayGo_3, List.forall_mem_nil _⟩⟩⟩⟩) (by decide +kernel) ⟨List.forall_mem_cons.mpr ⟨gf_Mo_84, List.forall_mem_cons.mpr ⟨gf_Mo_87, List.forall_mem_cons.mpr ⟨gf_Mo_649, List.forall_mem_nil _⟩⟩⟩, List.forall_mem_nil _, List.forall_mem_nil _, List.forall_mem_nil _, List.forall_mem_nil _, GG_pl⟩ (by decide +kernel)
set_option maxHeartbeats 4000000 in
theorem vc_Mo_missing_0_0 (x1 : Int) (drawnEdge_0 : Int → Int) (k1 : 0 ≤ x1 ∧ x1 ≤ 0) (hK_0_43 : ∀ j : Int, 0 ≤ j → j < 80 → 0 ≤ drawnEdge_0 j ∧ drawnEdge_0 j ≤ 1) : MIL (drawnEdge_0) (x1) := by
  first
    | (intro e a b; exfalso; omega)
    | (have h := ‹MIL _ _›
       intro e a b
       by_cases q : e = x2
       · rw [q]; omega
       · exact h e a (by omega))
def o_Mo_missing_0 : or_T := (2, 2, [(0, (2, 0, 0, [165])), (1, (0, 0, 0, []))], [], [], [], [(20, [0, 1], [60, 0, 1, 156, 43]), (24, [0, 0], [])], [], [])
theorem oo_Mo_missing_0 {kA : Nat → ClassId} : or_ok PRD kA GG o_Mo_missing_0 := by
  refine or_mk fun A ta ws vs hD hth hl => ?_
  intro t0 r0 t1 k1
  have cr_0_43 := fdq_136 hD hth r0
  have hK_0_43 := elq_73 hD hth cr_0_43
  have nf0 : fc_1 PRD (20, [0, 1], [60, 0, 1, 156, 43]) ws (vs) := ⟨nf_in hl rfl, sgq_627 (vc_Mo_missing_0_0 (v_iv (n_v vs 1)) (w_ei ws (w_ar ws (n_v vs 0) 43)) k1 hK_0_43)⟩
  have nf1 : fc_1 PRD (24, [0, 0], []) ws (vs) := by
    refine ⟨nf_in hl rfl, sgq_1 ?_⟩
    · show n_v vs 0 = n_v vs 0
      first | rfl | simp only [true_and]
  refine ⟨(fun _ h => (by cases h)), [], trivial, ?_, (fun _ h => (by cases h))⟩
  rw [List.append_nil]
  exact List.forall_mem_cons.mpr ⟨⟨show (20 : Nat) < 100 from by decide, nf0⟩, List.forall_mem_cons.mpr ⟨⟨show (24 : Nat) < 100 from by decide, nf1⟩, (fun _ h => (by cases h))⟩⟩
set_option maxHeartbeats 4000000 in
theorem vc_Mo_missing_1_0 (x2 : Int) (x3 : Int) (x4 : Int) (pm_0 : Int) (drawnEdge_0 : Int → Int) (k2 : 0 ≤ x2 ∧ x2 ≤ 80) (k3 : 0 ≤ x3 ∧ x3 ≤ 80) (k4 : 0 ≤ x4 ∧ x4 ≤ 0) (d0 : x3 + 0 ≤ x2 ∧ x2 ≤ x3 + 4294967296) (f0 : x3 ≤ x2) (g1 : x3 = pm_0) (f2 : MIL (drawnEdge_0) (x2)) (hK_0_43 : ∀ j : Int, 0 ≤ j → j < 80 → 0 ≤ drawnEdge_0 j ∧ drawnEdge_0 j ≤ 1) (kz_0_32 : 0 ≤ pm_0 ∧ pm_0 ≤ 80) : MIS (pm_0) (drawnEdge_0) (x4) := by
  exact ⟨fun _ e a b => ‹MIL _ _› e a (by omega), fun z => by exfalso; omega⟩
def o_Mo_missing_1 : or_T := (28, 5, [(0, (2, 0, 0, [165])), (2, (0, 0, 80, [])), (3, (0, 0, 80, [])), (4, (0, 0, 0, []))], [(7, [2, 3], [3]), (9, [3, 1], [32]), (20, [1, 2], [60, 0, 1, 156, 43]), (24, [0, 1], [])], [], [], [(20, [0, 4], [60, 1, 1, 155, 32, 43])], [], [(2, 3, 0, 4294967296)])
theorem oo_Mo_missing_1 {kA : Nat → ClassId} : or_ok PRD kA GG o_Mo_missing_1 := by
  refine or_mk fun A ta ws vs hD hth hl => ?_
  intro t0 r0 t2 k2 t3 k3 t4 k4 d0 f0 f1 f2 f3
  replace f1 := shm_519 f1
  replace f2 := shm_627 f2
  replace f3 := shm_5 f3
  have q1 : n_v vs 1 = n_v vs 0 := f3.symm
  simp only [q1] at f1 f2
  have cr_0_43 := fdq_136 hD hth r0
  have g1 : v_iv (n_v vs 3) = w_fi ws (n_v vs 0) 32 := congrArg v_iv f1
  have hK_0_43 := elq_73 hD hth cr_0_43
  have kz_0_32 := fdq_139 hD hth r0
  have nf0 : fc_1 PRD (20, [0, 4], [60, 1, 1, 155, 32, 43]) ws (vs) := ⟨nf_in hl rfl, sgq_628 (vc_Mo_missing_1_0 (v_iv (n_v vs 2)) (v_iv (n_v vs 3)) (v_iv (n_v vs 4)) (w_fi ws (n_v vs 0) 32) (w_ei ws (w_ar ws (n_v vs 0) 43)) k2 k3 k4 d0 (shm_2 f0) g1 f2 hK_0_43 kz_0_32)⟩
  refine ⟨(fun _ h => (by cases h)), [], trivial, ?_, (fun _ h => (by cases h))⟩
  rw [List.append_nil]
  exact List.forall_mem_cons.mpr ⟨⟨show (20 : Nat) < 100 from by decide, nf0⟩, (fun _ h => (by cases h))⟩
set_option maxHeartbeats 4000000 in
theorem vc_Mo_missing_2_0 (x2 : Int) (x3 : Int) (x5 : Int) (x6 : Int) (drawnEdge_0 : Int → Int) (pm_0 : Int) (k2 : 0 ≤ x2 ∧ x2 ≤ 79) (k3 : 1 ≤ x3 ∧ x3 ≤ 80) (k5 : 1 ≤ x5 ∧ x5 ≤ 1) (k6 : 1 ≤ x6 ∧ x6 ≤ 80) (d0 : x2 + 1 ≤ x6 ∧ x6 ≤ x2 + 1) (d1 : x3 + (-4294967296) ≤ x6 ∧ x6 ≤ x3 + 0) (d2 : x3 + (-4294967296) ≤ x2 ∧ x2 ≤ x3 + (-1)) (f0 : x6 = x2 + 1) (f1 : x5 ≠ 0) (h2 : x5 = drawnEdge_0 (x2)) (f4 : x2 < x3) (g5 : x3 = pm_0) (f6 : MIL (drawnEdge_0) (x2)) (hK_0_43 : ∀ j : Int, 0 ≤ j → j < 80 → 0 ≤ drawnEdge_0 j ∧ drawnEdge_0 j ≤ 1) (kz_0_32 : 0 ≤ pm_0 ∧ pm_0 ≤ 80) : MIL (drawnEdge_0) (x6) := by
  first
    | (intro e a b; exfalso; omega)
    | (have h := ‹MIL _ _›
       intro e a b
       by_cases q : e = x2
       · rw [q]; omega
       · exact h e a (by omega))
def o_Mo_missing_2 : or_T := (2, 7, [(0, (2, 0, 0, [165])), (2, (0, 0, 79, [])), (3, (0, 1, 80, [])), (5, (0, 1, 1, [])), (6, (0, 1, 80, []))], [(6, [6, 2], [1]), (8, [5], [1]), (10, [5, 4, 2], []), (9, [4, 1], [43]), (7, [2, 3], [2]), (9, [3, 1], [32]), (20, [1, 2], [60, 0, 1, 156, 43]), (24, [0, 1], [])], [], [], [(20, [1, 6], [60, 0, 1, 156, 43])], [], [(6, 2, 1, 1), (6, 3, -4294967296, 0), (2, 3, -4294967296, -1)])
theorem oo_Mo_missing_2 {kA : Nat → ClassId} : or_ok PRD kA GG o_Mo_missing_2 := by
  refine or_mk fun A ta ws vs hD hth hl => ?_
  intro t0 r0 t2 k2 t3 k3 t5 k5 t6 k6 d0 d1 d2 f0 f1 f2 f3 f4 f5 f6 f7
  replace f0 := shm_4 f0
  replace f1 := shm_154 f1
  replace f2 := shm_106 f2
  replace f3 := shm_526 f3
  replace f4 := shm_6 f4
  replace f5 := shm_519 f5
  replace f6 := shm_627 f6
  replace f7 := shm_5 f7
  have q1 : n_v vs 1 = n_v vs 0 := f7.symm
  simp only [q1] at f3 f5 f6
  have cr_0_43 := fdq_136 hD hth r0
  have ad_4 : v_ad (n_v vs 4) = w_ar ws (n_v vs 0) 43 := congrArg v_ad f3
  simp only [ad_4] at f2
  have h2 : v_iv (n_v vs 5) = w_ei ws (w_ar ws (n_v vs 0) 43) (v_iv (n_v vs 2)) := f2
  have g5 : v_iv (n_v vs 3) = w_fi ws (n_v vs 0) 32 := congrArg v_iv f5
  have hK_0_43 := elq_73 hD hth cr_0_43
  have kz_0_32 := fdq_139 hD hth r0
  have nf0 : fc_1 PRD (20, [1, 6], [60, 0, 1, 156, 43]) ws (vs) := by
    refine ⟨nf_in hl rfl, sgq_627 ?_⟩
    · show MIL (w_ei ws (w_ar ws (n_v vs 1) 43)) (v_iv (n_v vs 6))
      rw [q1]
      exact vc_Mo_missing_2_0 (v_iv (n_v vs 2)) (v_iv (n_v vs 3)) (v_iv (n_v vs 5)) (v_iv (n_v vs 6)) (w_ei ws (w_ar ws (n_v vs 0) 43)) (w_fi ws (n_v vs 0) 32) k2 k3 k5 k6 d0 d1 d2 f0 f1 h2 f4 g5 f6 hK_0_43 kz_0_32
  refine ⟨(fun _ h => (by cases h)), [], trivial, ?_, (fun _ h => (by cases h))⟩
  rw [List.append_nil]
  exact List.forall_mem_cons.mpr ⟨⟨show (20 : Nat) < 100 from by decide, nf0⟩, (fun _ h => (by cases h))⟩
set_option maxHeartbeats 4000000 in
theorem vc_Mo_missing_3_0 (x2 : Int) (x3 : Int) (x5 : Int) (x6 : Int) (drawnEdge_0 : Int → Int) (pm_0 : Int) (k2 : 0 ≤ x2 ∧ x2 ≤ 79) (k3 : 1 ≤ x3 ∧ x3 ≤ 80) (k5 : 0 ≤ x5 ∧ x5 ≤ 0) (k6 : 1 ≤ x6 ∧ x6 ≤ 1) (d0 : x3 + (-4294967296) ≤ x2 ∧ x2 ≤ x3 + (-1)) (f0 : x5 = 0) (h1 : x5 = drawnEdge_0 (x2)) (f3 : x2 < x3) (g4 : x3 = pm_0) (f5 : MIL (drawnEdge_0) (x2)) (hK_0_43 : ∀ j : Int, 0 ≤ j → j < 80 → 0 ≤ drawnEdge_0 j ∧ drawnEdge_0 j ≤ 1) (kz_0_32 : 0 ≤ pm_0 ∧ pm_0 ≤ 80) : MIS (pm_0) (drawnEdge_0) (x6) := by
  exact ⟨fun z => by exfalso; omega, fun _ => ⟨x2, by omega, by omega, by omega⟩⟩
def o_Mo_missing_3 : or_T := (20, 7, [(0, (2, 0, 0, [165])), (2, (0, 0, 79, [])), (3, (0, 1, 80, [])), (5, (0, 0, 0, [])), (6, (0, 1, 1, []))], [(8, [5], [0]), (10, [5, 4, 2], []), (9, [4, 1], [43]), (7, [2, 3], [2]), (9, [3, 1], [32]), (20, [1, 2], [60, 0, 1, 156, 43]), (24, [0, 1], [])], [], [], [(20, [0, 6], [60, 1, 1, 155, 32, 43])], [], [(2, 3, -4294967296, -1)])
theorem oo_Mo_missing_3 {kA : Nat → ClassId} : or_ok PRD kA GG o_Mo_missing_3 := by
  refine or_mk fun A ta ws vs hD hth hl => ?_
  intro t0 r0 t2 k2 t3 k3 t5 k5 t6 k6 d0 f0 f1 f2 f3 f4 f5 f6
  replace f1 := shm_106 f1
  replace f2 := shm_526 f2
  replace f4 := shm_519 f4
  replace f5 := shm_627 f5
  replace f6 := shm_5 f6
  have q1 : n_v vs 1 = n_v vs 0 := f6.symm
  simp only [q1] at f2 f4 f5
  have cr_0_43 := fdq_136 hD hth r0
  have ad_4 : v_ad (n_v vs 4) = w_ar ws (n_v vs 0) 43 := congrArg v_ad f2
  simp only [ad_4] at f1
  have h1 : v_iv (n_v vs 5) = w_ei ws (w_ar ws (n_v vs 0) 43) (v_iv (n_v vs 2)) := f1
  have g4 : v_iv (n_v vs 3) = w_fi ws (n_v vs 0) 32 := congrArg v_iv f4
  have hK_0_43 := elq_73 hD hth cr_0_43
  have kz_0_32 := fdq_139 hD hth r0
  have nf0 : fc_1 PRD (20, [0, 6], [60, 1, 1, 155, 32, 43]) ws (vs) := ⟨nf_in hl rfl, sgq_628 (vc_Mo_missing_3_0 (v_iv (n_v vs 2)) (v_iv (n_v vs 3)) (v_iv (n_v vs 5)) (v_iv (n_v vs 6)) (w_ei ws (w_ar ws (n_v vs 0) 43)) (w_fi ws (n_v vs 0) 32) k2 k3 k5 k6 d0 (shm_210 f0) h1 (shm_6 f3) g4 f5 hK_0_43 kz_0_32)⟩
  refine ⟨(fun _ h => (by cases h)), [], trivial, ?_, (fun _ h => (by cases h))⟩
  rw [List.append_nil]
  exact List.forall_mem_cons.mpr ⟨⟨show (20 : Nat) < 100 from by decide, nf0⟩, (fun _ h => (by cases h))⟩
def n_Mo_missing_an : List an_T := [(2, [(0, (2, 0, 0, [165])), (1, (0, 0, 80, []))], [], (0, 0), [(0, 0, 99998), (1, 2, 80), (0, 0, 100000)], [], [], [(2, 0, 0, [165])], 0, [], [(20, [1, 2], [60, 0, 1, 156, 43]), (24, [0, 1], [])])]
def t_Mo_missing_ct : ct_L := []
set_option maxRecDepth 100000 in
theorem c_Mo_missing {l : Launch} {D : va_G} {kA : Nat → ClassId} : ct_ok PRD l D kA GG y_Mo_missing z_Mo_missing e_Mo_missing := chk_all_ok (FT := [(84, 13, 43), (597, 13, 32)]) (PT := []) (CT := t_Mo_missing_ct) (KT := []) (NT := []) (AN := n_Mo_missing_an) (OT := [o_Mo_missing_0, o_Mo_missing_1, o_Mo_missing_2, o_Mo_missing_3]) 3 200 (List.forall_mem_cons.mpr ⟨oo_Mo_missing_0, List.forall_mem_cons.mpr ⟨oo_Mo_missing_1, List.forall_mem_cons.mpr ⟨oo_Mo_missing_2, List.forall_mem_cons.mpr ⟨oo_Mo_missing_3, List.forall_mem_nil _⟩⟩⟩⟩) (by decide +kernel) ⟨List.forall_mem_cons.mpr ⟨gf_Mo_84, List.forall_mem_cons.mpr ⟨gf_Mo_597, List.forall_mem_nil _⟩⟩, List.forall_mem_nil _, List.forall_mem_nil _, List.forall_mem_nil _, List.forall_mem_nil _, GG_pl⟩ (by decide +kernel)
set_option maxHeartbeats 4000000 in
theorem vc_Mo_move_0_0 (x1 : Int) (x2 : Int) (x3 : Int) (x4 : Int) (x5 : Int) (nx_0 : Int → Int) (ny_0 : Int → Int) (order_0 : Int → Int) (pn_0 : Int) (k1 : 0 ≤ x1 ∧ x1 ≤ 33554431) (k2 : 1 ≤ x2 ∧ x2 ≤ 2) (k3 : 3 ≤ x3 ∧ x3 ≤ 24) (k4 : 0 ≤ x4 ∧ x4 ≤ 30) (k5 : 0 ≤ x5 ∧ x5 ≤ 0) (f0 : MVA (pn_0) (nx_0) (ny_0) (order_0) (x1) (x3) (x4)) (f1 : ORN4 (pn_0) (order_0)) (f2 : x3 ≤ pn_0) (f3 : (1 ≤ x2) ∧ (x2 ≤ 2)) (hK_0_74 : ∀ j : Int, 0 ≤ j → j < 100 → (-300000000) ≤ nx_0 j ∧ nx_0 j ≤ 300000000) (hK_0_75 : ∀ j : Int, 0 ≤ j → j < 100 → (-300000000) ≤ ny_0 j ∧ ny_0 j ≤ 300000000) (hK_0_96 : ∀ j : Int, 0 ≤ j → j < 26 → 0 ≤ order_0 j ∧ order_0 j ≤ 25) (kz_0_31 : 0 ≤ pn_0 ∧ pn_0 ≤ 25) : MVI (pn_0) (nx_0) (ny_0) (order_0) (x1) (x3) (x4) (x5) := by
  first
    | exact mvi_start ‹MVA _ _ _ _ _ _ _› (by omega)
    | exact mvi_step (b := x14) (u := x11) (v := x15) (w := x16) (d := x7) ‹MVI _ _ _ _ _ _ _ _› (by omega) (by omega) (by omega) (by omega) (by omega) (fun e => (bit_shr (by assumption) (by omega)).1 ((bit_and (by assumption) 0).1 ((bit_01 (by omega) (by omega)).2 e)).1) (by assumption) (by omega) (by omega) (by assumption) (by omega) (by assumption) (by omega) (fun j a b => (‹ORN4 _ _› j a (by omega)).1)
  
def o_Mo_move_0 : or_T := (2, 6, [(0, (2, 0, 0, [165])), (1, (0, 0, 33554431, [])), (2, (0, 1, 2, [])), (3, (0, 3, 24, [])), (4, (0, 0, 30, [])), (5, (0, 0, 0, []))], [(20, [0, 1, 3, 4], [60, 1, 3, 832, 31, 74, 75, 96]), (20, [0], [60, 1, 1, 835, 31, 96]), (20, [3, 0], [50, 1, 0, 1031, 0, 2, 1, 0, 2, 1, 31]), (20, [2], [50, 0, 0, 2, 6, 0, 2, 0, 1, 1, 0, 0, 2, 1, 0, 0, 2])], [], [], [(20, [0, 1, 3, 4, 5], [60, 1, 3, 834, 31, 74, 75, 96]), (24, [0, 0], [])], [], [])
theorem oo_Mo_move_0 {kA : Nat → ClassId} : or_ok PRD kA GG o_Mo_move_0 := by
  refine or_mk fun A ta ws vs hD hth hl => ?_
  intro t0 r0 t1 k1 t2 k2 t3 k3 t4 k4 t5 k5 f0 f1 f2 f3
  have cr_0_74 := fdq_163 hD hth r0
  have cr_0_75 := fdq_164 hD hth r0
  have cr_0_96 := fdq_165 hD hth r0
  have hK_0_74 := elq_91 hD hth cr_0_74
  have hK_0_75 := elq_92 hD hth cr_0_75
  have hK_0_96 := elq_93 hD hth cr_0_96
  have kz_0_31 := fdq_144 hD hth r0
  have nf0 : fc_1 PRD (20, [0, 1, 3, 4, 5], [60, 1, 3, 834, 31, 74, 75, 96]) ws (vs) := ⟨nf_in hl rfl, sgq_632 (vc_Mo_move_0_0 (v_iv (n_v vs 1)) (v_iv (n_v vs 2)) (v_iv (n_v vs 3)) (v_iv (n_v vs 4)) (v_iv (n_v vs 5)) (w_ei ws (w_ar ws (n_v vs 0) 74)) (w_ei ws (w_ar ws (n_v vs 0) 75)) (w_ei ws (w_ar ws (n_v vs 0) 96)) (w_fi ws (n_v vs 0) 31) k1 k2 k3 k4 k5 (shm_629 f0) (shm_630 f1) (shm_631 f2) (shm_445 f3) hK_0_74 hK_0_75 hK_0_96 kz_0_31)⟩
  have nf1 : fc_1 PRD (24, [0, 0], []) ws (vs) := by
    refine ⟨nf_in hl rfl, sgq_1 ?_⟩
    · show n_v vs 0 = n_v vs 0
      first | rfl | simp only [true_and]
  refine ⟨(fun _ h => (by cases h)), [], trivial, ?_, (fun _ h => (by cases h))⟩
  rw [List.append_nil]
  exact List.forall_mem_cons.mpr ⟨⟨show (20 : Nat) < 100 from by decide, nf0⟩, List.forall_mem_cons.mpr ⟨⟨show (24 : Nat) < 100 from by decide, nf1⟩, (fun _ h => (by cases h))⟩⟩
set_option maxHeartbeats 4000000 in
theorem vc_Mo_move_1_0 (x3 : Int) (x4 : Int) (x6 : Int) (x7 : Int) (x8 : Int) (x9 : Int) (pn_0 : Int) (nx_0 : Int → Int) (ny_0 : Int → Int) (order_0 : Int → Int) (k3 : 3 ≤ x3 ∧ x3 ≤ 24) (k4 : 0 ≤ x4 ∧ x4 ≤ 30) (k6 : 0 ≤ x6 ∧ x6 ≤ 33554431) (k7 : 1 ≤ x7 ∧ x7 ≤ 2) (k8 : 0 ≤ x8 ∧ x8 ≤ 25) (k9 : 0 ≤ x9 ∧ x9 ≤ 25) (d0 : x9 + 0 ≤ x8 ∧ x8 ≤ x9 + 4294967296) (f0 : x9 ≤ x8) (g1 : x9 = pn_0) (f2 : MVI (pn_0) (nx_0) (ny_0) (order_0) (x6) (x3) (x4) (x8)) (f3 : ORN4 (pn_0) (order_0)) (f4 : x3 ≤ pn_0) (f5 : (1 ≤ x7) ∧ (x7 ≤ 2)) (hK_0_74 : ∀ j : Int, 0 ≤ j → j < 100 → (-300000000) ≤ nx_0 j ∧ nx_0 j ≤ 300000000) (hK_0_75 : ∀ j : Int, 0 ≤ j → j < 100 → (-300000000) ≤ ny_0 j ∧ ny_0 j ≤ 300000000) (hK_0_96 : ∀ j : Int, 0 ≤ j → j < 26 → 0 ≤ order_0 j ∧ order_0 j ≤ 25) (kz_0_31 : 0 ≤ pn_0 ∧ pn_0 ≤ 25) : MVB (pn_0) (nx_0) (ny_0) (order_0) (x3) (x4) := by
  exact mvi_end ‹MVI _ _ _ _ _ _ _ _› (by omega)
def o_Mo_move_1 : or_T := (32, 10, [(0, (2, 0, 0, [165])), (3, (0, 3, 24, [])), (4, (0, 0, 30, [])), (6, (0, 0, 33554431, [])), (7, (0, 1, 2, [])), (8, (0, 0, 25, [])), (9, (0, 0, 25, []))], [(7, [8, 9], [3]), (9, [9, 5], [31]), (20, [5, 6, 3, 4, 8], [60, 1, 3, 834, 31, 74, 75, 96]), (20, [5], [60, 1, 1, 835, 31, 96]), (20, [3, 5], [50, 1, 0, 1031, 0, 2, 1, 0, 2, 1, 31]), (20, [7], [50, 0, 0, 2, 6, 0, 2, 0, 1, 1, 0, 0, 2, 1, 0, 0, 2]), (24, [0, 5], [])], [], [], [(20, [0, 3, 4], [60, 1, 3, 833, 31, 74, 75, 96])], [], [(8, 9, 0, 4294967296)])
theorem oo_Mo_move_1 {kA : Nat → ClassId} : or_ok PRD kA GG o_Mo_move_1 := by
  refine or_mk fun A ta ws vs hD hth hl => ?_
  intro t0 r0 t3 k3 t4 k4 t6 k6 t7 k7 t8 k8 t9 k9 d0 f0 f1 f2 f3 f4 f5 f6
  replace f1 := shm_565 f1
  replace f2 := shm_632 f2
  replace f3 := shm_630 f3
  replace f4 := shm_631 f4
  replace f6 := shm_5 f6
  have q5 : n_v vs 5 = n_v vs 0 := f6.symm
  simp only [q5] at f1 f2 f3 f4
  have cr_0_74 := fdq_163 hD hth r0
  have cr_0_75 := fdq_164 hD hth r0
  have cr_0_96 := fdq_165 hD hth r0
  have g1 : v_iv (n_v vs 9) = w_fi ws (n_v vs 0) 31 := congrArg v_iv f1
  have hK_0_74 := elq_91 hD hth cr_0_74
  have hK_0_75 := elq_92 hD hth cr_0_75
  have hK_0_96 := elq_93 hD hth cr_0_96
  have kz_0_31 := fdq_144 hD hth r0
  have nf0 : fc_1 PRD (20, [0, 3, 4], [60, 1, 3, 833, 31, 74, 75, 96]) ws (vs) := ⟨nf_in hl rfl, sgq_633 (vc_Mo_move_1_0 (v_iv (n_v vs 3)) (v_iv (n_v vs 4)) (v_iv (n_v vs 6)) (v_iv (n_v vs 7)) (v_iv (n_v vs 8)) (v_iv (n_v vs 9)) (w_fi ws (n_v vs 0) 31) (w_ei ws (w_ar ws (n_v vs 0) 74)) (w_ei ws (w_ar ws (n_v vs 0) 75)) (w_ei ws (w_ar ws (n_v vs 0) 96)) k3 k4 k6 k7 k8 k9 d0 (shm_2 f0) g1 f2 f3 f4 (shm_445 f5) hK_0_74 hK_0_75 hK_0_96 kz_0_31)⟩
  refine ⟨(fun _ h => (by cases h)), [], trivial, ?_, (fun _ h => (by cases h))⟩
  rw [List.append_nil]
  exact List.forall_mem_cons.mpr ⟨⟨show (20 : Nat) < 100 from by decide, nf0⟩, (fun _ h => (by cases h))⟩
set_option maxHeartbeats 4000000 in
theorem vc_Mo_move_2_r0 (x3 : Int) (x4 : Int) (x6 : Int) (x7 : Int) (x8 : Int) (x9 : Int) (x11 : Int) (x12 : Int) (x13 : Int) (x14 : Int) (x15 : Int) (x16 : Int) (nx_0 : Int → Int) (pn_0 : Int) (ny_0 : Int → Int) (order_0 : Int → Int) (k3 : 3 ≤ x3 ∧ x3 ≤ 24) (k4 : 0 ≤ x4 ∧ x4 ≤ 30) (k6 : 0 ≤ x6 ∧ x6 ≤ 33554431) (k7 : 1 ≤ x7 ∧ x7 ≤ 2) (k8 : 0 ≤ x8 ∧ x8 ≤ 24) (k9 : 1 ≤ x9 ∧ x9 ≤ 25) (k11 : (-300000000) ≤ x11 ∧ x11 ≤ 300000000) (k12 : 0 ≤ x12 ∧ x12 ≤ 33554431) (k13 : 1 ≤ x13 ∧ x13 ≤ 1) (k14 : 0 ≤ x14 ∧ x14 ≤ 1) (k15 : 0 ≤ x15 ∧ x15 ≤ 2) (k16 : (-300000000) ≤ x16 ∧ x16 ≤ 300000002) (d0 : x15 + (-300000000) ≤ x16 ∧ x16 ≤ x15 + 300000000) (d1 : x11 + 0 ≤ x16 ∧ x16 ≤ x11 + 2) (d2 : x9 + (-4294967296) ≤ x8 ∧ x8 ≤ x9 + (-1)) (f0 : x16 = x11 + x15) (f1 : x15 = x14 * x7) (f2 : x14 = x12 % 2) (f3 : bvp (x14) = bvp (x12) &&& bvp (x13)) (f4 : bvp (x12) = bvp (x6) >>> (x8).toNat) (h5 : x11 = nx_0 (x8)) (f7 : x8 < x9) (g8 : x9 = pn_0) (f9 : MVI (pn_0) (nx_0) (ny_0) (order_0) (x6) (x3) (x4) (x8)) (f10 : ORN4 (pn_0) (order_0)) (f11 : x3 ≤ pn_0) (f12 : (1 ≤ x7) ∧ (x7 ≤ 2)) (hK_0_74 : ∀ j : Int, 0 ≤ j → j < 100 → (-300000000) ≤ nx_0 j ∧ nx_0 j ≤ 300000000) (hK_0_75 : ∀ j : Int, 0 ≤ j → j < 100 → (-300000000) ≤ ny_0 j ∧ ny_0 j ≤ 300000000) (hK_0_96 : ∀ j : Int, 0 ≤ j → j < 26 → 0 ≤ order_0 j ∧ order_0 j ≤ 25) (kz_0_31 : 0 ≤ pn_0 ∧ pn_0 ≤ 25) : (-300000000) ≤ x16 ∧ x16 ≤ 300000000 := by
  have v := mvi_val (b := x14) (u := x11) (v := x15) (d := x7) ‹MVI _ _ _ _ _ _ _ _› (by omega) (by omega) (by omega) (by omega) (fun e => (bit_shr (by assumption) (by omega)).1 ((bit_and (by assumption) 0).1 ((bit_01 (by omega) (by omega)).2 e)).1) (by assumption) (by assumption)
  rcases v with v | ⟨v, w⟩
  · omega
  · unfold sml at w
    rw [← ‹x11 = nx_0 x8›] at w
    omega
def o_Mo_move_2 : or_T := (25, 17, [(0, (2, 0, 0, [165])), (3, (0, 3, 24, [])), (4, (0, 0, 30, [])), (5, (2, 0, 0, [165])), (6, (0, 0, 33554431, [])), (7, (0, 1, 2, [])), (8, (0, 0, 24, [])), (9, (0, 1, 25, [])), (10, (2, 0, 0, [214])), (11, (0, -300000000, 300000000, [])), (12, (0, 0, 33554431, [])), (13, (0, 1, 1, [])), (14, (0, 0, 1, [])), (15, (0, 0, 2, [])), (16, (0, -300000000, 300000002, []))], [(1, [16, 11, 15], []), (3, [15, 14, 7], []), (12, [14, 12], [2]), (16, [14, 12, 13], [0]), (16, [12, 6, 8], [4]), (10, [11, 10, 8], []), (9, [10, 5], [74]), (7, [8, 9], [2]), (9, [9, 5], [31]), (20, [5, 6, 3, 4, 8], [60, 1, 3, 834, 31, 74, 75, 96]), (20, [5], [60, 1, 1, 835, 31, 96]), (20, [3, 5], [50, 1, 0, 1031, 0, 2, 1, 0, 2, 1, 31]), (20, [7], [50, 0, 0, 2, 6, 0, 2, 0, 1, 1, 0, 0, 2, 1, 0, 0, 2]), (24, [0, 5], [])], [(16, (0, -300000000, 300000000, []))], [], [], [], [(16, 15, -300000000, 300000000), (16, 11, 0, 2), (8, 9, -4294967296, -1)])
theorem oo_Mo_move_2 {kA : Nat → ClassId} : or_ok PRD kA GG o_Mo_move_2 := by
  refine or_mk fun A ta ws vs hD hth hl => ?_
  intro t0 r0 t3 k3 t4 k4 t5 r5 t6 k6 t7 k7 t8 k8 t9 k9 t10 r10 t11 k11 t12 k12 t13 k13 t14 k14 t15 k15 t16 k16 d0 d1 d2 f0 f1 f2 f3 f4 f5 f6 f7 f8 f9 f10 f11 f12 f13
  replace f5 := shm_106 f5
  replace f6 := shm_634 f6
  replace f8 := shm_565 f8
  replace f9 := shm_632 f9
  replace f10 := shm_630 f10
  replace f11 := shm_631 f11
  replace f13 := shm_5 f13
  have q5 : n_v vs 5 = n_v vs 0 := f13.symm
  simp only [q5] at f6 f8 f9 f10 f11
  have cr_0_74 := fdq_163 hD hth r0
  have cr_0_75 := fdq_164 hD hth r0
  have cr_0_96 := fdq_165 hD hth r0
  have ad_10 : v_ad (n_v vs 10) = w_ar ws (n_v vs 0) 74 := congrArg v_ad f6
  simp only [ad_10] at f5
  have h5 : v_iv (n_v vs 11) = w_ei ws (w_ar ws (n_v vs 0) 74) (v_iv (n_v vs 8)) := f5
  have g8 : v_iv (n_v vs 9) = w_fi ws (n_v vs 0) 31 := congrArg v_iv f8
  have hK_0_74 := elq_91 hD hth cr_0_74
  have hK_0_75 := elq_92 hD hth cr_0_75
  have hK_0_96 := elq_93 hD hth cr_0_96
  have kz_0_31 := fdq_144 hD hth r0
  have hrf0 : (-300000000) ≤ v_iv (n_v vs 16) ∧ v_iv (n_v vs 16) ≤ 300000000 := vc_Mo_move_2_r0 (v_iv (n_v vs 3)) (v_iv (n_v vs 4)) (v_iv (n_v vs 6)) (v_iv (n_v vs 7)) (v_iv (n_v vs 8)) (v_iv (n_v vs 9)) (v_iv (n_v vs 11)) (v_iv (n_v vs 12)) (v_iv (n_v vs 13)) (v_iv (n_v vs 14)) (v_iv (n_v vs 15)) (v_iv (n_v vs 16)) (w_ei ws (w_ar ws (n_v vs 0) 74)) (w_fi ws (n_v vs 0) 31) (w_ei ws (w_ar ws (n_v vs 0) 75)) (w_ei ws (w_ar ws (n_v vs 0) 96)) k3 k4 k6 k7 k8 k9 k11 k12 k13 k14 k15 k16 d0 d1 d2 (shm_12 f0) (shm_38 f1) (shm_382 f2) (shm_11 f3) (shm_13 f4) h5 (shm_6 f7) g8 f9 f10 f11 (shm_445 f12) hK_0_74 hK_0_75 hK_0_96 kz_0_31
  have rf16 : tv_ok ta (0, -300000000, 300000000, []) (n_v vs 16) := tv_in t16 (by first | omega | grind) (by first | omega | grind)
  refine ⟨List.forall_mem_cons.mpr ⟨rf16, (fun _ h => (by cases h))⟩, [], trivial, ?_, (fun _ h => (by cases h))⟩
  rw [List.append_nil]
  exact (fun _ h => (by cases h))
set_option maxHeartbeats 4000000 in
theorem vc_Mo_move_3_0 (x3 : Int) (x4 : Int) (x6 : Int) (x7 : Int) (x8 : Int) (x9 : Int) (x11 : Int) (x12 : Int) (x13 : Int) (x14 : Int) (x15 : Int) (x16 : Int) (x17 : Int) (order_0 : Int → Int) (pn_0 : Int) (nx_1 : Int → Int) (pn_1 : Int) (ny_1 : Int → Int) (order_1 : Int → Int) (nx_0 : Int → Int) (ny_0 : Int → Int) (k3 : 3 ≤ x3 ∧ x3 ≤ 24) (k4 : 0 ≤ x4 ∧ x4 ≤ 30) (k6 : 0 ≤ x6 ∧ x6 ≤ 33554431) (k7 : 1 ≤ x7 ∧ x7 ≤ 2) (k8 : 0 ≤ x8 ∧ x8 ≤ 24) (k9 : 1 ≤ x9 ∧ x9 ≤ 25) (k11 : (-300000000) ≤ x11 ∧ x11 ≤ 300000000) (k12 : 0 ≤ x12 ∧ x12 ≤ 33554431) (k13 : 1 ≤ x13 ∧ x13 ≤ 1) (k14 : 0 ≤ x14 ∧ x14 ≤ 1) (k15 : 0 ≤ x15 ∧ x15 ≤ 2) (k16 : (-300000000) ≤ x16 ∧ x16 ≤ 300000000) (k17 : 1 ≤ x17 ∧ x17 ≤ 25) (d0 : x8 + 1 ≤ x17 ∧ x17 ≤ x8 + 1) (d1 : x9 + (-4294967296) ≤ x17 ∧ x17 ≤ x9 + 0) (d2 : x15 + (-300000000) ≤ x16 ∧ x16 ≤ x15 + 300000000) (d3 : x11 + 0 ≤ x16 ∧ x16 ≤ x11 + 2) (d4 : x9 + (-4294967296) ≤ x8 ∧ x8 ≤ x9 + (-1)) (f0 : x17 = x8 + 1) (f1 : ORN4 (pn_0) (order_0)) (f2 : x3 ≤ pn_0) (f3 : (1 ≤ x7) ∧ (x7 ≤ 2)) (f6 : x16 = x11 + x15) (f7 : x15 = x14 * x7) (f8 : x14 = x12 % 2) (f9 : bvp (x14) = bvp (x12) &&& bvp (x13)) (f10 : bvp (x12) = bvp (x6) >>> (x8).toNat) (h11 : x11 = nx_1 (x8)) (f13 : x8 < x9) (g14 : x9 = pn_1) (f15 : MVI (pn_1) (nx_1) (ny_1) (order_1) (x6) (x3) (x4) (x8)) (f16 : ORN4 (pn_1) (order_1)) (f17 : x3 ≤ pn_1) (f18 : (1 ≤ x7) ∧ (x7 ≤ 2)) (fe_0_31_1 : pn_0 = pn_1) (hE_0_74_1 : ∀ j : Int, 0 ≤ j → (j = x8 → nx_0 j = x16) ∧ (j ≠ x8 → nx_0 j = nx_1 j)) (hK_0_74 : ∀ j : Int, 0 ≤ j → j < 100 → (-300000000) ≤ nx_0 j ∧ nx_0 j ≤ 300000000) (hE_0_75_1 : ∀ j : Int, ny_0 j = ny_1 j) (hK_0_75 : ∀ j : Int, 0 ≤ j → j < 100 → (-300000000) ≤ ny_0 j ∧ ny_0 j ≤ 300000000) (hE_0_96_1 : ∀ j : Int, order_0 j = order_1 j) (hK_0_96 : ∀ j : Int, 0 ≤ j → j < 26 → 0 ≤ order_0 j ∧ order_0 j ≤ 25) (kz_0_31 : 0 ≤ pn_0 ∧ pn_0 ≤ 25) : MVI (pn_0) (nx_0) (ny_0) (order_0) (x6) (x3) (x4) (x17) := by
  subst fe_0_31_1
  have e_hE_0_75_1 := funext hE_0_75_1; subst e_hE_0_75_1
  have e_hE_0_96_1 := funext hE_0_96_1; subst e_hE_0_96_1
  first
    | exact mvi_start ‹MVA _ _ _ _ _ _ _› (by omega)
    | exact mvi_step (b := x14) (u := x11) (v := x15) (w := x16) (d := x7) ‹MVI _ _ _ _ _ _ _ _› (by omega) (by omega) (by omega) (by omega) (by omega) (fun e => (bit_shr (by assumption) (by omega)).1 ((bit_and (by assumption) 0).1 ((bit_01 (by omega) (by omega)).2 e)).1) (by assumption) (by omega) (by omega) (by assumption) (by omega) (by assumption) (by omega) (fun j a b => (‹ORN4 _ _› j a (by omega)).1)
  
def o_Mo_move_3 : or_T := (2, 18, [(0, (2, 0, 0, [165])), (3, (0, 3, 24, [])), (4, (0, 0, 30, [])), (6, (0, 0, 33554431, [])), (7, (0, 1, 2, [])), (8, (0, 0, 24, [])), (9, (0, 1, 25, [])), (10, (2, 0, 0, [214])), (11, (0, -300000000, 300000000, [])), (12, (0, 0, 33554431, [])), (13, (0, 1, 1, [])), (14, (0, 0, 1, [])), (15, (0, 0, 2, [])), (16, (0, -300000000, 300000000, [])), (17, (0, 1, 25, []))], [(6, [17, 8], [1]), (20, [5], [60, 1, 1, 835, 31, 96]), (20, [3, 5], [50, 1, 0, 1031, 0, 2, 1, 0, 2, 1, 31]), (20, [7], [50, 0, 0, 2, 6, 0, 2, 0, 1, 1, 0, 0, 2, 1, 0, 0, 2]), (24, [0, 5], []), (100, [10, 8, 16], []), (1, [16, 11, 15], []), (3, [15, 14, 7], []), (12, [14, 12], [2]), (16, [14, 12, 13], [0]), (16, [12, 6, 8], [4]), (10, [11, 10, 8], []), (9, [10, 5], [74]), (7, [8, 9], [2]), (9, [9, 5], [31]), (20, [5, 6, 3, 4, 8], [60, 1, 3, 834, 31, 74, 75, 96]), (20, [5], [60, 1, 1, 835, 31, 96]), (20, [3, 5], [50, 1, 0, 1031, 0, 2, 1, 0, 2, 1, 31]), (20, [7], [50, 0, 0, 2, 6, 0, 2, 0, 1, 1, 0, 0, 2, 1, 0, 0, 2])], [], [], [(20, [5, 6, 3, 4, 17], [60, 1, 3, 834, 31, 74, 75, 96])], [], [(17, 8, 1, 1), (17, 9, -4294967296, 0), (16, 15, -300000000, 300000000), (16, 11, 0, 2), (8, 9, -4294967296, -1)])
theorem oo_Mo_move_3 {kA : Nat → ClassId} : or_ok PRD kA GG o_Mo_move_3 := by
  refine or_mk fun A ta ws vs hD hth hl => ?_
  intro t0 r0 t3 k3 t4 k4 t6 k6 t7 k7 t8 k8 t9 k9 t10 r10 t11 k11 t12 k12 t13 k13 t14 k14 t15 k15 t16 k16 t17 k17 d0 d1 d2 d3 d4 f0 f1 f2 f3 f4 ta1 w1 le1 s1 f6 f7 f8 f9 f10 f11 f12 f13 f14 f15 f16 f17 f18
  replace f0 := shm_4 f0
  replace f1 := shm_630 f1
  replace f2 := shm_631 f2
  replace f3 := shm_445 f3
  replace f4 := shm_5 f4
  have s1 : (∀ b j, w_el ws b j = if b = v_ad (n_v vs 10) ∧ j = (v_iv (n_v vs 8)).toNat then v_iv (n_v vs 16) else w_el w1 b j) ∧ ∀ b k, w_fd ws b k = w_fd w1 b k := s1.2
  replace f6 := shm_12 f6
  replace f7 := shm_38 f7
  replace f8 := shm_382 f8
  replace f9 := shm_11 f9
  replace f10 := shm_13 f10
  replace f11 := shm_106 f11
  replace f12 := shm_634 f12
  replace f13 := shm_6 f13
  replace f14 := shm_565 f14
  replace f15 := shm_632 f15
  replace f16 := shm_630 f16
  replace f17 := shm_631 f17
  replace f18 := shm_445 f18
  have q5 : n_v vs 5 = n_v vs 0 := f4.symm
  simp only [q5] at f1 f2 f12 f14 f15 f16 f17
  have ar_0_74_1 : w_ar w1 (n_v vs 0) 74 = w_ar ws (n_v vs 0) 74 := congrArg v_ad (s1.2 _ _).symm
  have cr_0_74 := fdq_163 hD hth r0
  have ar_0_75_1 : w_ar w1 (n_v vs 0) 75 = w_ar ws (n_v vs 0) 75 := congrArg v_ad (s1.2 _ _).symm
  have cr_0_75 := fdq_164 hD hth r0
  have ar_0_96_1 : w_ar w1 (n_v vs 0) 96 = w_ar ws (n_v vs 0) 96 := congrArg v_ad (s1.2 _ _).symm
  have cr_0_96 := fdq_165 hD hth r0
  have ad_10 : v_ad (n_v vs 10) = w_ar ws (n_v vs 0) 74 := (congrArg v_ad f12).trans ar_0_74_1
  simp only [ad_10] at f11
  have h11 : v_iv (n_v vs 11) = w_ei w1 (w_ar ws (n_v vs 0) 74) (v_iv (n_v vs 8)) := f11
  have g14 : v_iv (n_v vs 9) = w_fi w1 (n_v vs 0) 31 := congrArg v_iv f14
  simp only [ar_0_74_1, ar_0_75_1, ar_0_96_1] at f15 f16
  have fe_0_31_1 : w_fi ws (n_v vs 0) 31 = w_fi w1 (n_v vs 0) 31 := congrArg v_iv (s1.2 _ _)
  have hE_0_74_1 : ∀ j : Int, 0 ≤ j → (j = v_iv (n_v vs 8) → w_ei ws (w_ar ws (n_v vs 0) 74) j = v_iv (n_v vs 16)) ∧ (j ≠ v_iv (n_v vs 8) → w_ei ws (w_ar ws (n_v vs 0) 74) j = w_ei w1 (w_ar ws (n_v vs 0) 74) j) := fun j hj => ⟨fun h => by unfold w_ei; rw [s1.1, if_pos ⟨ad_10.symm, by rw [h]⟩], fun h => by unfold w_ei; rw [s1.1, if_neg (fun e => h (by have := e.2; omega))]⟩
  have hK_0_74 := elq_91 hD hth cr_0_74
  have hE_0_75_1 : ∀ j : Int, w_ei ws (w_ar ws (n_v vs 0) 75) j = w_ei w1 (w_ar ws (n_v vs 0) 75) j := el_kp s1.1 r10 cr_0_75 (by decide)
  have hK_0_75 := elq_92 hD hth cr_0_75
  have hE_0_96_1 : ∀ j : Int, w_ei ws (w_ar ws (n_v vs 0) 96) j = w_ei w1 (w_ar ws (n_v vs 0) 96) j := el_kp s1.1 r10 cr_0_96 (by decide)
  have hK_0_96 := elq_93 hD hth cr_0_96
  have kz_0_31 := fdq_144 hD hth r0
  have nf0 : fc_1 PRD (20, [5, 6, 3, 4, 17], [60, 1, 3, 834, 31, 74, 75, 96]) ws (vs) := by
    refine ⟨nf_in hl rfl, sgq_632 ?_⟩
    · show MVI (w_fi ws (n_v vs 5) 31) (w_ei ws (w_ar ws (n_v vs 5) 74)) (w_ei ws (w_ar ws (n_v vs 5) 75)) (w_ei ws (w_ar ws (n_v vs 5) 96)) (v_iv (n_v vs 6)) (v_iv (n_v vs 3)) (v_iv (n_v vs 4)) (v_iv (n_v vs 17))
      rw [q5]
      exact vc_Mo_move_3_0 (v_iv (n_v vs 3)) (v_iv (n_v vs 4)) (v_iv (n_v vs 6)) (v_iv (n_v vs 7)) (v_iv (n_v vs 8)) (v_iv (n_v vs 9)) (v_iv (n_v vs 11)) (v_iv (n_v vs 12)) (v_iv (n_v vs 13)) (v_iv (n_v vs 14)) (v_iv (n_v vs 15)) (v_iv (n_v vs 16)) (v_iv (n_v vs 17)) (w_ei ws (w_ar ws (n_v vs 0) 96)) (w_fi ws (n_v vs 0) 31) (w_ei w1 (w_ar ws (n_v vs 0) 74)) (w_fi w1 (n_v vs 0) 31) (w_ei w1 (w_ar ws (n_v vs 0) 75)) (w_ei w1 (w_ar ws (n_v vs 0) 96)) (w_ei ws (w_ar ws (n_v vs 0) 74)) (w_ei ws (w_ar ws (n_v vs 0) 75)) k3 k4 k6 k7 k8 k9 k11 k12 k13 k14 k15 k16 k17 d0 d1 d2 d3 d4 f0 f1 f2 f3 f6 f7 f8 f9 f10 h11 f13 g14 f15 f16 f17 f18 fe_0_31_1 hE_0_74_1 hK_0_74 hE_0_75_1 hK_0_75 hE_0_96_1 hK_0_96 kz_0_31
  refine ⟨(fun _ h => (by cases h)), [], trivial, ?_, (fun _ h => (by cases h))⟩
  rw [List.append_nil]
  exact List.forall_mem_cons.mpr ⟨⟨show (20 : Nat) < 100 from by decide, nf0⟩, (fun _ h => (by cases h))⟩
def n_Mo_move_an : List an_T := [(2, [(0, (2, 0, 0, [165])), (1, (0, 0, 33554431, [])), (2, (0, 1, 2, [])), (3, (0, 0, 25, []))], [], (0, 0), [(0, 0, 99998), (1, 8, 25), (0, 0, 100000)], [(1, 6, (Int.negSucc 999999999999), 0), (2, 7, (Int.negSucc 999999999999), 0), (6, 1, (Int.negSucc 999999999999), 0), (7, 2, (Int.negSucc 999999999999), 0)], [], [(2, 0, 0, [165]), (0, 0, 33554431, []), (0, 1, 2, []), (0, 3, 24, []), (0, 0, 30, [])], 0, [], [(20, [5, 6, 3, 4, 8], [60, 1, 3, 834, 31, 74, 75, 96]), (20, [5], [60, 1, 1, 835, 31, 96]), (20, [3, 5], [50, 1, 0, 1031, 0, 2, 1, 0, 2, 1, 31]), (20, [7], [50, 0, 0, 2, 6, 0, 2, 0, 1, 1, 0, 0, 2, 1, 0, 0, 2]), (24, [0, 5], [])])]
def t_Mo_move_ct : ct_L := []
set_option maxRecDepth 100000 in
theorem c_Mo_move {l : Launch} {D : va_G} {kA : Nat → ClassId} : ct_ok PRD l D kA GG y_Mo_move z_Mo_move e_Mo_move := chk_all_ok (FT := [(159, 13, 74), (594, 13, 31)]) (PT := []) (CT := t_Mo_move_ct) (KT := []) (NT := []) (AN := n_Mo_move_an) (OT := [o_Mo_move_0, o_Mo_move_1, o_Mo_move_2, o_Mo_move_3]) 3 200 (List.forall_mem_cons.mpr ⟨oo_Mo_move_0, List.forall_mem_cons.mpr ⟨oo_Mo_move_1, List.forall_mem_cons.mpr ⟨oo_Mo_move_2, List.forall_mem_cons.mpr ⟨oo_Mo_move_3, List.forall_mem_nil _⟩⟩⟩⟩) (by decide +kernel) ⟨List.forall_mem_cons.mpr ⟨gf_Mo_159, List.forall_mem_cons.mpr ⟨gf_Mo_594, List.forall_mem_nil _⟩⟩, List.forall_mem_nil _, List.forall_mem_nil _, List.forall_mem_nil _, List.forall_mem_nil _, GG_pl⟩ (by decide +kernel)
set_option maxHeartbeats 4000000 in
theorem vc_Mo_newLine_at_g1_0_r0 (x1 : Int) (x2 : Int) (x3 : Int) (x4 : Int) (pm_0 : Int) (pt_0 : Int → Int) (ph_0 : Int → Int) (alive_0 : Int → Int) (rotMany_0 : Int → Int) (rot_0 : Int → Int) (pn_0 : Int) (k1 : 0 ≤ x1 ∧ x1 ≤ 0) (k2 : 0 ≤ x2 ∧ x2 ≤ 24) (k3 : 0 ≤ x3 ∧ x3 ≤ 80) (k4 : (-2) ≤ x4 ∧ x4 ≤ 25) (g0 : x3 = pm_0) (f2 : pm_0 ≤ 79) (f3 : x1 = 0) (f4 : PN1 (pn_0) (pm_0) (pt_0) (ph_0) (alive_0) (rotMany_0) (rot_0) (x2)) (f5 : UNA (pn_0) (pm_0) (pt_0) (ph_0) (alive_0) (x4)) (hK_0_33 : ∀ j : Int, 0 ≤ j → j < 80 → 0 ≤ pt_0 j ∧ pt_0 j ≤ 24) (hK_0_34 : ∀ j : Int, 0 ≤ j → j < 80 → 0 ≤ ph_0 j ∧ ph_0 j ≤ 24) (hK_0_35 : ∀ j : Int, 0 ≤ j → j < 80 → 0 ≤ alive_0 j ∧ alive_0 j ≤ 1) (hK_0_36 : ∀ j : Int, 0 ≤ j → j < 26 → 0 ≤ rotMany_0 j ∧ rotMany_0 j ≤ 80) (hK_0_37 : ∀ j : Int, 0 ≤ j → j < 2080 → 0 ≤ rot_0 j ∧ rot_0 j ≤ 79) (kz_0_31 : 0 ≤ pn_0 ∧ pn_0 ≤ 25) (kz_0_32 : 0 ≤ pm_0 ∧ pm_0 ≤ 80) : 0 ≤ x3 ∧ x3 ≤ 79 := by
  first
    | omega
    | (have h := ‹PN1 _ _ _ _ _ _ _ _›.2.1
       have := h.2.2.1
       have := h.2.2.2.1
       omega)
    | (have h := ‹PN3 _ _ _ _ _ _ _ _ _ _ _›.2.1
       have := h.1
       have := h.2.1
       omega)
def o_Mo_newLine_at_g1_0 : or_T := (9, 6, [(0, (2, 0, 0, [165])), (1, (0, 0, 0, [])), (2, (0, 0, 24, [])), (3, (0, 0, 80, [])), (4, (0, -2, 25, [])), (5, (2, 0, 0, [180]))], [(9, [3, 0], [32]), (9, [5, 0], [33]), (20, [0], [50, 1, 0, 32, 0, 3, 2, 0, 32, 0, 79]), (20, [1], [50, 0, 0, 1, 2, 1, 0, 0, 0]), (20, [0, 2], [60, 2, 5, 245, 31, 32, 33, 34, 35, 36, 37]), (20, [0, 4], [60, 2, 3, 266, 31, 32, 33, 34, 35])], [(3, (0, 0, 79, []))], [], [], [], [])
theorem oo_Mo_newLine_at_g1_0 {kA : Nat → ClassId} : or_ok PRD kA GG o_Mo_newLine_at_g1_0 := by
  refine or_mk fun A ta ws vs hD hth hl => ?_
  intro t0 r0 t1 k1 t2 k2 t3 k3 t4 k4 t5 r5 f0 f1 f2 f3 f4 f5
  replace f0 := shm_519 f0
  have cr_0_33 := fdq_116 hD hth r0
  have cr_0_34 := fdq_117 hD hth r0
  have cr_0_35 := fdq_131 hD hth r0
  have cr_0_36 := fdq_166 hD hth r0
  have cr_0_37 := fdq_167 hD hth r0
  have g0 : v_iv (n_v vs 3) = w_fi ws (n_v vs 0) 32 := congrArg v_iv f0
  have hK_0_33 := elq_57 hD hth cr_0_33
  have hK_0_34 := elq_58 hD hth cr_0_34
  have hK_0_35 := elq_69 hD hth cr_0_35
  have hK_0_36 := elq_94 hD hth cr_0_36
  have hK_0_37 := elq_95 hD hth cr_0_37
  have kz_0_31 := fdq_144 hD hth r0
  have kz_0_32 := fdq_139 hD hth r0
  have hrf0 : 0 ≤ v_iv (n_v vs 3) ∧ v_iv (n_v vs 3) ≤ 79 := vc_Mo_newLine_at_g1_0_r0 (v_iv (n_v vs 1)) (v_iv (n_v vs 2)) (v_iv (n_v vs 3)) (v_iv (n_v vs 4)) (w_fi ws (n_v vs 0) 32) (w_ei ws (w_ar ws (n_v vs 0) 33)) (w_ei ws (w_ar ws (n_v vs 0) 34)) (w_ei ws (w_ar ws (n_v vs 0) 35)) (w_ei ws (w_ar ws (n_v vs 0) 36)) (w_ei ws (w_ar ws (n_v vs 0) 37)) (w_fi ws (n_v vs 0) 31) k1 k2 k3 k4 g0 (shm_635 f2) (shm_636 f3) (shm_637 f4) (shm_638 f5) hK_0_33 hK_0_34 hK_0_35 hK_0_36 hK_0_37 kz_0_31 kz_0_32
  have rf3 : tv_ok ta (0, 0, 79, []) (n_v vs 3) := tv_in t3 (by first | omega | grind) (by first | omega | grind)
  refine ⟨List.forall_mem_cons.mpr ⟨rf3, (fun _ h => (by cases h))⟩, [], trivial, ?_, (fun _ h => (by cases h))⟩
  rw [List.append_nil]
  exact (fun _ h => (by cases h))
set_option maxHeartbeats 4000000 in
theorem vc_Mo_newLine_at_g1_1_0 (x1 : Int) (x2 : Int) (x3 : Int) (x4 : Int) (x8 : Int) (x9 : Int) (x10 : Int) (x11 : Int) (x12 : Int) (pm_0 : Int) (pm_1 : Int) (pm_2 : Int) (pm_3 : Int) (pm_4 : Int) (pt_4 : Int → Int) (ph_4 : Int → Int) (alive_4 : Int → Int) (rotMany_4 : Int → Int) (rot_4 : Int → Int) (pn_4 : Int) (pn_0 : Int) (pn_1 : Int) (pn_2 : Int) (pn_3 : Int) (pt_0 : Int → Int) (pt_1 : Int → Int) (pt_2 : Int → Int) (pt_3 : Int → Int) (ph_0 : Int → Int) (ph_1 : Int → Int) (ph_2 : Int → Int) (ph_3 : Int → Int) (alive_0 : Int → Int) (alive_1 : Int → Int) (alive_2 : Int → Int) (alive_3 : Int → Int) (rotMany_0 : Int → Int) (rotMany_1 : Int → Int) (rotMany_2 : Int → Int) (rotMany_3 : Int → Int) (rot_0 : Int → Int) (rot_1 : Int → Int) (rot_2 : Int → Int) (rot_3 : Int → Int) (k1 : 0 ≤ x1 ∧ x1 ≤ 0) (k2 : 0 ≤ x2 ∧ x2 ≤ 24) (k3 : 0 ≤ x3 ∧ x3 ≤ 79) (k4 : (-2) ≤ x4 ∧ x4 ≤ 25) (k8 : 1 ≤ x8 ∧ x8 ≤ 1) (k9 : 1 ≤ x9 ∧ x9 ≤ 1) (k10 : 1 ≤ x10 ∧ x10 ≤ 80) (k11 : 1 ≤ x11 ∧ x11 ≤ 1) (k12 : 0 ≤ x12 ∧ x12 ≤ 79) (d0 : x10 + (-1) ≤ x12 ∧ x12 ≤ x10 + (-1)) (d1 : x3 + 0 ≤ x12 ∧ x12 ≤ x3 + 0) (d2 : x3 + 1 ≤ x10 ∧ x10 ≤ x3 + 1) (f0 : x12 = x10 - x11) (g1 : x10 = pm_0) (f2 : x1 = 0) (f4 : x10 = x3 + x9) (g5 : x3 = pm_1) (f6 : pm_1 ≤ 79) (f7 : x1 = 0) (f10 : pm_2 ≤ 79) (f11 : x1 = 0) (f14 : pm_3 ≤ 79) (f15 : x1 = 0) (f18 : pm_4 ≤ 79) (f19 : x1 = 0) (f20 : PN1 (pn_4) (pm_4) (pt_4) (ph_4) (alive_4) (rotMany_4) (rot_4) (x2)) (f21 : UNA (pn_4) (pm_4) (pt_4) (ph_4) (alive_4) (x4)) (fe_0_31_1 : pn_0 = pn_1) (fe_0_32_1 : pm_0 = x10) (fe_0_31_2 : pn_1 = pn_2) (fe_0_32_2 : pm_1 = pm_2) (fe_0_31_3 : pn_2 = pn_3) (fe_0_32_3 : pm_2 = pm_3) (fe_0_31_4 : pn_3 = pn_4) (fe_0_32_4 : pm_3 = pm_4) (hE_0_33_1 : ∀ j : Int, pt_0 j = pt_1 j) (hE_0_33_2 : ∀ j : Int, pt_1 j = pt_2 j) (hE_0_33_3 : ∀ j : Int, pt_2 j = pt_3 j) (hE_0_33_4 : ∀ j : Int, 0 ≤ j → (j = x3 → pt_3 j = x1) ∧ (j ≠ x3 → pt_3 j = pt_4 j)) (hK_0_33 : ∀ j : Int, 0 ≤ j → j < 80 → 0 ≤ pt_0 j ∧ pt_0 j ≤ 24) (hE_0_34_1 : ∀ j : Int, ph_0 j = ph_1 j) (hE_0_34_2 : ∀ j : Int, ph_1 j = ph_2 j) (hE_0_34_3 : ∀ j : Int, 0 ≤ j → (j = x3 → ph_2 j = x2) ∧ (j ≠ x3 → ph_2 j = ph_3 j)) (hE_0_34_4 : ∀ j : Int, ph_3 j = ph_4 j) (hK_0_34 : ∀ j : Int, 0 ≤ j → j < 80 → 0 ≤ ph_0 j ∧ ph_0 j ≤ 24) (hE_0_35_1 : ∀ j : Int, alive_0 j = alive_1 j) (hE_0_35_2 : ∀ j : Int, 0 ≤ j → (j = x3 → alive_1 j = x8) ∧ (j ≠ x3 → alive_1 j = alive_2 j)) (hE_0_35_3 : ∀ j : Int, alive_2 j = alive_3 j) (hE_0_35_4 : ∀ j : Int, alive_3 j = alive_4 j) (hK_0_35 : ∀ j : Int, 0 ≤ j → j < 80 → 0 ≤ alive_0 j ∧ alive_0 j ≤ 1) (hE_0_36_1 : ∀ j : Int, rotMany_0 j = rotMany_1 j) (hE_0_36_2 : ∀ j : Int, rotMany_1 j = rotMany_2 j) (hE_0_36_3 : ∀ j : Int, rotMany_2 j = rotMany_3 j) (hE_0_36_4 : ∀ j : Int, rotMany_3 j = rotMany_4 j) (hK_0_36 : ∀ j : Int, 0 ≤ j → j < 26 → 0 ≤ rotMany_0 j ∧ rotMany_0 j ≤ 80) (hE_0_37_1 : ∀ j : Int, rot_0 j = rot_1 j) (hE_0_37_2 : ∀ j : Int, rot_1 j = rot_2 j) (hE_0_37_3 : ∀ j : Int, rot_2 j = rot_3 j) (hE_0_37_4 : ∀ j : Int, rot_3 j = rot_4 j) (hK_0_37 : ∀ j : Int, 0 ≤ j → j < 2080 → 0 ≤ rot_0 j ∧ rot_0 j ≤ 79) (kz_0_31 : 0 ≤ pn_0 ∧ pn_0 ≤ 25) (kz_0_32 : 0 ≤ pm_0 ∧ pm_0 ≤ 80) : PUa (pn_0) (pm_0) (pt_0) (ph_0) (alive_0) (rotMany_0) (rot_0) (x2) (x12) := by
  subst fe_0_31_1
  subst fe_0_31_2
  subst fe_0_32_2
  subst fe_0_31_3
  subst fe_0_32_3
  subst fe_0_31_4
  subst fe_0_32_4
  have e_hE_0_33_1 := funext hE_0_33_1; subst e_hE_0_33_1
  have e_hE_0_33_2 := funext hE_0_33_2; subst e_hE_0_33_2
  have e_hE_0_33_3 := funext hE_0_33_3; subst e_hE_0_33_3
  have e_hE_0_34_1 := funext hE_0_34_1; subst e_hE_0_34_1
  have e_hE_0_34_2 := funext hE_0_34_2; subst e_hE_0_34_2
  have e_hE_0_34_4 := funext hE_0_34_4; subst e_hE_0_34_4
  have e_hE_0_35_1 := funext hE_0_35_1; subst e_hE_0_35_1
  have e_hE_0_35_3 := funext hE_0_35_3; subst e_hE_0_35_3
  have e_hE_0_35_4 := funext hE_0_35_4; subst e_hE_0_35_4
  have e_hE_0_36_1 := funext hE_0_36_1; subst e_hE_0_36_1
  have e_hE_0_36_2 := funext hE_0_36_2; subst e_hE_0_36_2
  have e_hE_0_36_3 := funext hE_0_36_3; subst e_hE_0_36_3
  have e_hE_0_36_4 := funext hE_0_36_4; subst e_hE_0_36_4
  have e_hE_0_37_1 := funext hE_0_37_1; subst e_hE_0_37_1
  have e_hE_0_37_2 := funext hE_0_37_2; subst e_hE_0_37_2
  have e_hE_0_37_3 := funext hE_0_37_3; subst e_hE_0_37_3
  have e_hE_0_37_4 := funext hE_0_37_4; subst e_hE_0_37_4
  have ea : x1 = 0 := by omega
  exact pux_new ‹PN1 _ _ _ _ _ _ _ _› (by omega) (by assumption) (by omega) (by omega) (by assumption) (by omega) (by omega) (by assumption) (by omega) (by omega) (by omega) (by omega) (Or.inl rfl)
set_option maxHeartbeats 4000000 in
theorem vc_Mo_newLine_at_g1_1_1 (x1 : Int) (x2 : Int) (x3 : Int) (x4 : Int) (x8 : Int) (x9 : Int) (x10 : Int) (x11 : Int) (x12 : Int) (pm_0 : Int) (pm_1 : Int) (pm_2 : Int) (pm_3 : Int) (pm_4 : Int) (pt_4 : Int → Int) (ph_4 : Int → Int) (alive_4 : Int → Int) (rotMany_4 : Int → Int) (rot_4 : Int → Int) (pn_4 : Int) (pn_0 : Int) (pn_1 : Int) (pn_2 : Int) (pn_3 : Int) (pt_0 : Int → Int) (pt_1 : Int → Int) (pt_2 : Int → Int) (pt_3 : Int → Int) (ph_0 : Int → Int) (ph_1 : Int → Int) (ph_2 : Int → Int) (ph_3 : Int → Int) (alive_0 : Int → Int) (alive_1 : Int → Int) (alive_2 : Int → Int) (alive_3 : Int → Int) (rotMany_0 : Int → Int) (rotMany_1 : Int → Int) (rotMany_2 : Int → Int) (rotMany_3 : Int → Int) (rot_0 : Int → Int) (rot_1 : Int → Int) (rot_2 : Int → Int) (rot_3 : Int → Int) (k1 : 0 ≤ x1 ∧ x1 ≤ 0) (k2 : 0 ≤ x2 ∧ x2 ≤ 24) (k3 : 0 ≤ x3 ∧ x3 ≤ 79) (k4 : (-2) ≤ x4 ∧ x4 ≤ 25) (k8 : 1 ≤ x8 ∧ x8 ≤ 1) (k9 : 1 ≤ x9 ∧ x9 ≤ 1) (k10 : 1 ≤ x10 ∧ x10 ≤ 80) (k11 : 1 ≤ x11 ∧ x11 ≤ 1) (k12 : 0 ≤ x12 ∧ x12 ≤ 79) (d0 : x10 + (-1) ≤ x12 ∧ x12 ≤ x10 + (-1)) (d1 : x3 + 0 ≤ x12 ∧ x12 ≤ x3 + 0) (d2 : x3 + 1 ≤ x10 ∧ x10 ≤ x3 + 1) (f0 : x12 = x10 - x11) (g1 : x10 = pm_0) (f2 : x1 = 0) (f4 : x10 = x3 + x9) (g5 : x3 = pm_1) (f6 : pm_1 ≤ 79) (f7 : x1 = 0) (f10 : pm_2 ≤ 79) (f11 : x1 = 0) (f14 : pm_3 ≤ 79) (f15 : x1 = 0) (f18 : pm_4 ≤ 79) (f19 : x1 = 0) (f20 : PN1 (pn_4) (pm_4) (pt_4) (ph_4) (alive_4) (rotMany_4) (rot_4) (x2)) (f21 : UNA (pn_4) (pm_4) (pt_4) (ph_4) (alive_4) (x4)) (fe_0_31_1 : pn_0 = pn_1) (fe_0_32_1 : pm_0 = x10) (fe_0_31_2 : pn_1 = pn_2) (fe_0_32_2 : pm_1 = pm_2) (fe_0_31_3 : pn_2 = pn_3) (fe_0_32_3 : pm_2 = pm_3) (fe_0_31_4 : pn_3 = pn_4) (fe_0_32_4 : pm_3 = pm_4) (hE_0_33_1 : ∀ j : Int, pt_0 j = pt_1 j) (hE_0_33_2 : ∀ j : Int, pt_1 j = pt_2 j) (hE_0_33_3 : ∀ j : Int, pt_2 j = pt_3 j) (hE_0_33_4 : ∀ j : Int, 0 ≤ j → (j = x3 → pt_3 j = x1) ∧ (j ≠ x3 → pt_3 j = pt_4 j)) (hK_0_33 : ∀ j : Int, 0 ≤ j → j < 80 → 0 ≤ pt_0 j ∧ pt_0 j ≤ 24) (hE_0_34_1 : ∀ j : Int, ph_0 j = ph_1 j) (hE_0_34_2 : ∀ j : Int, ph_1 j = ph_2 j) (hE_0_34_3 : ∀ j : Int, 0 ≤ j → (j = x3 → ph_2 j = x2) ∧ (j ≠ x3 → ph_2 j = ph_3 j)) (hE_0_34_4 : ∀ j : Int, ph_3 j = ph_4 j) (hK_0_34 : ∀ j : Int, 0 ≤ j → j < 80 → 0 ≤ ph_0 j ∧ ph_0 j ≤ 24) (hE_0_35_1 : ∀ j : Int, alive_0 j = alive_1 j) (hE_0_35_2 : ∀ j : Int, 0 ≤ j → (j = x3 → alive_1 j = x8) ∧ (j ≠ x3 → alive_1 j = alive_2 j)) (hE_0_35_3 : ∀ j : Int, alive_2 j = alive_3 j) (hE_0_35_4 : ∀ j : Int, alive_3 j = alive_4 j) (hK_0_35 : ∀ j : Int, 0 ≤ j → j < 80 → 0 ≤ alive_0 j ∧ alive_0 j ≤ 1) (hE_0_36_1 : ∀ j : Int, rotMany_0 j = rotMany_1 j) (hE_0_36_2 : ∀ j : Int, rotMany_1 j = rotMany_2 j) (hE_0_36_3 : ∀ j : Int, rotMany_2 j = rotMany_3 j) (hE_0_36_4 : ∀ j : Int, rotMany_3 j = rotMany_4 j) (hK_0_36 : ∀ j : Int, 0 ≤ j → j < 26 → 0 ≤ rotMany_0 j ∧ rotMany_0 j ≤ 80) (hE_0_37_1 : ∀ j : Int, rot_0 j = rot_1 j) (hE_0_37_2 : ∀ j : Int, rot_1 j = rot_2 j) (hE_0_37_3 : ∀ j : Int, rot_2 j = rot_3 j) (hE_0_37_4 : ∀ j : Int, rot_3 j = rot_4 j) (hK_0_37 : ∀ j : Int, 0 ≤ j → j < 2080 → 0 ≤ rot_0 j ∧ rot_0 j ≤ 79) (kz_0_31 : 0 ≤ pn_0 ∧ pn_0 ≤ 25) (kz_0_32 : 0 ≤ pm_0 ∧ pm_0 ≤ 80) : GLU (pn_0) (pm_0) (pt_0) (ph_0) (alive_0) (x2) := by
  subst fe_0_31_1
  subst fe_0_31_2
  subst fe_0_32_2
  subst fe_0_31_3
  subst fe_0_32_3
  subst fe_0_31_4
  subst fe_0_32_4
  have e_hE_0_33_1 := funext hE_0_33_1; subst e_hE_0_33_1
  have e_hE_0_33_2 := funext hE_0_33_2; subst e_hE_0_33_2
  have e_hE_0_33_3 := funext hE_0_33_3; subst e_hE_0_33_3
  have e_hE_0_34_1 := funext hE_0_34_1; subst e_hE_0_34_1
  have e_hE_0_34_2 := funext hE_0_34_2; subst e_hE_0_34_2
  have e_hE_0_34_4 := funext hE_0_34_4; subst e_hE_0_34_4
  have e_hE_0_35_1 := funext hE_0_35_1; subst e_hE_0_35_1
  have e_hE_0_35_3 := funext hE_0_35_3; subst e_hE_0_35_3
  have e_hE_0_35_4 := funext hE_0_35_4; subst e_hE_0_35_4
  have e_hE_0_36_1 := funext hE_0_36_1; subst e_hE_0_36_1
  have e_hE_0_36_2 := funext hE_0_36_2; subst e_hE_0_36_2
  have e_hE_0_36_3 := funext hE_0_36_3; subst e_hE_0_36_3
  have e_hE_0_36_4 := funext hE_0_36_4; subst e_hE_0_36_4
  have e_hE_0_37_1 := funext hE_0_37_1; subst e_hE_0_37_1
  have e_hE_0_37_2 := funext hE_0_37_2; subst e_hE_0_37_2
  have e_hE_0_37_3 := funext hE_0_37_3; subst e_hE_0_37_3
  have e_hE_0_37_4 := funext hE_0_37_4; subst e_hE_0_37_4
  exact glu_new (pux_new (z := pm_0 - 1) ‹PN1 _ _ _ _ _ _ _ _› (by omega) (by assumption) (by omega) (by omega) (by assumption) (by omega) (by omega) (by assumption) (by omega) (by omega) (by omega) (by omega) (Or.inl rfl))
set_option maxHeartbeats 4000000 in
theorem vc_Mo_newLine_at_g1_1_2 (x1 : Int) (x2 : Int) (x3 : Int) (x4 : Int) (x8 : Int) (x9 : Int) (x10 : Int) (x11 : Int) (x12 : Int) (pm_0 : Int) (pm_1 : Int) (pm_2 : Int) (pm_3 : Int) (pm_4 : Int) (pt_4 : Int → Int) (ph_4 : Int → Int) (alive_4 : Int → Int) (rotMany_4 : Int → Int) (rot_4 : Int → Int) (pn_4 : Int) (pn_0 : Int) (pn_1 : Int) (pn_2 : Int) (pn_3 : Int) (pt_0 : Int → Int) (pt_1 : Int → Int) (pt_2 : Int → Int) (pt_3 : Int → Int) (ph_0 : Int → Int) (ph_1 : Int → Int) (ph_2 : Int → Int) (ph_3 : Int → Int) (alive_0 : Int → Int) (alive_1 : Int → Int) (alive_2 : Int → Int) (alive_3 : Int → Int) (rotMany_0 : Int → Int) (rotMany_1 : Int → Int) (rotMany_2 : Int → Int) (rotMany_3 : Int → Int) (rot_0 : Int → Int) (rot_1 : Int → Int) (rot_2 : Int → Int) (rot_3 : Int → Int) (k1 : 0 ≤ x1 ∧ x1 ≤ 0) (k2 : 0 ≤ x2 ∧ x2 ≤ 24) (k3 : 0 ≤ x3 ∧ x3 ≤ 79) (k4 : (-2) ≤ x4 ∧ x4 ≤ 25) (k8 : 1 ≤ x8 ∧ x8 ≤ 1) (k9 : 1 ≤ x9 ∧ x9 ≤ 1) (k10 : 1 ≤ x10 ∧ x10 ≤ 80) (k11 : 1 ≤ x11 ∧ x11 ≤ 1) (k12 : 0 ≤ x12 ∧ x12 ≤ 79) (d0 : x10 + (-1) ≤ x12 ∧ x12 ≤ x10 + (-1)) (d1 : x3 + 0 ≤ x12 ∧ x12 ≤ x3 + 0) (d2 : x3 + 1 ≤ x10 ∧ x10 ≤ x3 + 1) (f0 : x12 = x10 - x11) (g1 : x10 = pm_0) (f2 : x1 = 0) (f4 : x10 = x3 + x9) (g5 : x3 = pm_1) (f6 : pm_1 ≤ 79) (f7 : x1 = 0) (f10 : pm_2 ≤ 79) (f11 : x1 = 0) (f14 : pm_3 ≤ 79) (f15 : x1 = 0) (f18 : pm_4 ≤ 79) (f19 : x1 = 0) (f20 : PN1 (pn_4) (pm_4) (pt_4) (ph_4) (alive_4) (rotMany_4) (rot_4) (x2)) (f21 : UNA (pn_4) (pm_4) (pt_4) (ph_4) (alive_4) (x4)) (fe_0_31_1 : pn_0 = pn_1) (fe_0_32_1 : pm_0 = x10) (fe_0_31_2 : pn_1 = pn_2) (fe_0_32_2 : pm_1 = pm_2) (fe_0_31_3 : pn_2 = pn_3) (fe_0_32_3 : pm_2 = pm_3) (fe_0_31_4 : pn_3 = pn_4) (fe_0_32_4 : pm_3 = pm_4) (hE_0_33_1 : ∀ j : Int, pt_0 j = pt_1 j) (hE_0_33_2 : ∀ j : Int, pt_1 j = pt_2 j) (hE_0_33_3 : ∀ j : Int, pt_2 j = pt_3 j) (hE_0_33_4 : ∀ j : Int, 0 ≤ j → (j = x3 → pt_3 j = x1) ∧ (j ≠ x3 → pt_3 j = pt_4 j)) (hK_0_33 : ∀ j : Int, 0 ≤ j → j < 80 → 0 ≤ pt_0 j ∧ pt_0 j ≤ 24) (hE_0_34_1 : ∀ j : Int, ph_0 j = ph_1 j) (hE_0_34_2 : ∀ j : Int, ph_1 j = ph_2 j) (hE_0_34_3 : ∀ j : Int, 0 ≤ j → (j = x3 → ph_2 j = x2) ∧ (j ≠ x3 → ph_2 j = ph_3 j)) (hE_0_34_4 : ∀ j : Int, ph_3 j = ph_4 j) (hK_0_34 : ∀ j : Int, 0 ≤ j → j < 80 → 0 ≤ ph_0 j ∧ ph_0 j ≤ 24) (hE_0_35_1 : ∀ j : Int, alive_0 j = alive_1 j) (hE_0_35_2 : ∀ j : Int, 0 ≤ j → (j = x3 → alive_1 j = x8) ∧ (j ≠ x3 → alive_1 j = alive_2 j)) (hE_0_35_3 : ∀ j : Int, alive_2 j = alive_3 j) (hE_0_35_4 : ∀ j : Int, alive_3 j = alive_4 j) (hK_0_35 : ∀ j : Int, 0 ≤ j → j < 80 → 0 ≤ alive_0 j ∧ alive_0 j ≤ 1) (hE_0_36_1 : ∀ j : Int, rotMany_0 j = rotMany_1 j) (hE_0_36_2 : ∀ j : Int, rotMany_1 j = rotMany_2 j) (hE_0_36_3 : ∀ j : Int, rotMany_2 j = rotMany_3 j) (hE_0_36_4 : ∀ j : Int, rotMany_3 j = rotMany_4 j) (hK_0_36 : ∀ j : Int, 0 ≤ j → j < 26 → 0 ≤ rotMany_0 j ∧ rotMany_0 j ≤ 80) (hE_0_37_1 : ∀ j : Int, rot_0 j = rot_1 j) (hE_0_37_2 : ∀ j : Int, rot_1 j = rot_2 j) (hE_0_37_3 : ∀ j : Int, rot_2 j = rot_3 j) (hE_0_37_4 : ∀ j : Int, rot_3 j = rot_4 j) (hK_0_37 : ∀ j : Int, 0 ≤ j → j < 2080 → 0 ≤ rot_0 j ∧ rot_0 j ≤ 79) (kz_0_31 : 0 ≤ pn_0 ∧ pn_0 ≤ 25) (kz_0_32 : 0 ≤ pm_0 ∧ pm_0 ≤ 80) : UNP (pn_0) (pm_0) (pt_0) (ph_0) (alive_0) (x4) := by
  subst fe_0_31_1
  subst fe_0_31_2
  subst fe_0_32_2
  subst fe_0_31_3
  subst fe_0_32_3
  subst fe_0_31_4
  subst fe_0_32_4
  have e_hE_0_33_1 := funext hE_0_33_1; subst e_hE_0_33_1
  have e_hE_0_33_2 := funext hE_0_33_2; subst e_hE_0_33_2
  have e_hE_0_33_3 := funext hE_0_33_3; subst e_hE_0_33_3
  have e_hE_0_34_1 := funext hE_0_34_1; subst e_hE_0_34_1
  have e_hE_0_34_2 := funext hE_0_34_2; subst e_hE_0_34_2
  have e_hE_0_34_4 := funext hE_0_34_4; subst e_hE_0_34_4
  have e_hE_0_35_1 := funext hE_0_35_1; subst e_hE_0_35_1
  have e_hE_0_35_3 := funext hE_0_35_3; subst e_hE_0_35_3
  have e_hE_0_35_4 := funext hE_0_35_4; subst e_hE_0_35_4
  have e_hE_0_36_1 := funext hE_0_36_1; subst e_hE_0_36_1
  have e_hE_0_36_2 := funext hE_0_36_2; subst e_hE_0_36_2
  have e_hE_0_36_3 := funext hE_0_36_3; subst e_hE_0_36_3
  have e_hE_0_36_4 := funext hE_0_36_4; subst e_hE_0_36_4
  have e_hE_0_37_1 := funext hE_0_37_1; subst e_hE_0_37_1
  have e_hE_0_37_2 := funext hE_0_37_2; subst e_hE_0_37_2
  have e_hE_0_37_3 := funext hE_0_37_3; subst e_hE_0_37_3
  have e_hE_0_37_4 := funext hE_0_37_4; subst e_hE_0_37_4
  exact una_new ‹UNA _ _ _ _ _ _› (by assumption) (by omega) (by assumption) (by omega) (by assumption) (by omega) (by omega)
def o_Mo_newLine_at_g1_1 : or_T := (46, 13, [(0, (2, 0, 0, [165])), (1, (0, 0, 0, [])), (2, (0, 0, 24, [])), (3, (0, 0, 79, [])), (4, (0, -2, 25, [])), (5, (2, 0, 0, [180])), (6, (2, 0, 0, [181])), (7, (2, 0, 0, [182])), (8, (0, 1, 1, [])), (9, (0, 1, 1, [])), (10, (0, 1, 80, [])), (11, (0, 1, 1, [])), (12, (0, 0, 79, []))], [(2, [12, 10, 11], []), (9, [10, 0], [32]), (20, [1], [50, 0, 0, 1, 2, 1, 0, 0, 0]), (101, [0, 10], [32]), (1, [10, 3, 9], []), (9, [3, 0], [32]), (20, [0], [50, 1, 0, 32, 0, 3, 2, 0, 32, 0, 79]), (20, [1], [50, 0, 0, 1, 2, 1, 0, 0, 0]), (100, [7, 3, 8], []), (9, [7, 0], [35]), (20, [0], [50, 1, 0, 32, 0, 3, 2, 0, 32, 0, 79]), (20, [1], [50, 0, 0, 1, 2, 1, 0, 0, 0]), (100, [6, 3, 2], []), (9, [6, 0], [34]), (20, [0], [50, 1, 0, 32, 0, 3, 2, 0, 32, 0, 79]), (20, [1], [50, 0, 0, 1, 2, 1, 0, 0, 0]), (100, [5, 3, 1], []), (9, [5, 0], [33]), (20, [0], [50, 1, 0, 32, 0, 3, 2, 0, 32, 0, 79]), (20, [1], [50, 0, 0, 1, 2, 1, 0, 0, 0]), (20, [0, 2], [60, 2, 5, 245, 31, 32, 33, 34, 35, 36, 37]), (20, [0, 4], [60, 2, 3, 266, 31, 32, 33, 34, 35])], [], [], [(20, [0, 2, 12], [60, 2, 5, 247, 31, 32, 33, 34, 35, 36, 37]), (20, [0, 2], [60, 2, 3, 268, 31, 32, 33, 34, 35]), (20, [0, 4], [60, 2, 3, 267, 31, 32, 33, 34, 35])], [], [(12, 10, -1, -1), (12, 3, 0, 0), (10, 3, 1, 1)])
theorem oo_Mo_newLine_at_g1_1 {kA : Nat → ClassId} : or_ok PRD kA GG o_Mo_newLine_at_g1_1 := by
  refine or_mk fun A ta ws vs hD hth hl => ?_
  intro t0 r0 t1 k1 t2 k2 t3 k3 t4 k4 t5 r5 t6 r6 t7 r7 t8 k8 t9 k9 t10 k10 t11 k11 t12 k12 d0 d1 d2 f0 f1 f2 ta1 w1 le1 s1 f4 f5 f6 f7 ta2 w2 le2 s2 f9 f10 f11 ta3 w3 le3 s3 f13 f14 f15 ta4 w4 le4 s4 f17 f18 f19 f20 f21
  replace f1 := shm_519 f1
  have s1 : (∀ b j, w_el ws b j = w_el w1 b j) ∧ ∀ b j, w_fd ws b j = if b = v_ad (n_v vs 0) ∧ j = 32 then n_v vs 10 else w_fd w1 b j := s1.2
  replace f5 := shm_519 f5
  have s2 : (∀ b j, w_el w1 b j = if b = v_ad (n_v vs 7) ∧ j = (v_iv (n_v vs 3)).toNat then v_iv (n_v vs 8) else w_el w2 b j) ∧ ∀ b k, w_fd w1 b k = w_fd w2 b k := s2.2
  replace f9 := shm_505 f9
  have s3 : (∀ b j, w_el w2 b j = if b = v_ad (n_v vs 6) ∧ j = (v_iv (n_v vs 3)).toNat then v_iv (n_v vs 2) else w_el w3 b j) ∧ ∀ b k, w_fd w2 b k = w_fd w3 b k := s3.2
  replace f13 := shm_490 f13
  have s4 : (∀ b j, w_el w3 b j = if b = v_ad (n_v vs 5) ∧ j = (v_iv (n_v vs 3)).toNat then v_iv (n_v vs 1) else w_el w4 b j) ∧ ∀ b k, w_fd w3 b k = w_fd w4 b k := s4.2
  replace f17 := shm_488 f17
  replace f20 := shm_637 f20
  replace f21 := shm_638 f21
  have ar_0_33_1 : w_ar w1 (n_v vs 0) 33 = w_ar ws (n_v vs 0) 33 := by show v_ad (w_fd w1 _ _) = v_ad (w_fd ws _ _); rw [s1.2, if_neg (fun e => absurd e.2 (by decide))]
  have ar_0_33_2 : w_ar w2 (n_v vs 0) 33 = w_ar ws (n_v vs 0) 33 := by rw [← ar_0_33_1]; show v_ad (w_fd w2 _ _) = v_ad (w_fd w1 _ _); rw [s2.2]
  have ar_0_33_3 : w_ar w3 (n_v vs 0) 33 = w_ar ws (n_v vs 0) 33 := by rw [← ar_0_33_2]; show v_ad (w_fd w3 _ _) = v_ad (w_fd w2 _ _); rw [s3.2]
  have ar_0_33_4 : w_ar w4 (n_v vs 0) 33 = w_ar ws (n_v vs 0) 33 := by rw [← ar_0_33_3]; show v_ad (w_fd w4 _ _) = v_ad (w_fd w3 _ _); rw [s4.2]
  have cr_0_33 := fdq_116 hD hth r0
  have ar_0_34_1 : w_ar w1 (n_v vs 0) 34 = w_ar ws (n_v vs 0) 34 := by show v_ad (w_fd w1 _ _) = v_ad (w_fd ws _ _); rw [s1.2, if_neg (fun e => absurd e.2 (by decide))]
  have ar_0_34_2 : w_ar w2 (n_v vs 0) 34 = w_ar ws (n_v vs 0) 34 := by rw [← ar_0_34_1]; show v_ad (w_fd w2 _ _) = v_ad (w_fd w1 _ _); rw [s2.2]
  have ar_0_34_3 : w_ar w3 (n_v vs 0) 34 = w_ar ws (n_v vs 0) 34 := by rw [← ar_0_34_2]; show v_ad (w_fd w3 _ _) = v_ad (w_fd w2 _ _); rw [s3.2]
  have ar_0_34_4 : w_ar w4 (n_v vs 0) 34 = w_ar ws (n_v vs 0) 34 := by rw [← ar_0_34_3]; show v_ad (w_fd w4 _ _) = v_ad (w_fd w3 _ _); rw [s4.2]
  have cr_0_34 := fdq_117 hD hth r0
  have ar_0_35_1 : w_ar w1 (n_v vs 0) 35 = w_ar ws (n_v vs 0) 35 := by show v_ad (w_fd w1 _ _) = v_ad (w_fd ws _ _); rw [s1.2, if_neg (fun e => absurd e.2 (by decide))]
  have ar_0_35_2 : w_ar w2 (n_v vs 0) 35 = w_ar ws (n_v vs 0) 35 := by rw [← ar_0_35_1]; show v_ad (w_fd w2 _ _) = v_ad (w_fd w1 _ _); rw [s2.2]
  have ar_0_35_3 : w_ar w3 (n_v vs 0) 35 = w_ar ws (n_v vs 0) 35 := by rw [← ar_0_35_2]; show v_ad (w_fd w3 _ _) = v_ad (w_fd w2 _ _); rw [s3.2]
  have ar_0_35_4 : w_ar w4 (n_v vs 0) 35 = w_ar ws (n_v vs 0) 35 := by rw [← ar_0_35_3]; show v_ad (w_fd w4 _ _) = v_ad (w_fd w3 _ _); rw [s4.2]
  have cr_0_35 := fdq_131 hD hth r0
  have ar_0_36_1 : w_ar w1 (n_v vs 0) 36 = w_ar ws (n_v vs 0) 36 := by show v_ad (w_fd w1 _ _) = v_ad (w_fd ws _ _); rw [s1.2, if_neg (fun e => absurd e.2 (by decide))]
  have ar_0_36_2 : w_ar w2 (n_v vs 0) 36 = w_ar ws (n_v vs 0) 36 := by rw [← ar_0_36_1]; show v_ad (w_fd w2 _ _) = v_ad (w_fd w1 _ _); rw [s2.2]
  have ar_0_36_3 : w_ar w3 (n_v vs 0) 36 = w_ar ws (n_v vs 0) 36 := by rw [← ar_0_36_2]; show v_ad (w_fd w3 _ _) = v_ad (w_fd w2 _ _); rw [s3.2]
  have ar_0_36_4 : w_ar w4 (n_v vs 0) 36 = w_ar ws (n_v vs 0) 36 := by rw [← ar_0_36_3]; show v_ad (w_fd w4 _ _) = v_ad (w_fd w3 _ _); rw [s4.2]
  have cr_0_36 := fdq_166 hD hth r0
  have ar_0_37_1 : w_ar w1 (n_v vs 0) 37 = w_ar ws (n_v vs 0) 37 := by show v_ad (w_fd w1 _ _) = v_ad (w_fd ws _ _); rw [s1.2, if_neg (fun e => absurd e.2 (by decide))]
  have ar_0_37_2 : w_ar w2 (n_v vs 0) 37 = w_ar ws (n_v vs 0) 37 := by rw [← ar_0_37_1]; show v_ad (w_fd w2 _ _) = v_ad (w_fd w1 _ _); rw [s2.2]
  have ar_0_37_3 : w_ar w3 (n_v vs 0) 37 = w_ar ws (n_v vs 0) 37 := by rw [← ar_0_37_2]; show v_ad (w_fd w3 _ _) = v_ad (w_fd w2 _ _); rw [s3.2]
  have ar_0_37_4 : w_ar w4 (n_v vs 0) 37 = w_ar ws (n_v vs 0) 37 := by rw [← ar_0_37_3]; show v_ad (w_fd w4 _ _) = v_ad (w_fd w3 _ _); rw [s4.2]
  have cr_0_37 := fdq_167 hD hth r0
  have ad_7 : v_ad (n_v vs 7) = w_ar ws (n_v vs 0) 35 := (congrArg v_ad f9).trans ar_0_35_2
  have ad_6 : v_ad (n_v vs 6) = w_ar ws (n_v vs 0) 34 := (congrArg v_ad f13).trans ar_0_34_3
  have ad_5 : v_ad (n_v vs 5) = w_ar ws (n_v vs 0) 33 := (congrArg v_ad f17).trans ar_0_33_4
  have g1 : v_iv (n_v vs 10) = w_fi ws (n_v vs 0) 32 := congrArg v_iv f1
  have g5 : v_iv (n_v vs 3) = w_fi w1 (n_v vs 0) 32 := congrArg v_iv f5
  simp only [ar_0_33_4, ar_0_34_4, ar_0_35_4, ar_0_36_4, ar_0_37_4] at f20 f21
  have fe_0_31_1 : w_fi ws (n_v vs 0) 31 = w_fi w1 (n_v vs 0) 31 := by show v_iv (w_fd _ _ _) = v_iv (w_fd _ _ _); rw [s1.2, if_neg (fun e => absurd e.2 (by decide))]
  have fe_0_32_1 : w_fi ws (n_v vs 0) 32 = v_iv (n_v vs 10) := by show v_iv (w_fd _ _ _) = _; rw [s1.2, if_pos ⟨rfl, rfl⟩]
  have fe_0_31_2 : w_fi w1 (n_v vs 0) 31 = w_fi w2 (n_v vs 0) 31 := congrArg v_iv (s2.2 _ _)
  have fe_0_32_2 : w_fi w1 (n_v vs 0) 32 = w_fi w2 (n_v vs 0) 32 := congrArg v_iv (s2.2 _ _)
  have fe_0_31_3 : w_fi w2 (n_v vs 0) 31 = w_fi w3 (n_v vs 0) 31 := congrArg v_iv (s3.2 _ _)
  have fe_0_32_3 : w_fi w2 (n_v vs 0) 32 = w_fi w3 (n_v vs 0) 32 := congrArg v_iv (s3.2 _ _)
  have fe_0_31_4 : w_fi w3 (n_v vs 0) 31 = w_fi w4 (n_v vs 0) 31 := congrArg v_iv (s4.2 _ _)
  have fe_0_32_4 : w_fi w3 (n_v vs 0) 32 = w_fi w4 (n_v vs 0) 32 := congrArg v_iv (s4.2 _ _)
  have hE_0_33_1 : ∀ j : Int, w_ei ws (w_ar ws (n_v vs 0) 33) j = w_ei w1 (w_ar ws (n_v vs 0) 33) j := fun j => s1.1 _ _
  have hE_0_33_2 : ∀ j : Int, w_ei w1 (w_ar ws (n_v vs 0) 33) j = w_ei w2 (w_ar ws (n_v vs 0) 33) j := el_kp s2.1 r7 cr_0_33 (by decide)
  have hE_0_33_3 : ∀ j : Int, w_ei w2 (w_ar ws (n_v vs 0) 33) j = w_ei w3 (w_ar ws (n_v vs 0) 33) j := el_kp s3.1 r6 cr_0_33 (by decide)
  have hE_0_33_4 : ∀ j : Int, 0 ≤ j → (j = v_iv (n_v vs 3) → w_ei w3 (w_ar ws (n_v vs 0) 33) j = v_iv (n_v vs 1)) ∧ (j ≠ v_iv (n_v vs 3) → w_ei w3 (w_ar ws (n_v vs 0) 33) j = w_ei w4 (w_ar ws (n_v vs 0) 33) j) := fun j hj => ⟨fun h => by unfold w_ei; rw [s4.1, if_pos ⟨ad_5.symm, by rw [h]⟩], fun h => by unfold w_ei; rw [s4.1, if_neg (fun e => h (by have := e.2; omega))]⟩
  have hK_0_33 := elq_57 hD hth cr_0_33
  have hE_0_34_1 : ∀ j : Int, w_ei ws (w_ar ws (n_v vs 0) 34) j = w_ei w1 (w_ar ws (n_v vs 0) 34) j := fun j => s1.1 _ _
  have hE_0_34_2 : ∀ j : Int, w_ei w1 (w_ar ws (n_v vs 0) 34) j = w_ei w2 (w_ar ws (n_v vs 0) 34) j := el_kp s2.1 r7 cr_0_34 (by decide)
  have hE_0_34_3 : ∀ j : Int, 0 ≤ j → (j = v_iv (n_v vs 3) → w_ei w2 (w_ar ws (n_v vs 0) 34) j = v_iv (n_v vs 2)) ∧ (j ≠ v_iv (n_v vs 3) → w_ei w2 (w_ar ws (n_v vs 0) 34) j = w_ei w3 (w_ar ws (n_v vs 0) 34) j) := fun j hj => ⟨fun h => by unfold w_ei; rw [s3.1, if_pos ⟨ad_6.symm, by rw [h]⟩], fun h => by unfold w_ei; rw [s3.1, if_neg (fun e => h (by have := e.2; omega))]⟩
  have hE_0_34_4 : ∀ j : Int, w_ei w3 (w_ar ws (n_v vs 0) 34) j = w_ei w4 (w_ar ws (n_v vs 0) 34) j := el_kp s4.1 r5 cr_0_34 (by decide)
  have hK_0_34 := elq_58 hD hth cr_0_34
  have hE_0_35_1 : ∀ j : Int, w_ei ws (w_ar ws (n_v vs 0) 35) j = w_ei w1 (w_ar ws (n_v vs 0) 35) j := fun j => s1.1 _ _
  have hE_0_35_2 : ∀ j : Int, 0 ≤ j → (j = v_iv (n_v vs 3) → w_ei w1 (w_ar ws (n_v vs 0) 35) j = v_iv (n_v vs 8)) ∧ (j ≠ v_iv (n_v vs 3) → w_ei w1 (w_ar ws (n_v vs 0) 35) j = w_ei w2 (w_ar ws (n_v vs 0) 35) j) := fun j hj => ⟨fun h => by unfold w_ei; rw [s2.1, if_pos ⟨ad_7.symm, by rw [h]⟩], fun h => by unfold w_ei; rw [s2.1, if_neg (fun e => h (by have := e.2; omega))]⟩
  have hE_0_35_3 : ∀ j : Int, w_ei w2 (w_ar ws (n_v vs 0) 35) j = w_ei w3 (w_ar ws (n_v vs 0) 35) j := el_kp s3.1 r6 cr_0_35 (by decide)
  have hE_0_35_4 : ∀ j : Int, w_ei w3 (w_ar ws (n_v vs 0) 35) j = w_ei w4 (w_ar ws (n_v vs 0) 35) j := el_kp s4.1 r5 cr_0_35 (by decide)
  have hK_0_35 := elq_69 hD hth cr_0_35
  have hE_0_36_1 : ∀ j : Int, w_ei ws (w_ar ws (n_v vs 0) 36) j = w_ei w1 (w_ar ws (n_v vs 0) 36) j := fun j => s1.1 _ _
  have hE_0_36_2 : ∀ j : Int, w_ei w1 (w_ar ws (n_v vs 0) 36) j = w_ei w2 (w_ar ws (n_v vs 0) 36) j := el_kp s2.1 r7 cr_0_36 (by decide)
  have hE_0_36_3 : ∀ j : Int, w_ei w2 (w_ar ws (n_v vs 0) 36) j = w_ei w3 (w_ar ws (n_v vs 0) 36) j := el_kp s3.1 r6 cr_0_36 (by decide)
  have hE_0_36_4 : ∀ j : Int, w_ei w3 (w_ar ws (n_v vs 0) 36) j = w_ei w4 (w_ar ws (n_v vs 0) 36) j := el_kp s4.1 r5 cr_0_36 (by decide)
  have hK_0_36 := elq_94 hD hth cr_0_36
  have hE_0_37_1 : ∀ j : Int, w_ei ws (w_ar ws (n_v vs 0) 37) j = w_ei w1 (w_ar ws (n_v vs 0) 37) j := fun j => s1.1 _ _
  have hE_0_37_2 : ∀ j : Int, w_ei w1 (w_ar ws (n_v vs 0) 37) j = w_ei w2 (w_ar ws (n_v vs 0) 37) j := el_kp s2.1 r7 cr_0_37 (by decide)
  have hE_0_37_3 : ∀ j : Int, w_ei w2 (w_ar ws (n_v vs 0) 37) j = w_ei w3 (w_ar ws (n_v vs 0) 37) j := el_kp s3.1 r6 cr_0_37 (by decide)
  have hE_0_37_4 : ∀ j : Int, w_ei w3 (w_ar ws (n_v vs 0) 37) j = w_ei w4 (w_ar ws (n_v vs 0) 37) j := el_kp s4.1 r5 cr_0_37 (by decide)
  have hK_0_37 := elq_95 hD hth cr_0_37
  have kz_0_31 := fdq_144 hD hth r0
  have kz_0_32 := fdq_139 hD hth r0
  have nf0 : fc_1 PRD (20, [0, 2, 12], [60, 2, 5, 247, 31, 32, 33, 34, 35, 36, 37]) ws (vs) := ⟨nf_in hl rfl, sgq_639 (vc_Mo_newLine_at_g1_1_0 (v_iv (n_v vs 1)) (v_iv (n_v vs 2)) (v_iv (n_v vs 3)) (v_iv (n_v vs 4)) (v_iv (n_v vs 8)) (v_iv (n_v vs 9)) (v_iv (n_v vs 10)) (v_iv (n_v vs 11)) (v_iv (n_v vs 12)) (w_fi ws (n_v vs 0) 32) (w_fi w1 (n_v vs 0) 32) (w_fi w2 (n_v vs 0) 32) (w_fi w3 (n_v vs 0) 32) (w_fi w4 (n_v vs 0) 32) (w_ei w4 (w_ar ws (n_v vs 0) 33)) (w_ei w4 (w_ar ws (n_v vs 0) 34)) (w_ei w4 (w_ar ws (n_v vs 0) 35)) (w_ei w4 (w_ar ws (n_v vs 0) 36)) (w_ei w4 (w_ar ws (n_v vs 0) 37)) (w_fi w4 (n_v vs 0) 31) (w_fi ws (n_v vs 0) 31) (w_fi w1 (n_v vs 0) 31) (w_fi w2 (n_v vs 0) 31) (w_fi w3 (n_v vs 0) 31) (w_ei ws (w_ar ws (n_v vs 0) 33)) (w_ei w1 (w_ar ws (n_v vs 0) 33)) (w_ei w2 (w_ar ws (n_v vs 0) 33)) (w_ei w3 (w_ar ws (n_v vs 0) 33)) (w_ei ws (w_ar ws (n_v vs 0) 34)) (w_ei w1 (w_ar ws (n_v vs 0) 34)) (w_ei w2 (w_ar ws (n_v vs 0) 34)) (w_ei w3 (w_ar ws (n_v vs 0) 34)) (w_ei ws (w_ar ws (n_v vs 0) 35)) (w_ei w1 (w_ar ws (n_v vs 0) 35)) (w_ei w2 (w_ar ws (n_v vs 0) 35)) (w_ei w3 (w_ar ws (n_v vs 0) 35)) (w_ei ws (w_ar ws (n_v vs 0) 36)) (w_ei w1 (w_ar ws (n_v vs 0) 36)) (w_ei w2 (w_ar ws (n_v vs 0) 36)) (w_ei w3 (w_ar ws (n_v vs 0) 36)) (w_ei ws (w_ar ws (n_v vs 0) 37)) (w_ei w1 (w_ar ws (n_v vs 0) 37)) (w_ei w2 (w_ar ws (n_v vs 0) 37)) (w_ei w3 (w_ar ws (n_v vs 0) 37)) k1 k2 k3 k4 k8 k9 k10 k11 k12 d0 d1 d2 (shm_14 f0) g1 (shm_636 f2) (shm_12 f4) g5 (shm_635 f6) (shm_636 f7) (shm_635 f10) (shm_636 f11) (shm_635 f14) (shm_636 f15) (shm_635 f18) (shm_636 f19) f20 f21 fe_0_31_1 fe_0_32_1 fe_0_31_2 fe_0_32_2 fe_0_31_3 fe_0_32_3 fe_0_31_4 fe_0_32_4 hE_0_33_1 hE_0_33_2 hE_0_33_3 hE_0_33_4 hK_0_33 hE_0_34_1 hE_0_34_2 hE_0_34_3 hE_0_34_4 hK_0_34 hE_0_35_1 hE_0_35_2 hE_0_35_3 hE_0_35_4 hK_0_35 hE_0_36_1 hE_0_36_2 hE_0_36_3 hE_0_36_4 hK_0_36 hE_0_37_1 hE_0_37_2 hE_0_37_3 hE_0_37_4 hK_0_37 kz_0_31 kz_0_32)⟩
  have nf1 : fc_1 PRD (20, [0, 2], [60, 2, 3, 268, 31, 32, 33, 34, 35]) ws (vs) := ⟨nf_in hl rfl, sgq_640 (vc_Mo_newLine_at_g1_1_1 (v_iv (n_v vs 1)) (v_iv (n_v vs 2)) (v_iv (n_v vs 3)) (v_iv (n_v vs 4)) (v_iv (n_v vs 8)) (v_iv (n_v vs 9)) (v_iv (n_v vs 10)) (v_iv (n_v vs 11)) (v_iv (n_v vs 12)) (w_fi ws (n_v vs 0) 32) (w_fi w1 (n_v vs 0) 32) (w_fi w2 (n_v vs 0) 32) (w_fi w3 (n_v vs 0) 32) (w_fi w4 (n_v vs 0) 32) (w_ei w4 (w_ar ws (n_v vs 0) 33)) (w_ei w4 (w_ar ws (n_v vs 0) 34)) (w_ei w4 (w_ar ws (n_v vs 0) 35)) (w_ei w4 (w_ar ws (n_v vs 0) 36)) (w_ei w4 (w_ar ws (n_v vs 0) 37)) (w_fi w4 (n_v vs 0) 31) (w_fi ws (n_v vs 0) 31) (w_fi w1 (n_v vs 0) 31) (w_fi w2 (n_v vs 0) 31) (w_fi w3 (n_v vs 0) 31) (w_ei ws (w_ar ws (n_v vs 0) 33)) (w_ei w1 (w_ar ws (n_v vs 0) 33)) (w_ei w2 (w_ar ws (n_v vs 0) 33)) (w_ei w3 (w_ar ws (n_v vs 0) 33)) (w_ei ws (w_ar ws (n_v vs 0) 34)) (w_ei w1 (w_ar ws (n_v vs 0) 34)) (w_ei w2 (w_ar ws (n_v vs 0) 34)) (w_ei w3 (w_ar ws (n_v vs 0) 34)) (w_ei ws (w_ar ws (n_v vs 0) 35)) (w_ei w1 (w_ar ws (n_v vs 0) 35)) (w_ei w2 (w_ar ws (n_v vs 0) 35)) (w_ei w3 (w_ar ws (n_v vs 0) 35)) (w_ei ws (w_ar ws (n_v vs 0) 36)) (w_ei w1 (w_ar ws (n_v vs 0) 36)) (w_ei w2 (w_ar ws (n_v vs 0) 36)) (w_ei w3 (w_ar ws (n_v vs 0) 36)) (w_ei ws (w_ar ws (n_v vs 0) 37)) (w_ei w1 (w_ar ws (n_v vs 0) 37)) (w_ei w2 (w_ar ws (n_v vs 0) 37)) (w_ei w3 (w_ar ws (n_v vs 0) 37)) k1 k2 k3 k4 k8 k9 k10 k11 k12 d0 d1 d2 (shm_14 f0) g1 (shm_636 f2) (shm_12 f4) g5 (shm_635 f6) (shm_636 f7) (shm_635 f10) (shm_636 f11) (shm_635 f14) (shm_636 f15) (shm_635 f18) (shm_636 f19) f20 f21 fe_0_31_1 fe_0_32_1 fe_0_31_2 fe_0_32_2 fe_0_31_3 fe_0_32_3 fe_0_31_4 fe_0_32_4 hE_0_33_1 hE_0_33_2 hE_0_33_3 hE_0_33_4 hK_0_33 hE_0_34_1 hE_0_34_2 hE_0_34_3 hE_0_34_4 hK_0_34 hE_0_35_1 hE_0_35_2 hE_0_35_3 hE_0_35_4 hK_0_35 hE_0_36_1 hE_0_36_2 hE_0_36_3 hE_0_36_4 hK_0_36 hE_0_37_1 hE_0_37_2 hE_0_37_3 hE_0_37_4 hK_0_37 kz_0_31 kz_0_32)⟩
  have nf2 : fc_1 PRD (20, [0, 4], [60, 2, 3, 267, 31, 32, 33, 34, 35]) ws (vs) := ⟨nf_in hl rfl, sgq_641 (vc_Mo_newLine_at_g1_1_2 (v_iv (n_v vs 1)) (v_iv (n_v vs 2)) (v_iv (n_v vs 3)) (v_iv (n_v vs 4)) (v_iv (n_v vs 8)) (v_iv (n_v vs 9)) (v_iv (n_v vs 10)) (v_iv (n_v vs 11)) (v_iv (n_v vs 12)) (w_fi ws (n_v vs 0) 32) (w_fi w1 (n_v vs 0) 32) (w_fi w2 (n_v vs 0) 32) (w_fi w3 (n_v vs 0) 32) (w_fi w4 (n_v vs 0) 32) (w_ei w4 (w_ar ws (n_v vs 0) 33)) (w_ei w4 (w_ar ws (n_v vs 0) 34)) (w_ei w4 (w_ar ws (n_v vs 0) 35)) (w_ei w4 (w_ar ws (n_v vs 0) 36)) (w_ei w4 (w_ar ws (n_v vs 0) 37)) (w_fi w4 (n_v vs 0) 31) (w_fi ws (n_v vs 0) 31) (w_fi w1 (n_v vs 0) 31) (w_fi w2 (n_v vs 0) 31) (w_fi w3 (n_v vs 0) 31) (w_ei ws (w_ar ws (n_v vs 0) 33)) (w_ei w1 (w_ar ws (n_v vs 0) 33)) (w_ei w2 (w_ar ws (n_v vs 0) 33)) (w_ei w3 (w_ar ws (n_v vs 0) 33)) (w_ei ws (w_ar ws (n_v vs 0) 34)) (w_ei w1 (w_ar ws (n_v vs 0) 34)) (w_ei w2 (w_ar ws (n_v vs 0) 34)) (w_ei w3 (w_ar ws (n_v vs 0) 34)) (w_ei ws (w_ar ws (n_v vs 0) 35)) (w_ei w1 (w_ar ws (n_v vs 0) 35)) (w_ei w2 (w_ar ws (n_v vs 0) 35)) (w_ei w3 (w_ar ws (n_v vs 0) 35)) (w_ei ws (w_ar ws (n_v vs 0) 36)) (w_ei w1 (w_ar ws (n_v vs 0) 36)) (w_ei w2 (w_ar ws (n_v vs 0) 36)) (w_ei w3 (w_ar ws (n_v vs 0) 36)) (w_ei ws (w_ar ws (n_v vs 0) 37)) (w_ei w1 (w_ar ws (n_v vs 0) 37)) (w_ei w2 (w_ar ws (n_v vs 0) 37)) (w_ei w3 (w_ar ws (n_v vs 0) 37)) k1 k2 k3 k4 k8 k9 k10 k11 k12 d0 d1 d2 (shm_14 f0) g1 (shm_636 f2) (shm_12 f4) g5 (shm_635 f6) (shm_636 f7) (shm_635 f10) (shm_636 f11) (shm_635 f14) (shm_636 f15) (shm_635 f18) (shm_636 f19) f20 f21 fe_0_31_1 fe_0_32_1 fe_0_31_2 fe_0_32_2 fe_0_31_3 fe_0_32_3 fe_0_31_4 fe_0_32_4 hE_0_33_1 hE_0_33_2 hE_0_33_3 hE_0_33_4 hK_0_33 hE_0_34_1 hE_0_34_2 hE_0_34_3 hE_0_34_4 hK_0_34 hE_0_35_1 hE_0_35_2 hE_0_35_3 hE_0_35_4 hK_0_35 hE_0_36_1 hE_0_36_2 hE_0_36_3 hE_0_36_4 hK_0_36 hE_0_37_1 hE_0_37_2 hE_0_37_3 hE_0_37_4 hK_0_37 kz_0_31 kz_0_32)⟩
  refine ⟨(fun _ h => (by cases h)), [], trivial, ?_, (fun _ h => (by cases h))⟩
  rw [List.append_nil]
  exact List.forall_mem_cons.mpr ⟨⟨show (20 : Nat) < 100 from by decide, nf0⟩, List.forall_mem_cons.mpr ⟨⟨show (20 : Nat) < 100 from by decide, nf1⟩, List.forall_mem_cons.mpr ⟨⟨show (20 : Nat) < 100 from by decide, nf2⟩, (fun _ h => (by cases h))⟩⟩⟩
def n_Mo_newLine_at_g1_an : List an_T := []
def t_Mo_newLine_at_g1_ct : ct_L := []
set_option maxRecDepth 100000 in
theorem c_Mo_newLine_at_g1 {l : Launch} {D : va_G} {kA : Nat → ClassId} : ct_ok PRD l D kA GG y_Mo_newLine_at_g1 z_Mo_newLine_at_g1 e_Mo_newLine_at_g1 := chk_all_ok (FT := [(57, 13, 33), (60, 13, 34), (63, 13, 35), (597, 13, 32)]) (PT := [(597, 13, 32, .int)]) (CT := t_Mo_newLine_at_g1_ct) (KT := []) (NT := []) (AN := n_Mo_newLine_at_g1_an) (OT := [o_Mo_newLine_at_g1_0, o_Mo_newLine_at_g1_1]) 0 200 (List.forall_mem_cons.mpr ⟨oo_Mo_newLine_at_g1_0, List.forall_mem_cons.mpr ⟨oo_Mo_newLine_at_g1_1, List.forall_mem_nil _⟩⟩) (by decide +kernel) ⟨List.forall_mem_cons.mpr ⟨gf_Mo_57, List.forall_mem_cons.mpr ⟨gf_Mo_60, List.forall_mem_cons.mpr ⟨gf_Mo_63, List.forall_mem_cons.mpr ⟨gf_Mo_597, List.forall_mem_nil _⟩⟩⟩⟩, List.forall_mem_cons.mpr ⟨pf_Mo_597, List.forall_mem_nil _⟩, List.forall_mem_nil _, List.forall_mem_nil _, List.forall_mem_nil _, GG_pl⟩ (by decide +kernel)
set_option maxHeartbeats 4000000 in
theorem vc_Mo_newLine_at_g3_0_r0 (x1 : Int) (x2 : Int) (x3 : Int) (x4 : Int) (x5 : Int) (x6 : Int) (pm_0 : Int) (pt_0 : Int → Int) (ph_0 : Int → Int) (alive_0 : Int → Int) (rotMany_0 : Int → Int) (rot_0 : Int → Int) (pn_0 : Int) (k1 : 0 ≤ x1 ∧ x1 ≤ 24) (k2 : 0 ≤ x2 ∧ x2 ≤ 24) (k3 : 0 ≤ x3 ∧ x3 ≤ 80) (k4 : 0 ≤ x4 ∧ x4 ≤ 159) (k5 : 0 ≤ x5 ∧ x5 ≤ 159) (k6 : 0 ≤ x6 ∧ x6 ≤ 80) (g0 : x3 = pm_0) (f2 : pm_0 ≤ 79) (f3 : PN3 (pn_0) (pm_0) (pt_0) (ph_0) (alive_0) (rotMany_0) (rot_0) (x1) (x2) (x4) (x5)) (f4 : CON (pn_0) (pm_0) (pt_0) (ph_0) (alive_0)) (f5 : pm_0 = x6) (hK_0_33 : ∀ j : Int, 0 ≤ j → j < 80 → 0 ≤ pt_0 j ∧ pt_0 j ≤ 24) (hK_0_34 : ∀ j : Int, 0 ≤ j → j < 80 → 0 ≤ ph_0 j ∧ ph_0 j ≤ 24) (hK_0_35 : ∀ j : Int, 0 ≤ j → j < 80 → 0 ≤ alive_0 j ∧ alive_0 j ≤ 1) (hK_0_36 : ∀ j : Int, 0 ≤ j → j < 26 → 0 ≤ rotMany_0 j ∧ rotMany_0 j ≤ 80) (hK_0_37 : ∀ j : Int, 0 ≤ j → j < 2080 → 0 ≤ rot_0 j ∧ rot_0 j ≤ 79) (kz_0_31 : 0 ≤ pn_0 ∧ pn_0 ≤ 25) (kz_0_32 : 0 ≤ pm_0 ∧ pm_0 ≤ 80) : 0 ≤ x3 ∧ x3 ≤ 79 := by
  first
    | omega
    | (have h := ‹PN1 _ _ _ _ _ _ _ _›.2.1
       have := h.2.2.1
       have := h.2.2.2.1
       omega)
    | (have h := ‹PN3 _ _ _ _ _ _ _ _ _ _ _›.2.1
       have := h.1
       have := h.2.1
       omega)
def o_Mo_newLine_at_g3_0 : or_T := (9, 8, [(0, (2, 0, 0, [165])), (1, (0, 0, 24, [])), (2, (0, 0, 24, [])), (3, (0, 0, 80, [])), (4, (0, 0, 159, [])), (5, (0, 0, 159, [])), (6, (0, 0, 80, [])), (7, (2, 0, 0, [180]))], [(9, [3, 0], [32]), (9, [7, 0], [33]), (20, [0], [50, 1, 0, 32, 0, 3, 2, 0, 32, 0, 79]), (20, [0, 1, 2, 4, 5], [60, 2, 5, 246, 31, 32, 33, 34, 35, 36, 37]), (20, [0], [60, 2, 3, 264, 31, 32, 33, 34, 35]), (20, [0, 6], [50, 1, 0, 32, 1, 3, 2, 0, 32, 1, 1])], [(3, (0, 0, 79, []))], [], [], [], [])
theorem oo_Mo_newLine_at_g3_0 {kA : Nat → ClassId} : or_ok PRD kA GG o_Mo_newLine_at_g3_0 := by
  refine or_mk fun A ta ws vs hD hth hl => ?_
  intro t0 r0 t1 k1 t2 k2 t3 k3 t4 k4 t5 k5 t6 k6 t7 r7 f0 f1 f2 f3 f4 f5
  replace f0 := shm_519 f0
  have cr_0_33 := fdq_116 hD hth r0
  have cr_0_34 := fdq_117 hD hth r0
  have cr_0_35 := fdq_131 hD hth r0
  have cr_0_36 := fdq_166 hD hth r0
  have cr_0_37 := fdq_167 hD hth r0
  have g0 : v_iv (n_v vs 3) = w_fi ws (n_v vs 0) 32 := congrArg v_iv f0
  have hK_0_33 := elq_57 hD hth cr_0_33
  have hK_0_34 := elq_58 hD hth cr_0_34
  have hK_0_35 := elq_69 hD hth cr_0_35
  have hK_0_36 := elq_94 hD hth cr_0_36
  have hK_0_37 := elq_95 hD hth cr_0_37
  have kz_0_31 := fdq_144 hD hth r0
  have kz_0_32 := fdq_139 hD hth r0
  have hrf0 : 0 ≤ v_iv (n_v vs 3) ∧ v_iv (n_v vs 3) ≤ 79 := vc_Mo_newLine_at_g3_0_r0 (v_iv (n_v vs 1)) (v_iv (n_v vs 2)) (v_iv (n_v vs 3)) (v_iv (n_v vs 4)) (v_iv (n_v vs 5)) (v_iv (n_v vs 6)) (w_fi ws (n_v vs 0) 32) (w_ei ws (w_ar ws (n_v vs 0) 33)) (w_ei ws (w_ar ws (n_v vs 0) 34)) (w_ei ws (w_ar ws (n_v vs 0) 35)) (w_ei ws (w_ar ws (n_v vs 0) 36)) (w_ei ws (w_ar ws (n_v vs 0) 37)) (w_fi ws (n_v vs 0) 31) k1 k2 k3 k4 k5 k6 g0 (shm_635 f2) (shm_642 f3) (shm_643 f4) (shm_644 f5) hK_0_33 hK_0_34 hK_0_35 hK_0_36 hK_0_37 kz_0_31 kz_0_32
  have rf3 : tv_ok ta (0, 0, 79, []) (n_v vs 3) := tv_in t3 (by first | omega | grind) (by first | omega | grind)
  refine ⟨List.forall_mem_cons.mpr ⟨rf3, (fun _ h => (by cases h))⟩, [], trivial, ?_, (fun _ h => (by cases h))⟩
  rw [List.append_nil]
  exact (fun _ h => (by cases h))
set_option maxHeartbeats 4000000 in
theorem vc_Mo_newLine_at_g3_1_0 (x1 : Int) (x2 : Int) (x3 : Int) (x4 : Int) (x5 : Int) (x6 : Int) (x10 : Int) (x11 : Int) (x12 : Int) (x13 : Int) (x14 : Int) (pm_0 : Int) (pm_1 : Int) (pm_2 : Int) (pm_3 : Int) (pm_4 : Int) (pt_4 : Int → Int) (ph_4 : Int → Int) (alive_4 : Int → Int) (rotMany_4 : Int → Int) (rot_4 : Int → Int) (pn_4 : Int) (pn_0 : Int) (pn_1 : Int) (pn_2 : Int) (pn_3 : Int) (pt_0 : Int → Int) (pt_1 : Int → Int) (pt_2 : Int → Int) (pt_3 : Int → Int) (ph_0 : Int → Int) (ph_1 : Int → Int) (ph_2 : Int → Int) (ph_3 : Int → Int) (alive_0 : Int → Int) (alive_1 : Int → Int) (alive_2 : Int → Int) (alive_3 : Int → Int) (rotMany_0 : Int → Int) (rotMany_1 : Int → Int) (rotMany_2 : Int → Int) (rotMany_3 : Int → Int) (rot_0 : Int → Int) (rot_1 : Int → Int) (rot_2 : Int → Int) (rot_3 : Int → Int) (k1 : 0 ≤ x1 ∧ x1 ≤ 24) (k2 : 0 ≤ x2 ∧ x2 ≤ 24) (k3 : 0 ≤ x3 ∧ x3 ≤ 79) (k4 : 0 ≤ x4 ∧ x4 ≤ 159) (k5 : 0 ≤ x5 ∧ x5 ≤ 159) (k6 : 0 ≤ x6 ∧ x6 ≤ 80) (k10 : 1 ≤ x10 ∧ x10 ≤ 1) (k11 : 1 ≤ x11 ∧ x11 ≤ 1) (k12 : 1 ≤ x12 ∧ x12 ≤ 80) (k13 : 1 ≤ x13 ∧ x13 ≤ 1) (k14 : 0 ≤ x14 ∧ x14 ≤ 79) (d0 : x12 + (-1) ≤ x14 ∧ x14 ≤ x12 + (-1)) (d1 : x3 + 0 ≤ x14 ∧ x14 ≤ x3 + 0) (d2 : x3 + 1 ≤ x12 ∧ x12 ≤ x3 + 1) (f0 : x14 = x12 - x13) (g1 : x12 = pm_0) (f3 : x12 = x3 + x11) (g4 : x3 = pm_1) (f5 : pm_1 ≤ 79) (f6 : pm_1 = x6) (f9 : pm_2 ≤ 79) (f10 : pm_2 = x6) (f13 : pm_3 ≤ 79) (f14 : pm_3 = x6) (f17 : pm_4 ≤ 79) (f18 : PN3 (pn_4) (pm_4) (pt_4) (ph_4) (alive_4) (rotMany_4) (rot_4) (x1) (x2) (x4) (x5)) (f19 : CON (pn_4) (pm_4) (pt_4) (ph_4) (alive_4)) (f20 : pm_4 = x6) (fe_0_31_1 : pn_0 = pn_1) (fe_0_32_1 : pm_0 = x12) (fe_0_31_2 : pn_1 = pn_2) (fe_0_32_2 : pm_1 = pm_2) (fe_0_31_3 : pn_2 = pn_3) (fe_0_32_3 : pm_2 = pm_3) (fe_0_31_4 : pn_3 = pn_4) (fe_0_32_4 : pm_3 = pm_4) (hE_0_33_1 : ∀ j : Int, pt_0 j = pt_1 j) (hE_0_33_2 : ∀ j : Int, pt_1 j = pt_2 j) (hE_0_33_3 : ∀ j : Int, pt_2 j = pt_3 j) (hE_0_33_4 : ∀ j : Int, 0 ≤ j → (j = x3 → pt_3 j = x1) ∧ (j ≠ x3 → pt_3 j = pt_4 j)) (hK_0_33 : ∀ j : Int, 0 ≤ j → j < 80 → 0 ≤ pt_0 j ∧ pt_0 j ≤ 24) (hE_0_34_1 : ∀ j : Int, ph_0 j = ph_1 j) (hE_0_34_2 : ∀ j : Int, ph_1 j = ph_2 j) (hE_0_34_3 : ∀ j : Int, 0 ≤ j → (j = x3 → ph_2 j = x2) ∧ (j ≠ x3 → ph_2 j = ph_3 j)) (hE_0_34_4 : ∀ j : Int, ph_3 j = ph_4 j) (hK_0_34 : ∀ j : Int, 0 ≤ j → j < 80 → 0 ≤ ph_0 j ∧ ph_0 j ≤ 24) (hE_0_35_1 : ∀ j : Int, alive_0 j = alive_1 j) (hE_0_35_2 : ∀ j : Int, 0 ≤ j → (j = x3 → alive_1 j = x10) ∧ (j ≠ x3 → alive_1 j = alive_2 j)) (hE_0_35_3 : ∀ j : Int, alive_2 j = alive_3 j) (hE_0_35_4 : ∀ j : Int, alive_3 j = alive_4 j) (hK_0_35 : ∀ j : Int, 0 ≤ j → j < 80 → 0 ≤ alive_0 j ∧ alive_0 j ≤ 1) (hE_0_36_1 : ∀ j : Int, rotMany_0 j = rotMany_1 j) (hE_0_36_2 : ∀ j : Int, rotMany_1 j = rotMany_2 j) (hE_0_36_3 : ∀ j : Int, rotMany_2 j = rotMany_3 j) (hE_0_36_4 : ∀ j : Int, rotMany_3 j = rotMany_4 j) (hK_0_36 : ∀ j : Int, 0 ≤ j → j < 26 → 0 ≤ rotMany_0 j ∧ rotMany_0 j ≤ 80) (hE_0_37_1 : ∀ j : Int, rot_0 j = rot_1 j) (hE_0_37_2 : ∀ j : Int, rot_1 j = rot_2 j) (hE_0_37_3 : ∀ j : Int, rot_2 j = rot_3 j) (hE_0_37_4 : ∀ j : Int, rot_3 j = rot_4 j) (hK_0_37 : ∀ j : Int, 0 ≤ j → j < 2080 → 0 ≤ rot_0 j ∧ rot_0 j ≤ 79) (kz_0_31 : 0 ≤ pn_0 ∧ pn_0 ≤ 25) (kz_0_32 : 0 ≤ pm_0 ∧ pm_0 ≤ 80) : PUc (pn_0) (pm_0) (pt_0) (ph_0) (alive_0) (rotMany_0) (rot_0) (x1) (x2) (x4) (x5) (x14) := by
  subst fe_0_31_1
  subst fe_0_31_2
  subst fe_0_32_2
  subst fe_0_31_3
  subst fe_0_32_3
  subst fe_0_31_4
  subst fe_0_32_4
  have e_hE_0_33_1 := funext hE_0_33_1; subst e_hE_0_33_1
  have e_hE_0_33_2 := funext hE_0_33_2; subst e_hE_0_33_2
  have e_hE_0_33_3 := funext hE_0_33_3; subst e_hE_0_33_3
  have e_hE_0_34_1 := funext hE_0_34_1; subst e_hE_0_34_1
  have e_hE_0_34_2 := funext hE_0_34_2; subst e_hE_0_34_2
  have e_hE_0_34_4 := funext hE_0_34_4; subst e_hE_0_34_4
  have e_hE_0_35_1 := funext hE_0_35_1; subst e_hE_0_35_1
  have e_hE_0_35_3 := funext hE_0_35_3; subst e_hE_0_35_3
  have e_hE_0_35_4 := funext hE_0_35_4; subst e_hE_0_35_4
  have e_hE_0_36_1 := funext hE_0_36_1; subst e_hE_0_36_1
  have e_hE_0_36_2 := funext hE_0_36_2; subst e_hE_0_36_2
  have e_hE_0_36_3 := funext hE_0_36_3; subst e_hE_0_36_3
  have e_hE_0_36_4 := funext hE_0_36_4; subst e_hE_0_36_4
  have e_hE_0_37_1 := funext hE_0_37_1; subst e_hE_0_37_1
  have e_hE_0_37_2 := funext hE_0_37_2; subst e_hE_0_37_2
  have e_hE_0_37_3 := funext hE_0_37_3; subst e_hE_0_37_3
  have e_hE_0_37_4 := funext hE_0_37_4; subst e_hE_0_37_4
  exact pux_new ‹PN3 _ _ _ _ _ _ _ _ _ _ _› (by omega) (by assumption) (by omega) (by omega) (by assumption) (by omega) (by omega) (by assumption) (by omega) (by omega) (by omega) (by omega) (Or.inr rfl)
set_option maxHeartbeats 4000000 in
theorem vc_Mo_newLine_at_g3_1_1 (x1 : Int) (x2 : Int) (x3 : Int) (x4 : Int) (x5 : Int) (x6 : Int) (x10 : Int) (x11 : Int) (x12 : Int) (x13 : Int) (x14 : Int) (pm_0 : Int) (pm_1 : Int) (pm_2 : Int) (pm_3 : Int) (pm_4 : Int) (pt_4 : Int → Int) (ph_4 : Int → Int) (alive_4 : Int → Int) (rotMany_4 : Int → Int) (rot_4 : Int → Int) (pn_4 : Int) (pn_0 : Int) (pn_1 : Int) (pn_2 : Int) (pn_3 : Int) (pt_0 : Int → Int) (pt_1 : Int → Int) (pt_2 : Int → Int) (pt_3 : Int → Int) (ph_0 : Int → Int) (ph_1 : Int → Int) (ph_2 : Int → Int) (ph_3 : Int → Int) (alive_0 : Int → Int) (alive_1 : Int → Int) (alive_2 : Int → Int) (alive_3 : Int → Int) (rotMany_0 : Int → Int) (rotMany_1 : Int → Int) (rotMany_2 : Int → Int) (rotMany_3 : Int → Int) (rot_0 : Int → Int) (rot_1 : Int → Int) (rot_2 : Int → Int) (rot_3 : Int → Int) (k1 : 0 ≤ x1 ∧ x1 ≤ 24) (k2 : 0 ≤ x2 ∧ x2 ≤ 24) (k3 : 0 ≤ x3 ∧ x3 ≤ 79) (k4 : 0 ≤ x4 ∧ x4 ≤ 159) (k5 : 0 ≤ x5 ∧ x5 ≤ 159) (k6 : 0 ≤ x6 ∧ x6 ≤ 80) (k10 : 1 ≤ x10 ∧ x10 ≤ 1) (k11 : 1 ≤ x11 ∧ x11 ≤ 1) (k12 : 1 ≤ x12 ∧ x12 ≤ 80) (k13 : 1 ≤ x13 ∧ x13 ≤ 1) (k14 : 0 ≤ x14 ∧ x14 ≤ 79) (d0 : x12 + (-1) ≤ x14 ∧ x14 ≤ x12 + (-1)) (d1 : x3 + 0 ≤ x14 ∧ x14 ≤ x3 + 0) (d2 : x3 + 1 ≤ x12 ∧ x12 ≤ x3 + 1) (f0 : x14 = x12 - x13) (g1 : x12 = pm_0) (f3 : x12 = x3 + x11) (g4 : x3 = pm_1) (f5 : pm_1 ≤ 79) (f6 : pm_1 = x6) (f9 : pm_2 ≤ 79) (f10 : pm_2 = x6) (f13 : pm_3 ≤ 79) (f14 : pm_3 = x6) (f17 : pm_4 ≤ 79) (f18 : PN3 (pn_4) (pm_4) (pt_4) (ph_4) (alive_4) (rotMany_4) (rot_4) (x1) (x2) (x4) (x5)) (f19 : CON (pn_4) (pm_4) (pt_4) (ph_4) (alive_4)) (f20 : pm_4 = x6) (fe_0_31_1 : pn_0 = pn_1) (fe_0_32_1 : pm_0 = x12) (fe_0_31_2 : pn_1 = pn_2) (fe_0_32_2 : pm_1 = pm_2) (fe_0_31_3 : pn_2 = pn_3) (fe_0_32_3 : pm_2 = pm_3) (fe_0_31_4 : pn_3 = pn_4) (fe_0_32_4 : pm_3 = pm_4) (hE_0_33_1 : ∀ j : Int, pt_0 j = pt_1 j) (hE_0_33_2 : ∀ j : Int, pt_1 j = pt_2 j) (hE_0_33_3 : ∀ j : Int, pt_2 j = pt_3 j) (hE_0_33_4 : ∀ j : Int, 0 ≤ j → (j = x3 → pt_3 j = x1) ∧ (j ≠ x3 → pt_3 j = pt_4 j)) (hK_0_33 : ∀ j : Int, 0 ≤ j → j < 80 → 0 ≤ pt_0 j ∧ pt_0 j ≤ 24) (hE_0_34_1 : ∀ j : Int, ph_0 j = ph_1 j) (hE_0_34_2 : ∀ j : Int, ph_1 j = ph_2 j) (hE_0_34_3 : ∀ j : Int, 0 ≤ j → (j = x3 → ph_2 j = x2) ∧ (j ≠ x3 → ph_2 j = ph_3 j)) (hE_0_34_4 : ∀ j : Int, ph_3 j = ph_4 j) (hK_0_34 : ∀ j : Int, 0 ≤ j → j < 80 → 0 ≤ ph_0 j ∧ ph_0 j ≤ 24) (hE_0_35_1 : ∀ j : Int, alive_0 j = alive_1 j) (hE_0_35_2 : ∀ j : Int, 0 ≤ j → (j = x3 → alive_1 j = x10) ∧ (j ≠ x3 → alive_1 j = alive_2 j)) (hE_0_35_3 : ∀ j : Int, alive_2 j = alive_3 j) (hE_0_35_4 : ∀ j : Int, alive_3 j = alive_4 j) (hK_0_35 : ∀ j : Int, 0 ≤ j → j < 80 → 0 ≤ alive_0 j ∧ alive_0 j ≤ 1) (hE_0_36_1 : ∀ j : Int, rotMany_0 j = rotMany_1 j) (hE_0_36_2 : ∀ j : Int, rotMany_1 j = rotMany_2 j) (hE_0_36_3 : ∀ j : Int, rotMany_2 j = rotMany_3 j) (hE_0_36_4 : ∀ j : Int, rotMany_3 j = rotMany_4 j) (hK_0_36 : ∀ j : Int, 0 ≤ j → j < 26 → 0 ≤ rotMany_0 j ∧ rotMany_0 j ≤ 80) (hE_0_37_1 : ∀ j : Int, rot_0 j = rot_1 j) (hE_0_37_2 : ∀ j : Int, rot_1 j = rot_2 j) (hE_0_37_3 : ∀ j : Int, rot_2 j = rot_3 j) (hE_0_37_4 : ∀ j : Int, rot_3 j = rot_4 j) (hK_0_37 : ∀ j : Int, 0 ≤ j → j < 2080 → 0 ≤ rot_0 j ∧ rot_0 j ≤ 79) (kz_0_31 : 0 ≤ pn_0 ∧ pn_0 ≤ 25) (kz_0_32 : 0 ≤ pm_0 ∧ pm_0 ≤ 80) : CON (pn_0) (pm_0) (pt_0) (ph_0) (alive_0) := by
  subst fe_0_31_1
  subst fe_0_31_2
  subst fe_0_32_2
  subst fe_0_31_3
  subst fe_0_32_3
  subst fe_0_31_4
  subst fe_0_32_4
  have e_hE_0_33_1 := funext hE_0_33_1; subst e_hE_0_33_1
  have e_hE_0_33_2 := funext hE_0_33_2; subst e_hE_0_33_2
  have e_hE_0_33_3 := funext hE_0_33_3; subst e_hE_0_33_3
  have e_hE_0_34_1 := funext hE_0_34_1; subst e_hE_0_34_1
  have e_hE_0_34_2 := funext hE_0_34_2; subst e_hE_0_34_2
  have e_hE_0_34_4 := funext hE_0_34_4; subst e_hE_0_34_4
  have e_hE_0_35_1 := funext hE_0_35_1; subst e_hE_0_35_1
  have e_hE_0_35_3 := funext hE_0_35_3; subst e_hE_0_35_3
  have e_hE_0_35_4 := funext hE_0_35_4; subst e_hE_0_35_4
  have e_hE_0_36_1 := funext hE_0_36_1; subst e_hE_0_36_1
  have e_hE_0_36_2 := funext hE_0_36_2; subst e_hE_0_36_2
  have e_hE_0_36_3 := funext hE_0_36_3; subst e_hE_0_36_3
  have e_hE_0_36_4 := funext hE_0_36_4; subst e_hE_0_36_4
  have e_hE_0_37_1 := funext hE_0_37_1; subst e_hE_0_37_1
  have e_hE_0_37_2 := funext hE_0_37_2; subst e_hE_0_37_2
  have e_hE_0_37_3 := funext hE_0_37_3; subst e_hE_0_37_3
  have e_hE_0_37_4 := funext hE_0_37_4; subst e_hE_0_37_4
  exact con_new ‹CON _ _ _ _ _› (by assumption) (by omega) (by assumption) (by omega) (by assumption) (by omega) (by omega)
set_option maxHeartbeats 4000000 in
theorem vc_Mo_newLine_at_g3_1_2 (x1 : Int) (x2 : Int) (x3 : Int) (x4 : Int) (x5 : Int) (x6 : Int) (x10 : Int) (x11 : Int) (x12 : Int) (x13 : Int) (x14 : Int) (pm_0 : Int) (pm_1 : Int) (pm_2 : Int) (pm_3 : Int) (pm_4 : Int) (pt_4 : Int → Int) (ph_4 : Int → Int) (alive_4 : Int → Int) (rotMany_4 : Int → Int) (rot_4 : Int → Int) (pn_4 : Int) (pn_0 : Int) (pn_1 : Int) (pn_2 : Int) (pn_3 : Int) (pt_0 : Int → Int) (pt_1 : Int → Int) (pt_2 : Int → Int) (pt_3 : Int → Int) (ph_0 : Int → Int) (ph_1 : Int → Int) (ph_2 : Int → Int) (ph_3 : Int → Int) (alive_0 : Int → Int) (alive_1 : Int → Int) (alive_2 : Int → Int) (alive_3 : Int → Int) (rotMany_0 : Int → Int) (rotMany_1 : Int → Int) (rotMany_2 : Int → Int) (rotMany_3 : Int → Int) (rot_0 : Int → Int) (rot_1 : Int → Int) (rot_2 : Int → Int) (rot_3 : Int → Int) (k1 : 0 ≤ x1 ∧ x1 ≤ 24) (k2 : 0 ≤ x2 ∧ x2 ≤ 24) (k3 : 0 ≤ x3 ∧ x3 ≤ 79) (k4 : 0 ≤ x4 ∧ x4 ≤ 159) (k5 : 0 ≤ x5 ∧ x5 ≤ 159) (k6 : 0 ≤ x6 ∧ x6 ≤ 80) (k10 : 1 ≤ x10 ∧ x10 ≤ 1) (k11 : 1 ≤ x11 ∧ x11 ≤ 1) (k12 : 1 ≤ x12 ∧ x12 ≤ 80) (k13 : 1 ≤ x13 ∧ x13 ≤ 1) (k14 : 0 ≤ x14 ∧ x14 ≤ 79) (d0 : x12 + (-1) ≤ x14 ∧ x14 ≤ x12 + (-1)) (d1 : x3 + 0 ≤ x14 ∧ x14 ≤ x3 + 0) (d2 : x3 + 1 ≤ x12 ∧ x12 ≤ x3 + 1) (f0 : x14 = x12 - x13) (g1 : x12 = pm_0) (f3 : x12 = x3 + x11) (g4 : x3 = pm_1) (f5 : pm_1 ≤ 79) (f6 : pm_1 = x6) (f9 : pm_2 ≤ 79) (f10 : pm_2 = x6) (f13 : pm_3 ≤ 79) (f14 : pm_3 = x6) (f17 : pm_4 ≤ 79) (f18 : PN3 (pn_4) (pm_4) (pt_4) (ph_4) (alive_4) (rotMany_4) (rot_4) (x1) (x2) (x4) (x5)) (f19 : CON (pn_4) (pm_4) (pt_4) (ph_4) (alive_4)) (f20 : pm_4 = x6) (fe_0_31_1 : pn_0 = pn_1) (fe_0_32_1 : pm_0 = x12) (fe_0_31_2 : pn_1 = pn_2) (fe_0_32_2 : pm_1 = pm_2) (fe_0_31_3 : pn_2 = pn_3) (fe_0_32_3 : pm_2 = pm_3) (fe_0_31_4 : pn_3 = pn_4) (fe_0_32_4 : pm_3 = pm_4) (hE_0_33_1 : ∀ j : Int, pt_0 j = pt_1 j) (hE_0_33_2 : ∀ j : Int, pt_1 j = pt_2 j) (hE_0_33_3 : ∀ j : Int, pt_2 j = pt_3 j) (hE_0_33_4 : ∀ j : Int, 0 ≤ j → (j = x3 → pt_3 j = x1) ∧ (j ≠ x3 → pt_3 j = pt_4 j)) (hK_0_33 : ∀ j : Int, 0 ≤ j → j < 80 → 0 ≤ pt_0 j ∧ pt_0 j ≤ 24) (hE_0_34_1 : ∀ j : Int, ph_0 j = ph_1 j) (hE_0_34_2 : ∀ j : Int, ph_1 j = ph_2 j) (hE_0_34_3 : ∀ j : Int, 0 ≤ j → (j = x3 → ph_2 j = x2) ∧ (j ≠ x3 → ph_2 j = ph_3 j)) (hE_0_34_4 : ∀ j : Int, ph_3 j = ph_4 j) (hK_0_34 : ∀ j : Int, 0 ≤ j → j < 80 → 0 ≤ ph_0 j ∧ ph_0 j ≤ 24) (hE_0_35_1 : ∀ j : Int, alive_0 j = alive_1 j) (hE_0_35_2 : ∀ j : Int, 0 ≤ j → (j = x3 → alive_1 j = x10) ∧ (j ≠ x3 → alive_1 j = alive_2 j)) (hE_0_35_3 : ∀ j : Int, alive_2 j = alive_3 j) (hE_0_35_4 : ∀ j : Int, alive_3 j = alive_4 j) (hK_0_35 : ∀ j : Int, 0 ≤ j → j < 80 → 0 ≤ alive_0 j ∧ alive_0 j ≤ 1) (hE_0_36_1 : ∀ j : Int, rotMany_0 j = rotMany_1 j) (hE_0_36_2 : ∀ j : Int, rotMany_1 j = rotMany_2 j) (hE_0_36_3 : ∀ j : Int, rotMany_2 j = rotMany_3 j) (hE_0_36_4 : ∀ j : Int, rotMany_3 j = rotMany_4 j) (hK_0_36 : ∀ j : Int, 0 ≤ j → j < 26 → 0 ≤ rotMany_0 j ∧ rotMany_0 j ≤ 80) (hE_0_37_1 : ∀ j : Int, rot_0 j = rot_1 j) (hE_0_37_2 : ∀ j : Int, rot_1 j = rot_2 j) (hE_0_37_3 : ∀ j : Int, rot_2 j = rot_3 j) (hE_0_37_4 : ∀ j : Int, rot_3 j = rot_4 j) (hK_0_37 : ∀ j : Int, 0 ≤ j → j < 2080 → 0 ≤ rot_0 j ∧ rot_0 j ≤ 79) (kz_0_31 : 0 ≤ pn_0 ∧ pn_0 ≤ 25) (kz_0_32 : 0 ≤ pm_0 ∧ pm_0 ≤ 80) : pm_0 = (x6 + 1) := by
  subst fe_0_31_1
  subst fe_0_31_2
  subst fe_0_32_2
  subst fe_0_31_3
  subst fe_0_32_3
  subst fe_0_31_4
  subst fe_0_32_4
  have e_hE_0_33_1 := funext hE_0_33_1; subst e_hE_0_33_1
  have e_hE_0_33_2 := funext hE_0_33_2; subst e_hE_0_33_2
  have e_hE_0_33_3 := funext hE_0_33_3; subst e_hE_0_33_3
  have e_hE_0_34_1 := funext hE_0_34_1; subst e_hE_0_34_1
  have e_hE_0_34_2 := funext hE_0_34_2; subst e_hE_0_34_2
  have e_hE_0_34_4 := funext hE_0_34_4; subst e_hE_0_34_4
  have e_hE_0_35_1 := funext hE_0_35_1; subst e_hE_0_35_1
  have e_hE_0_35_3 := funext hE_0_35_3; subst e_hE_0_35_3
  have e_hE_0_35_4 := funext hE_0_35_4; subst e_hE_0_35_4
  have e_hE_0_36_1 := funext hE_0_36_1; subst e_hE_0_36_1
  have e_hE_0_36_2 := funext hE_0_36_2; subst e_hE_0_36_2
  have e_hE_0_36_3 := funext hE_0_36_3; subst e_hE_0_36_3
  have e_hE_0_36_4 := funext hE_0_36_4; subst e_hE_0_36_4
  have e_hE_0_37_1 := funext hE_0_37_1; subst e_hE_0_37_1
  have e_hE_0_37_2 := funext hE_0_37_2; subst e_hE_0_37_2
  have e_hE_0_37_3 := funext hE_0_37_3; subst e_hE_0_37_3
  have e_hE_0_37_4 := funext hE_0_37_4; subst e_hE_0_37_4
  omega
def o_Mo_newLine_at_g3_1 : or_T := (46, 15, [(0, (2, 0, 0, [165])), (1, (0, 0, 24, [])), (2, (0, 0, 24, [])), (3, (0, 0, 79, [])), (4, (0, 0, 159, [])), (5, (0, 0, 159, [])), (6, (0, 0, 80, [])), (7, (2, 0, 0, [180])), (8, (2, 0, 0, [181])), (9, (2, 0, 0, [182])), (10, (0, 1, 1, [])), (11, (0, 1, 1, [])), (12, (0, 1, 80, [])), (13, (0, 1, 1, [])), (14, (0, 0, 79, []))], [(2, [14, 12, 13], []), (9, [12, 0], [32]), (101, [0, 12], [32]), (1, [12, 3, 11], []), (9, [3, 0], [32]), (20, [0], [50, 1, 0, 32, 0, 3, 2, 0, 32, 0, 79]), (20, [0, 6], [50, 1, 0, 32, 1, 3, 2, 0, 32, 1, 1]), (100, [9, 3, 10], []), (9, [9, 0], [35]), (20, [0], [50, 1, 0, 32, 0, 3, 2, 0, 32, 0, 79]), (20, [0, 6], [50, 1, 0, 32, 1, 3, 2, 0, 32, 1, 1]), (100, [8, 3, 2], []), (9, [8, 0], [34]), (20, [0], [50, 1, 0, 32, 0, 3, 2, 0, 32, 0, 79]), (20, [0, 6], [50, 1, 0, 32, 1, 3, 2, 0, 32, 1, 1]), (100, [7, 3, 1], []), (9, [7, 0], [33]), (20, [0], [50, 1, 0, 32, 0, 3, 2, 0, 32, 0, 79]), (20, [0, 1, 2, 4, 5], [60, 2, 5, 246, 31, 32, 33, 34, 35, 36, 37]), (20, [0], [60, 2, 3, 264, 31, 32, 33, 34, 35]), (20, [0, 6], [50, 1, 0, 32, 1, 3, 2, 0, 32, 1, 1])], [], [], [(20, [0, 1, 2, 4, 5, 14], [60, 2, 5, 249, 31, 32, 33, 34, 35, 36, 37]), (20, [0], [60, 2, 3, 264, 31, 32, 33, 34, 35]), (20, [0, 6], [50, 1, 0, 32, 1, 3, 2, 0, 32, 4, 2, 1, 1, 0, 1])], [], [(14, 12, -1, -1), (14, 3, 0, 0), (12, 3, 1, 1)])
theorem oo_Mo_newLine_at_g3_1 {kA : Nat → ClassId} : or_ok PRD kA GG o_Mo_newLine_at_g3_1 := by
  refine or_mk fun A ta ws vs hD hth hl => ?_
  intro t0 r0 t1 k1 t2 k2 t3 k3 t4 k4 t5 k5 t6 k6 t7 r7 t8 r8 t9 r9 t10 k10 t11 k11 t12 k12 t13 k13 t14 k14 d0 d1 d2 f0 f1 ta1 w1 le1 s1 f3 f4 f5 f6 ta2 w2 le2 s2 f8 f9 f10 ta3 w3 le3 s3 f12 f13 f14 ta4 w4 le4 s4 f16 f17 f18 f19 f20
  replace f1 := shm_519 f1
  have s1 : (∀ b j, w_el ws b j = w_el w1 b j) ∧ ∀ b j, w_fd ws b j = if b = v_ad (n_v vs 0) ∧ j = 32 then n_v vs 12 else w_fd w1 b j := s1.2
  replace f4 := shm_519 f4
  have s2 : (∀ b j, w_el w1 b j = if b = v_ad (n_v vs 9) ∧ j = (v_iv (n_v vs 3)).toNat then v_iv (n_v vs 10) else w_el w2 b j) ∧ ∀ b k, w_fd w1 b k = w_fd w2 b k := s2.2
  replace f8 := shm_505 f8
  have s3 : (∀ b j, w_el w2 b j = if b = v_ad (n_v vs 8) ∧ j = (v_iv (n_v vs 3)).toNat then v_iv (n_v vs 2) else w_el w3 b j) ∧ ∀ b k, w_fd w2 b k = w_fd w3 b k := s3.2
  replace f12 := shm_490 f12
  have s4 : (∀ b j, w_el w3 b j = if b = v_ad (n_v vs 7) ∧ j = (v_iv (n_v vs 3)).toNat then v_iv (n_v vs 1) else w_el w4 b j) ∧ ∀ b k, w_fd w3 b k = w_fd w4 b k := s4.2
  replace f16 := shm_488 f16
  replace f18 := shm_642 f18
  replace f19 := shm_643 f19
  have ar_0_33_1 : w_ar w1 (n_v vs 0) 33 = w_ar ws (n_v vs 0) 33 := by show v_ad (w_fd w1 _ _) = v_ad (w_fd ws _ _); rw [s1.2, if_neg (fun e => absurd e.2 (by decide))]
  have ar_0_33_2 : w_ar w2 (n_v vs 0) 33 = w_ar ws (n_v vs 0) 33 := by rw [← ar_0_33_1]; show v_ad (w_fd w2 _ _) = v_ad (w_fd w1 _ _); rw [s2.2]
  have ar_0_33_3 : w_ar w3 (n_v vs 0) 33 = w_ar ws (n_v vs 0) 33 := by rw [← ar_0_33_2]; show v_ad (w_fd w3 _ _) = v_ad (w_fd w2 _ _); rw [s3.2]
  have ar_0_33_4 : w_ar w4 (n_v vs 0) 33 = w_ar ws (n_v vs 0) 33 := by rw [← ar_0_33_3]; show v_ad (w_fd w4 _ _) = v_ad (w_fd w3 _ _); rw [s4.2]
  have cr_0_33 := fdq_116 hD hth r0
  have ar_0_34_1 : w_ar w1 (n_v vs 0) 34 = w_ar ws (n_v vs 0) 34 := by show v_ad (w_fd w1 _ _) = v_ad (w_fd ws _ _); rw [s1.2, if_neg (fun e => absurd e.2 (by decide))]
  have ar_0_34_2 : w_ar w2 (n_v vs 0) 34 = w_ar ws (n_v vs 0) 34 := by rw [← ar_0_34_1]; show v_ad (w_fd w2 _ _) = v_ad (w_fd w1 _ _); rw [s2.2]
  have ar_0_34_3 : w_ar w3 (n_v vs 0) 34 = w_ar ws (n_v vs 0) 34 := by rw [← ar_0_34_2]; show v_ad (w_fd w3 _ _) = v_ad (w_fd w2 _ _); rw [s3.2]
  have ar_0_34_4 : w_ar w4 (n_v vs 0) 34 = w_ar ws (n_v vs 0) 34 := by rw [← ar_0_34_3]; show v_ad (w_fd w4 _ _) = v_ad (w_fd w3 _ _); rw [s4.2]
  have cr_0_34 := fdq_117 hD hth r0
  have ar_0_35_1 : w_ar w1 (n_v vs 0) 35 = w_ar ws (n_v vs 0) 35 := by show v_ad (w_fd w1 _ _) = v_ad (w_fd ws _ _); rw [s1.2, if_neg (fun e => absurd e.2 (by decide))]
  have ar_0_35_2 : w_ar w2 (n_v vs 0) 35 = w_ar ws (n_v vs 0) 35 := by rw [← ar_0_35_1]; show v_ad (w_fd w2 _ _) = v_ad (w_fd w1 _ _); rw [s2.2]
  have ar_0_35_3 : w_ar w3 (n_v vs 0) 35 = w_ar ws (n_v vs 0) 35 := by rw [← ar_0_35_2]; show v_ad (w_fd w3 _ _) = v_ad (w_fd w2 _ _); rw [s3.2]
  have ar_0_35_4 : w_ar w4 (n_v vs 0) 35 = w_ar ws (n_v vs 0) 35 := by rw [← ar_0_35_3]; show v_ad (w_fd w4 _ _) = v_ad (w_fd w3 _ _); rw [s4.2]
  have cr_0_35 := fdq_131 hD hth r0
  have ar_0_36_1 : w_ar w1 (n_v vs 0) 36 = w_ar ws (n_v vs 0) 36 := by show v_ad (w_fd w1 _ _) = v_ad (w_fd ws _ _); rw [s1.2, if_neg (fun e => absurd e.2 (by decide))]
  have ar_0_36_2 : w_ar w2 (n_v vs 0) 36 = w_ar ws (n_v vs 0) 36 := by rw [← ar_0_36_1]; show v_ad (w_fd w2 _ _) = v_ad (w_fd w1 _ _); rw [s2.2]
  have ar_0_36_3 : w_ar w3 (n_v vs 0) 36 = w_ar ws (n_v vs 0) 36 := by rw [← ar_0_36_2]; show v_ad (w_fd w3 _ _) = v_ad (w_fd w2 _ _); rw [s3.2]
  have ar_0_36_4 : w_ar w4 (n_v vs 0) 36 = w_ar ws (n_v vs 0) 36 := by rw [← ar_0_36_3]; show v_ad (w_fd w4 _ _) = v_ad (w_fd w3 _ _); rw [s4.2]
  have cr_0_36 := fdq_166 hD hth r0
  have ar_0_37_1 : w_ar w1 (n_v vs 0) 37 = w_ar ws (n_v vs 0) 37 := by show v_ad (w_fd w1 _ _) = v_ad (w_fd ws _ _); rw [s1.2, if_neg (fun e => absurd e.2 (by decide))]
  have ar_0_37_2 : w_ar w2 (n_v vs 0) 37 = w_ar ws (n_v vs 0) 37 := by rw [← ar_0_37_1]; show v_ad (w_fd w2 _ _) = v_ad (w_fd w1 _ _); rw [s2.2]
  have ar_0_37_3 : w_ar w3 (n_v vs 0) 37 = w_ar ws (n_v vs 0) 37 := by rw [← ar_0_37_2]; show v_ad (w_fd w3 _ _) = v_ad (w_fd w2 _ _); rw [s3.2]
  have ar_0_37_4 : w_ar w4 (n_v vs 0) 37 = w_ar ws (n_v vs 0) 37 := by rw [← ar_0_37_3]; show v_ad (w_fd w4 _ _) = v_ad (w_fd w3 _ _); rw [s4.2]
  have cr_0_37 := fdq_167 hD hth r0
  have ad_9 : v_ad (n_v vs 9) = w_ar ws (n_v vs 0) 35 := (congrArg v_ad f8).trans ar_0_35_2
  have ad_8 : v_ad (n_v vs 8) = w_ar ws (n_v vs 0) 34 := (congrArg v_ad f12).trans ar_0_34_3
  have ad_7 : v_ad (n_v vs 7) = w_ar ws (n_v vs 0) 33 := (congrArg v_ad f16).trans ar_0_33_4
  have g1 : v_iv (n_v vs 12) = w_fi ws (n_v vs 0) 32 := congrArg v_iv f1
  have g4 : v_iv (n_v vs 3) = w_fi w1 (n_v vs 0) 32 := congrArg v_iv f4
  simp only [ar_0_33_4, ar_0_34_4, ar_0_35_4, ar_0_36_4, ar_0_37_4] at f18 f19
  have fe_0_31_1 : w_fi ws (n_v vs 0) 31 = w_fi w1 (n_v vs 0) 31 := by show v_iv (w_fd _ _ _) = v_iv (w_fd _ _ _); rw [s1.2, if_neg (fun e => absurd e.2 (by decide))]
  have fe_0_32_1 : w_fi ws (n_v vs 0) 32 = v_iv (n_v vs 12) := by show v_iv (w_fd _ _ _) = _; rw [s1.2, if_pos ⟨rfl, rfl⟩]
  have fe_0_31_2 : w_fi w1 (n_v vs 0) 31 = w_fi w2 (n_v vs 0) 31 := congrArg v_iv (s2.2 _ _)
  have fe_0_32_2 : w_fi w1 (n_v vs 0) 32 = w_fi w2 (n_v vs 0) 32 := congrArg v_iv (s2.2 _ _)
  have fe_0_31_3 : w_fi w2 (n_v vs 0) 31 = w_fi w3 (n_v vs 0) 31 := congrArg v_iv (s3.2 _ _)
  have fe_0_32_3 : w_fi w2 (n_v vs 0) 32 = w_fi w3 (n_v vs 0) 32 := congrArg v_iv (s3.2 _ _)
  have fe_0_31_4 : w_fi w3 (n_v vs 0) 31 = w_fi w4 (n_v vs 0) 31 := congrArg v_iv (s4.2 _ _)
  have fe_0_32_4 : w_fi w3 (n_v vs 0) 32 = w_fi w4 (n_v vs 0) 32 := congrArg v_iv (s4.2 _ _)
  have hE_0_33_1 : ∀ j : Int, w_ei ws (w_ar ws (n_v vs 0) 33) j = w_ei w1 (w_ar ws (n_v vs 0) 33) j := fun j => s1.1 _ _
  have hE_0_33_2 : ∀ j : Int, w_ei w1 (w_ar ws (n_v vs 0) 33) j = w_ei w2 (w_ar ws (n_v vs 0) 33) j := el_kp s2.1 r9 cr_0_33 (by decide)
  have hE_0_33_3 : ∀ j : Int, w_ei w2 (w_ar ws (n_v vs 0) 33) j = w_ei w3 (w_ar ws (n_v vs 0) 33) j := el_kp s3.1 r8 cr_0_33 (by decide)
  have hE_0_33_4 : ∀ j : Int, 0 ≤ j → (j = v_iv (n_v vs 3) → w_ei w3 (w_ar ws (n_v vs 0) 33) j = v_iv (n_v vs 1)) ∧ (j ≠ v_iv (n_v vs 3) → w_ei w3 (w_ar ws (n_v vs 0) 33) j = w_ei w4 (w_ar ws (n_v vs 0) 33) j) := fun j hj => ⟨fun h => by unfold w_ei; rw [s4.1, if_pos ⟨ad_7.symm, by rw [h]⟩], fun h => by unfold w_ei; rw [s4.1, if_neg (fun e => h (by have := e.2; omega))]⟩
  have hK_0_33 := elq_57 hD hth cr_0_33
  have hE_0_34_1 : ∀ j : Int, w_ei ws (w_ar ws (n_v vs 0) 34) j = w_ei w1 (w_ar ws (n_v vs 0) 34) j := fun j => s1.1 _ _
  have hE_0_34_2 : ∀ j : Int, w_ei w1 (w_ar ws (n_v vs 0) 34) j = w_ei w2 (w_ar ws (n_v vs 0) 34) j := el_kp s2.1 r9 cr_0_34 (by decide)
  have hE_0_34_3 : ∀ j : Int, 0 ≤ j → (j = v_iv (n_v vs 3) → w_ei w2 (w_ar ws (n_v vs 0) 34) j = v_iv (n_v vs 2)) ∧ (j ≠ v_iv (n_v vs 3) → w_ei w2 (w_ar ws (n_v vs 0) 34) j = w_ei w3 (w_ar ws (n_v vs 0) 34) j) := fun j hj => ⟨fun h => by unfold w_ei; rw [s3.1, if_pos ⟨ad_8.symm, by rw [h]⟩], fun h => by unfold w_ei; rw [s3.1, if_neg (fun e => h (by have := e.2; omega))]⟩
  have hE_0_34_4 : ∀ j : Int, w_ei w3 (w_ar ws (n_v vs 0) 34) j = w_ei w4 (w_ar ws (n_v vs 0) 34) j := el_kp s4.1 r7 cr_0_34 (by decide)
  have hK_0_34 := elq_58 hD hth cr_0_34
  have hE_0_35_1 : ∀ j : Int, w_ei ws (w_ar ws (n_v vs 0) 35) j = w_ei w1 (w_ar ws (n_v vs 0) 35) j := fun j => s1.1 _ _
  have hE_0_35_2 : ∀ j : Int, 0 ≤ j → (j = v_iv (n_v vs 3) → w_ei w1 (w_ar ws (n_v vs 0) 35) j = v_iv (n_v vs 10)) ∧ (j ≠ v_iv (n_v vs 3) → w_ei w1 (w_ar ws (n_v vs 0) 35) j = w_ei w2 (w_ar ws (n_v vs 0) 35) j) := fun j hj => ⟨fun h => by unfold w_ei; rw [s2.1, if_pos ⟨ad_9.symm, by rw [h]⟩], fun h => by unfold w_ei; rw [s2.1, if_neg (fun e => h (by have := e.2; omega))]⟩
  have hE_0_35_3 : ∀ j : Int, w_ei w2 (w_ar ws (n_v vs 0) 35) j = w_ei w3 (w_ar ws (n_v vs 0) 35) j := el_kp s3.1 r8 cr_0_35 (by decide)
  have hE_0_35_4 : ∀ j : Int, w_ei w3 (w_ar ws (n_v vs 0) 35) j = w_ei w4 (w_ar ws (n_v vs 0) 35) j := el_kp s4.1 r7 cr_0_35 (by decide)
  have hK_0_35 := elq_69 hD hth cr_0_35
  have hE_0_36_1 : ∀ j : Int, w_ei ws (w_ar ws (n_v vs 0) 36) j = w_ei w1 (w_ar ws (n_v vs 0) 36) j := fun j => s1.1 _ _
  have hE_0_36_2 : ∀ j : Int, w_ei w1 (w_ar ws (n_v vs 0) 36) j = w_ei w2 (w_ar ws (n_v vs 0) 36) j := el_kp s2.1 r9 cr_0_36 (by decide)
  have hE_0_36_3 : ∀ j : Int, w_ei w2 (w_ar ws (n_v vs 0) 36) j = w_ei w3 (w_ar ws (n_v vs 0) 36) j := el_kp s3.1 r8 cr_0_36 (by decide)
  have hE_0_36_4 : ∀ j : Int, w_ei w3 (w_ar ws (n_v vs 0) 36) j = w_ei w4 (w_ar ws (n_v vs 0) 36) j := el_kp s4.1 r7 cr_0_36 (by decide)
  have hK_0_36 := elq_94 hD hth cr_0_36
  have hE_0_37_1 : ∀ j : Int, w_ei ws (w_ar ws (n_v vs 0) 37) j = w_ei w1 (w_ar ws (n_v vs 0) 37) j := fun j => s1.1 _ _
  have hE_0_37_2 : ∀ j : Int, w_ei w1 (w_ar ws (n_v vs 0) 37) j = w_ei w2 (w_ar ws (n_v vs 0) 37) j := el_kp s2.1 r9 cr_0_37 (by decide)
  have hE_0_37_3 : ∀ j : Int, w_ei w2 (w_ar ws (n_v vs 0) 37) j = w_ei w3 (w_ar ws (n_v vs 0) 37) j := el_kp s3.1 r8 cr_0_37 (by decide)
  have hE_0_37_4 : ∀ j : Int, w_ei w3 (w_ar ws (n_v vs 0) 37) j = w_ei w4 (w_ar ws (n_v vs 0) 37) j := el_kp s4.1 r7 cr_0_37 (by decide)
  have hK_0_37 := elq_95 hD hth cr_0_37
  have kz_0_31 := fdq_144 hD hth r0
  have kz_0_32 := fdq_139 hD hth r0
  have nf0 : fc_1 PRD (20, [0, 1, 2, 4, 5, 14], [60, 2, 5, 249, 31, 32, 33, 34, 35, 36, 37]) ws (vs) := ⟨nf_in hl rfl, sgq_645 (vc_Mo_newLine_at_g3_1_0 (v_iv (n_v vs 1)) (v_iv (n_v vs 2)) (v_iv (n_v vs 3)) (v_iv (n_v vs 4)) (v_iv (n_v vs 5)) (v_iv (n_v vs 6)) (v_iv (n_v vs 10)) (v_iv (n_v vs 11)) (v_iv (n_v vs 12)) (v_iv (n_v vs 13)) (v_iv (n_v vs 14)) (w_fi ws (n_v vs 0) 32) (w_fi w1 (n_v vs 0) 32) (w_fi w2 (n_v vs 0) 32) (w_fi w3 (n_v vs 0) 32) (w_fi w4 (n_v vs 0) 32) (w_ei w4 (w_ar ws (n_v vs 0) 33)) (w_ei w4 (w_ar ws (n_v vs 0) 34)) (w_ei w4 (w_ar ws (n_v vs 0) 35)) (w_ei w4 (w_ar ws (n_v vs 0) 36)) (w_ei w4 (w_ar ws (n_v vs 0) 37)) (w_fi w4 (n_v vs 0) 31) (w_fi ws (n_v vs 0) 31) (w_fi w1 (n_v vs 0) 31) (w_fi w2 (n_v vs 0) 31) (w_fi w3 (n_v vs 0) 31) (w_ei ws (w_ar ws (n_v vs 0) 33)) (w_ei w1 (w_ar ws (n_v vs 0) 33)) (w_ei w2 (w_ar ws (n_v vs 0) 33)) (w_ei w3 (w_ar ws (n_v vs 0) 33)) (w_ei ws (w_ar ws (n_v vs 0) 34)) (w_ei w1 (w_ar ws (n_v vs 0) 34)) (w_ei w2 (w_ar ws (n_v vs 0) 34)) (w_ei w3 (w_ar ws (n_v vs 0) 34)) (w_ei ws (w_ar ws (n_v vs 0) 35)) (w_ei w1 (w_ar ws (n_v vs 0) 35)) (w_ei w2 (w_ar ws (n_v vs 0) 35)) (w_ei w3 (w_ar ws (n_v vs 0) 35)) (w_ei ws (w_ar ws (n_v vs 0) 36)) (w_ei w1 (w_ar ws (n_v vs 0) 36)) (w_ei w2 (w_ar ws (n_v vs 0) 36)) (w_ei w3 (w_ar ws (n_v vs 0) 36)) (w_ei ws (w_ar ws (n_v vs 0) 37)) (w_ei w1 (w_ar ws (n_v vs 0) 37)) (w_ei w2 (w_ar ws (n_v vs 0) 37)) (w_ei w3 (w_ar ws (n_v vs 0) 37)) k1 k2 k3 k4 k5 k6 k10 k11 k12 k13 k14 d0 d1 d2 (shm_14 f0) g1 (shm_12 f3) g4 (shm_635 f5) (shm_644 f6) (shm_635 f9) (shm_644 f10) (shm_635 f13) (shm_644 f14) (shm_635 f17) f18 f19 (shm_644 f20) fe_0_31_1 fe_0_32_1 fe_0_31_2 fe_0_32_2 fe_0_31_3 fe_0_32_3 fe_0_31_4 fe_0_32_4 hE_0_33_1 hE_0_33_2 hE_0_33_3 hE_0_33_4 hK_0_33 hE_0_34_1 hE_0_34_2 hE_0_34_3 hE_0_34_4 hK_0_34 hE_0_35_1 hE_0_35_2 hE_0_35_3 hE_0_35_4 hK_0_35 hE_0_36_1 hE_0_36_2 hE_0_36_3 hE_0_36_4 hK_0_36 hE_0_37_1 hE_0_37_2 hE_0_37_3 hE_0_37_4 hK_0_37 kz_0_31 kz_0_32)⟩
  have nf1 : fc_1 PRD (20, [0], [60, 2, 3, 264, 31, 32, 33, 34, 35]) ws (vs) := ⟨nf_in hl rfl, sgq_643 (vc_Mo_newLine_at_g3_1_1 (v_iv (n_v vs 1)) (v_iv (n_v vs 2)) (v_iv (n_v vs 3)) (v_iv (n_v vs 4)) (v_iv (n_v vs 5)) (v_iv (n_v vs 6)) (v_iv (n_v vs 10)) (v_iv (n_v vs 11)) (v_iv (n_v vs 12)) (v_iv (n_v vs 13)) (v_iv (n_v vs 14)) (w_fi ws (n_v vs 0) 32) (w_fi w1 (n_v vs 0) 32) (w_fi w2 (n_v vs 0) 32) (w_fi w3 (n_v vs 0) 32) (w_fi w4 (n_v vs 0) 32) (w_ei w4 (w_ar ws (n_v vs 0) 33)) (w_ei w4 (w_ar ws (n_v vs 0) 34)) (w_ei w4 (w_ar ws (n_v vs 0) 35)) (w_ei w4 (w_ar ws (n_v vs 0) 36)) (w_ei w4 (w_ar ws (n_v vs 0) 37)) (w_fi w4 (n_v vs 0) 31) (w_fi ws (n_v vs 0) 31) (w_fi w1 (n_v vs 0) 31) (w_fi w2 (n_v vs 0) 31) (w_fi w3 (n_v vs 0) 31) (w_ei ws (w_ar ws (n_v vs 0) 33)) (w_ei w1 (w_ar ws (n_v vs 0) 33)) (w_ei w2 (w_ar ws (n_v vs 0) 33)) (w_ei w3 (w_ar ws (n_v vs 0) 33)) (w_ei ws (w_ar ws (n_v vs 0) 34)) (w_ei w1 (w_ar ws (n_v vs 0) 34)) (w_ei w2 (w_ar ws (n_v vs 0) 34)) (w_ei w3 (w_ar ws (n_v vs 0) 34)) (w_ei ws (w_ar ws (n_v vs 0) 35)) (w_ei w1 (w_ar ws (n_v vs 0) 35)) (w_ei w2 (w_ar ws (n_v vs 0) 35)) (w_ei w3 (w_ar ws (n_v vs 0) 35)) (w_ei ws (w_ar ws (n_v vs 0) 36)) (w_ei w1 (w_ar ws (n_v vs 0) 36)) (w_ei w2 (w_ar ws (n_v vs 0) 36)) (w_ei w3 (w_ar ws (n_v vs 0) 36)) (w_ei ws (w_ar ws (n_v vs 0) 37)) (w_ei w1 (w_ar ws (n_v vs 0) 37)) (w_ei w2 (w_ar ws (n_v vs 0) 37)) (w_ei w3 (w_ar ws (n_v vs 0) 37)) k1 k2 k3 k4 k5 k6 k10 k11 k12 k13 k14 d0 d1 d2 (shm_14 f0) g1 (shm_12 f3) g4 (shm_635 f5) (shm_644 f6) (shm_635 f9) (shm_644 f10) (shm_635 f13) (shm_644 f14) (shm_635 f17) f18 f19 (shm_644 f20) fe_0_31_1 fe_0_32_1 fe_0_31_2 fe_0_32_2 fe_0_31_3 fe_0_32_3 fe_0_31_4 fe_0_32_4 hE_0_33_1 hE_0_33_2 hE_0_33_3 hE_0_33_4 hK_0_33 hE_0_34_1 hE_0_34_2 hE_0_34_3 hE_0_34_4 hK_0_34 hE_0_35_1 hE_0_35_2 hE_0_35_3 hE_0_35_4 hK_0_35 hE_0_36_1 hE_0_36_2 hE_0_36_3 hE_0_36_4 hK_0_36 hE_0_37_1 hE_0_37_2 hE_0_37_3 hE_0_37_4 hK_0_37 kz_0_31 kz_0_32)⟩
  have nf2 : fc_1 PRD (20, [0, 6], [50, 1, 0, 32, 1, 3, 2, 0, 32, 4, 2, 1, 1, 0, 1]) ws (vs) := ⟨nf_in hl rfl, sgq_646 (vc_Mo_newLine_at_g3_1_2 (v_iv (n_v vs 1)) (v_iv (n_v vs 2)) (v_iv (n_v vs 3)) (v_iv (n_v vs 4)) (v_iv (n_v vs 5)) (v_iv (n_v vs 6)) (v_iv (n_v vs 10)) (v_iv (n_v vs 11)) (v_iv (n_v vs 12)) (v_iv (n_v vs 13)) (v_iv (n_v vs 14)) (w_fi ws (n_v vs 0) 32) (w_fi w1 (n_v vs 0) 32) (w_fi w2 (n_v vs 0) 32) (w_fi w3 (n_v vs 0) 32) (w_fi w4 (n_v vs 0) 32) (w_ei w4 (w_ar ws (n_v vs 0) 33)) (w_ei w4 (w_ar ws (n_v vs 0) 34)) (w_ei w4 (w_ar ws (n_v vs 0) 35)) (w_ei w4 (w_ar ws (n_v vs 0) 36)) (w_ei w4 (w_ar ws (n_v vs 0) 37)) (w_fi w4 (n_v vs 0) 31) (w_fi ws (n_v vs 0) 31) (w_fi w1 (n_v vs 0) 31) (w_fi w2 (n_v vs 0) 31) (w_fi w3 (n_v vs 0) 31) (w_ei ws (w_ar ws (n_v vs 0) 33)) (w_ei w1 (w_ar ws (n_v vs 0) 33)) (w_ei w2 (w_ar ws (n_v vs 0) 33)) (w_ei w3 (w_ar ws (n_v vs 0) 33)) (w_ei ws (w_ar ws (n_v vs 0) 34)) (w_ei w1 (w_ar ws (n_v vs 0) 34)) (w_ei w2 (w_ar ws (n_v vs 0) 34)) (w_ei w3 (w_ar ws (n_v vs 0) 34)) (w_ei ws (w_ar ws (n_v vs 0) 35)) (w_ei w1 (w_ar ws (n_v vs 0) 35)) (w_ei w2 (w_ar ws (n_v vs 0) 35)) (w_ei w3 (w_ar ws (n_v vs 0) 35)) (w_ei ws (w_ar ws (n_v vs 0) 36)) (w_ei w1 (w_ar ws (n_v vs 0) 36)) (w_ei w2 (w_ar ws (n_v vs 0) 36)) (w_ei w3 (w_ar ws (n_v vs 0) 36)) (w_ei ws (w_ar ws (n_v vs 0) 37)) (w_ei w1 (w_ar ws (n_v vs 0) 37)) (w_ei w2 (w_ar ws (n_v vs 0) 37)) (w_ei w3 (w_ar ws (n_v vs 0) 37)) k1 k2 k3 k4 k5 k6 k10 k11 k12 k13 k14 d0 d1 d2 (shm_14 f0) g1 (shm_12 f3) g4 (shm_635 f5) (shm_644 f6) (shm_635 f9) (shm_644 f10) (shm_635 f13) (shm_644 f14) (shm_635 f17) f18 f19 (shm_644 f20) fe_0_31_1 fe_0_32_1 fe_0_31_2 fe_0_32_2 fe_0_31_3 fe_0_32_3 fe_0_31_4 fe_0_32_4 hE_0_33_1 hE_0_33_2 hE_0_33_3 hE_0_33_4 hK_0_33 hE_0_34_1 hE_0_34_2 hE_0_34_3 hE_0_34_4 hK_0_34 hE_0_35_1 hE_0_35_2 hE_0_35_3 hE_0_35_4 hK_0_35 hE_0_36_1 hE_0_36_2 hE_0_36_3 hE_0_36_4 hK_0_36 hE_0_37_1 hE_0_37_2 hE_0_37_3 hE_0_37_4 hK_0_37 kz_0_31 kz_0_32)⟩
  refine ⟨(fun _ h => (by cases h)), [], trivial, ?_, (fun _ h => (by cases h))⟩
  rw [List.append_nil]
  exact List.forall_mem_cons.mpr ⟨⟨show (20 : Nat) < 100 from by decide, nf0⟩, List.forall_mem_cons.mpr ⟨⟨show (20 : Nat) < 100 from by decide, nf1⟩, List.forall_mem_cons.mpr ⟨⟨show (20 : Nat) < 100 from by decide, nf2⟩, (fun _ h => (by cases h))⟩⟩⟩
def n_Mo_newLine_at_g3_an : List an_T := []
def t_Mo_newLine_at_g3_ct : ct_L := []
set_option maxRecDepth 100000 in
theorem c_Mo_newLine_at_g3 {l : Launch} {D : va_G} {kA : Nat → ClassId} : ct_ok PRD l D kA GG y_Mo_newLine_at_g3 z_Mo_newLine_at_g3 e_Mo_newLine_at_g3 := chk_all_ok (FT := [(57, 13, 33), (60, 13, 34), (63, 13, 35), (597, 13, 32)]) (PT := [(597, 13, 32, .int)]) (CT := t_Mo_newLine_at_g3_ct) (KT := []) (NT := []) (AN := n_Mo_newLine_at_g3_an) (OT := [o_Mo_newLine_at_g3_0, o_Mo_newLine_at_g3_1]) 0 200 (List.forall_mem_cons.mpr ⟨oo_Mo_newLine_at_g3_0, List.forall_mem_cons.mpr ⟨oo_Mo_newLine_at_g3_1, List.forall_mem_nil _⟩⟩) (by decide +kernel) ⟨List.forall_mem_cons.mpr ⟨gf_Mo_57, List.forall_mem_cons.mpr ⟨gf_Mo_60, List.forall_mem_cons.mpr ⟨gf_Mo_63, List.forall_mem_cons.mpr ⟨gf_Mo_597, List.forall_mem_nil _⟩⟩⟩⟩, List.forall_mem_cons.mpr ⟨pf_Mo_597, List.forall_mem_nil _⟩, List.forall_mem_nil _, List.forall_mem_nil _, List.forall_mem_nil _, GG_pl⟩ (by decide +kernel)

set_option maxHeartbeats 4000000 in
theorem vc_Mo_nextOrder_at_gm_0_0 (x1 : Int) (x2 : Int) (x3 : Int) (x4 : Int) (order_0 : Int → Int) (member_0 : Int → Int) (k1 : 0 ≤ x1 ∧ x1 ≤ 26) (k2 : (-2) ≤ x2 ∧ x2 ≤ 16777216) (k3 : 2 ≤ x3 ∧ x3 ≤ 2) (k4 : (-2) ≤ x4 ∧ x4 ≤ 24) (d0 : x1 + (-2) ≤ x4 ∧ x4 ≤ x1 + (-2)) (f0 : x4 = x1 - x3) (f1 : x1 ≤ 8) (f2 : DIS (order_0) (x1)) (f3 : ORM (order_0) (x1) (x2)) (f4 : SEM (order_0) (member_0) (x1)) (hK_0_96 : ∀ j : Int, 0 ≤ j → j < 26 → 0 ≤ order_0 j ∧ order_0 j ≤ 25) (hK_0_98 : ∀ j : Int, 0 ≤ j → j < 26 → 0 ≤ member_0 j ∧ member_0 j ≤ 25) : NO1 (order_0) (x1) (x4) := by
  first
    | exact ⟨‹DIS _ _›, by omega⟩
    | (have h := ‹NO1 _ _ _›
       exact ⟨h.1, by have := h.2; omega⟩)
def o_Mo_nextOrder_at_gm_0 : or_T := (4, 5, [(0, (2, 0, 0, [165])), (1, (0, 0, 26, [])), (2, (0, -2, 16777216, [])), (3, (0, 2, 2, [])), (4, (0, -2, 24, []))], [(2, [4, 1, 3], []), (20, [1], [50, 0, 0, 0, 2, 1, 0, 0, 8]), (20, [0, 1], [60, 0, 1, 322, 96]), (20, [0, 1, 2], [60, 0, 1, 323, 96]), (20, [0, 1], [60, 0, 2, 328, 96, 98])], [], [], [(20, [0, 1, 4], [60, 0, 1, 325, 96]), (24, [0, 0], []), (24, [1, 1], [])], [], [(4, 1, -2, -2)])
theorem oo_Mo_nextOrder_at_gm_0 {kA : Nat → ClassId} : or_ok PRD kA GG o_Mo_nextOrder_at_gm_0 := by
  refine or_mk fun A ta ws vs hD hth hl => ?_
  intro t0 r0 t1 k1 t2 k2 t3 k3 t4 k4 d0 f0 f1 f2 f3 f4
  have cr_0_96 := fdq_165 hD hth r0
  have cr_0_98 := fdq_156 hD hth r0
  have hK_0_96 := elq_93 hD hth cr_0_96
  have hK_0_98 := elq_87 hD hth cr_0_98
  have nf0 : fc_1 PRD (20, [0, 1, 4], [60, 0, 1, 325, 96]) ws (vs) := ⟨nf_in hl rfl, sgq_651 (vc_Mo_nextOrder_at_gm_0_0 (v_iv (n_v vs 1)) (v_iv (n_v vs 2)) (v_iv (n_v vs 3)) (v_iv (n_v vs 4)) (w_ei ws (w_ar ws (n_v vs 0) 96)) (w_ei ws (w_ar ws (n_v vs 0) 98)) k1 k2 k3 k4 d0 (shm_14 f0) (shm_647 f1) (shm_648 f2) (shm_649 f3) (shm_650 f4) hK_0_96 hK_0_98)⟩
  have nf1 : fc_1 PRD (24, [0, 0], []) ws (vs) := by
    refine ⟨nf_in hl rfl, sgq_1 ?_⟩
    · show n_v vs 0 = n_v vs 0
      first | rfl | simp only [true_and]
  have nf2 : fc_1 PRD (24, [1, 1], []) ws (vs) := by
    refine ⟨nf_in hl rfl, sgq_1 ?_⟩
    · show n_v vs 1 = n_v vs 1
      first | rfl | simp only [true_and]
  refine ⟨(fun _ h => (by cases h)), [], trivial, ?_, (fun _ h => (by cases h))⟩
  rw [List.append_nil]
  exact List.forall_mem_cons.mpr ⟨⟨show (20 : Nat) < 100 from by decide, nf0⟩, List.forall_mem_cons.mpr ⟨⟨show (24 : Nat) < 100 from by decide, nf1⟩, List.forall_mem_cons.mpr ⟨⟨show (24 : Nat) < 100 from by decide, nf2⟩, (fun _ h => (by cases h))⟩⟩⟩
set_option maxHeartbeats 4000000 in
theorem vc_Mo_nextOrder_at_gm_1_0 (x1 : Int) (x2 : Int) (x4 : Int) (x5 : Int) (x6 : Int) (order_0 : Int → Int) (member_0 : Int → Int) (k1 : 0 ≤ x1 ∧ x1 ≤ 26) (k2 : (-2) ≤ x2 ∧ x2 ≤ 16777216) (k4 : 0 ≤ x4 ∧ x4 ≤ 26) (k5 : (-2) ≤ x5 ∧ x5 ≤ (-1)) (k6 : 0 ≤ x6 ∧ x6 ≤ 0) (d0 : x4 + (-4294967296) ≤ x1 ∧ x1 ≤ x4 + 0) (d1 : x1 + (-4294967296) ≤ x4 ∧ x4 ≤ x1 + 0) (d2 : x1 + (-4294967296) ≤ x5 ∧ x5 ≤ x1 + (-2)) (d3 : x4 + (-4294967296) ≤ x5 ∧ x5 ≤ x4 + (-2)) (f0 : x5 < 0) (f1 : x5 < 0) (f2 : SEM (order_0) (member_0) (x1)) (f3 : x1 ≤ 8) (f4 : NO1 (order_0) (x1) (x5)) (f5 : ORM (order_0) (x1) (x2)) (hK_0_96 : ∀ j : Int, 0 ≤ j → j < 26 → 0 ≤ order_0 j ∧ order_0 j ≤ 25) (hK_0_98 : ∀ j : Int, 0 ≤ j → j < 26 → 0 ≤ member_0 j ∧ member_0 j ≤ 25) : DIS (order_0) (x1) := by
  exact ‹NO1 _ _ _›.1
set_option maxHeartbeats 4000000 in
theorem vc_Mo_nextOrder_at_gm_1_1 (x1 : Int) (x2 : Int) (x4 : Int) (x5 : Int) (x6 : Int) (order_0 : Int → Int) (member_0 : Int → Int) (k1 : 0 ≤ x1 ∧ x1 ≤ 26) (k2 : (-2) ≤ x2 ∧ x2 ≤ 16777216) (k4 : 0 ≤ x4 ∧ x4 ≤ 26) (k5 : (-2) ≤ x5 ∧ x5 ≤ (-1)) (k6 : 0 ≤ x6 ∧ x6 ≤ 0) (d0 : x4 + (-4294967296) ≤ x1 ∧ x1 ≤ x4 + 0) (d1 : x1 + (-4294967296) ≤ x4 ∧ x4 ≤ x1 + 0) (d2 : x1 + (-4294967296) ≤ x5 ∧ x5 ≤ x1 + (-2)) (d3 : x4 + (-4294967296) ≤ x5 ∧ x5 ≤ x4 + (-2)) (f0 : x5 < 0) (f1 : x5 < 0) (f2 : SEM (order_0) (member_0) (x1)) (f3 : x1 ≤ 8) (f4 : NO1 (order_0) (x1) (x5)) (f5 : ORM (order_0) (x1) (x2)) (hK_0_96 : ∀ j : Int, 0 ≤ j → j < 26 → 0 ≤ order_0 j ∧ order_0 j ≤ 25) (hK_0_98 : ∀ j : Int, 0 ≤ j → j < 26 → 0 ≤ member_0 j ∧ member_0 j ≤ 25) : ORN (order_0) (x1) (x2) (x6) := by
  intro z; exfalso; omega
set_option maxHeartbeats 4000000 in
theorem vc_Mo_nextOrder_at_gm_1_2 (x1 : Int) (x2 : Int) (x4 : Int) (x5 : Int) (x6 : Int) (order_0 : Int → Int) (member_0 : Int → Int) (k1 : 0 ≤ x1 ∧ x1 ≤ 26) (k2 : (-2) ≤ x2 ∧ x2 ≤ 16777216) (k4 : 0 ≤ x4 ∧ x4 ≤ 26) (k5 : (-2) ≤ x5 ∧ x5 ≤ (-1)) (k6 : 0 ≤ x6 ∧ x6 ≤ 0) (d0 : x4 + (-4294967296) ≤ x1 ∧ x1 ≤ x4 + 0) (d1 : x1 + (-4294967296) ≤ x4 ∧ x4 ≤ x1 + 0) (d2 : x1 + (-4294967296) ≤ x5 ∧ x5 ≤ x1 + (-2)) (d3 : x4 + (-4294967296) ≤ x5 ∧ x5 ≤ x4 + (-2)) (f0 : x5 < 0) (f1 : x5 < 0) (f2 : SEM (order_0) (member_0) (x1)) (f3 : x1 ≤ 8) (f4 : NO1 (order_0) (x1) (x5)) (f5 : ORM (order_0) (x1) (x2)) (hK_0_96 : ∀ j : Int, 0 ≤ j → j < 26 → 0 ≤ order_0 j ∧ order_0 j ≤ 25) (hK_0_98 : ∀ j : Int, 0 ≤ j → j < 26 → 0 ≤ member_0 j ∧ member_0 j ≤ 25) : SEM (order_0) (member_0) (x1) := by
  first
    | assumption
    | (have h := ‹NO2 _ _ _ _›
       have h2 := h.2.1
       have h4 := h.2.2.2
       exact sem_swp (a := x5) (b := x6) ‹SEM _ _ _› (by omega) (by omega) (by omega) (by omega) (swp_st (by omega) (by omega) (by omega) (by assumption) (by omega) (by omega) (by assumption) (by omega) (by omega)))
    | (have h := ‹NO3 _ _ _ _ _ _›
       have h2 := h.2.1
       have h3 := h.2.2.1
       have h4 := h.2.2.2.1
       exact sem_swp (a := x8) (b := x9) ‹SEM _ _ _› (by omega) (by omega) (by omega) (by omega) (swp_st (by omega) (by omega) (by omega) (by assumption) (by omega) (by omega) (by assumption) (by omega) (by omega)))
def o_Mo_nextOrder_at_gm_1 : or_T := (36, 7, [(0, (2, 0, 0, [165])), (1, (0, 0, 26, [])), (2, (0, -2, 16777216, [])), (4, (0, 0, 26, [])), (5, (0, -2, -1, [])), (6, (0, 0, 0, []))], [(8, [5], [2]), (8, [5], [2]), (20, [3, 4], [60, 0, 2, 328, 96, 98]), (20, [4], [50, 0, 0, 0, 2, 1, 0, 0, 8]), (20, [3, 4, 5], [60, 0, 1, 325, 96]), (20, [3, 4, 2], [60, 0, 1, 323, 96]), (24, [0, 3], []), (24, [1, 4], [])], [], [], [(20, [0, 1], [60, 0, 1, 322, 96]), (20, [0, 1, 2, 6], [60, 0, 1, 324, 96]), (20, [0, 1], [60, 0, 2, 328, 96, 98])], [], [(1, 4, -4294967296, 0), (4, 1, -4294967296, 0), (5, 1, -4294967296, -2), (5, 4, -4294967296, -2)])
theorem oo_Mo_nextOrder_at_gm_1 {kA : Nat → ClassId} : or_ok PRD kA GG o_Mo_nextOrder_at_gm_1 := by
  refine or_mk fun A ta ws vs hD hth hl => ?_
  intro t0 r0 t1 k1 t2 k2 t4 k4 t5 k5 t6 k6 d0 d1 d2 d3 f0 f1 f2 f3 f4 f5 f6 f7
  replace f2 := shm_650 f2
  replace f3 := shm_647 f3
  replace f4 := shm_651 f4
  replace f5 := shm_649 f5
  replace f6 := shm_5 f6
  replace f7 := shm_5 f7
  have q3 : n_v vs 3 = n_v vs 0 := f6.symm
  have q4 : n_v vs 4 = n_v vs 1 := f7.symm
  simp only [q3, q4] at f2 f3 f4 f5
  have cr_0_96 := fdq_165 hD hth r0
  have cr_0_98 := fdq_156 hD hth r0
  have hK_0_96 := elq_93 hD hth cr_0_96
  have hK_0_98 := elq_87 hD hth cr_0_98
  have nf0 : fc_1 PRD (20, [0, 1], [60, 0, 1, 322, 96]) ws (vs) := ⟨nf_in hl rfl, sgq_648 (vc_Mo_nextOrder_at_gm_1_0 (v_iv (n_v vs 1)) (v_iv (n_v vs 2)) (v_iv (n_v vs 4)) (v_iv (n_v vs 5)) (v_iv (n_v vs 6)) (w_ei ws (w_ar ws (n_v vs 0) 96)) (w_ei ws (w_ar ws (n_v vs 0) 98)) k1 k2 k4 k5 k6 d0 d1 d2 d3 (shm_39 f0) (shm_39 f1) f2 f3 f4 f5 hK_0_96 hK_0_98)⟩
  have nf1 : fc_1 PRD (20, [0, 1, 2, 6], [60, 0, 1, 324, 96]) ws (vs) := ⟨nf_in hl rfl, sgq_652 (vc_Mo_nextOrder_at_gm_1_1 (v_iv (n_v vs 1)) (v_iv (n_v vs 2)) (v_iv (n_v vs 4)) (v_iv (n_v vs 5)) (v_iv (n_v vs 6)) (w_ei ws (w_ar ws (n_v vs 0) 96)) (w_ei ws (w_ar ws (n_v vs 0) 98)) k1 k2 k4 k5 k6 d0 d1 d2 d3 (shm_39 f0) (shm_39 f1) f2 f3 f4 f5 hK_0_96 hK_0_98)⟩
  have nf2 : fc_1 PRD (20, [0, 1], [60, 0, 2, 328, 96, 98]) ws (vs) := ⟨nf_in hl rfl, sgq_650 (vc_Mo_nextOrder_at_gm_1_2 (v_iv (n_v vs 1)) (v_iv (n_v vs 2)) (v_iv (n_v vs 4)) (v_iv (n_v vs 5)) (v_iv (n_v vs 6)) (w_ei ws (w_ar ws (n_v vs 0) 96)) (w_ei ws (w_ar ws (n_v vs 0) 98)) k1 k2 k4 k5 k6 d0 d1 d2 d3 (shm_39 f0) (shm_39 f1) f2 f3 f4 f5 hK_0_96 hK_0_98)⟩
  refine ⟨(fun _ h => (by cases h)), [], trivial, ?_, (fun _ h => (by cases h))⟩
  rw [List.append_nil]
  exact List.forall_mem_cons.mpr ⟨⟨show (20 : Nat) < 100 from by decide, nf0⟩, List.forall_mem_cons.mpr ⟨⟨show (20 : Nat) < 100 from by decide, nf1⟩, List.forall_mem_cons.mpr ⟨⟨show (20 : Nat) < 100 from by decide, nf2⟩, (fun _ h => (by cases h))⟩⟩⟩
set_option maxHeartbeats 4000000 in
theorem vc_Mo_nextOrder_at_gm_2_0 (x1 : Int) (x2 : Int) (x4 : Int) (x5 : Int) (x7 : Int) (x8 : Int) (x9 : Int) (x10 : Int) (x11 : Int) (x12 : Int) (order_0 : Int → Int) (member_0 : Int → Int) (k1 : 2 ≤ x1 ∧ x1 ≤ 26) (k2 : (-2) ≤ x2 ∧ x2 ≤ 16777216) (k4 : 2 ≤ x4 ∧ x4 ≤ 26) (k5 : 0 ≤ x5 ∧ x5 ≤ 24) (k7 : 0 ≤ x7 ∧ x7 ≤ 25) (k8 : 1 ≤ x8 ∧ x8 ≤ 1) (k9 : 1 ≤ x9 ∧ x9 ≤ 25) (k10 : 0 ≤ x10 ∧ x10 ≤ 25) (k11 : 1 ≤ x11 ∧ x11 ≤ 1) (k12 : 1 ≤ x12 ∧ x12 ≤ 25) (d0 : x4 + (-1) ≤ x12 ∧ x12 ≤ x4 + (-1)) (d1 : x1 + (-4294967296) ≤ x12 ∧ x12 ≤ x1 + (-1)) (d2 : x10 + (-4294967296) ≤ x7 ∧ x7 ≤ x10 + 0) (d3 : x5 + 1 ≤ x9 ∧ x9 ≤ x5 + 1) (d4 : x1 + (-4294967296) ≤ x9 ∧ x9 ≤ x1 + (-1)) (d5 : x4 + (-4294967296) ≤ x9 ∧ x9 ≤ x4 + (-1)) (d6 : x4 + (-4294967296) ≤ x1 ∧ x1 ≤ x4 + 0) (d7 : x1 + (-4294967296) ≤ x4 ∧ x4 ≤ x1 + 0) (d8 : x1 + (-4294967296) ≤ x5 ∧ x5 ≤ x1 + (-2)) (d9 : x4 + (-4294967296) ≤ x5 ∧ x5 ≤ x4 + (-2)) (f0 : x12 = x1 - x11) (f1 : 0 ≤ x5) (f2 : x7 ≤ x10) (h3 : x10 = order_0 (x9)) (f4 : x9 = x5 + x8) (h6 : x7 = order_0 (x5)) (f7 : 0 ≤ x5) (f8 : SEM (order_0) (member_0) (x1)) (f9 : x1 ≤ 8) (f10 : NO1 (order_0) (x1) (x5)) (f11 : ORM (order_0) (x1) (x2)) (hK_0_96 : ∀ j : Int, 0 ≤ j → j < 26 → 0 ≤ order_0 j ∧ order_0 j ≤ 25) (hK_0_98 : ∀ j : Int, 0 ≤ j → j < 26 → 0 ≤ member_0 j ∧ member_0 j ≤ 25) : NO2 (order_0) (x1) (x5) (x12) := by
  first
    | exact no2_start ‹NO1 _ _ _› (by omega) (by rw [← (by omega : x9 = x5 + 1)]; omega) (by omega)
    | exact no2_step ‹NO2 _ _ _ _› (by omega) (by omega)
def o_Mo_nextOrder_at_gm_2 : or_T := (41, 13, [(0, (2, 0, 0, [165])), (1, (0, 2, 26, [])), (2, (0, -2, 16777216, [])), (4, (0, 2, 26, [])), (5, (0, 0, 24, [])), (7, (0, 0, 25, [])), (8, (0, 1, 1, [])), (9, (0, 1, 25, [])), (10, (0, 0, 25, [])), (11, (0, 1, 1, [])), (12, (0, 1, 25, []))], [(2, [12, 4, 11], []), (8, [5], [3]), (7, [7, 10], [5]), (10, [10, 6, 9], []), (1, [9, 5, 8], []), (9, [6, 3], [96]), (10, [7, 6, 5], []), (8, [5], [3]), (20, [3, 4], [60, 0, 2, 328, 96, 98]), (20, [4], [50, 0, 0, 0, 2, 1, 0, 0, 8]), (20, [3, 4, 5], [60, 0, 1, 325, 96]), (20, [3, 4, 2], [60, 0, 1, 323, 96]), (24, [0, 3], []), (24, [1, 4], [])], [], [], [(20, [3, 4, 5, 12], [60, 0, 1, 326, 96])], [], [(12, 4, -1, -1), (12, 1, -4294967296, -1), (7, 10, -4294967296, 0), (9, 5, 1, 1), (9, 1, -4294967296, -1), (9, 4, -4294967296, -1), (1, 4, -4294967296, 0), (4, 1, -4294967296, 0), (5, 1, -4294967296, -2), (5, 4, -4294967296, -2)])
theorem oo_Mo_nextOrder_at_gm_2 {kA : Nat → ClassId} : or_ok PRD kA GG o_Mo_nextOrder_at_gm_2 := by
  refine or_mk fun A ta ws vs hD hth hl => ?_
  intro t0 r0 t1 k1 t2 k2 t4 k4 t5 k5 t7 k7 t8 k8 t9 k9 t10 k10 t11 k11 t12 k12 d0 d1 d2 d3 d4 d5 d6 d7 d8 d9 f0 f1 f2 f3 f4 f5 f6 f7 f8 f9 f10 f11 f12 f13
  replace f0 := shm_14 f0
  replace f1 := shm_32 f1
  replace f2 := shm_24 f2
  replace f3 := shm_106 f3
  replace f4 := shm_12 f4
  replace f5 := shm_653 f5
  replace f6 := shm_106 f6
  replace f7 := shm_32 f7
  replace f8 := shm_650 f8
  replace f9 := shm_647 f9
  replace f10 := shm_651 f10
  replace f11 := shm_649 f11
  replace f12 := shm_5 f12
  replace f13 := shm_5 f13
  have q3 : n_v vs 3 = n_v vs 0 := f12.symm
  have q4 : n_v vs 4 = n_v vs 1 := f13.symm
  simp only [q4, q3] at f0 f5 f8 f9 f10 f11
  have cr_0_96 := fdq_165 hD hth r0
  have cr_0_98 := fdq_156 hD hth r0
  have ad_6 : v_ad (n_v vs 6) = w_ar ws (n_v vs 0) 96 := congrArg v_ad f5
  simp only [ad_6] at f3
  have h3 : v_iv (n_v vs 10) = w_ei ws (w_ar ws (n_v vs 0) 96) (v_iv (n_v vs 9)) := f3
  simp only [ad_6] at f6
  have h6 : v_iv (n_v vs 7) = w_ei ws (w_ar ws (n_v vs 0) 96) (v_iv (n_v vs 5)) := f6
  have hK_0_96 := elq_93 hD hth cr_0_96
  have hK_0_98 := elq_87 hD hth cr_0_98
  have nf0 : fc_1 PRD (20, [3, 4, 5, 12], [60, 0, 1, 326, 96]) ws (vs) := by
    refine ⟨nf_in hl rfl, sgq_654 ?_⟩
    · show NO2 (w_ei ws (w_ar ws (n_v vs 3) 96)) (v_iv (n_v vs 4)) (v_iv (n_v vs 5)) (v_iv (n_v vs 12))
      simp only [q3, q4]
      exact vc_Mo_nextOrder_at_gm_2_0 (v_iv (n_v vs 1)) (v_iv (n_v vs 2)) (v_iv (n_v vs 4)) (v_iv (n_v vs 5)) (v_iv (n_v vs 7)) (v_iv (n_v vs 8)) (v_iv (n_v vs 9)) (v_iv (n_v vs 10)) (v_iv (n_v vs 11)) (v_iv (n_v vs 12)) (w_ei ws (w_ar ws (n_v vs 0) 96)) (w_ei ws (w_ar ws (n_v vs 0) 98)) k1 k2 k4 k5 k7 k8 k9 k10 k11 k12 d0 d1 d2 d3 d4 d5 d6 d7 d8 d9 f0 f1 f2 h3 f4 h6 f7 f8 f9 f10 f11 hK_0_96 hK_0_98
  refine ⟨(fun _ h => (by cases h)), [], trivial, ?_, (fun _ h => (by cases h))⟩
  rw [List.append_nil]
  exact List.forall_mem_cons.mpr ⟨⟨show (20 : Nat) < 100 from by decide, nf0⟩, (fun _ h => (by cases h))⟩
set_option maxHeartbeats 4000000 in
theorem vc_Mo_nextOrder_at_gm_3_0 (x1 : Int) (x2 : Int) (x4 : Int) (x5 : Int) (x7 : Int) (x8 : Int) (x9 : Int) (x10 : Int) (x11 : Int) (order_0 : Int → Int) (member_0 : Int → Int) (k1 : 2 ≤ x1 ∧ x1 ≤ 26) (k2 : (-2) ≤ x2 ∧ x2 ≤ 16777216) (k4 : 2 ≤ x4 ∧ x4 ≤ 26) (k5 : 0 ≤ x5 ∧ x5 ≤ 24) (k7 : 1 ≤ x7 ∧ x7 ≤ 25) (k8 : 1 ≤ x8 ∧ x8 ≤ 1) (k9 : 1 ≤ x9 ∧ x9 ≤ 25) (k10 : 0 ≤ x10 ∧ x10 ≤ 24) (k11 : (-1) ≤ x11 ∧ x11 ≤ 23) (d0 : x5 + (-1) ≤ x11 ∧ x11 ≤ x5 + (-1)) (d1 : x1 + (-4294967296) ≤ x11 ∧ x11 ≤ x1 + (-3)) (d2 : x4 + (-4294967296) ≤ x11 ∧ x11 ≤ x4 + (-3)) (d3 : x10 + 1 ≤ x7 ∧ x7 ≤ x10 + 4294967296) (d4 : x5 + 1 ≤ x9 ∧ x9 ≤ x5 + 1) (d5 : x1 + (-4294967296) ≤ x9 ∧ x9 ≤ x1 + (-1)) (d6 : x4 + (-4294967296) ≤ x9 ∧ x9 ≤ x4 + (-1)) (d7 : x4 + (-4294967296) ≤ x1 ∧ x1 ≤ x4 + 0) (d8 : x1 + (-4294967296) ≤ x4 ∧ x4 ≤ x1 + 0) (d9 : x1 + (-4294967296) ≤ x5 ∧ x5 ≤ x1 + (-2)) (d10 : x4 + (-4294967296) ≤ x5 ∧ x5 ≤ x4 + (-2)) (f0 : x11 = x5 + (-1)) (f1 : x10 < x7) (h2 : x10 = order_0 (x9)) (f3 : x9 = x5 + x8) (h5 : x7 = order_0 (x5)) (f6 : 0 ≤ x5) (f7 : SEM (order_0) (member_0) (x1)) (f8 : x1 ≤ 8) (f9 : NO1 (order_0) (x1) (x5)) (f10 : ORM (order_0) (x1) (x2)) (hK_0_96 : ∀ j : Int, 0 ≤ j → j < 26 → 0 ≤ order_0 j ∧ order_0 j ≤ 25) (hK_0_98 : ∀ j : Int, 0 ≤ j → j < 26 → 0 ≤ member_0 j ∧ member_0 j ≤ 25) : NO1 (order_0) (x1) (x11) := by
  first
    | exact ⟨‹DIS _ _›, by omega⟩
    | (have h := ‹NO1 _ _ _›
       exact ⟨h.1, by have := h.2; omega⟩)
def o_Mo_nextOrder_at_gm_3 : or_T := (4, 12, [(0, (2, 0, 0, [165])), (1, (0, 2, 26, [])), (2, (0, -2, 16777216, [])), (4, (0, 2, 26, [])), (5, (0, 0, 24, [])), (7, (0, 1, 25, [])), (8, (0, 1, 1, [])), (9, (0, 1, 25, [])), (10, (0, 0, 24, [])), (11, (0, -1, 23, []))], [(6, [11, 5], [-1]), (7, [7, 10], [4]), (10, [10, 6, 9], []), (1, [9, 5, 8], []), (9, [6, 3], [96]), (10, [7, 6, 5], []), (8, [5], [3]), (20, [3, 4], [60, 0, 2, 328, 96, 98]), (20, [4], [50, 0, 0, 0, 2, 1, 0, 0, 8]), (20, [3, 4, 5], [60, 0, 1, 325, 96]), (20, [3, 4, 2], [60, 0, 1, 323, 96]), (24, [0, 3], []), (24, [1, 4], [])], [], [], [(20, [3, 4, 11], [60, 0, 1, 325, 96])], [], [(11, 5, -1, -1), (11, 1, -4294967296, -3), (11, 4, -4294967296, -3), (7, 10, 1, 4294967296), (9, 5, 1, 1), (9, 1, -4294967296, -1), (9, 4, -4294967296, -1), (1, 4, -4294967296, 0), (4, 1, -4294967296, 0), (5, 1, -4294967296, -2), (5, 4, -4294967296, -2)])
theorem oo_Mo_nextOrder_at_gm_3 {kA : Nat → ClassId} : or_ok PRD kA GG o_Mo_nextOrder_at_gm_3 := by
  refine or_mk fun A ta ws vs hD hth hl => ?_
  intro t0 r0 t1 k1 t2 k2 t4 k4 t5 k5 t7 k7 t8 k8 t9 k9 t10 k10 t11 k11 d0 d1 d2 d3 d4 d5 d6 d7 d8 d9 d10 f0 f1 f2 f3 f4 f5 f6 f7 f8 f9 f10 f11 f12
  replace f0 := shm_198 f0
  replace f1 := shm_21 f1
  replace f2 := shm_106 f2
  replace f3 := shm_12 f3
  replace f4 := shm_653 f4
  replace f5 := shm_106 f5
  replace f6 := shm_32 f6
  replace f7 := shm_650 f7
  replace f8 := shm_647 f8
  replace f9 := shm_651 f9
  replace f10 := shm_649 f10
  replace f11 := shm_5 f11
  replace f12 := shm_5 f12
  have q3 : n_v vs 3 = n_v vs 0 := f11.symm
  have q4 : n_v vs 4 = n_v vs 1 := f12.symm
  simp only [q3, q4] at f4 f7 f8 f9 f10
  have cr_0_96 := fdq_165 hD hth r0
  have cr_0_98 := fdq_156 hD hth r0
  have ad_6 : v_ad (n_v vs 6) = w_ar ws (n_v vs 0) 96 := congrArg v_ad f4
  simp only [ad_6] at f2
  have h2 : v_iv (n_v vs 10) = w_ei ws (w_ar ws (n_v vs 0) 96) (v_iv (n_v vs 9)) := f2
  simp only [ad_6] at f5
  have h5 : v_iv (n_v vs 7) = w_ei ws (w_ar ws (n_v vs 0) 96) (v_iv (n_v vs 5)) := f5
  have hK_0_96 := elq_93 hD hth cr_0_96
  have hK_0_98 := elq_87 hD hth cr_0_98
  have nf0 : fc_1 PRD (20, [3, 4, 11], [60, 0, 1, 325, 96]) ws (vs) := by
    refine ⟨nf_in hl rfl, sgq_651 ?_⟩
    · show NO1 (w_ei ws (w_ar ws (n_v vs 3) 96)) (v_iv (n_v vs 4)) (v_iv (n_v vs 11))
      simp only [q3, q4]
      exact vc_Mo_nextOrder_at_gm_3_0 (v_iv (n_v vs 1)) (v_iv (n_v vs 2)) (v_iv (n_v vs 4)) (v_iv (n_v vs 5)) (v_iv (n_v vs 7)) (v_iv (n_v vs 8)) (v_iv (n_v vs 9)) (v_iv (n_v vs 10)) (v_iv (n_v vs 11)) (w_ei ws (w_ar ws (n_v vs 0) 96)) (w_ei ws (w_ar ws (n_v vs 0) 98)) k1 k2 k4 k5 k7 k8 k9 k10 k11 d0 d1 d2 d3 d4 d5 d6 d7 d8 d9 d10 f0 f1 h2 f3 h5 f6 f7 f8 f9 f10 hK_0_96 hK_0_98
  refine ⟨(fun _ h => (by cases h)), [], trivial, ?_, (fun _ h => (by cases h))⟩
  rw [List.append_nil]
  exact List.forall_mem_cons.mpr ⟨⟨show (20 : Nat) < 100 from by decide, nf0⟩, (fun _ h => (by cases h))⟩
set_option maxHeartbeats 4000000 in
theorem vc_Mo_nextOrder_at_gm_4_0 (x1 : Int) (x2 : Int) (x4 : Int) (x5 : Int) (x6 : Int) (x8 : Int) (x9 : Int) (x10 : Int) (x11 : Int) (x12 : Int) (x13 : Int) (x14 : Int) (x15 : Int) (order_2 : Int → Int) (member_2 : Int → Int) (order_0 : Int → Int) (order_1 : Int → Int) (member_0 : Int → Int) (member_1 : Int → Int) (k1 : 0 ≤ x1 ∧ x1 ≤ 26) (k2 : (-2) ≤ x2 ∧ x2 ≤ 16777216) (k4 : 2 ≤ x4 ∧ x4 ≤ 26) (k5 : 0 ≤ x5 ∧ x5 ≤ 24) (k6 : 0 ≤ x6 ∧ x6 ≤ 25) (k8 : 0 ≤ x8 ∧ x8 ≤ 25) (k9 : 0 ≤ x9 ∧ x9 ≤ 25) (k10 : 0 ≤ x10 ∧ x10 ≤ 25) (k11 : 0 ≤ x11 ∧ x11 ≤ 25) (k12 : 1 ≤ x12 ∧ x12 ≤ 1) (k13 : 1 ≤ x13 ∧ x13 ≤ 25) (k14 : 1 ≤ x14 ∧ x14 ≤ 1) (k15 : 1 ≤ x15 ∧ x15 ≤ 25) (d0 : x4 + (-1) ≤ x15 ∧ x15 ≤ x4 + (-1)) (d1 : x1 + (-4294967296) ≤ x15 ∧ x15 ≤ x1 + (-1)) (d2 : x5 + 1 ≤ x13 ∧ x13 ≤ x5 + 1) (d3 : x1 + (-4294967296) ≤ x13 ∧ x13 ≤ x1 + (-1)) (d4 : x4 + (-4294967296) ≤ x13 ∧ x13 ≤ x4 + (-1)) (d5 : x9 + 0 ≤ x8 ∧ x8 ≤ x9 + 4294967296) (d6 : x4 + (-4294967296) ≤ x1 ∧ x1 ≤ x4 + 0) (d7 : x1 + (-4294967296) ≤ x4 ∧ x4 ≤ x1 + 0) (d8 : x1 + (-4294967296) ≤ x5 ∧ x5 ≤ x1 + (-2)) (d9 : x4 + (-4294967296) ≤ x5 ∧ x5 ≤ x4 + (-2)) (d10 : x1 + (-4294967296) ≤ x6 ∧ x6 ≤ x1 + (-1)) (d11 : x4 + (-4294967296) ≤ x6 ∧ x6 ≤ x4 + (-1)) (f0 : x15 = x1 - x14) (f1 : x13 = x5 + x12) (f2 : x1 ≤ 8) (f7 : x1 ≤ 8) (h9 : x11 = order_2 (x6)) (h10 : x10 = order_2 (x5)) (f11 : x9 ≤ x8) (h12 : x9 = order_2 (x5)) (h13 : x8 = order_2 (x6)) (f14 : SEM (order_2) (member_2) (x1)) (f15 : x1 ≤ 8) (f16 : NO2 (order_2) (x1) (x5) (x6)) (f17 : ORM (order_2) (x1) (x2)) (hE_0_96_1 : ∀ j : Int, 0 ≤ j → (j = x6 → order_0 j = x10) ∧ (j ≠ x6 → order_0 j = order_1 j)) (hE_0_96_2 : ∀ j : Int, 0 ≤ j → (j = x5 → order_1 j = x11) ∧ (j ≠ x5 → order_1 j = order_2 j)) (hK_0_96 : ∀ j : Int, 0 ≤ j → j < 26 → 0 ≤ order_0 j ∧ order_0 j ≤ 25) (hE_0_98_1 : ∀ j : Int, member_0 j = member_1 j) (hE_0_98_2 : ∀ j : Int, member_1 j = member_2 j) (hK_0_98 : ∀ j : Int, 0 ≤ j → j < 26 → 0 ≤ member_0 j ∧ member_0 j ≤ 25) : SEM (order_0) (member_0) (x1) := by
  have e_hE_0_98_1 := funext hE_0_98_1; subst e_hE_0_98_1
  have e_hE_0_98_2 := funext hE_0_98_2; subst e_hE_0_98_2
  first
    | assumption
    | (have h := ‹NO2 _ _ _ _›
       have h2 := h.2.1
       have h4 := h.2.2.2
       exact sem_swp (a := x5) (b := x6) ‹SEM _ _ _› (by omega) (by omega) (by omega) (by omega) (swp_st (by omega) (by omega) (by omega) (by assumption) (by omega) (by omega) (by assumption) (by omega) (by omega)))
    | (have h := ‹NO3 _ _ _ _ _ _›
       have h2 := h.2.1
       have h3 := h.2.2.1
       have h4 := h.2.2.2.1
       exact sem_swp (a := x8) (b := x9) ‹SEM _ _ _› (by omega) (by omega) (by omega) (by omega) (swp_st (by omega) (by omega) (by omega) (by assumption) (by omega) (by omega) (by assumption) (by omega) (by omega)))
set_option maxHeartbeats 4000000 in
theorem vc_Mo_nextOrder_at_gm_4_1 (x1 : Int) (x2 : Int) (x4 : Int) (x5 : Int) (x6 : Int) (x8 : Int) (x9 : Int) (x10 : Int) (x11 : Int) (x12 : Int) (x13 : Int) (x14 : Int) (x15 : Int) (order_2 : Int → Int) (member_2 : Int → Int) (order_0 : Int → Int) (order_1 : Int → Int) (member_0 : Int → Int) (member_1 : Int → Int) (k1 : 0 ≤ x1 ∧ x1 ≤ 26) (k2 : (-2) ≤ x2 ∧ x2 ≤ 16777216) (k4 : 2 ≤ x4 ∧ x4 ≤ 26) (k5 : 0 ≤ x5 ∧ x5 ≤ 24) (k6 : 0 ≤ x6 ∧ x6 ≤ 25) (k8 : 0 ≤ x8 ∧ x8 ≤ 25) (k9 : 0 ≤ x9 ∧ x9 ≤ 25) (k10 : 0 ≤ x10 ∧ x10 ≤ 25) (k11 : 0 ≤ x11 ∧ x11 ≤ 25) (k12 : 1 ≤ x12 ∧ x12 ≤ 1) (k13 : 1 ≤ x13 ∧ x13 ≤ 25) (k14 : 1 ≤ x14 ∧ x14 ≤ 1) (k15 : 1 ≤ x15 ∧ x15 ≤ 25) (d0 : x4 + (-1) ≤ x15 ∧ x15 ≤ x4 + (-1)) (d1 : x1 + (-4294967296) ≤ x15 ∧ x15 ≤ x1 + (-1)) (d2 : x5 + 1 ≤ x13 ∧ x13 ≤ x5 + 1) (d3 : x1 + (-4294967296) ≤ x13 ∧ x13 ≤ x1 + (-1)) (d4 : x4 + (-4294967296) ≤ x13 ∧ x13 ≤ x4 + (-1)) (d5 : x9 + 0 ≤ x8 ∧ x8 ≤ x9 + 4294967296) (d6 : x4 + (-4294967296) ≤ x1 ∧ x1 ≤ x4 + 0) (d7 : x1 + (-4294967296) ≤ x4 ∧ x4 ≤ x1 + 0) (d8 : x1 + (-4294967296) ≤ x5 ∧ x5 ≤ x1 + (-2)) (d9 : x4 + (-4294967296) ≤ x5 ∧ x5 ≤ x4 + (-2)) (d10 : x1 + (-4294967296) ≤ x6 ∧ x6 ≤ x1 + (-1)) (d11 : x4 + (-4294967296) ≤ x6 ∧ x6 ≤ x4 + (-1)) (f0 : x15 = x1 - x14) (f1 : x13 = x5 + x12) (f2 : x1 ≤ 8) (f7 : x1 ≤ 8) (h9 : x11 = order_2 (x6)) (h10 : x10 = order_2 (x5)) (f11 : x9 ≤ x8) (h12 : x9 = order_2 (x5)) (h13 : x8 = order_2 (x6)) (f14 : SEM (order_2) (member_2) (x1)) (f15 : x1 ≤ 8) (f16 : NO2 (order_2) (x1) (x5) (x6)) (f17 : ORM (order_2) (x1) (x2)) (hE_0_96_1 : ∀ j : Int, 0 ≤ j → (j = x6 → order_0 j = x10) ∧ (j ≠ x6 → order_0 j = order_1 j)) (hE_0_96_2 : ∀ j : Int, 0 ≤ j → (j = x5 → order_1 j = x11) ∧ (j ≠ x5 → order_1 j = order_2 j)) (hK_0_96 : ∀ j : Int, 0 ≤ j → j < 26 → 0 ≤ order_0 j ∧ order_0 j ≤ 25) (hE_0_98_1 : ∀ j : Int, member_0 j = member_1 j) (hE_0_98_2 : ∀ j : Int, member_1 j = member_2 j) (hK_0_98 : ∀ j : Int, 0 ≤ j → j < 26 → 0 ≤ member_0 j ∧ member_0 j ≤ 25) : NO3 (order_0) (x1) (x5) (x13) (x15) (x2) := by
  have e_hE_0_98_1 := funext hE_0_98_1; subst e_hE_0_98_1
  have e_hE_0_98_2 := funext hE_0_98_2; subst e_hE_0_98_2
  first
    | (have h := ‹NO2 _ _ _ _›
       have h2 := h.2.1
       have h4 := h.2.2.2
       exact no3_start h (by omega) (swp_st (by omega) (by omega) (by omega) (by assumption) (by omega) (by omega) (by assumption) (by omega) (by omega)) (by omega) (by omega) ‹ORM _ _ _›)
    | (have h := ‹NO3 _ _ _ _ _ _›
       have h2 := h.2.1
       have h3 := h.2.2.1
       have h4 := h.2.2.2.1
       exact no3_step h (by omega) (swp_st (by omega) (by omega) (by omega) (by assumption) (by omega) (by omega) (by assumption) (by omega) (by omega)) (by omega) (by omega))
def o_Mo_nextOrder_at_gm_4 : or_T := (100, 16, [(0, (2, 0, 0, [165])), (1, (0, 0, 26, [])), (2, (0, -2, 16777216, [])), (4, (0, 2, 26, [])), (5, (0, 0, 24, [])), (6, (0, 0, 25, [])), (7, (2, 0, 0, [232])), (8, (0, 0, 25, [])), (9, (0, 0, 25, [])), (10, (0, 0, 25, [])), (11, (0, 0, 25, [])), (12, (0, 1, 1, [])), (13, (0, 1, 25, [])), (14, (0, 1, 1, [])), (15, (0, 1, 25, []))], [(2, [15, 4, 14], []), (1, [13, 5, 12], []), (20, [4], [50, 0, 0, 0, 2, 1, 0, 0, 8]), (24, [0, 3], []), (24, [1, 4], []), (100, [7, 6, 10], []), (9, [7, 3], [96]), (20, [4], [50, 0, 0, 0, 2, 1, 0, 0, 8]), (100, [7, 5, 11], []), (10, [11, 7, 6], []), (10, [10, 7, 5], []), (7, [8, 9], [3]), (10, [9, 7, 5], []), (10, [8, 7, 6], []), (20, [3, 4], [60, 0, 2, 328, 96, 98]), (20, [4], [50, 0, 0, 0, 2, 1, 0, 0, 8]), (20, [3, 4, 5, 6], [60, 0, 1, 326, 96]), (20, [3, 4, 2], [60, 0, 1, 323, 96])], [], [], [(20, [3, 4], [60, 0, 2, 328, 96, 98]), (20, [3, 4, 5, 13, 15, 2], [60, 0, 1, 327, 96])], [], [(15, 4, -1, -1), (15, 1, -4294967296, -1), (13, 5, 1, 1), (13, 1, -4294967296, -1), (13, 4, -4294967296, -1), (8, 9, 0, 4294967296), (1, 4, -4294967296, 0), (4, 1, -4294967296, 0), (5, 1, -4294967296, -2), (5, 4, -4294967296, -2), (6, 1, -4294967296, -1), (6, 4, -4294967296, -1)])
theorem oo_Mo_nextOrder_at_gm_4 {kA : Nat → ClassId} : or_ok PRD kA GG o_Mo_nextOrder_at_gm_4 := by
  refine or_mk fun A ta ws vs hD hth hl => ?_
  intro t0 r0 t1 k1 t2 k2 t4 k4 t5 k5 t6 k6 t7 r7 t8 k8 t9 k9 t10 k10 t11 k11 t12 k12 t13 k13 t14 k14 t15 k15 d0 d1 d2 d3 d4 d5 d6 d7 d8 d9 d10 d11 f0 f1 f2 f3 f4 ta1 w1 le1 s1 f6 f7 ta2 w2 le2 s2 f9 f10 f11 f12 f13 f14 f15 f16 f17
  replace f0 := shm_14 f0
  replace f1 := shm_12 f1
  replace f2 := shm_647 f2
  replace f3 := shm_5 f3
  replace f4 := shm_5 f4
  have s1 : (∀ b j, w_el ws b j = if b = v_ad (n_v vs 7) ∧ j = (v_iv (n_v vs 6)).toNat then v_iv (n_v vs 10) else w_el w1 b j) ∧ ∀ b k, w_fd ws b k = w_fd w1 b k := s1.2
  replace f6 := shm_653 f6
  replace f7 := shm_647 f7
  have s2 : (∀ b j, w_el w1 b j = if b = v_ad (n_v vs 7) ∧ j = (v_iv (n_v vs 5)).toNat then v_iv (n_v vs 11) else w_el w2 b j) ∧ ∀ b k, w_fd w1 b k = w_fd w2 b k := s2.2
  replace f9 := shm_106 f9
  replace f10 := shm_106 f10
  replace f11 := shm_2 f11
  replace f12 := shm_106 f12
  replace f13 := shm_106 f13
  replace f14 := shm_650 f14
  replace f15 := shm_647 f15
  replace f16 := shm_654 f16
  replace f17 := shm_649 f17
  have q3 : n_v vs 3 = n_v vs 0 := f3.symm
  have q4 : n_v vs 4 = n_v vs 1 := f4.symm
  simp only [q4, q3] at f0 f2 f6 f7 f14 f15 f16 f17
  have ar_0_96_1 : w_ar w1 (n_v vs 0) 96 = w_ar ws (n_v vs 0) 96 := congrArg v_ad (s1.2 _ _).symm
  have ar_0_96_2 : w_ar w2 (n_v vs 0) 96 = w_ar ws (n_v vs 0) 96 := by rw [← ar_0_96_1]; show v_ad (w_fd w2 _ _) = v_ad (w_fd w1 _ _); rw [s2.2]
  have cr_0_96 := fdq_165 hD hth r0
  have ar_0_98_1 : w_ar w1 (n_v vs 0) 98 = w_ar ws (n_v vs 0) 98 := congrArg v_ad (s1.2 _ _).symm
  have ar_0_98_2 : w_ar w2 (n_v vs 0) 98 = w_ar ws (n_v vs 0) 98 := by rw [← ar_0_98_1]; show v_ad (w_fd w2 _ _) = v_ad (w_fd w1 _ _); rw [s2.2]
  have cr_0_98 := fdq_156 hD hth r0
  have ad_7 : v_ad (n_v vs 7) = w_ar ws (n_v vs 0) 96 := (congrArg v_ad f6).trans ar_0_96_1
  simp only [ad_7] at f9
  have h9 : v_iv (n_v vs 11) = w_ei w2 (w_ar ws (n_v vs 0) 96) (v_iv (n_v vs 6)) := f9
  simp only [ad_7] at f10
  have h10 : v_iv (n_v vs 10) = w_ei w2 (w_ar ws (n_v vs 0) 96) (v_iv (n_v vs 5)) := f10
  simp only [ad_7] at f12
  have h12 : v_iv (n_v vs 9) = w_ei w2 (w_ar ws (n_v vs 0) 96) (v_iv (n_v vs 5)) := f12
  simp only [ad_7] at f13
  have h13 : v_iv (n_v vs 8) = w_ei w2 (w_ar ws (n_v vs 0) 96) (v_iv (n_v vs 6)) := f13
  simp only [ar_0_96_2, ar_0_98_2] at f14 f16 f17
  have hE_0_96_1 : ∀ j : Int, 0 ≤ j → (j = v_iv (n_v vs 6) → w_ei ws (w_ar ws (n_v vs 0) 96) j = v_iv (n_v vs 10)) ∧ (j ≠ v_iv (n_v vs 6) → w_ei ws (w_ar ws (n_v vs 0) 96) j = w_ei w1 (w_ar ws (n_v vs 0) 96) j) := fun j hj => ⟨fun h => by unfold w_ei; rw [s1.1, if_pos ⟨ad_7.symm, by rw [h]⟩], fun h => by unfold w_ei; rw [s1.1, if_neg (fun e => h (by have := e.2; omega))]⟩
  have hE_0_96_2 : ∀ j : Int, 0 ≤ j → (j = v_iv (n_v vs 5) → w_ei w1 (w_ar ws (n_v vs 0) 96) j = v_iv (n_v vs 11)) ∧ (j ≠ v_iv (n_v vs 5) → w_ei w1 (w_ar ws (n_v vs 0) 96) j = w_ei w2 (w_ar ws (n_v vs 0) 96) j) := fun j hj => ⟨fun h => by unfold w_ei; rw [s2.1, if_pos ⟨ad_7.symm, by rw [h]⟩], fun h => by unfold w_ei; rw [s2.1, if_neg (fun e => h (by have := e.2; omega))]⟩
  have hK_0_96 := elq_93 hD hth cr_0_96
  have hE_0_98_1 : ∀ j : Int, w_ei ws (w_ar ws (n_v vs 0) 98) j = w_ei w1 (w_ar ws (n_v vs 0) 98) j := el_kp s1.1 r7 cr_0_98 (by decide)
  have hE_0_98_2 : ∀ j : Int, w_ei w1 (w_ar ws (n_v vs 0) 98) j = w_ei w2 (w_ar ws (n_v vs 0) 98) j := el_kp s2.1 r7 cr_0_98 (by decide)
  have hK_0_98 := elq_87 hD hth cr_0_98
  have nf0 : fc_1 PRD (20, [3, 4], [60, 0, 2, 328, 96, 98]) ws (vs) := by
    refine ⟨nf_in hl rfl, sgq_650 ?_⟩
    · show SEM (w_ei ws (w_ar ws (n_v vs 3) 96)) (w_ei ws (w_ar ws (n_v vs 3) 98)) (v_iv (n_v vs 4))
      simp only [q3, q4]
      exact vc_Mo_nextOrder_at_gm_4_0 (v_iv (n_v vs 1)) (v_iv (n_v vs 2)) (v_iv (n_v vs 4)) (v_iv (n_v vs 5)) (v_iv (n_v vs 6)) (v_iv (n_v vs 8)) (v_iv (n_v vs 9)) (v_iv (n_v vs 10)) (v_iv (n_v vs 11)) (v_iv (n_v vs 12)) (v_iv (n_v vs 13)) (v_iv (n_v vs 14)) (v_iv (n_v vs 15)) (w_ei w2 (w_ar ws (n_v vs 0) 96)) (w_ei w2 (w_ar ws (n_v vs 0) 98)) (w_ei ws (w_ar ws (n_v vs 0) 96)) (w_ei w1 (w_ar ws (n_v vs 0) 96)) (w_ei ws (w_ar ws (n_v vs 0) 98)) (w_ei w1 (w_ar ws (n_v vs 0) 98)) k1 k2 k4 k5 k6 k8 k9 k10 k11 k12 k13 k14 k15 d0 d1 d2 d3 d4 d5 d6 d7 d8 d9 d10 d11 f0 f1 f2 f7 h9 h10 f11 h12 h13 f14 f15 f16 f17 hE_0_96_1 hE_0_96_2 hK_0_96 hE_0_98_1 hE_0_98_2 hK_0_98
  have nf1 : fc_1 PRD (20, [3, 4, 5, 13, 15, 2], [60, 0, 1, 327, 96]) ws (vs) := by
    refine ⟨nf_in hl rfl, sgq_655 ?_⟩
    · show NO3 (w_ei ws (w_ar ws (n_v vs 3) 96)) (v_iv (n_v vs 4)) (v_iv (n_v vs 5)) (v_iv (n_v vs 13)) (v_iv (n_v vs 15)) (v_iv (n_v vs 2))
      simp only [q3, q4]
      exact vc_Mo_nextOrder_at_gm_4_1 (v_iv (n_v vs 1)) (v_iv (n_v vs 2)) (v_iv (n_v vs 4)) (v_iv (n_v vs 5)) (v_iv (n_v vs 6)) (v_iv (n_v vs 8)) (v_iv (n_v vs 9)) (v_iv (n_v vs 10)) (v_iv (n_v vs 11)) (v_iv (n_v vs 12)) (v_iv (n_v vs 13)) (v_iv (n_v vs 14)) (v_iv (n_v vs 15)) (w_ei w2 (w_ar ws (n_v vs 0) 96)) (w_ei w2 (w_ar ws (n_v vs 0) 98)) (w_ei ws (w_ar ws (n_v vs 0) 96)) (w_ei w1 (w_ar ws (n_v vs 0) 96)) (w_ei ws (w_ar ws (n_v vs 0) 98)) (w_ei w1 (w_ar ws (n_v vs 0) 98)) k1 k2 k4 k5 k6 k8 k9 k10 k11 k12 k13 k14 k15 d0 d1 d2 d3 d4 d5 d6 d7 d8 d9 d10 d11 f0 f1 f2 f7 h9 h10 f11 h12 h13 f14 f15 f16 f17 hE_0_96_1 hE_0_96_2 hK_0_96 hE_0_98_1 hE_0_98_2 hK_0_98
  refine ⟨(fun _ h => (by cases h)), [], trivial, ?_, (fun _ h => (by cases h))⟩
  rw [List.append_nil]
  exact List.forall_mem_cons.mpr ⟨⟨show (20 : Nat) < 100 from by decide, nf0⟩, List.forall_mem_cons.mpr ⟨⟨show (20 : Nat) < 100 from by decide, nf1⟩, (fun _ h => (by cases h))⟩⟩
set_option maxHeartbeats 4000000 in
theorem vc_Mo_nextOrder_at_gm_5_r0 (x1 : Int) (x2 : Int) (x4 : Int) (x5 : Int) (x6 : Int) (x8 : Int) (x9 : Int) (order_0 : Int → Int) (member_0 : Int → Int) (k1 : 0 ≤ x1 ∧ x1 ≤ 26) (k2 : (-2) ≤ x2 ∧ x2 ≤ 16777216) (k4 : 2 ≤ x4 ∧ x4 ≤ 26) (k5 : 0 ≤ x5 ∧ x5 ≤ 24) (k6 : 0 ≤ x6 ∧ x6 ≤ 25) (k8 : 0 ≤ x8 ∧ x8 ≤ 24) (k9 : 1 ≤ x9 ∧ x9 ≤ 25) (d0 : x9 + (-4294967296) ≤ x8 ∧ x8 ≤ x9 + (-1)) (d1 : x4 + (-4294967296) ≤ x1 ∧ x1 ≤ x4 + 0) (d2 : x1 + (-4294967296) ≤ x4 ∧ x4 ≤ x1 + 0) (d3 : x1 + (-4294967296) ≤ x5 ∧ x5 ≤ x1 + (-2)) (d4 : x4 + (-4294967296) ≤ x5 ∧ x5 ≤ x4 + (-2)) (d5 : x1 + (-4294967296) ≤ x6 ∧ x6 ≤ x1 + (-1)) (d6 : x4 + (-4294967296) ≤ x6 ∧ x6 ≤ x4 + (-1)) (f0 : x8 < x9) (h1 : x9 = order_0 (x5)) (h3 : x8 = order_0 (x6)) (f4 : SEM (order_0) (member_0) (x1)) (f5 : x1 ≤ 8) (f6 : NO2 (order_0) (x1) (x5) (x6)) (f7 : ORM (order_0) (x1) (x2)) (hK_0_96 : ∀ j : Int, 0 ≤ j → j < 26 → 0 ≤ order_0 j ∧ order_0 j ≤ 25) (hK_0_98 : ∀ j : Int, 0 ≤ j → j < 26 → 0 ≤ member_0 j ∧ member_0 j ≤ 25) : 1 ≤ x6 ∧ x6 ≤ 25 := by
  first
    | omega
    | (have h := ‹NO1 _ _ _›.2; omega)
    | (have h := ‹NO2 _ _ _ _›.2; omega)
    | (have h := ‹NO3 _ _ _ _ _ _›.2; omega)
def o_Mo_nextOrder_at_gm_5 : or_T := (56, 10, [(0, (2, 0, 0, [165])), (1, (0, 0, 26, [])), (2, (0, -2, 16777216, [])), (3, (2, 0, 0, [165])), (4, (0, 2, 26, [])), (5, (0, 0, 24, [])), (6, (0, 0, 25, [])), (7, (2, 0, 0, [232])), (8, (0, 0, 24, [])), (9, (0, 1, 25, []))], [(7, [8, 9], [2]), (10, [9, 7, 5], []), (9, [7, 3], [96]), (10, [8, 7, 6], []), (20, [3, 4], [60, 0, 2, 328, 96, 98]), (20, [4], [50, 0, 0, 0, 2, 1, 0, 0, 8]), (20, [3, 4, 5, 6], [60, 0, 1, 326, 96]), (20, [3, 4, 2], [60, 0, 1, 323, 96]), (24, [0, 3], []), (24, [1, 4], [])], [(6, (0, 1, 25, []))], [], [], [], [(8, 9, -4294967296, -1), (1, 4, -4294967296, 0), (4, 1, -4294967296, 0), (5, 1, -4294967296, -2), (5, 4, -4294967296, -2), (6, 1, -4294967296, -1), (6, 4, -4294967296, -1)])
theorem oo_Mo_nextOrder_at_gm_5 {kA : Nat → ClassId} : or_ok PRD kA GG o_Mo_nextOrder_at_gm_5 := by
  refine or_mk fun A ta ws vs hD hth hl => ?_
  intro t0 r0 t1 k1 t2 k2 t3 r3 t4 k4 t5 k5 t6 k6 t7 r7 t8 k8 t9 k9 d0 d1 d2 d3 d4 d5 d6 f0 f1 f2 f3 f4 f5 f6 f7 f8 f9
  replace f1 := shm_106 f1
  replace f2 := shm_653 f2
  replace f3 := shm_106 f3
  replace f4 := shm_650 f4
  replace f5 := shm_647 f5
  replace f6 := shm_654 f6
  replace f7 := shm_649 f7
  replace f8 := shm_5 f8
  replace f9 := shm_5 f9
  have q3 : n_v vs 3 = n_v vs 0 := f8.symm
  have q4 : n_v vs 4 = n_v vs 1 := f9.symm
  simp only [q3, q4] at f2 f4 f5 f6 f7
  have cr_0_96 := fdq_165 hD hth r0
  have cr_0_98 := fdq_156 hD hth r0
  have ad_7 : v_ad (n_v vs 7) = w_ar ws (n_v vs 0) 96 := congrArg v_ad f2
  simp only [ad_7] at f1
  have h1 : v_iv (n_v vs 9) = w_ei ws (w_ar ws (n_v vs 0) 96) (v_iv (n_v vs 5)) := f1
  simp only [ad_7] at f3
  have h3 : v_iv (n_v vs 8) = w_ei ws (w_ar ws (n_v vs 0) 96) (v_iv (n_v vs 6)) := f3
  have hK_0_96 := elq_93 hD hth cr_0_96
  have hK_0_98 := elq_87 hD hth cr_0_98
  have hrf0 : 1 ≤ v_iv (n_v vs 6) ∧ v_iv (n_v vs 6) ≤ 25 := vc_Mo_nextOrder_at_gm_5_r0 (v_iv (n_v vs 1)) (v_iv (n_v vs 2)) (v_iv (n_v vs 4)) (v_iv (n_v vs 5)) (v_iv (n_v vs 6)) (v_iv (n_v vs 8)) (v_iv (n_v vs 9)) (w_ei ws (w_ar ws (n_v vs 0) 96)) (w_ei ws (w_ar ws (n_v vs 0) 98)) k1 k2 k4 k5 k6 k8 k9 d0 d1 d2 d3 d4 d5 d6 (shm_6 f0) h1 h3 f4 f5 f6 f7 hK_0_96 hK_0_98
  have rf6 : tv_ok ta (0, 1, 25, []) (n_v vs 6) := tv_in t6 (by first | omega | grind) (by first | omega | grind)
  refine ⟨List.forall_mem_cons.mpr ⟨rf6, (fun _ h => (by cases h))⟩, [], trivial, ?_, (fun _ h => (by cases h))⟩
  rw [List.append_nil]
  exact (fun _ h => (by cases h))
set_option maxHeartbeats 4000000 in
theorem vc_Mo_nextOrder_at_gm_6_0 (x1 : Int) (x2 : Int) (x4 : Int) (x5 : Int) (x6 : Int) (x8 : Int) (x9 : Int) (x10 : Int) (order_0 : Int → Int) (member_0 : Int → Int) (k1 : 0 ≤ x1 ∧ x1 ≤ 26) (k2 : (-2) ≤ x2 ∧ x2 ≤ 16777216) (k4 : 2 ≤ x4 ∧ x4 ≤ 26) (k5 : 0 ≤ x5 ∧ x5 ≤ 24) (k6 : 1 ≤ x6 ∧ x6 ≤ 25) (k8 : 0 ≤ x8 ∧ x8 ≤ 24) (k9 : 1 ≤ x9 ∧ x9 ≤ 25) (k10 : 0 ≤ x10 ∧ x10 ≤ 24) (d0 : x6 + (-1) ≤ x10 ∧ x10 ≤ x6 + (-1)) (d1 : x1 + (-4294967296) ≤ x10 ∧ x10 ≤ x1 + (-2)) (d2 : x4 + (-4294967296) ≤ x10 ∧ x10 ≤ x4 + (-2)) (d3 : x9 + (-4294967296) ≤ x8 ∧ x8 ≤ x9 + (-1)) (d4 : x4 + (-4294967296) ≤ x1 ∧ x1 ≤ x4 + 0) (d5 : x1 + (-4294967296) ≤ x4 ∧ x4 ≤ x1 + 0) (d6 : x1 + (-4294967296) ≤ x5 ∧ x5 ≤ x1 + (-2)) (d7 : x4 + (-4294967296) ≤ x5 ∧ x5 ≤ x4 + (-2)) (d8 : x1 + (-4294967296) ≤ x6 ∧ x6 ≤ x1 + (-1)) (d9 : x4 + (-4294967296) ≤ x6 ∧ x6 ≤ x4 + (-1)) (f0 : x10 = x6 + (-1)) (f1 : x8 < x9) (h2 : x9 = order_0 (x5)) (h4 : x8 = order_0 (x6)) (f5 : SEM (order_0) (member_0) (x1)) (f6 : x1 ≤ 8) (f7 : NO2 (order_0) (x1) (x5) (x6)) (f8 : ORM (order_0) (x1) (x2)) (hK_0_96 : ∀ j : Int, 0 ≤ j → j < 26 → 0 ≤ order_0 j ∧ order_0 j ≤ 25) (hK_0_98 : ∀ j : Int, 0 ≤ j → j < 26 → 0 ≤ member_0 j ∧ member_0 j ≤ 25) : NO2 (order_0) (x1) (x5) (x10) := by
  first
    | exact no2_start ‹NO1 _ _ _› (by omega) (by rw [← (by omega : x9 = x5 + 1)]; omega) (by omega)
    | exact no2_step ‹NO2 _ _ _ _› (by omega) (by omega)
def o_Mo_nextOrder_at_gm_6 : or_T := (41, 11, [(0, (2, 0, 0, [165])), (1, (0, 0, 26, [])), (2, (0, -2, 16777216, [])), (4, (0, 2, 26, [])), (5, (0, 0, 24, [])), (6, (0, 1, 25, [])), (8, (0, 0, 24, [])), (9, (0, 1, 25, [])), (10, (0, 0, 24, []))], [(6, [10, 6], [-1]), (7, [8, 9], [2]), (10, [9, 7, 5], []), (9, [7, 3], [96]), (10, [8, 7, 6], []), (20, [3, 4], [60, 0, 2, 328, 96, 98]), (20, [4], [50, 0, 0, 0, 2, 1, 0, 0, 8]), (20, [3, 4, 5, 6], [60, 0, 1, 326, 96]), (20, [3, 4, 2], [60, 0, 1, 323, 96]), (24, [0, 3], []), (24, [1, 4], [])], [], [], [(20, [3, 4, 5, 10], [60, 0, 1, 326, 96])], [], [(10, 6, -1, -1), (10, 1, -4294967296, -2), (10, 4, -4294967296, -2), (8, 9, -4294967296, -1), (1, 4, -4294967296, 0), (4, 1, -4294967296, 0), (5, 1, -4294967296, -2), (5, 4, -4294967296, -2), (6, 1, -4294967296, -1), (6, 4, -4294967296, -1)])
theorem oo_Mo_nextOrder_at_gm_6 {kA : Nat → ClassId} : or_ok PRD kA GG o_Mo_nextOrder_at_gm_6 := by
  refine or_mk fun A ta ws vs hD hth hl => ?_
  intro t0 r0 t1 k1 t2 k2 t4 k4 t5 k5 t6 k6 t8 k8 t9 k9 t10 k10 d0 d1 d2 d3 d4 d5 d6 d7 d8 d9 f0 f1 f2 f3 f4 f5 f6 f7 f8 f9 f10
  replace f0 := shm_198 f0
  replace f1 := shm_6 f1
  replace f2 := shm_106 f2
  replace f3 := shm_653 f3
  replace f4 := shm_106 f4
  replace f5 := shm_650 f5
  replace f6 := shm_647 f6
  replace f7 := shm_654 f7
  replace f8 := shm_649 f8
  replace f9 := shm_5 f9
  replace f10 := shm_5 f10
  have q3 : n_v vs 3 = n_v vs 0 := f9.symm
  have q4 : n_v vs 4 = n_v vs 1 := f10.symm
  simp only [q3, q4] at f3 f5 f6 f7 f8
  have cr_0_96 := fdq_165 hD hth r0
  have cr_0_98 := fdq_156 hD hth r0
  have ad_7 : v_ad (n_v vs 7) = w_ar ws (n_v vs 0) 96 := congrArg v_ad f3
  simp only [ad_7] at f2
  have h2 : v_iv (n_v vs 9) = w_ei ws (w_ar ws (n_v vs 0) 96) (v_iv (n_v vs 5)) := f2
  simp only [ad_7] at f4
  have h4 : v_iv (n_v vs 8) = w_ei ws (w_ar ws (n_v vs 0) 96) (v_iv (n_v vs 6)) := f4
  have hK_0_96 := elq_93 hD hth cr_0_96
  have hK_0_98 := elq_87 hD hth cr_0_98
  have nf0 : fc_1 PRD (20, [3, 4, 5, 10], [60, 0, 1, 326, 96]) ws (vs) := by
    refine ⟨nf_in hl rfl, sgq_654 ?_⟩
    · show NO2 (w_ei ws (w_ar ws (n_v vs 3) 96)) (v_iv (n_v vs 4)) (v_iv (n_v vs 5)) (v_iv (n_v vs 10))
      simp only [q3, q4]
      exact vc_Mo_nextOrder_at_gm_6_0 (v_iv (n_v vs 1)) (v_iv (n_v vs 2)) (v_iv (n_v vs 4)) (v_iv (n_v vs 5)) (v_iv (n_v vs 6)) (v_iv (n_v vs 8)) (v_iv (n_v vs 9)) (v_iv (n_v vs 10)) (w_ei ws (w_ar ws (n_v vs 0) 96)) (w_ei ws (w_ar ws (n_v vs 0) 98)) k1 k2 k4 k5 k6 k8 k9 k10 d0 d1 d2 d3 d4 d5 d6 d7 d8 d9 f0 f1 h2 h4 f5 f6 f7 f8 hK_0_96 hK_0_98
  refine ⟨(fun _ h => (by cases h)), [], trivial, ?_, (fun _ h => (by cases h))⟩
  rw [List.append_nil]
  exact List.forall_mem_cons.mpr ⟨⟨show (20 : Nat) < 100 from by decide, nf0⟩, (fun _ h => (by cases h))⟩
set_option maxHeartbeats 4000000 in
theorem vc_Mo_nextOrder_at_gm_7_0 (x1 : Int) (x2 : Int) (x4 : Int) (x5 : Int) (x8 : Int) (x9 : Int) (x10 : Int) (order_0 : Int → Int) (member_0 : Int → Int) (k1 : 2 ≤ x1 ∧ x1 ≤ 26) (k2 : (-2) ≤ x2 ∧ x2 ≤ 16777216) (k4 : 2 ≤ x4 ∧ x4 ≤ 26) (k5 : 0 ≤ x5 ∧ x5 ≤ 24) (k8 : 1 ≤ x8 ∧ x8 ≤ 25) (k9 : 1 ≤ x9 ∧ x9 ≤ 25) (k10 : 1 ≤ x10 ∧ x10 ≤ 1) (d0 : x9 + 0 ≤ x8 ∧ x8 ≤ x9 + 4294967296) (d1 : x4 + (-4294967296) ≤ x1 ∧ x1 ≤ x4 + 0) (d2 : x1 + (-4294967296) ≤ x4 ∧ x4 ≤ x1 + 0) (d3 : x1 + (-4294967296) ≤ x5 ∧ x5 ≤ x1 + (-2)) (d4 : x4 + (-4294967296) ≤ x5 ∧ x5 ≤ x4 + (-2)) (d5 : x8 + (-4294967296) ≤ x5 ∧ x5 ≤ x8 + (-1)) (d6 : x1 + (-4294967296) ≤ x8 ∧ x8 ≤ x1 + (-1)) (d7 : x4 + (-4294967296) ≤ x8 ∧ x8 ≤ x4 + (-1)) (d8 : x9 + (-4294967296) ≤ x8 ∧ x8 ≤ x9 + 1) (d9 : x1 + (-4294967296) ≤ x9 ∧ x9 ≤ x1 + (-1)) (d10 : x4 + (-4294967296) ≤ x9 ∧ x9 ≤ x4 + (-1)) (f0 : x9 ≤ x8) (f1 : SEM (order_0) (member_0) (x1)) (f2 : x1 ≤ 8) (f3 : NO3 (order_0) (x1) (x5) (x8) (x9) (x2)) (hK_0_96 : ∀ j : Int, 0 ≤ j → j < 26 → 0 ≤ order_0 j ∧ order_0 j ≤ 25) (hK_0_98 : ∀ j : Int, 0 ≤ j → j < 26 → 0 ≤ member_0 j ∧ member_0 j ≤ 25) : DIS (order_0) (x1) := by
  exact ‹NO3 _ _ _ _ _ _›.1
set_option maxHeartbeats 4000000 in
theorem vc_Mo_nextOrder_at_gm_7_1 (x1 : Int) (x2 : Int) (x4 : Int) (x5 : Int) (x8 : Int) (x9 : Int) (x10 : Int) (order_0 : Int → Int) (member_0 : Int → Int) (k1 : 2 ≤ x1 ∧ x1 ≤ 26) (k2 : (-2) ≤ x2 ∧ x2 ≤ 16777216) (k4 : 2 ≤ x4 ∧ x4 ≤ 26) (k5 : 0 ≤ x5 ∧ x5 ≤ 24) (k8 : 1 ≤ x8 ∧ x8 ≤ 25) (k9 : 1 ≤ x9 ∧ x9 ≤ 25) (k10 : 1 ≤ x10 ∧ x10 ≤ 1) (d0 : x9 + 0 ≤ x8 ∧ x8 ≤ x9 + 4294967296) (d1 : x4 + (-4294967296) ≤ x1 ∧ x1 ≤ x4 + 0) (d2 : x1 + (-4294967296) ≤ x4 ∧ x4 ≤ x1 + 0) (d3 : x1 + (-4294967296) ≤ x5 ∧ x5 ≤ x1 + (-2)) (d4 : x4 + (-4294967296) ≤ x5 ∧ x5 ≤ x4 + (-2)) (d5 : x8 + (-4294967296) ≤ x5 ∧ x5 ≤ x8 + (-1)) (d6 : x1 + (-4294967296) ≤ x8 ∧ x8 ≤ x1 + (-1)) (d7 : x4 + (-4294967296) ≤ x8 ∧ x8 ≤ x4 + (-1)) (d8 : x9 + (-4294967296) ≤ x8 ∧ x8 ≤ x9 + 1) (d9 : x1 + (-4294967296) ≤ x9 ∧ x9 ≤ x1 + (-1)) (d10 : x4 + (-4294967296) ≤ x9 ∧ x9 ≤ x4 + (-1)) (f0 : x9 ≤ x8) (f1 : SEM (order_0) (member_0) (x1)) (f2 : x1 ≤ 8) (f3 : NO3 (order_0) (x1) (x5) (x8) (x9) (x2)) (hK_0_96 : ∀ j : Int, 0 ≤ j → j < 26 → 0 ≤ order_0 j ∧ order_0 j ≤ 25) (hK_0_98 : ∀ j : Int, 0 ≤ j → j < 26 → 0 ≤ member_0 j ∧ member_0 j ≤ 25) : ORN (order_0) (x1) (x2) (x10) := by
  exact no3_end (by omega) ‹NO3 _ _ _ _ _ _›
set_option maxHeartbeats 4000000 in
theorem vc_Mo_nextOrder_at_gm_7_2 (x1 : Int) (x2 : Int) (x4 : Int) (x5 : Int) (x8 : Int) (x9 : Int) (x10 : Int) (order_0 : Int → Int) (member_0 : Int → Int) (k1 : 2 ≤ x1 ∧ x1 ≤ 26) (k2 : (-2) ≤ x2 ∧ x2 ≤ 16777216) (k4 : 2 ≤ x4 ∧ x4 ≤ 26) (k5 : 0 ≤ x5 ∧ x5 ≤ 24) (k8 : 1 ≤ x8 ∧ x8 ≤ 25) (k9 : 1 ≤ x9 ∧ x9 ≤ 25) (k10 : 1 ≤ x10 ∧ x10 ≤ 1) (d0 : x9 + 0 ≤ x8 ∧ x8 ≤ x9 + 4294967296) (d1 : x4 + (-4294967296) ≤ x1 ∧ x1 ≤ x4 + 0) (d2 : x1 + (-4294967296) ≤ x4 ∧ x4 ≤ x1 + 0) (d3 : x1 + (-4294967296) ≤ x5 ∧ x5 ≤ x1 + (-2)) (d4 : x4 + (-4294967296) ≤ x5 ∧ x5 ≤ x4 + (-2)) (d5 : x8 + (-4294967296) ≤ x5 ∧ x5 ≤ x8 + (-1)) (d6 : x1 + (-4294967296) ≤ x8 ∧ x8 ≤ x1 + (-1)) (d7 : x4 + (-4294967296) ≤ x8 ∧ x8 ≤ x4 + (-1)) (d8 : x9 + (-4294967296) ≤ x8 ∧ x8 ≤ x9 + 1) (d9 : x1 + (-4294967296) ≤ x9 ∧ x9 ≤ x1 + (-1)) (d10 : x4 + (-4294967296) ≤ x9 ∧ x9 ≤ x4 + (-1)) (f0 : x9 ≤ x8) (f1 : SEM (order_0) (member_0) (x1)) (f2 : x1 ≤ 8) (f3 : NO3 (order_0) (x1) (x5) (x8) (x9) (x2)) (hK_0_96 : ∀ j : Int, 0 ≤ j → j < 26 → 0 ≤ order_0 j ∧ order_0 j ≤ 25) (hK_0_98 : ∀ j : Int, 0 ≤ j → j < 26 → 0 ≤ member_0 j ∧ member_0 j ≤ 25) : SEM (order_0) (member_0) (x1) := by
  first
    | assumption
    | (have h := ‹NO2 _ _ _ _›
       have h2 := h.2.1
       have h4 := h.2.2.2
       exact sem_swp (a := x5) (b := x6) ‹SEM _ _ _› (by omega) (by omega) (by omega) (by omega) (swp_st (by omega) (by omega) (by omega) (by assumption) (by omega) (by omega) (by assumption) (by omega) (by omega)))
    | (have h := ‹NO3 _ _ _ _ _ _›
       have h2 := h.2.1
       have h3 := h.2.2.1
       have h4 := h.2.2.2.1
       exact sem_swp (a := x8) (b := x9) ‹SEM _ _ _› (by omega) (by omega) (by omega) (by omega) (swp_st (by omega) (by omega) (by omega) (by assumption) (by omega) (by omega) (by assumption) (by omega) (by omega)))
def o_Mo_nextOrder_at_gm_7 : or_T := (149, 11, [(0, (2, 0, 0, [165])), (1, (0, 2, 26, [])), (2, (0, -2, 16777216, [])), (4, (0, 2, 26, [])), (5, (0, 0, 24, [])), (8, (0, 1, 25, [])), (9, (0, 1, 25, [])), (10, (0, 1, 1, []))], [(7, [8, 9], [3]), (20, [3, 4], [60, 0, 2, 328, 96, 98]), (20, [4], [50, 0, 0, 0, 2, 1, 0, 0, 8]), (20, [3, 4, 5, 8, 9, 2], [60, 0, 1, 327, 96]), (24, [0, 3], []), (24, [1, 4], [])], [], [], [(20, [0, 1], [60, 0, 1, 322, 96]), (20, [0, 1, 2, 10], [60, 0, 1, 324, 96]), (20, [0, 1], [60, 0, 2, 328, 96, 98])], [], [(8, 9, 0, 4294967296), (1, 4, -4294967296, 0), (4, 1, -4294967296, 0), (5, 1, -4294967296, -2), (5, 4, -4294967296, -2), (5, 8, -4294967296, -1), (8, 1, -4294967296, -1), (8, 4, -4294967296, -1), (8, 9, -4294967296, 1), (9, 1, -4294967296, -1), (9, 4, -4294967296, -1)])
theorem oo_Mo_nextOrder_at_gm_7 {kA : Nat → ClassId} : or_ok PRD kA GG o_Mo_nextOrder_at_gm_7 := by
  refine or_mk fun A ta ws vs hD hth hl => ?_
  intro t0 r0 t1 k1 t2 k2 t4 k4 t5 k5 t8 k8 t9 k9 t10 k10 d0 d1 d2 d3 d4 d5 d6 d7 d8 d9 d10 f0 f1 f2 f3 f4 f5
  replace f1 := shm_650 f1
  replace f2 := shm_647 f2
  replace f3 := shm_655 f3
  replace f4 := shm_5 f4
  replace f5 := shm_5 f5
  have q3 : n_v vs 3 = n_v vs 0 := f4.symm
  have q4 : n_v vs 4 = n_v vs 1 := f5.symm
  simp only [q3, q4] at f1 f2 f3
  have cr_0_96 := fdq_165 hD hth r0
  have cr_0_98 := fdq_156 hD hth r0
  have hK_0_96 := elq_93 hD hth cr_0_96
  have hK_0_98 := elq_87 hD hth cr_0_98
  have nf0 : fc_1 PRD (20, [0, 1], [60, 0, 1, 322, 96]) ws (vs) := ⟨nf_in hl rfl, sgq_648 (vc_Mo_nextOrder_at_gm_7_0 (v_iv (n_v vs 1)) (v_iv (n_v vs 2)) (v_iv (n_v vs 4)) (v_iv (n_v vs 5)) (v_iv (n_v vs 8)) (v_iv (n_v vs 9)) (v_iv (n_v vs 10)) (w_ei ws (w_ar ws (n_v vs 0) 96)) (w_ei ws (w_ar ws (n_v vs 0) 98)) k1 k2 k4 k5 k8 k9 k10 d0 d1 d2 d3 d4 d5 d6 d7 d8 d9 d10 (shm_2 f0) f1 f2 f3 hK_0_96 hK_0_98)⟩
  have nf1 : fc_1 PRD (20, [0, 1, 2, 10], [60, 0, 1, 324, 96]) ws (vs) := ⟨nf_in hl rfl, sgq_652 (vc_Mo_nextOrder_at_gm_7_1 (v_iv (n_v vs 1)) (v_iv (n_v vs 2)) (v_iv (n_v vs 4)) (v_iv (n_v vs 5)) (v_iv (n_v vs 8)) (v_iv (n_v vs 9)) (v_iv (n_v vs 10)) (w_ei ws (w_ar ws (n_v vs 0) 96)) (w_ei ws (w_ar ws (n_v vs 0) 98)) k1 k2 k4 k5 k8 k9 k10 d0 d1 d2 d3 d4 d5 d6 d7 d8 d9 d10 (shm_2 f0) f1 f2 f3 hK_0_96 hK_0_98)⟩
  have nf2 : fc_1 PRD (20, [0, 1], [60, 0, 2, 328, 96, 98]) ws (vs) := ⟨nf_in hl rfl, sgq_650 (vc_Mo_nextOrder_at_gm_7_2 (v_iv (n_v vs 1)) (v_iv (n_v vs 2)) (v_iv (n_v vs 4)) (v_iv (n_v vs 5)) (v_iv (n_v vs 8)) (v_iv (n_v vs 9)) (v_iv (n_v vs 10)) (w_ei ws (w_ar ws (n_v vs 0) 96)) (w_ei ws (w_ar ws (n_v vs 0) 98)) k1 k2 k4 k5 k8 k9 k10 d0 d1 d2 d3 d4 d5 d6 d7 d8 d9 d10 (shm_2 f0) f1 f2 f3 hK_0_96 hK_0_98)⟩
  refine ⟨(fun _ h => (by cases h)), [], trivial, ?_, (fun _ h => (by cases h))⟩
  rw [List.append_nil]
  exact List.forall_mem_cons.mpr ⟨⟨show (20 : Nat) < 100 from by decide, nf0⟩, List.forall_mem_cons.mpr ⟨⟨show (20 : Nat) < 100 from by decide, nf1⟩, List.forall_mem_cons.mpr ⟨⟨show (20 : Nat) < 100 from by decide, nf2⟩, (fun _ h => (by cases h))⟩⟩⟩
set_option maxHeartbeats 4000000 in
theorem vc_Mo_nextOrder_at_gm_8_0 (x1 : Int) (x2 : Int) (x4 : Int) (x5 : Int) (x8 : Int) (x9 : Int) (x11 : Int) (x12 : Int) (x13 : Int) (x14 : Int) (order_2 : Int → Int) (member_2 : Int → Int) (order_0 : Int → Int) (order_1 : Int → Int) (member_0 : Int → Int) (member_1 : Int → Int) (k1 : 3 ≤ x1 ∧ x1 ≤ 26) (k2 : (-2) ≤ x2 ∧ x2 ≤ 16777216) (k4 : 3 ≤ x4 ∧ x4 ≤ 26) (k5 : 0 ≤ x5 ∧ x5 ≤ 23) (k8 : 1 ≤ x8 ∧ x8 ≤ 24) (k9 : 2 ≤ x9 ∧ x9 ≤ 25) (k11 : 0 ≤ x11 ∧ x11 ≤ 25) (k12 : 0 ≤ x12 ∧ x12 ≤ 25) (k13 : 2 ≤ x13 ∧ x13 ≤ 25) (k14 : 1 ≤ x14 ∧ x14 ≤ 24) (d0 : x9 + (-1) ≤ x14 ∧ x14 ≤ x9 + (-1)) (d1 : x1 + (-4294967296) ≤ x14 ∧ x14 ≤ x1 + (-2)) (d2 : x4 + (-4294967296) ≤ x14 ∧ x14 ≤ x4 + (-2)) (d3 : x8 + 1 ≤ x13 ∧ x13 ≤ x8 + 1) (d4 : x9 + (-4294967296) ≤ x13 ∧ x13 ≤ x9 + 0) (d5 : x1 + (-4294967296) ≤ x13 ∧ x13 ≤ x1 + 0) (d6 : x4 + (-4294967296) ≤ x13 ∧ x13 ≤ x4 + 0) (d7 : x9 + (-4294967296) ≤ x13 ∧ x13 ≤ x9 + 2) (d8 : x9 + (-4294967296) ≤ x8 ∧ x8 ≤ x9 + (-1)) (d9 : x4 + (-4294967296) ≤ x1 ∧ x1 ≤ x4 + 0) (d10 : x1 + (-4294967296) ≤ x4 ∧ x4 ≤ x1 + 0) (d11 : x1 + (-4294967296) ≤ x5 ∧ x5 ≤ x1 + (-2)) (d12 : x4 + (-4294967296) ≤ x5 ∧ x5 ≤ x4 + (-2)) (d13 : x8 + (-4294967296) ≤ x5 ∧ x5 ≤ x8 + (-1)) (d14 : x1 + (-4294967296) ≤ x8 ∧ x8 ≤ x1 + (-1)) (d15 : x4 + (-4294967296) ≤ x8 ∧ x8 ≤ x4 + (-1)) (d16 : x9 + (-4294967296) ≤ x8 ∧ x8 ≤ x9 + 1) (d17 : x1 + (-4294967296) ≤ x9 ∧ x9 ≤ x1 + (-1)) (d18 : x4 + (-4294967296) ≤ x9 ∧ x9 ≤ x4 + (-1)) (f0 : x14 = x9 + (-1)) (f1 : x13 = x8 + 1) (f2 : x1 ≤ 8) (f7 : x1 ≤ 8) (h9 : x12 = order_2 (x9)) (h10 : x11 = order_2 (x8)) (f11 : x8 < x9) (f12 : SEM (order_2) (member_2) (x1)) (f13 : x1 ≤ 8) (f14 : NO3 (order_2) (x1) (x5) (x8) (x9) (x2)) (hE_0_96_1 : ∀ j : Int, 0 ≤ j → (j = x9 → order_0 j = x11) ∧ (j ≠ x9 → order_0 j = order_1 j)) (hE_0_96_2 : ∀ j : Int, 0 ≤ j → (j = x8 → order_1 j = x12) ∧ (j ≠ x8 → order_1 j = order_2 j)) (hK_0_96 : ∀ j : Int, 0 ≤ j → j < 26 → 0 ≤ order_0 j ∧ order_0 j ≤ 25) (hE_0_98_1 : ∀ j : Int, member_0 j = member_1 j) (hE_0_98_2 : ∀ j : Int, member_1 j = member_2 j) (hK_0_98 : ∀ j : Int, 0 ≤ j → j < 26 → 0 ≤ member_0 j ∧ member_0 j ≤ 25) : SEM (order_0) (member_0) (x1) := by
  have e_hE_0_98_1 := funext hE_0_98_1; subst e_hE_0_98_1
  have e_hE_0_98_2 := funext hE_0_98_2; subst e_hE_0_98_2
  first
    | assumption
    | (have h := ‹NO2 _ _ _ _›
       have h2 := h.2.1
       have h4 := h.2.2.2
       exact sem_swp (a := x5) (b := x6) ‹SEM _ _ _› (by omega) (by omega) (by omega) (by omega) (swp_st (by omega) (by omega) (by omega) (by assumption) (by omega) (by omega) (by assumption) (by omega) (by omega)))
    | (have h := ‹NO3 _ _ _ _ _ _›
       have h2 := h.2.1
       have h3 := h.2.2.1
       have h4 := h.2.2.2.1
       exact sem_swp (a := x8) (b := x9) ‹SEM _ _ _› (by omega) (by omega) (by omega) (by omega) (swp_st (by omega) (by omega) (by omega) (by assumption) (by omega) (by omega) (by assumption) (by omega) (by omega)))
set_option maxHeartbeats 4000000 in
theorem vc_Mo_nextOrder_at_gm_8_1 (x1 : Int) (x2 : Int) (x4 : Int) (x5 : Int) (x8 : Int) (x9 : Int) (x11 : Int) (x12 : Int) (x13 : Int) (x14 : Int) (order_2 : Int → Int) (member_2 : Int → Int) (order_0 : Int → Int) (order_1 : Int → Int) (member_0 : Int → Int) (member_1 : Int → Int) (k1 : 3 ≤ x1 ∧ x1 ≤ 26) (k2 : (-2) ≤ x2 ∧ x2 ≤ 16777216) (k4 : 3 ≤ x4 ∧ x4 ≤ 26) (k5 : 0 ≤ x5 ∧ x5 ≤ 23) (k8 : 1 ≤ x8 ∧ x8 ≤ 24) (k9 : 2 ≤ x9 ∧ x9 ≤ 25) (k11 : 0 ≤ x11 ∧ x11 ≤ 25) (k12 : 0 ≤ x12 ∧ x12 ≤ 25) (k13 : 2 ≤ x13 ∧ x13 ≤ 25) (k14 : 1 ≤ x14 ∧ x14 ≤ 24) (d0 : x9 + (-1) ≤ x14 ∧ x14 ≤ x9 + (-1)) (d1 : x1 + (-4294967296) ≤ x14 ∧ x14 ≤ x1 + (-2)) (d2 : x4 + (-4294967296) ≤ x14 ∧ x14 ≤ x4 + (-2)) (d3 : x8 + 1 ≤ x13 ∧ x13 ≤ x8 + 1) (d4 : x9 + (-4294967296) ≤ x13 ∧ x13 ≤ x9 + 0) (d5 : x1 + (-4294967296) ≤ x13 ∧ x13 ≤ x1 + 0) (d6 : x4 + (-4294967296) ≤ x13 ∧ x13 ≤ x4 + 0) (d7 : x9 + (-4294967296) ≤ x13 ∧ x13 ≤ x9 + 2) (d8 : x9 + (-4294967296) ≤ x8 ∧ x8 ≤ x9 + (-1)) (d9 : x4 + (-4294967296) ≤ x1 ∧ x1 ≤ x4 + 0) (d10 : x1 + (-4294967296) ≤ x4 ∧ x4 ≤ x1 + 0) (d11 : x1 + (-4294967296) ≤ x5 ∧ x5 ≤ x1 + (-2)) (d12 : x4 + (-4294967296) ≤ x5 ∧ x5 ≤ x4 + (-2)) (d13 : x8 + (-4294967296) ≤ x5 ∧ x5 ≤ x8 + (-1)) (d14 : x1 + (-4294967296) ≤ x8 ∧ x8 ≤ x1 + (-1)) (d15 : x4 + (-4294967296) ≤ x8 ∧ x8 ≤ x4 + (-1)) (d16 : x9 + (-4294967296) ≤ x8 ∧ x8 ≤ x9 + 1) (d17 : x1 + (-4294967296) ≤ x9 ∧ x9 ≤ x1 + (-1)) (d18 : x4 + (-4294967296) ≤ x9 ∧ x9 ≤ x4 + (-1)) (f0 : x14 = x9 + (-1)) (f1 : x13 = x8 + 1) (f2 : x1 ≤ 8) (f7 : x1 ≤ 8) (h9 : x12 = order_2 (x9)) (h10 : x11 = order_2 (x8)) (f11 : x8 < x9) (f12 : SEM (order_2) (member_2) (x1)) (f13 : x1 ≤ 8) (f14 : NO3 (order_2) (x1) (x5) (x8) (x9) (x2)) (hE_0_96_1 : ∀ j : Int, 0 ≤ j → (j = x9 → order_0 j = x11) ∧ (j ≠ x9 → order_0 j = order_1 j)) (hE_0_96_2 : ∀ j : Int, 0 ≤ j → (j = x8 → order_1 j = x12) ∧ (j ≠ x8 → order_1 j = order_2 j)) (hK_0_96 : ∀ j : Int, 0 ≤ j → j < 26 → 0 ≤ order_0 j ∧ order_0 j ≤ 25) (hE_0_98_1 : ∀ j : Int, member_0 j = member_1 j) (hE_0_98_2 : ∀ j : Int, member_1 j = member_2 j) (hK_0_98 : ∀ j : Int, 0 ≤ j → j < 26 → 0 ≤ member_0 j ∧ member_0 j ≤ 25) : NO3 (order_0) (x1) (x5) (x13) (x14) (x2) := by
  have e_hE_0_98_1 := funext hE_0_98_1; subst e_hE_0_98_1
  have e_hE_0_98_2 := funext hE_0_98_2; subst e_hE_0_98_2
  first
    | (have h := ‹NO2 _ _ _ _›
       have h2 := h.2.1
       have h4 := h.2.2.2
       exact no3_start h (by omega) (swp_st (by omega) (by omega) (by omega) (by assumption) (by omega) (by omega) (by assumption) (by omega) (by omega)) (by omega) (by omega) ‹ORM _ _ _›)
    | (have h := ‹NO3 _ _ _ _ _ _›
       have h2 := h.2.1
       have h3 := h.2.2.1
       have h4 := h.2.2.2.1
       exact no3_step h (by omega) (swp_st (by omega) (by omega) (by omega) (by assumption) (by omega) (by omega) (by assumption) (by omega) (by omega)) (by omega) (by omega))
def o_Mo_nextOrder_at_gm_8 : or_T := (100, 15, [(0, (2, 0, 0, [165])), (1, (0, 3, 26, [])), (2, (0, -2, 16777216, [])), (4, (0, 3, 26, [])), (5, (0, 0, 23, [])), (8, (0, 1, 24, [])), (9, (0, 2, 25, [])), (10, (2, 0, 0, [232])), (11, (0, 0, 25, [])), (12, (0, 0, 25, [])), (13, (0, 2, 25, [])), (14, (0, 1, 24, []))], [(6, [14, 9], [-1]), (6, [13, 8], [1]), (20, [4], [50, 0, 0, 0, 2, 1, 0, 0, 8]), (24, [0, 3], []), (24, [1, 4], []), (100, [10, 9, 11], []), (9, [10, 3], [96]), (20, [4], [50, 0, 0, 0, 2, 1, 0, 0, 8]), (100, [10, 8, 12], []), (10, [12, 10, 9], []), (10, [11, 10, 8], []), (7, [8, 9], [2]), (20, [3, 4], [60, 0, 2, 328, 96, 98]), (20, [4], [50, 0, 0, 0, 2, 1, 0, 0, 8]), (20, [3, 4, 5, 8, 9, 2], [60, 0, 1, 327, 96])], [], [], [(20, [3, 4], [60, 0, 2, 328, 96, 98]), (20, [3, 4, 5, 13, 14, 2], [60, 0, 1, 327, 96])], [], [(14, 9, -1, -1), (14, 1, -4294967296, -2), (14, 4, -4294967296, -2), (13, 8, 1, 1), (13, 9, -4294967296, 0), (13, 1, -4294967296, 0), (13, 4, -4294967296, 0), (13, 9, -4294967296, 2), (8, 9, -4294967296, -1), (1, 4, -4294967296, 0), (4, 1, -4294967296, 0), (5, 1, -4294967296, -2), (5, 4, -4294967296, -2), (5, 8, -4294967296, -1), (8, 1, -4294967296, -1), (8, 4, -4294967296, -1), (8, 9, -4294967296, 1), (9, 1, -4294967296, -1), (9, 4, -4294967296, -1)])
theorem oo_Mo_nextOrder_at_gm_8 {kA : Nat → ClassId} : or_ok PRD kA GG o_Mo_nextOrder_at_gm_8 := by
  refine or_mk fun A ta ws vs hD hth hl => ?_
  intro t0 r0 t1 k1 t2 k2 t4 k4 t5 k5 t8 k8 t9 k9 t10 r10 t11 k11 t12 k12 t13 k13 t14 k14 d0 d1 d2 d3 d4 d5 d6 d7 d8 d9 d10 d11 d12 d13 d14 d15 d16 d17 d18 f0 f1 f2 f3 f4 ta1 w1 le1 s1 f6 f7 ta2 w2 le2 s2 f9 f10 f11 f12 f13 f14
  replace f0 := shm_198 f0
  replace f1 := shm_4 f1
  replace f2 := shm_647 f2
  replace f3 := shm_5 f3
  replace f4 := shm_5 f4
  have s1 : (∀ b j, w_el ws b j = if b = v_ad (n_v vs 10) ∧ j = (v_iv (n_v vs 9)).toNat then v_iv (n_v vs 11) else w_el w1 b j) ∧ ∀ b k, w_fd ws b k = w_fd w1 b k := s1.2
  replace f6 := shm_653 f6
  replace f7 := shm_647 f7
  have s2 : (∀ b j, w_el w1 b j = if b = v_ad (n_v vs 10) ∧ j = (v_iv (n_v vs 8)).toNat then v_iv (n_v vs 12) else w_el w2 b j) ∧ ∀ b k, w_fd w1 b k = w_fd w2 b k := s2.2
  replace f9 := shm_106 f9
  replace f10 := shm_106 f10
  replace f11 := shm_6 f11
  replace f12 := shm_650 f12
  replace f13 := shm_647 f13
  replace f14 := shm_655 f14
  have q3 : n_v vs 3 = n_v vs 0 := f3.symm
  have q4 : n_v vs 4 = n_v vs 1 := f4.symm
  simp only [q4, q3] at f2 f6 f7 f12 f13 f14
  have ar_0_96_1 : w_ar w1 (n_v vs 0) 96 = w_ar ws (n_v vs 0) 96 := congrArg v_ad (s1.2 _ _).symm
  have ar_0_96_2 : w_ar w2 (n_v vs 0) 96 = w_ar ws (n_v vs 0) 96 := by rw [← ar_0_96_1]; show v_ad (w_fd w2 _ _) = v_ad (w_fd w1 _ _); rw [s2.2]
  have cr_0_96 := fdq_165 hD hth r0
  have ar_0_98_1 : w_ar w1 (n_v vs 0) 98 = w_ar ws (n_v vs 0) 98 := congrArg v_ad (s1.2 _ _).symm
  have ar_0_98_2 : w_ar w2 (n_v vs 0) 98 = w_ar ws (n_v vs 0) 98 := by rw [← ar_0_98_1]; show v_ad (w_fd w2 _ _) = v_ad (w_fd w1 _ _); rw [s2.2]
  have cr_0_98 := fdq_156 hD hth r0
  have ad_10 : v_ad (n_v vs 10) = w_ar ws (n_v vs 0) 96 := (congrArg v_ad f6).trans ar_0_96_1
  simp only [ad_10] at f9
  have h9 : v_iv (n_v vs 12) = w_ei w2 (w_ar ws (n_v vs 0) 96) (v_iv (n_v vs 9)) := f9
  simp only [ad_10] at f10
  have h10 : v_iv (n_v vs 11) = w_ei w2 (w_ar ws (n_v vs 0) 96) (v_iv (n_v vs 8)) := f10
  simp only [ar_0_96_2, ar_0_98_2] at f12 f14
  have hE_0_96_1 : ∀ j : Int, 0 ≤ j → (j = v_iv (n_v vs 9) → w_ei ws (w_ar ws (n_v vs 0) 96) j = v_iv (n_v vs 11)) ∧ (j ≠ v_iv (n_v vs 9) → w_ei ws (w_ar ws (n_v vs 0) 96) j = w_ei w1 (w_ar ws (n_v vs 0) 96) j) := fun j hj => ⟨fun h => by unfold w_ei; rw [s1.1, if_pos ⟨ad_10.symm, by rw [h]⟩], fun h => by unfold w_ei; rw [s1.1, if_neg (fun e => h (by have := e.2; omega))]⟩
  have hE_0_96_2 : ∀ j : Int, 0 ≤ j → (j = v_iv (n_v vs 8) → w_ei w1 (w_ar ws (n_v vs 0) 96) j = v_iv (n_v vs 12)) ∧ (j ≠ v_iv (n_v vs 8) → w_ei w1 (w_ar ws (n_v vs 0) 96) j = w_ei w2 (w_ar ws (n_v vs 0) 96) j) := fun j hj => ⟨fun h => by unfold w_ei; rw [s2.1, if_pos ⟨ad_10.symm, by rw [h]⟩], fun h => by unfold w_ei; rw [s2.1, if_neg (fun e => h (by have := e.2; omega))]⟩
  have hK_0_96 := elq_93 hD hth cr_0_96
  have hE_0_98_1 : ∀ j : Int, w_ei ws (w_ar ws (n_v vs 0) 98) j = w_ei w1 (w_ar ws (n_v vs 0) 98) j := el_kp s1.1 r10 cr_0_98 (by decide)
  have hE_0_98_2 : ∀ j : Int, w_ei w1 (w_ar ws (n_v vs 0) 98) j = w_ei w2 (w_ar ws (n_v vs 0) 98) j := el_kp s2.1 r10 cr_0_98 (by decide)
  have hK_0_98 := elq_87 hD hth cr_0_98
  have nf0 : fc_1 PRD (20, [3, 4], [60, 0, 2, 328, 96, 98]) ws (vs) := by
    refine ⟨nf_in hl rfl, sgq_650 ?_⟩
    · show SEM (w_ei ws (w_ar ws (n_v vs 3) 96)) (w_ei ws (w_ar ws (n_v vs 3) 98)) (v_iv (n_v vs 4))
      simp only [q3, q4]
      exact vc_Mo_nextOrder_at_gm_8_0 (v_iv (n_v vs 1)) (v_iv (n_v vs 2)) (v_iv (n_v vs 4)) (v_iv (n_v vs 5)) (v_iv (n_v vs 8)) (v_iv (n_v vs 9)) (v_iv (n_v vs 11)) (v_iv (n_v vs 12)) (v_iv (n_v vs 13)) (v_iv (n_v vs 14)) (w_ei w2 (w_ar ws (n_v vs 0) 96)) (w_ei w2 (w_ar ws (n_v vs 0) 98)) (w_ei ws (w_ar ws (n_v vs 0) 96)) (w_ei w1 (w_ar ws (n_v vs 0) 96)) (w_ei ws (w_ar ws (n_v vs 0) 98)) (w_ei w1 (w_ar ws (n_v vs 0) 98)) k1 k2 k4 k5 k8 k9 k11 k12 k13 k14 d0 d1 d2 d3 d4 d5 d6 d7 d8 d9 d10 d11 d12 d13 d14 d15 d16 d17 d18 f0 f1 f2 f7 h9 h10 f11 f12 f13 f14 hE_0_96_1 hE_0_96_2 hK_0_96 hE_0_98_1 hE_0_98_2 hK_0_98
  have nf1 : fc_1 PRD (20, [3, 4, 5, 13, 14, 2], [60, 0, 1, 327, 96]) ws (vs) := by
    refine ⟨nf_in hl rfl, sgq_655 ?_⟩
    · show NO3 (w_ei ws (w_ar ws (n_v vs 3) 96)) (v_iv (n_v vs 4)) (v_iv (n_v vs 5)) (v_iv (n_v vs 13)) (v_iv (n_v vs 14)) (v_iv (n_v vs 2))
      simp only [q3, q4]
      exact vc_Mo_nextOrder_at_gm_8_1 (v_iv (n_v vs 1)) (v_iv (n_v vs 2)) (v_iv (n_v vs 4)) (v_iv (n_v vs 5)) (v_iv (n_v vs 8)) (v_iv (n_v vs 9)) (v_iv (n_v vs 11)) (v_iv (n_v vs 12)) (v_iv (n_v vs 13)) (v_iv (n_v vs 14)) (w_ei w2 (w_ar ws (n_v vs 0) 96)) (w_ei w2 (w_ar ws (n_v vs 0) 98)) (w_ei ws (w_ar ws (n_v vs 0) 96)) (w_ei w1 (w_ar ws (n_v vs 0) 96)) (w_ei ws (w_ar ws (n_v vs 0) 98)) (w_ei w1 (w_ar ws (n_v vs 0) 98)) k1 k2 k4 k5 k8 k9 k11 k12 k13 k14 d0 d1 d2 d3 d4 d5 d6 d7 d8 d9 d10 d11 d12 d13 d14 d15 d16 d17 d18 f0 f1 f2 f7 h9 h10 f11 f12 f13 f14 hE_0_96_1 hE_0_96_2 hK_0_96 hE_0_98_1 hE_0_98_2 hK_0_98
  refine ⟨(fun _ h => (by cases h)), [], trivial, ?_, (fun _ h => (by cases h))⟩
  rw [List.append_nil]
  exact List.forall_mem_cons.mpr ⟨⟨show (20 : Nat) < 100 from by decide, nf0⟩, List.forall_mem_cons.mpr ⟨⟨show (20 : Nat) < 100 from by decide, nf1⟩, (fun _ h => (by cases h))⟩⟩
def n_Mo_nextOrder_at_gm_an : List an_T := [(4, [(0, (2, 0, 0, [165])), (1, (0, 0, 26, [])), (2, (0, (Int.negSucc 1), 24, []))], [], (0, 0), [(0, 0, 99996), (2, 5, (Int.negSucc 1)), (0, 0, 100000)], [(1, 4, (Int.negSucc 999999999999), 0), (4, 1, (Int.negSucc 999999999999), 0), (5, 1, (Int.negSucc 999999999999), (Int.negSucc 1)), (5, 4, (Int.negSucc 999999999999), (Int.negSucc 1))], [], [(2, 0, 0, [165]), (0, 0, 26, []), (0, (Int.negSucc 1), 16777216, [])], 0, [], [(20, [3, 4], [60, 0, 2, 328, 96, 98]), (20, [4], [50, 0, 0, 0, 2, 1, 0, 0, 8]), (20, [3, 4, 5], [60, 0, 1, 325, 96]), (20, [3, 4, 2], [60, 0, 1, 323, 96]), (24, [0, 3], []), (24, [1, 4], [])]), (41, [(0, (2, 0, 0, [165])), (1, (0, 2, 26, [])), (2, (0, 0, 24, [])), (3, (0, 0, 25, []))], [], (0, 0), [(0, 0, 99959), (2, 6, 0), (0, 0, 100000)], [(1, 4, (Int.negSucc 999999999999), 0), (4, 1, (Int.negSucc 999999999999), 0), (5, 1, (Int.negSucc 999999999999), (Int.negSucc 1)), (5, 4, (Int.negSucc 999999999999), (Int.negSucc 1)), (6, 1, (Int.negSucc 999999999999), (Int.negSucc 0)), (6, 4, (Int.negSucc 999999999999), (Int.negSucc 0))], [], [(2, 0, 0, [165]), (0, 0, 26, []), (0, (Int.negSucc 1), 16777216, [])], 0, [], [(20, [3, 4], [60, 0, 2, 328, 96, 98]), (20, [4], [50, 0, 0, 0, 2, 1, 0, 0, 8]), (20, [3, 4, 5, 6], [60, 0, 1, 326, 96]), (20, [3, 4, 2], [60, 0, 1, 323, 96]), (24, [0, 3], []), (24, [1, 4], [])]), (100, [(0, (2, 0, 0, [165])), (1, (0, 2, 26, [])), (2, (0, 0, 24, [])), (3, (0, 0, 25, [])), (4, (0, 0, 25, [])), (5, (0, 1, 25, [])), (6, (0, 1, 25, []))], [], (0, 0), [(0, 0, 99900), (1, 8, 25), (0, 0, 100000)], [(1, 4, (Int.negSucc 999999999999), 0), (4, 1, (Int.negSucc 999999999999), 0), (5, 1, (Int.negSucc 999999999999), (Int.negSucc 1)), (5, 4, (Int.negSucc 999999999999), (Int.negSucc 1)), (5, 8, (Int.negSucc 999999999999), (Int.negSucc 0)), (6, 1, (Int.negSucc 999999999999), (Int.negSucc 0)), (6, 4, (Int.negSucc 999999999999), (Int.negSucc 0)), (8, 1, (Int.negSucc 999999999999), (Int.negSucc 0)), (8, 4, (Int.negSucc 999999999999), (Int.negSucc 0)), (8, 9, (Int.negSucc 999999999999), 1), (9, 1, (Int.negSucc 999999999999), (Int.negSucc 0)), (9, 4, (Int.negSucc 999999999999), (Int.negSucc 0))], [], [(2, 0, 0, [165]), (0, 0, 26, []), (0, (Int.negSucc 1), 16777216, [])], 0, [], [(20, [3, 4], [60, 0, 2, 328, 96, 98]), (20, [4], [50, 0, 0, 0, 2, 1, 0, 0, 8]), (20, [3, 4, 5, 8, 9, 2], [60, 0, 1, 327, 96]), (24, [0, 3], []), (24, [1, 4], [])])]
def t_Mo_nextOrder_at_gm_ct : ct_L := []
set_option maxRecDepth 100000 in
theorem c_Mo_nextOrder_at_gm {l : Launch} {D : va_G} {kA : Nat → ClassId} : ct_ok PRD l D kA GG y_Mo_nextOrder_at_gm z_Mo_nextOrder_at_gm e_Mo_nextOrder_at_gm := chk_all_ok (FT := [(213, 13, 96)]) (PT := []) (CT := t_Mo_nextOrder_at_gm_ct) (KT := []) (NT := []) (AN := n_Mo_nextOrder_at_gm_an) (OT := [o_Mo_nextOrder_at_gm_0, o_Mo_nextOrder_at_gm_1, o_Mo_nextOrder_at_gm_2, o_Mo_nextOrder_at_gm_3, o_Mo_nextOrder_at_gm_4, o_Mo_nextOrder_at_gm_5, o_Mo_nextOrder_at_gm_6, o_Mo_nextOrder_at_gm_7, o_Mo_nextOrder_at_gm_8]) 3 368 (List.forall_mem_cons.mpr ⟨oo_Mo_nextOrder_at_gm_0, List.forall_mem_cons.mpr ⟨oo_Mo_nextOrder_at_gm_1, List.forall_mem_cons.mpr ⟨oo_Mo_nextOrder_at_gm_2, List.forall_mem_cons.mpr ⟨oo_Mo_nextOrder_at_gm_3, List.forall_mem_cons.mpr ⟨oo_Mo_nextOrder_at_gm_4, List.forall_mem_cons.mpr ⟨oo_Mo_nextOrder_at_gm_5, List.forall_mem_cons.mpr ⟨oo_Mo_nextOrder_at_gm_6, List.forall_mem_cons.mpr ⟨oo_Mo_nextOrder_at_gm_7, List.forall_mem_cons.mpr ⟨oo_Mo_nextOrder_at_gm_8, List.forall_mem_nil _⟩⟩⟩⟩⟩⟩⟩⟩⟩) (by decide +kernel) ⟨List.forall_mem_cons.mpr ⟨gf_Mo_213, List.forall_mem_nil _⟩, List.forall_mem_nil _, List.forall_mem_nil _, List.forall_mem_nil _, List.forall_mem_nil _, GG_pl⟩ (by decide +kernel)
set_option maxHeartbeats 4000000 in
theorem vc_Mo_nextOrder_at_gx_0_0 (x1 : Int) (x2 : Int) (x3 : Int) (x4 : Int) (order_0 : Int → Int) (k1 : 0 ≤ x1 ∧ x1 ≤ 8) (k2 : (-2) ≤ x2 ∧ x2 ≤ 16777216) (k3 : 2 ≤ x3 ∧ x3 ≤ 2) (k4 : (-2) ≤ x4 ∧ x4 ≤ 6) (d0 : x1 + (-2) ≤ x4 ∧ x4 ≤ x1 + (-2)) (f0 : x4 = x1 - x3) (f1 : x1 ≤ 8) (f2 : DIS (order_0) (x1)) (f3 : ORM (order_0) (x1) (x2)) (hK_0_96 : ∀ j : Int, 0 ≤ j → j < 26 → 0 ≤ order_0 j ∧ order_0 j ≤ 25) : NO1 (order_0) (x1) (x4) := by
  first
    | exact ⟨‹DIS _ _›, by omega⟩
    | (have h := ‹NO1 _ _ _›
       exact ⟨h.1, by have := h.2; omega⟩)
def o_Mo_nextOrder_at_gx_0 : or_T := (4, 5, [(0, (2, 0, 0, [165])), (1, (0, 0, 8, [])), (2, (0, -2, 16777216, [])), (3, (0, 2, 2, [])), (4, (0, -2, 6, []))], [(2, [4, 1, 3], []), (20, [1], [50, 0, 0, 0, 2, 1, 0, 0, 8]), (20, [0, 1], [60, 0, 1, 322, 96]), (20, [0, 1, 2], [60, 0, 1, 323, 96])], [], [], [(20, [0, 1, 4], [60, 0, 1, 325, 96]), (24, [0, 0], []), (24, [1, 1], [])], [], [(4, 1, -2, -2)])
theorem oo_Mo_nextOrder_at_gx_0 {kA : Nat → ClassId} : or_ok PRD kA GG o_Mo_nextOrder_at_gx_0 := by
  refine or_mk fun A ta ws vs hD hth hl => ?_
  intro t0 r0 t1 k1 t2 k2 t3 k3 t4 k4 d0 f0 f1 f2 f3
  have cr_0_96 := fdq_165 hD hth r0
  have hK_0_96 := elq_93 hD hth cr_0_96
  have nf0 : fc_1 PRD (20, [0, 1, 4], [60, 0, 1, 325, 96]) ws (vs) := ⟨nf_in hl rfl, sgq_651 (vc_Mo_nextOrder_at_gx_0_0 (v_iv (n_v vs 1)) (v_iv (n_v vs 2)) (v_iv (n_v vs 3)) (v_iv (n_v vs 4)) (w_ei ws (w_ar ws (n_v vs 0) 96)) k1 k2 k3 k4 d0 (shm_14 f0) (shm_647 f1) (shm_648 f2) (shm_649 f3) hK_0_96)⟩
  have nf1 : fc_1 PRD (24, [0, 0], []) ws (vs) := by
    refine ⟨nf_in hl rfl, sgq_1 ?_⟩
    · show n_v vs 0 = n_v vs 0
      first | rfl | simp only [true_and]
  have nf2 : fc_1 PRD (24, [1, 1], []) ws (vs) := by
    refine ⟨nf_in hl rfl, sgq_1 ?_⟩
    · show n_v vs 1 = n_v vs 1
      first | rfl | simp only [true_and]
  refine ⟨(fun _ h => (by cases h)), [], trivial, ?_, (fun _ h => (by cases h))⟩
  rw [List.append_nil]
  exact List.forall_mem_cons.mpr ⟨⟨show (20 : Nat) < 100 from by decide, nf0⟩, List.forall_mem_cons.mpr ⟨⟨show (24 : Nat) < 100 from by decide, nf1⟩, List.forall_mem_cons.mpr ⟨⟨show (24 : Nat) < 100 from by decide, nf2⟩, (fun _ h => (by cases h))⟩⟩⟩
set_option maxHeartbeats 4000000 in
theorem vc_Mo_nextOrder_at_gx_1_0 (x1 : Int) (x2 : Int) (x4 : Int) (x5 : Int) (x6 : Int) (order_0 : Int → Int) (k1 : 0 ≤ x1 ∧ x1 ≤ 8) (k2 : (-2) ≤ x2 ∧ x2 ≤ 16777216) (k4 : 0 ≤ x4 ∧ x4 ≤ 8) (k5 : (-2) ≤ x5 ∧ x5 ≤ (-1)) (k6 : 0 ≤ x6 ∧ x6 ≤ 0) (d0 : x4 + (-4294967296) ≤ x1 ∧ x1 ≤ x4 + 0) (d1 : x1 + (-4294967296) ≤ x4 ∧ x4 ≤ x1 + 0) (d2 : x1 + (-4294967296) ≤ x5 ∧ x5 ≤ x1 + (-2)) (d3 : x4 + (-4294967296) ≤ x5 ∧ x5 ≤ x4 + (-2)) (f0 : x5 < 0) (f1 : x5 < 0) (f2 : x1 ≤ 8) (f3 : NO1 (order_0) (x1) (x5)) (f4 : ORM (order_0) (x1) (x2)) (hK_0_96 : ∀ j : Int, 0 ≤ j → j < 26 → 0 ≤ order_0 j ∧ order_0 j ≤ 25) : DIS (order_0) (x1) := by
  exact ‹NO1 _ _ _›.1
set_option maxHeartbeats 4000000 in
theorem vc_Mo_nextOrder_at_gx_1_1 (x1 : Int) (x2 : Int) (x4 : Int) (x5 : Int) (x6 : Int) (order_0 : Int → Int) (k1 : 0 ≤ x1 ∧ x1 ≤ 8) (k2 : (-2) ≤ x2 ∧ x2 ≤ 16777216) (k4 : 0 ≤ x4 ∧ x4 ≤ 8) (k5 : (-2) ≤ x5 ∧ x5 ≤ (-1)) (k6 : 0 ≤ x6 ∧ x6 ≤ 0) (d0 : x4 + (-4294967296) ≤ x1 ∧ x1 ≤ x4 + 0) (d1 : x1 + (-4294967296) ≤ x4 ∧ x4 ≤ x1 + 0) (d2 : x1 + (-4294967296) ≤ x5 ∧ x5 ≤ x1 + (-2)) (d3 : x4 + (-4294967296) ≤ x5 ∧ x5 ≤ x4 + (-2)) (f0 : x5 < 0) (f1 : x5 < 0) (f2 : x1 ≤ 8) (f3 : NO1 (order_0) (x1) (x5)) (f4 : ORM (order_0) (x1) (x2)) (hK_0_96 : ∀ j : Int, 0 ≤ j → j < 26 → 0 ≤ order_0 j ∧ order_0 j ≤ 25) : ORN (order_0) (x1) (x2) (x6) := by
  intro z; exfalso; omega
def o_Mo_nextOrder_at_gx_1 : or_T := (36, 7, [(0, (2, 0, 0, [165])), (1, (0, 0, 8, [])), (2, (0, -2, 16777216, [])), (4, (0, 0, 8, [])), (5, (0, -2, -1, [])), (6, (0, 0, 0, []))], [(8, [5], [2]), (8, [5], [2]), (20, [4], [50, 0, 0, 0, 2, 1, 0, 0, 8]), (20, [3, 4, 5], [60, 0, 1, 325, 96]), (20, [3, 4, 2], [60, 0, 1, 323, 96]), (24, [0, 3], []), (24, [1, 4], [])], [], [], [(20, [0, 1], [60, 0, 1, 322, 96]), (20, [0, 1, 2, 6], [60, 0, 1, 324, 96])], [], [(1, 4, -4294967296, 0), (4, 1, -4294967296, 0), (5, 1, -4294967296, -2), (5, 4, -4294967296, -2)])
theorem oo_Mo_nextOrder_at_gx_1 {kA : Nat → ClassId} : or_ok PRD kA GG o_Mo_nextOrder_at_gx_1 := by
  refine or_mk fun A ta ws vs hD hth hl => ?_
  intro t0 r0 t1 k1 t2 k2 t4 k4 t5 k5 t6 k6 d0 d1 d2 d3 f0 f1 f2 f3 f4 f5 f6
  replace f2 := shm_647 f2
  replace f3 := shm_651 f3
  replace f4 := shm_649 f4
  replace f5 := shm_5 f5
  replace f6 := shm_5 f6
  have q3 : n_v vs 3 = n_v vs 0 := f5.symm
  have q4 : n_v vs 4 = n_v vs 1 := f6.symm
  simp only [q4, q3] at f2 f3 f4
  have cr_0_96 := fdq_165 hD hth r0
  have hK_0_96 := elq_93 hD hth cr_0_96
  have nf0 : fc_1 PRD (20, [0, 1], [60, 0, 1, 322, 96]) ws (vs) := ⟨nf_in hl rfl, sgq_648 (vc_Mo_nextOrder_at_gx_1_0 (v_iv (n_v vs 1)) (v_iv (n_v vs 2)) (v_iv (n_v vs 4)) (v_iv (n_v vs 5)) (v_iv (n_v vs 6)) (w_ei ws (w_ar ws (n_v vs 0) 96)) k1 k2 k4 k5 k6 d0 d1 d2 d3 (shm_39 f0) (shm_39 f1) f2 f3 f4 hK_0_96)⟩
  have nf1 : fc_1 PRD (20, [0, 1, 2, 6], [60, 0, 1, 324, 96]) ws (vs) := ⟨nf_in hl rfl, sgq_652 (vc_Mo_nextOrder_at_gx_1_1 (v_iv (n_v vs 1)) (v_iv (n_v vs 2)) (v_iv (n_v vs 4)) (v_iv (n_v vs 5)) (v_iv (n_v vs 6)) (w_ei ws (w_ar ws (n_v vs 0) 96)) k1 k2 k4 k5 k6 d0 d1 d2 d3 (shm_39 f0) (shm_39 f1) f2 f3 f4 hK_0_96)⟩
  refine ⟨(fun _ h => (by cases h)), [], trivial, ?_, (fun _ h => (by cases h))⟩
  rw [List.append_nil]
  exact List.forall_mem_cons.mpr ⟨⟨show (20 : Nat) < 100 from by decide, nf0⟩, List.forall_mem_cons.mpr ⟨⟨show (20 : Nat) < 100 from by decide, nf1⟩, (fun _ h => (by cases h))⟩⟩
set_option maxHeartbeats 4000000 in
theorem vc_Mo_nextOrder_at_gx_2_0 (x1 : Int) (x2 : Int) (x4 : Int) (x5 : Int) (x7 : Int) (x8 : Int) (x9 : Int) (x10 : Int) (x11 : Int) (x12 : Int) (order_0 : Int → Int) (k1 : 2 ≤ x1 ∧ x1 ≤ 8) (k2 : (-2) ≤ x2 ∧ x2 ≤ 16777216) (k4 : 2 ≤ x4 ∧ x4 ≤ 8) (k5 : 0 ≤ x5 ∧ x5 ≤ 6) (k7 : 0 ≤ x7 ∧ x7 ≤ 25) (k8 : 1 ≤ x8 ∧ x8 ≤ 1) (k9 : 1 ≤ x9 ∧ x9 ≤ 7) (k10 : 0 ≤ x10 ∧ x10 ≤ 25) (k11 : 1 ≤ x11 ∧ x11 ≤ 1) (k12 : 1 ≤ x12 ∧ x12 ≤ 7) (d0 : x4 + (-1) ≤ x12 ∧ x12 ≤ x4 + (-1)) (d1 : x1 + (-4294967296) ≤ x12 ∧ x12 ≤ x1 + (-1)) (d2 : x10 + (-4294967296) ≤ x7 ∧ x7 ≤ x10 + 0) (d3 : x5 + 1 ≤ x9 ∧ x9 ≤ x5 + 1) (d4 : x1 + (-4294967296) ≤ x9 ∧ x9 ≤ x1 + (-1)) (d5 : x4 + (-4294967296) ≤ x9 ∧ x9 ≤ x4 + (-1)) (d6 : x4 + (-4294967296) ≤ x1 ∧ x1 ≤ x4 + 0) (d7 : x1 + (-4294967296) ≤ x4 ∧ x4 ≤ x1 + 0) (d8 : x1 + (-4294967296) ≤ x5 ∧ x5 ≤ x1 + (-2)) (d9 : x4 + (-4294967296) ≤ x5 ∧ x5 ≤ x4 + (-2)) (f0 : x12 = x1 - x11) (f1 : 0 ≤ x5) (f2 : x7 ≤ x10) (h3 : x10 = order_0 (x9)) (f4 : x9 = x5 + x8) (h6 : x7 = order_0 (x5)) (f7 : 0 ≤ x5) (f8 : x1 ≤ 8) (f9 : NO1 (order_0) (x1) (x5)) (f10 : ORM (order_0) (x1) (x2)) (hK_0_96 : ∀ j : Int, 0 ≤ j → j < 26 → 0 ≤ order_0 j ∧ order_0 j ≤ 25) : NO2 (order_0) (x1) (x5) (x12) := by
  first
    | exact no2_start ‹NO1 _ _ _› (by omega) (by rw [← (by omega : x9 = x5 + 1)]; omega) (by omega)
    | exact no2_step ‹NO2 _ _ _ _› (by omega) (by omega)
def o_Mo_nextOrder_at_gx_2 : or_T := (41, 13, [(0, (2, 0, 0, [165])), (1, (0, 2, 8, [])), (2, (0, -2, 16777216, [])), (4, (0, 2, 8, [])), (5, (0, 0, 6, [])), (7, (0, 0, 25, [])), (8, (0, 1, 1, [])), (9, (0, 1, 7, [])), (10, (0, 0, 25, [])), (11, (0, 1, 1, [])), (12, (0, 1, 7, []))], [(2, [12, 4, 11], []), (8, [5], [3]), (7, [7, 10], [5]), (10, [10, 6, 9], []), (1, [9, 5, 8], []), (9, [6, 3], [96]), (10, [7, 6, 5], []), (8, [5], [3]), (20, [4], [50, 0, 0, 0, 2, 1, 0, 0, 8]), (20, [3, 4, 5], [60, 0, 1, 325, 96]), (20, [3, 4, 2], [60, 0, 1, 323, 96]), (24, [0, 3], []), (24, [1, 4], [])], [], [], [(20, [3, 4, 5, 12], [60, 0, 1, 326, 96])], [], [(12, 4, -1, -1), (12, 1, -4294967296, -1), (7, 10, -4294967296, 0), (9, 5, 1, 1), (9, 1, -4294967296, -1), (9, 4, -4294967296, -1), (1, 4, -4294967296, 0), (4, 1, -4294967296, 0), (5, 1, -4294967296, -2), (5, 4, -4294967296, -2)])
theorem oo_Mo_nextOrder_at_gx_2 {kA : Nat → ClassId} : or_ok PRD kA GG o_Mo_nextOrder_at_gx_2 := by
  refine or_mk fun A ta ws vs hD hth hl => ?_
  intro t0 r0 t1 k1 t2 k2 t4 k4 t5 k5 t7 k7 t8 k8 t9 k9 t10 k10 t11 k11 t12 k12 d0 d1 d2 d3 d4 d5 d6 d7 d8 d9 f0 f1 f2 f3 f4 f5 f6 f7 f8 f9 f10 f11 f12
  replace f0 := shm_14 f0
  replace f1 := shm_32 f1
  replace f2 := shm_24 f2
  replace f3 := shm_106 f3
  replace f4 := shm_12 f4
  replace f5 := shm_653 f5
  replace f6 := shm_106 f6
  replace f7 := shm_32 f7
  replace f8 := shm_647 f8
  replace f9 := shm_651 f9
  replace f10 := shm_649 f10
  replace f11 := shm_5 f11
  replace f12 := shm_5 f12
  have q3 : n_v vs 3 = n_v vs 0 := f11.symm
  have q4 : n_v vs 4 = n_v vs 1 := f12.symm
  simp only [q4, q3] at f0 f5 f8 f9 f10
  have cr_0_96 := fdq_165 hD hth r0
  have ad_6 : v_ad (n_v vs 6) = w_ar ws (n_v vs 0) 96 := congrArg v_ad f5
  simp only [ad_6] at f3
  have h3 : v_iv (n_v vs 10) = w_ei ws (w_ar ws (n_v vs 0) 96) (v_iv (n_v vs 9)) := f3
  simp only [ad_6] at f6
  have h6 : v_iv (n_v vs 7) = w_ei ws (w_ar ws (n_v vs 0) 96) (v_iv (n_v vs 5)) := f6
  have hK_0_96 := elq_93 hD hth cr_0_96
  have nf0 : fc_1 PRD (20, [3, 4, 5, 12], [60, 0, 1, 326, 96]) ws (vs) := by
    refine ⟨nf_in hl rfl, sgq_654 ?_⟩
    · show NO2 (w_ei ws (w_ar ws (n_v vs 3) 96)) (v_iv (n_v vs 4)) (v_iv (n_v vs 5)) (v_iv (n_v vs 12))
      simp only [q3, q4]
      exact vc_Mo_nextOrder_at_gx_2_0 (v_iv (n_v vs 1)) (v_iv (n_v vs 2)) (v_iv (n_v vs 4)) (v_iv (n_v vs 5)) (v_iv (n_v vs 7)) (v_iv (n_v vs 8)) (v_iv (n_v vs 9)) (v_iv (n_v vs 10)) (v_iv (n_v vs 11)) (v_iv (n_v vs 12)) (w_ei ws (w_ar ws (n_v vs 0) 96)) k1 k2 k4 k5 k7 k8 k9 k10 k11 k12 d0 d1 d2 d3 d4 d5 d6 d7 d8 d9 f0 f1 f2 h3 f4 h6 f7 f8 f9 f10 hK_0_96
  refine ⟨(fun _ h => (by cases h)), [], trivial, ?_, (fun _ h => (by cases h))⟩
  rw [List.append_nil]
  exact List.forall_mem_cons.mpr ⟨⟨show (20 : Nat) < 100 from by decide, nf0⟩, (fun _ h => (by cases h))⟩
set_option maxHeartbeats 4000000 in
theorem vc_Mo_nextOrder_at_gx_3_0 (x1 : Int) (x2 : Int) (x4 : Int) (x5 : Int) (x7 : Int) (x8 : Int) (x9 : Int) (x10 : Int) (x11 : Int) (order_0 : Int → Int) (k1 : 2 ≤ x1 ∧ x1 ≤ 8) (k2 : (-2) ≤ x2 ∧ x2 ≤ 16777216) (k4 : 2 ≤ x4 ∧ x4 ≤ 8) (k5 : 0 ≤ x5 ∧ x5 ≤ 6) (k7 : 1 ≤ x7 ∧ x7 ≤ 25) (k8 : 1 ≤ x8 ∧ x8 ≤ 1) (k9 : 1 ≤ x9 ∧ x9 ≤ 7) (k10 : 0 ≤ x10 ∧ x10 ≤ 24) (k11 : (-1) ≤ x11 ∧ x11 ≤ 5) (d0 : x5 + (-1) ≤ x11 ∧ x11 ≤ x5 + (-1)) (d1 : x1 + (-4294967296) ≤ x11 ∧ x11 ≤ x1 + (-3)) (d2 : x4 + (-4294967296) ≤ x11 ∧ x11 ≤ x4 + (-3)) (d3 : x10 + 1 ≤ x7 ∧ x7 ≤ x10 + 4294967296) (d4 : x5 + 1 ≤ x9 ∧ x9 ≤ x5 + 1) (d5 : x1 + (-4294967296) ≤ x9 ∧ x9 ≤ x1 + (-1)) (d6 : x4 + (-4294967296) ≤ x9 ∧ x9 ≤ x4 + (-1)) (d7 : x4 + (-4294967296) ≤ x1 ∧ x1 ≤ x4 + 0) (d8 : x1 + (-4294967296) ≤ x4 ∧ x4 ≤ x1 + 0) (d9 : x1 + (-4294967296) ≤ x5 ∧ x5 ≤ x1 + (-2)) (d10 : x4 + (-4294967296) ≤ x5 ∧ x5 ≤ x4 + (-2)) (f0 : x11 = x5 + (-1)) (f1 : x10 < x7) (h2 : x10 = order_0 (x9)) (f3 : x9 = x5 + x8) (h5 : x7 = order_0 (x5)) (f6 : 0 ≤ x5) (f7 : x1 ≤ 8) (f8 : NO1 (order_0) (x1) (x5)) (f9 : ORM (order_0) (x1) (x2)) (hK_0_96 : ∀ j : Int, 0 ≤ j → j < 26 → 0 ≤ order_0 j ∧ order_0 j ≤ 25) : NO1 (order_0) (x1) (x11) := by
  first
    | exact ⟨‹DIS _ _›, by omega⟩
    | (have h := ‹NO1 _ _ _›
       exact ⟨h.1, by have := h.2; omega⟩)
def o_Mo_nextOrder_at_gx_3 : or_T := (4, 12, [(0, (2, 0, 0, [165])), (1, (0, 2, 8, [])), (2, (0, -2, 16777216, [])), (4, (0, 2, 8, [])), (5, (0, 0, 6, [])), (7, (0, 1, 25, [])), (8, (0, 1, 1, [])), (9, (0, 1, 7, [])), (10, (0, 0, 24, [])), (11, (0, -1, 5, []))], [(6, [11, 5], [-1]), (7, [7, 10], [4]), (10, [10, 6, 9], []), (1, [9, 5, 8], []), (9, [6, 3], [96]), (10, [7, 6, 5], []), (8, [5], [3]), (20, [4], [50, 0, 0, 0, 2, 1, 0, 0, 8]), (20, [3, 4, 5], [60, 0, 1, 325, 96]), (20, [3, 4, 2], [60, 0, 1, 323, 96]), (24, [0, 3], []), (24, [1, 4], [])], [], [], [(20, [3, 4, 11], [60, 0, 1, 325, 96])], [], [(11, 5, -1, -1), (11, 1, -4294967296, -3), (11, 4, -4294967296, -3), (7, 10, 1, 4294967296), (9, 5, 1, 1), (9, 1, -4294967296, -1), (9, 4, -4294967296, -1), (1, 4, -4294967296, 0), (4, 1, -4294967296, 0), (5, 1, -4294967296, -2), (5, 4, -4294967296, -2)])
theorem oo_Mo_nextOrder_at_gx_3 {kA : Nat → ClassId} : or_ok PRD kA GG o_Mo_nextOrder_at_gx_3 := by
  refine or_mk fun A ta ws vs hD hth hl => ?_
  intro t0 r0 t1 k1 t2 k2 t4 k4 t5 k5 t7 k7 t8 k8 t9 k9 t10 k10 t11 k11 d0 d1 d2 d3 d4 d5 d6 d7 d8 d9 d10 f0 f1 f2 f3 f4 f5 f6 f7 f8 f9 f10 f11
  replace f0 := shm_198 f0
  replace f1 := shm_21 f1
  replace f2 := shm_106 f2
  replace f3 := shm_12 f3
  replace f4 := shm_653 f4
  replace f5 := shm_106 f5
  replace f6 := shm_32 f6
  replace f7 := shm_647 f7
  replace f8 := shm_651 f8
  replace f9 := shm_649 f9
  replace f10 := shm_5 f10
  replace f11 := shm_5 f11
  have q3 : n_v vs 3 = n_v vs 0 := f10.symm
  have q4 : n_v vs 4 = n_v vs 1 := f11.symm
  simp only [q3, q4] at f4 f7 f8 f9
  have cr_0_96 := fdq_165 hD hth r0
  have ad_6 : v_ad (n_v vs 6) = w_ar ws (n_v vs 0) 96 := congrArg v_ad f4
  simp only [ad_6] at f2
  have h2 : v_iv (n_v vs 10) = w_ei ws (w_ar ws (n_v vs 0) 96) (v_iv (n_v vs 9)) := f2
  simp only [ad_6] at f5
  have h5 : v_iv (n_v vs 7) = w_ei ws (w_ar ws (n_v vs 0) 96) (v_iv (n_v vs 5)) := f5
  have hK_0_96 := elq_93 hD hth cr_0_96
  have nf0 : fc_1 PRD (20, [3, 4, 11], [60, 0, 1, 325, 96]) ws (vs) := by
    refine ⟨nf_in hl rfl, sgq_651 ?_⟩
    · show NO1 (w_ei ws (w_ar ws (n_v vs 3) 96)) (v_iv (n_v vs 4)) (v_iv (n_v vs 11))
      simp only [q3, q4]
      exact vc_Mo_nextOrder_at_gx_3_0 (v_iv (n_v vs 1)) (v_iv (n_v vs 2)) (v_iv (n_v vs 4)) (v_iv (n_v vs 5)) (v_iv (n_v vs 7)) (v_iv (n_v vs 8)) (v_iv (n_v vs 9)) (v_iv (n_v vs 10)) (v_iv (n_v vs 11)) (w_ei ws (w_ar ws (n_v vs 0) 96)) k1 k2 k4 k5 k7 k8 k9 k10 k11 d0 d1 d2 d3 d4 d5 d6 d7 d8 d9 d10 f0 f1 h2 f3 h5 f6 f7 f8 f9 hK_0_96
  refine ⟨(fun _ h => (by cases h)), [], trivial, ?_, (fun _ h => (by cases h))⟩
  rw [List.append_nil]
  exact List.forall_mem_cons.mpr ⟨⟨show (20 : Nat) < 100 from by decide, nf0⟩, (fun _ h => (by cases h))⟩
set_option maxHeartbeats 4000000 in
theorem vc_Mo_nextOrder_at_gx_4_0 (x1 : Int) (x2 : Int) (x4 : Int) (x5 : Int) (x6 : Int) (x8 : Int) (x9 : Int) (x10 : Int) (x11 : Int) (x12 : Int) (x13 : Int) (x14 : Int) (x15 : Int) (order_2 : Int → Int) (order_0 : Int → Int) (order_1 : Int → Int) (k1 : 0 ≤ x1 ∧ x1 ≤ 8) (k2 : (-2) ≤ x2 ∧ x2 ≤ 16777216) (k4 : 2 ≤ x4 ∧ x4 ≤ 8) (k5 : 0 ≤ x5 ∧ x5 ≤ 6) (k6 : 0 ≤ x6 ∧ x6 ≤ 7) (k8 : 0 ≤ x8 ∧ x8 ≤ 25) (k9 : 0 ≤ x9 ∧ x9 ≤ 25) (k10 : 0 ≤ x10 ∧ x10 ≤ 25) (k11 : 0 ≤ x11 ∧ x11 ≤ 25) (k12 : 1 ≤ x12 ∧ x12 ≤ 1) (k13 : 1 ≤ x13 ∧ x13 ≤ 7) (k14 : 1 ≤ x14 ∧ x14 ≤ 1) (k15 : 1 ≤ x15 ∧ x15 ≤ 7) (d0 : x4 + (-1) ≤ x15 ∧ x15 ≤ x4 + (-1)) (d1 : x1 + (-4294967296) ≤ x15 ∧ x15 ≤ x1 + (-1)) (d2 : x5 + 1 ≤ x13 ∧ x13 ≤ x5 + 1) (d3 : x1 + (-4294967296) ≤ x13 ∧ x13 ≤ x1 + (-1)) (d4 : x4 + (-4294967296) ≤ x13 ∧ x13 ≤ x4 + (-1)) (d5 : x9 + 0 ≤ x8 ∧ x8 ≤ x9 + 4294967296) (d6 : x4 + (-4294967296) ≤ x1 ∧ x1 ≤ x4 + 0) (d7 : x1 + (-4294967296) ≤ x4 ∧ x4 ≤ x1 + 0) (d8 : x1 + (-4294967296) ≤ x5 ∧ x5 ≤ x1 + (-2)) (d9 : x4 + (-4294967296) ≤ x5 ∧ x5 ≤ x4 + (-2)) (d10 : x1 + (-4294967296) ≤ x6 ∧ x6 ≤ x1 + (-1)) (d11 : x4 + (-4294967296) ≤ x6 ∧ x6 ≤ x4 + (-1)) (f0 : x15 = x1 - x14) (f1 : x13 = x5 + x12) (f2 : x1 ≤ 8) (f7 : x1 ≤ 8) (h9 : x11 = order_2 (x6)) (h10 : x10 = order_2 (x5)) (f11 : x9 ≤ x8) (h12 : x9 = order_2 (x5)) (h13 : x8 = order_2 (x6)) (f14 : x1 ≤ 8) (f15 : NO2 (order_2) (x1) (x5) (x6)) (f16 : ORM (order_2) (x1) (x2)) (hE_0_96_1 : ∀ j : Int, 0 ≤ j → (j = x6 → order_0 j = x10) ∧ (j ≠ x6 → order_0 j = order_1 j)) (hE_0_96_2 : ∀ j : Int, 0 ≤ j → (j = x5 → order_1 j = x11) ∧ (j ≠ x5 → order_1 j = order_2 j)) (hK_0_96 : ∀ j : Int, 0 ≤ j → j < 26 → 0 ≤ order_0 j ∧ order_0 j ≤ 25) : NO3 (order_0) (x1) (x5) (x13) (x15) (x2) := by
  first
    | (have h := ‹NO2 _ _ _ _›
       have h2 := h.2.1
       have h4 := h.2.2.2
       exact no3_start h (by omega) (swp_st (by omega) (by omega) (by omega) (by assumption) (by omega) (by omega) (by assumption) (by omega) (by omega)) (by omega) (by omega) ‹ORM _ _ _›)
    | (have h := ‹NO3 _ _ _ _ _ _›
       have h2 := h.2.1
       have h3 := h.2.2.1
       have h4 := h.2.2.2.1
       exact no3_step h (by omega) (swp_st (by omega) (by omega) (by omega) (by assumption) (by omega) (by omega) (by assumption) (by omega) (by omega)) (by omega) (by omega))
def o_Mo_nextOrder_at_gx_4 : or_T := (100, 16, [(0, (2, 0, 0, [165])), (1, (0, 0, 8, [])), (2, (0, -2, 16777216, [])), (4, (0, 2, 8, [])), (5, (0, 0, 6, [])), (6, (0, 0, 7, [])), (8, (0, 0, 25, [])), (9, (0, 0, 25, [])), (10, (0, 0, 25, [])), (11, (0, 0, 25, [])), (12, (0, 1, 1, [])), (13, (0, 1, 7, [])), (14, (0, 1, 1, [])), (15, (0, 1, 7, []))], [(2, [15, 4, 14], []), (1, [13, 5, 12], []), (20, [4], [50, 0, 0, 0, 2, 1, 0, 0, 8]), (24, [0, 3], []), (24, [1, 4], []), (100, [7, 6, 10], []), (9, [7, 3], [96]), (20, [4], [50, 0, 0, 0, 2, 1, 0, 0, 8]), (100, [7, 5, 11], []), (10, [11, 7, 6], []), (10, [10, 7, 5], []), (7, [8, 9], [3]), (10, [9, 7, 5], []), (10, [8, 7, 6], []), (20, [4], [50, 0, 0, 0, 2, 1, 0, 0, 8]), (20, [3, 4, 5, 6], [60, 0, 1, 326, 96]), (20, [3, 4, 2], [60, 0, 1, 323, 96])], [], [], [(20, [3, 4, 5, 13, 15, 2], [60, 0, 1, 327, 96])], [], [(15, 4, -1, -1), (15, 1, -4294967296, -1), (13, 5, 1, 1), (13, 1, -4294967296, -1), (13, 4, -4294967296, -1), (8, 9, 0, 4294967296), (1, 4, -4294967296, 0), (4, 1, -4294967296, 0), (5, 1, -4294967296, -2), (5, 4, -4294967296, -2), (6, 1, -4294967296, -1), (6, 4, -4294967296, -1)])
theorem oo_Mo_nextOrder_at_gx_4 {kA : Nat → ClassId} : or_ok PRD kA GG o_Mo_nextOrder_at_gx_4 := by
  refine or_mk fun A ta ws vs hD hth hl => ?_
  intro t0 r0 t1 k1 t2 k2 t4 k4 t5 k5 t6 k6 t8 k8 t9 k9 t10 k10 t11 k11 t12 k12 t13 k13 t14 k14 t15 k15 d0 d1 d2 d3 d4 d5 d6 d7 d8 d9 d10 d11 f0 f1 f2 f3 f4 ta1 w1 le1 s1 f6 f7 ta2 w2 le2 s2 f9 f10 f11 f12 f13 f14 f15 f16
  replace f0 := shm_14 f0
  replace f1 := shm_12 f1
  replace f2 := shm_647 f2
  replace f3 := shm_5 f3
  replace f4 := shm_5 f4
  have s1 : (∀ b j, w_el ws b j = if b = v_ad (n_v vs 7) ∧ j = (v_iv (n_v vs 6)).toNat then v_iv (n_v vs 10) else w_el w1 b j) ∧ ∀ b k, w_fd ws b k = w_fd w1 b k := s1.2
  replace f6 := shm_653 f6
  replace f7 := shm_647 f7
  have s2 : (∀ b j, w_el w1 b j = if b = v_ad (n_v vs 7) ∧ j = (v_iv (n_v vs 5)).toNat then v_iv (n_v vs 11) else w_el w2 b j) ∧ ∀ b k, w_fd w1 b k = w_fd w2 b k := s2.2
  replace f9 := shm_106 f9
  replace f10 := shm_106 f10
  replace f11 := shm_2 f11
  replace f12 := shm_106 f12
  replace f13 := shm_106 f13
  replace f14 := shm_647 f14
  replace f15 := shm_654 f15
  replace f16 := shm_649 f16
  have q3 : n_v vs 3 = n_v vs 0 := f3.symm
  have q4 : n_v vs 4 = n_v vs 1 := f4.symm
  simp only [q4, q3] at f0 f2 f6 f7 f14 f15 f16
  have ar_0_96_1 : w_ar w1 (n_v vs 0) 96 = w_ar ws (n_v vs 0) 96 := congrArg v_ad (s1.2 _ _).symm
  have ar_0_96_2 : w_ar w2 (n_v vs 0) 96 = w_ar ws (n_v vs 0) 96 := by rw [← ar_0_96_1]; show v_ad (w_fd w2 _ _) = v_ad (w_fd w1 _ _); rw [s2.2]
  have cr_0_96 := fdq_165 hD hth r0
  have ad_7 : v_ad (n_v vs 7) = w_ar ws (n_v vs 0) 96 := (congrArg v_ad f6).trans ar_0_96_1
  simp only [ad_7] at f9
  have h9 : v_iv (n_v vs 11) = w_ei w2 (w_ar ws (n_v vs 0) 96) (v_iv (n_v vs 6)) := f9
  simp only [ad_7] at f10
  have h10 : v_iv (n_v vs 10) = w_ei w2 (w_ar ws (n_v vs 0) 96) (v_iv (n_v vs 5)) := f10
  simp only [ad_7] at f12
  have h12 : v_iv (n_v vs 9) = w_ei w2 (w_ar ws (n_v vs 0) 96) (v_iv (n_v vs 5)) := f12
  simp only [ad_7] at f13
  have h13 : v_iv (n_v vs 8) = w_ei w2 (w_ar ws (n_v vs 0) 96) (v_iv (n_v vs 6)) := f13
  simp only [ar_0_96_2] at f15 f16
  have hE_0_96_1 : ∀ j : Int, 0 ≤ j → (j = v_iv (n_v vs 6) → w_ei ws (w_ar ws (n_v vs 0) 96) j = v_iv (n_v vs 10)) ∧ (j ≠ v_iv (n_v vs 6) → w_ei ws (w_ar ws (n_v vs 0) 96) j = w_ei w1 (w_ar ws (n_v vs 0) 96) j) := fun j hj => ⟨fun h => by unfold w_ei; rw [s1.1, if_pos ⟨ad_7.symm, by rw [h]⟩], fun h => by unfold w_ei; rw [s1.1, if_neg (fun e => h (by have := e.2; omega))]⟩
  have hE_0_96_2 : ∀ j : Int, 0 ≤ j → (j = v_iv (n_v vs 5) → w_ei w1 (w_ar ws (n_v vs 0) 96) j = v_iv (n_v vs 11)) ∧ (j ≠ v_iv (n_v vs 5) → w_ei w1 (w_ar ws (n_v vs 0) 96) j = w_ei w2 (w_ar ws (n_v vs 0) 96) j) := fun j hj => ⟨fun h => by unfold w_ei; rw [s2.1, if_pos ⟨ad_7.symm, by rw [h]⟩], fun h => by unfold w_ei; rw [s2.1, if_neg (fun e => h (by have := e.2; omega))]⟩
  have hK_0_96 := elq_93 hD hth cr_0_96
  have nf0 : fc_1 PRD (20, [3, 4, 5, 13, 15, 2], [60, 0, 1, 327, 96]) ws (vs) := by
    refine ⟨nf_in hl rfl, sgq_655 ?_⟩
    · show NO3 (w_ei ws (w_ar ws (n_v vs 3) 96)) (v_iv (n_v vs 4)) (v_iv (n_v vs 5)) (v_iv (n_v vs 13)) (v_iv (n_v vs 15)) (v_iv (n_v vs 2))
      simp only [q3, q4]
      exact vc_Mo_nextOrder_at_gx_4_0 (v_iv (n_v vs 1)) (v_iv (n_v vs 2)) (v_iv (n_v vs 4)) (v_iv (n_v vs 5)) (v_iv (n_v vs 6)) (v_iv (n_v vs 8)) (v_iv (n_v vs 9)) (v_iv (n_v vs 10)) (v_iv (n_v vs 11)) (v_iv (n_v vs 12)) (v_iv (n_v vs 13)) (v_iv (n_v vs 14)) (v_iv (n_v vs 15)) (w_ei w2 (w_ar ws (n_v vs 0) 96)) (w_ei ws (w_ar ws (n_v vs 0) 96)) (w_ei w1 (w_ar ws (n_v vs 0) 96)) k1 k2 k4 k5 k6 k8 k9 k10 k11 k12 k13 k14 k15 d0 d1 d2 d3 d4 d5 d6 d7 d8 d9 d10 d11 f0 f1 f2 f7 h9 h10 f11 h12 h13 f14 f15 f16 hE_0_96_1 hE_0_96_2 hK_0_96
  refine ⟨(fun _ h => (by cases h)), [], trivial, ?_, (fun _ h => (by cases h))⟩
  rw [List.append_nil]
  exact List.forall_mem_cons.mpr ⟨⟨show (20 : Nat) < 100 from by decide, nf0⟩, (fun _ h => (by cases h))⟩
set_option maxHeartbeats 4000000 in
theorem vc_Mo_nextOrder_at_gx_5_r0 (x1 : Int) (x2 : Int) (x4 : Int) (x5 : Int) (x6 : Int) (x8 : Int) (x9 : Int) (order_0 : Int → Int) (k1 : 0 ≤ x1 ∧ x1 ≤ 8) (k2 : (-2) ≤ x2 ∧ x2 ≤ 16777216) (k4 : 2 ≤ x4 ∧ x4 ≤ 8) (k5 : 0 ≤ x5 ∧ x5 ≤ 6) (k6 : 0 ≤ x6 ∧ x6 ≤ 7) (k8 : 0 ≤ x8 ∧ x8 ≤ 24) (k9 : 1 ≤ x9 ∧ x9 ≤ 25) (d0 : x9 + (-4294967296) ≤ x8 ∧ x8 ≤ x9 + (-1)) (d1 : x4 + (-4294967296) ≤ x1 ∧ x1 ≤ x4 + 0) (d2 : x1 + (-4294967296) ≤ x4 ∧ x4 ≤ x1 + 0) (d3 : x1 + (-4294967296) ≤ x5 ∧ x5 ≤ x1 + (-2)) (d4 : x4 + (-4294967296) ≤ x5 ∧ x5 ≤ x4 + (-2)) (d5 : x1 + (-4294967296) ≤ x6 ∧ x6 ≤ x1 + (-1)) (d6 : x4 + (-4294967296) ≤ x6 ∧ x6 ≤ x4 + (-1)) (f0 : x8 < x9) (h1 : x9 = order_0 (x5)) (h3 : x8 = order_0 (x6)) (f4 : x1 ≤ 8) (f5 : NO2 (order_0) (x1) (x5) (x6)) (f6 : ORM (order_0) (x1) (x2)) (hK_0_96 : ∀ j : Int, 0 ≤ j → j < 26 → 0 ≤ order_0 j ∧ order_0 j ≤ 25) : 1 ≤ x6 ∧ x6 ≤ 7 := by
  first
    | omega
    | (have h := ‹NO1 _ _ _›.2; omega)
    | (have h := ‹NO2 _ _ _ _›.2; omega)
    | (have h := ‹NO3 _ _ _ _ _ _›.2; omega)
def o_Mo_nextOrder_at_gx_5 : or_T := (56, 10, [(0, (2, 0, 0, [165])), (1, (0, 0, 8, [])), (2, (0, -2, 16777216, [])), (3, (2, 0, 0, [165])), (4, (0, 2, 8, [])), (5, (0, 0, 6, [])), (6, (0, 0, 7, [])), (7, (2, 0, 0, [232])), (8, (0, 0, 24, [])), (9, (0, 1, 25, []))], [(7, [8, 9], [2]), (10, [9, 7, 5], []), (9, [7, 3], [96]), (10, [8, 7, 6], []), (20, [4], [50, 0, 0, 0, 2, 1, 0, 0, 8]), (20, [3, 4, 5, 6], [60, 0, 1, 326, 96]), (20, [3, 4, 2], [60, 0, 1, 323, 96]), (24, [0, 3], []), (24, [1, 4], [])], [(6, (0, 1, 7, []))], [], [], [], [(8, 9, -4294967296, -1), (1, 4, -4294967296, 0), (4, 1, -4294967296, 0), (5, 1, -4294967296, -2), (5, 4, -4294967296, -2), (6, 1, -4294967296, -1), (6, 4, -4294967296, -1)])
theorem oo_Mo_nextOrder_at_gx_5 {kA : Nat → ClassId} : or_ok PRD kA GG o_Mo_nextOrder_at_gx_5 := by
  refine or_mk fun A ta ws vs hD hth hl => ?_
  intro t0 r0 t1 k1 t2 k2 t3 r3 t4 k4 t5 k5 t6 k6 t7 r7 t8 k8 t9 k9 d0 d1 d2 d3 d4 d5 d6 f0 f1 f2 f3 f4 f5 f6 f7 f8
  replace f1 := shm_106 f1
  replace f2 := shm_653 f2
  replace f3 := shm_106 f3
  replace f4 := shm_647 f4
  replace f5 := shm_654 f5
  replace f6 := shm_649 f6
  replace f7 := shm_5 f7
  replace f8 := shm_5 f8
  have q3 : n_v vs 3 = n_v vs 0 := f7.symm
  have q4 : n_v vs 4 = n_v vs 1 := f8.symm
  simp only [q3, q4] at f2 f4 f5 f6
  have cr_0_96 := fdq_165 hD hth r0
  have ad_7 : v_ad (n_v vs 7) = w_ar ws (n_v vs 0) 96 := congrArg v_ad f2
  simp only [ad_7] at f1
  have h1 : v_iv (n_v vs 9) = w_ei ws (w_ar ws (n_v vs 0) 96) (v_iv (n_v vs 5)) := f1
  simp only [ad_7] at f3
  have h3 : v_iv (n_v vs 8) = w_ei ws (w_ar ws (n_v vs 0) 96) (v_iv (n_v vs 6)) := f3
  have hK_0_96 := elq_93 hD hth cr_0_96
  have hrf0 : 1 ≤ v_iv (n_v vs 6) ∧ v_iv (n_v vs 6) ≤ 7 := vc_Mo_nextOrder_at_gx_5_r0 (v_iv (n_v vs 1)) (v_iv (n_v vs 2)) (v_iv (n_v vs 4)) (v_iv (n_v vs 5)) (v_iv (n_v vs 6)) (v_iv (n_v vs 8)) (v_iv (n_v vs 9)) (w_ei ws (w_ar ws (n_v vs 0) 96)) k1 k2 k4 k5 k6 k8 k9 d0 d1 d2 d3 d4 d5 d6 (shm_6 f0) h1 h3 f4 f5 f6 hK_0_96
  have rf6 : tv_ok ta (0, 1, 7, []) (n_v vs 6) := tv_in t6 (by first | omega | grind) (by first | omega | grind)
  refine ⟨List.forall_mem_cons.mpr ⟨rf6, (fun _ h => (by cases h))⟩, [], trivial, ?_, (fun _ h => (by cases h))⟩
  rw [List.append_nil]
  exact (fun _ h => (by cases h))
set_option maxHeartbeats 4000000 in
theorem vc_Mo_nextOrder_at_gx_6_0 (x1 : Int) (x2 : Int) (x4 : Int) (x5 : Int) (x6 : Int) (x8 : Int) (x9 : Int) (x10 : Int) (order_0 : Int → Int) (k1 : 0 ≤ x1 ∧ x1 ≤ 8) (k2 : (-2) ≤ x2 ∧ x2 ≤ 16777216) (k4 : 2 ≤ x4 ∧ x4 ≤ 8) (k5 : 0 ≤ x5 ∧ x5 ≤ 6) (k6 : 1 ≤ x6 ∧ x6 ≤ 7) (k8 : 0 ≤ x8 ∧ x8 ≤ 24) (k9 : 1 ≤ x9 ∧ x9 ≤ 25) (k10 : 0 ≤ x10 ∧ x10 ≤ 6) (d0 : x6 + (-1) ≤ x10 ∧ x10 ≤ x6 + (-1)) (d1 : x1 + (-4294967296) ≤ x10 ∧ x10 ≤ x1 + (-2)) (d2 : x4 + (-4294967296) ≤ x10 ∧ x10 ≤ x4 + (-2)) (d3 : x9 + (-4294967296) ≤ x8 ∧ x8 ≤ x9 + (-1)) (d4 : x4 + (-4294967296) ≤ x1 ∧ x1 ≤ x4 + 0) (d5 : x1 + (-4294967296) ≤ x4 ∧ x4 ≤ x1 + 0) (d6 : x1 + (-4294967296) ≤ x5 ∧ x5 ≤ x1 + (-2)) (d7 : x4 + (-4294967296) ≤ x5 ∧ x5 ≤ x4 + (-2)) (d8 : x1 + (-4294967296) ≤ x6 ∧ x6 ≤ x1 + (-1)) (d9 : x4 + (-4294967296) ≤ x6 ∧ x6 ≤ x4 + (-1)) (f0 : x10 = x6 + (-1)) (f1 : x8 < x9) (h2 : x9 = order_0 (x5)) (h4 : x8 = order_0 (x6)) (f5 : x1 ≤ 8) (f6 : NO2 (order_0) (x1) (x5) (x6)) (f7 : ORM (order_0) (x1) (x2)) (hK_0_96 : ∀ j : Int, 0 ≤ j → j < 26 → 0 ≤ order_0 j ∧ order_0 j ≤ 25) : NO2 (order_0) (x1) (x5) (x10) := by
  first
    | exact no2_start ‹NO1 _ _ _› (by omega) (by rw [← (by omega : x9 = x5 + 1)]; omega) (by omega)
    | exact no2_step ‹NO2 _ _ _ _› (by omega) (by omega)
def o_Mo_nextOrder_at_gx_6 : or_T := (41, 11, [(0, (2, 0, 0, [165])), (1, (0, 0, 8, [])), (2, (0, -2, 16777216, [])), (4, (0, 2, 8, [])), (5, (0, 0, 6, [])), (6, (0, 1, 7, [])), (8, (0, 0, 24, [])), (9, (0, 1, 25, [])), (10, (0, 0, 6, []))], [(6, [10, 6], [-1]), (7, [8, 9], [2]), (10, [9, 7, 5], []), (9, [7, 3], [96]), (10, [8, 7, 6], []), (20, [4], [50, 0, 0, 0, 2, 1, 0, 0, 8]), (20, [3, 4, 5, 6], [60, 0, 1, 326, 96]), (20, [3, 4, 2], [60, 0, 1, 323, 96]), (24, [0, 3], []), (24, [1, 4], [])], [], [], [(20, [3, 4, 5, 10], [60, 0, 1, 326, 96])], [], [(10, 6, -1, -1), (10, 1, -4294967296, -2), (10, 4, -4294967296, -2), (8, 9, -4294967296, -1), (1, 4, -4294967296, 0), (4, 1, -4294967296, 0), (5, 1, -4294967296, -2), (5, 4, -4294967296, -2), (6, 1, -4294967296, -1), (6, 4, -4294967296, -1)])
theorem oo_Mo_nextOrder_at_gx_6 {kA : Nat → ClassId} : or_ok PRD kA GG o_Mo_nextOrder_at_gx_6 := by
  refine or_mk fun A ta ws vs hD hth hl => ?_
  intro t0 r0 t1 k1 t2 k2 t4 k4 t5 k5 t6 k6 t8 k8 t9 k9 t10 k10 d0 d1 d2 d3 d4 d5 d6 d7 d8 d9 f0 f1 f2 f3 f4 f5 f6 f7 f8 f9
  replace f0 := shm_198 f0
  replace f1 := shm_6 f1
  replace f2 := shm_106 f2
  replace f3 := shm_653 f3
  replace f4 := shm_106 f4
  replace f5 := shm_647 f5
  replace f6 := shm_654 f6
  replace f7 := shm_649 f7
  replace f8 := shm_5 f8
  replace f9 := shm_5 f9
  have q3 : n_v vs 3 = n_v vs 0 := f8.symm
  have q4 : n_v vs 4 = n_v vs 1 := f9.symm
  simp only [q3, q4] at f3 f5 f6 f7
  have cr_0_96 := fdq_165 hD hth r0
  have ad_7 : v_ad (n_v vs 7) = w_ar ws (n_v vs 0) 96 := congrArg v_ad f3
  simp only [ad_7] at f2
  have h2 : v_iv (n_v vs 9) = w_ei ws (w_ar ws (n_v vs 0) 96) (v_iv (n_v vs 5)) := f2
  simp only [ad_7] at f4
  have h4 : v_iv (n_v vs 8) = w_ei ws (w_ar ws (n_v vs 0) 96) (v_iv (n_v vs 6)) := f4
  have hK_0_96 := elq_93 hD hth cr_0_96
  have nf0 : fc_1 PRD (20, [3, 4, 5, 10], [60, 0, 1, 326, 96]) ws (vs) := by
    refine ⟨nf_in hl rfl, sgq_654 ?_⟩
    · show NO2 (w_ei ws (w_ar ws (n_v vs 3) 96)) (v_iv (n_v vs 4)) (v_iv (n_v vs 5)) (v_iv (n_v vs 10))
      simp only [q3, q4]
      exact vc_Mo_nextOrder_at_gx_6_0 (v_iv (n_v vs 1)) (v_iv (n_v vs 2)) (v_iv (n_v vs 4)) (v_iv (n_v vs 5)) (v_iv (n_v vs 6)) (v_iv (n_v vs 8)) (v_iv (n_v vs 9)) (v_iv (n_v vs 10)) (w_ei ws (w_ar ws (n_v vs 0) 96)) k1 k2 k4 k5 k6 k8 k9 k10 d0 d1 d2 d3 d4 d5 d6 d7 d8 d9 f0 f1 h2 h4 f5 f6 f7 hK_0_96
  refine ⟨(fun _ h => (by cases h)), [], trivial, ?_, (fun _ h => (by cases h))⟩
  rw [List.append_nil]
  exact List.forall_mem_cons.mpr ⟨⟨show (20 : Nat) < 100 from by decide, nf0⟩, (fun _ h => (by cases h))⟩
set_option maxHeartbeats 4000000 in
theorem vc_Mo_nextOrder_at_gx_7_0 (x1 : Int) (x2 : Int) (x4 : Int) (x5 : Int) (x8 : Int) (x9 : Int) (x10 : Int) (order_0 : Int → Int) (k1 : 2 ≤ x1 ∧ x1 ≤ 8) (k2 : (-2) ≤ x2 ∧ x2 ≤ 16777216) (k4 : 2 ≤ x4 ∧ x4 ≤ 8) (k5 : 0 ≤ x5 ∧ x5 ≤ 6) (k8 : 1 ≤ x8 ∧ x8 ≤ 7) (k9 : 1 ≤ x9 ∧ x9 ≤ 7) (k10 : 1 ≤ x10 ∧ x10 ≤ 1) (d0 : x9 + 0 ≤ x8 ∧ x8 ≤ x9 + 4294967296) (d1 : x4 + (-4294967296) ≤ x1 ∧ x1 ≤ x4 + 0) (d2 : x1 + (-4294967296) ≤ x4 ∧ x4 ≤ x1 + 0) (d3 : x1 + (-4294967296) ≤ x5 ∧ x5 ≤ x1 + (-2)) (d4 : x4 + (-4294967296) ≤ x5 ∧ x5 ≤ x4 + (-2)) (d5 : x8 + (-4294967296) ≤ x5 ∧ x5 ≤ x8 + (-1)) (d6 : x1 + (-4294967296) ≤ x8 ∧ x8 ≤ x1 + (-1)) (d7 : x4 + (-4294967296) ≤ x8 ∧ x8 ≤ x4 + (-1)) (d8 : x9 + (-4294967296) ≤ x8 ∧ x8 ≤ x9 + 1) (d9 : x1 + (-4294967296) ≤ x9 ∧ x9 ≤ x1 + (-1)) (d10 : x4 + (-4294967296) ≤ x9 ∧ x9 ≤ x4 + (-1)) (f0 : x9 ≤ x8) (f1 : x1 ≤ 8) (f2 : NO3 (order_0) (x1) (x5) (x8) (x9) (x2)) (hK_0_96 : ∀ j : Int, 0 ≤ j → j < 26 → 0 ≤ order_0 j ∧ order_0 j ≤ 25) : DIS (order_0) (x1) := by
  exact ‹NO3 _ _ _ _ _ _›.1
set_option maxHeartbeats 4000000 in
theorem vc_Mo_nextOrder_at_gx_7_1 (x1 : Int) (x2 : Int) (x4 : Int) (x5 : Int) (x8 : Int) (x9 : Int) (x10 : Int) (order_0 : Int → Int) (k1 : 2 ≤ x1 ∧ x1 ≤ 8) (k2 : (-2) ≤ x2 ∧ x2 ≤ 16777216) (k4 : 2 ≤ x4 ∧ x4 ≤ 8) (k5 : 0 ≤ x5 ∧ x5 ≤ 6) (k8 : 1 ≤ x8 ∧ x8 ≤ 7) (k9 : 1 ≤ x9 ∧ x9 ≤ 7) (k10 : 1 ≤ x10 ∧ x10 ≤ 1) (d0 : x9 + 0 ≤ x8 ∧ x8 ≤ x9 + 4294967296) (d1 : x4 + (-4294967296) ≤ x1 ∧ x1 ≤ x4 + 0) (d2 : x1 + (-4294967296) ≤ x4 ∧ x4 ≤ x1 + 0) (d3 : x1 + (-4294967296) ≤ x5 ∧ x5 ≤ x1 + (-2)) (d4 : x4 + (-4294967296) ≤ x5 ∧ x5 ≤ x4 + (-2)) (d5 : x8 + (-4294967296) ≤ x5 ∧ x5 ≤ x8 + (-1)) (d6 : x1 + (-4294967296) ≤ x8 ∧ x8 ≤ x1 + (-1)) (d7 : x4 + (-4294967296) ≤ x8 ∧ x8 ≤ x4 + (-1)) (d8 : x9 + (-4294967296) ≤ x8 ∧ x8 ≤ x9 + 1) (d9 : x1 + (-4294967296) ≤ x9 ∧ x9 ≤ x1 + (-1)) (d10 : x4 + (-4294967296) ≤ x9 ∧ x9 ≤ x4 + (-1)) (f0 : x9 ≤ x8) (f1 : x1 ≤ 8) (f2 : NO3 (order_0) (x1) (x5) (x8) (x9) (x2)) (hK_0_96 : ∀ j : Int, 0 ≤ j → j < 26 → 0 ≤ order_0 j ∧ order_0 j ≤ 25) : ORN (order_0) (x1) (x2) (x10) := by
  exact no3_end (by omega) ‹NO3 _ _ _ _ _ _›
def o_Mo_nextOrder_at_gx_7 : or_T := (149, 11, [(0, (2, 0, 0, [165])), (1, (0, 2, 8, [])), (2, (0, -2, 16777216, [])), (4, (0, 2, 8, [])), (5, (0, 0, 6, [])), (8, (0, 1, 7, [])), (9, (0, 1, 7, [])), (10, (0, 1, 1, []))], [(7, [8, 9], [3]), (20, [4], [50, 0, 0, 0, 2, 1, 0, 0, 8]), (20, [3, 4, 5, 8, 9, 2], [60, 0, 1, 327, 96]), (24, [0, 3], []), (24, [1, 4], [])], [], [], [(20, [0, 1], [60, 0, 1, 322, 96]), (20, [0, 1, 2, 10], [60, 0, 1, 324, 96])], [], [(8, 9, 0, 4294967296), (1, 4, -4294967296, 0), (4, 1, -4294967296, 0), (5, 1, -4294967296, -2), (5, 4, -4294967296, -2), (5, 8, -4294967296, -1), (8, 1, -4294967296, -1), (8, 4, -4294967296, -1), (8, 9, -4294967296, 1), (9, 1, -4294967296, -1), (9, 4, -4294967296, -1)])
theorem oo_Mo_nextOrder_at_gx_7 {kA : Nat → ClassId} : or_ok PRD kA GG o_Mo_nextOrder_at_gx_7 := by
  refine or_mk fun A ta ws vs hD hth hl => ?_
  intro t0 r0 t1 k1 t2 k2 t4 k4 t5 k5 t8 k8 t9 k9 t10 k10 d0 d1 d2 d3 d4 d5 d6 d7 d8 d9 d10 f0 f1 f2 f3 f4
  replace f1 := shm_647 f1
  replace f2 := shm_655 f2
  replace f3 := shm_5 f3
  replace f4 := shm_5 f4
  have q3 : n_v vs 3 = n_v vs 0 := f3.symm
  have q4 : n_v vs 4 = n_v vs 1 := f4.symm
  simp only [q4, q3] at f1 f2
  have cr_0_96 := fdq_165 hD hth r0
  have hK_0_96 := elq_93 hD hth cr_0_96
  have nf0 : fc_1 PRD (20, [0, 1], [60, 0, 1, 322, 96]) ws (vs) := ⟨nf_in hl rfl, sgq_648 (vc_Mo_nextOrder_at_gx_7_0 (v_iv (n_v vs 1)) (v_iv (n_v vs 2)) (v_iv (n_v vs 4)) (v_iv (n_v vs 5)) (v_iv (n_v vs 8)) (v_iv (n_v vs 9)) (v_iv (n_v vs 10)) (w_ei ws (w_ar ws (n_v vs 0) 96)) k1 k2 k4 k5 k8 k9 k10 d0 d1 d2 d3 d4 d5 d6 d7 d8 d9 d10 (shm_2 f0) f1 f2 hK_0_96)⟩
  have nf1 : fc_1 PRD (20, [0, 1, 2, 10], [60, 0, 1, 324, 96]) ws (vs) := ⟨nf_in hl rfl, sgq_652 (vc_Mo_nextOrder_at_gx_7_1 (v_iv (n_v vs 1)) (v_iv (n_v vs 2)) (v_iv (n_v vs 4)) (v_iv (n_v vs 5)) (v_iv (n_v vs 8)) (v_iv (n_v vs 9)) (v_iv (n_v vs 10)) (w_ei ws (w_ar ws (n_v vs 0) 96)) k1 k2 k4 k5 k8 k9 k10 d0 d1 d2 d3 d4 d5 d6 d7 d8 d9 d10 (shm_2 f0) f1 f2 hK_0_96)⟩
  refine ⟨(fun _ h => (by cases h)), [], trivial, ?_, (fun _ h => (by cases h))⟩
  rw [List.append_nil]
  exact List.forall_mem_cons.mpr ⟨⟨show (20 : Nat) < 100 from by decide, nf0⟩, List.forall_mem_cons.mpr ⟨⟨show (20 : Nat) < 100 from by decide, nf1⟩, (fun _ h => (by cases h))⟩⟩
set_option maxHeartbeats 4000000 in
theorem vc_Mo_nextOrder_at_gx_8_0 (x1 : Int) (x2 : Int) (x4 : Int) (x5 : Int) (x8 : Int) (x9 : Int) (x11 : Int) (x12 : Int) (x13 : Int) (x14 : Int) (order_2 : Int → Int) (order_0 : Int → Int) (order_1 : Int → Int) (k1 : 3 ≤ x1 ∧ x1 ≤ 8) (k2 : (-2) ≤ x2 ∧ x2 ≤ 16777216) (k4 : 3 ≤ x4 ∧ x4 ≤ 8) (k5 : 0 ≤ x5 ∧ x5 ≤ 5) (k8 : 1 ≤ x8 ∧ x8 ≤ 6) (k9 : 2 ≤ x9 ∧ x9 ≤ 7) (k11 : 0 ≤ x11 ∧ x11 ≤ 25) (k12 : 0 ≤ x12 ∧ x12 ≤ 25) (k13 : 2 ≤ x13 ∧ x13 ≤ 7) (k14 : 1 ≤ x14 ∧ x14 ≤ 6) (d0 : x9 + (-1) ≤ x14 ∧ x14 ≤ x9 + (-1)) (d1 : x1 + (-4294967296) ≤ x14 ∧ x14 ≤ x1 + (-2)) (d2 : x4 + (-4294967296) ≤ x14 ∧ x14 ≤ x4 + (-2)) (d3 : x8 + 1 ≤ x13 ∧ x13 ≤ x8 + 1) (d4 : x9 + (-4294967296) ≤ x13 ∧ x13 ≤ x9 + 0) (d5 : x1 + (-4294967296) ≤ x13 ∧ x13 ≤ x1 + 0) (d6 : x4 + (-4294967296) ≤ x13 ∧ x13 ≤ x4 + 0) (d7 : x9 + (-4294967296) ≤ x13 ∧ x13 ≤ x9 + 2) (d8 : x9 + (-4294967296) ≤ x8 ∧ x8 ≤ x9 + (-1)) (d9 : x4 + (-4294967296) ≤ x1 ∧ x1 ≤ x4 + 0) (d10 : x1 + (-4294967296) ≤ x4 ∧ x4 ≤ x1 + 0) (d11 : x1 + (-4294967296) ≤ x5 ∧ x5 ≤ x1 + (-2)) (d12 : x4 + (-4294967296) ≤ x5 ∧ x5 ≤ x4 + (-2)) (d13 : x8 + (-4294967296) ≤ x5 ∧ x5 ≤ x8 + (-1)) (d14 : x1 + (-4294967296) ≤ x8 ∧ x8 ≤ x1 + (-1)) (d15 : x4 + (-4294967296) ≤ x8 ∧ x8 ≤ x4 + (-1)) (d16 : x9 + (-4294967296) ≤ x8 ∧ x8 ≤ x9 + 1) (d17 : x1 + (-4294967296) ≤ x9 ∧ x9 ≤ x1 + (-1)) (d18 : x4 + (-4294967296) ≤ x9 ∧ x9 ≤ x4 + (-1)) (f0 : x14 = x9 + (-1)) (f1 : x13 = x8 + 1) (f2 : x1 ≤ 8) (f7 : x1 ≤ 8) (h9 : x12 = order_2 (x9)) (h10 : x11 = order_2 (x8)) (f11 : x8 < x9) (f12 : x1 ≤ 8) (f13 : NO3 (order_2) (x1) (x5) (x8) (x9) (x2)) (hE_0_96_1 : ∀ j : Int, 0 ≤ j → (j = x9 → order_0 j = x11) ∧ (j ≠ x9 → order_0 j = order_1 j)) (hE_0_96_2 : ∀ j : Int, 0 ≤ j → (j = x8 → order_1 j = x12) ∧ (j ≠ x8 → order_1 j = order_2 j)) (hK_0_96 : ∀ j : Int, 0 ≤ j → j < 26 → 0 ≤ order_0 j ∧ order_0 j ≤ 25) : NO3 (order_0) (x1) (x5) (x13) (x14) (x2) := by
  first
    | (have h := ‹NO2 _ _ _ _›
       have h2 := h.2.1
       have h4 := h.2.2.2
       exact no3_start h (by omega) (swp_st (by omega) (by omega) (by omega) (by assumption) (by omega) (by omega) (by assumption) (by omega) (by omega)) (by omega) (by omega) ‹ORM _ _ _›)
    | (have h := ‹NO3 _ _ _ _ _ _›
       have h2 := h.2.1
       have h3 := h.2.2.1
       have h4 := h.2.2.2.1
       exact no3_step h (by omega) (swp_st (by omega) (by omega) (by omega) (by assumption) (by omega) (by omega) (by assumption) (by omega) (by omega)) (by omega) (by omega))
def o_Mo_nextOrder_at_gx_8 : or_T := (100, 15, [(0, (2, 0, 0, [165])), (1, (0, 3, 8, [])), (2, (0, -2, 16777216, [])), (4, (0, 3, 8, [])), (5, (0, 0, 5, [])), (8, (0, 1, 6, [])), (9, (0, 2, 7, [])), (11, (0, 0, 25, [])), (12, (0, 0, 25, [])), (13, (0, 2, 7, [])), (14, (0, 1, 6, []))], [(6, [14, 9], [-1]), (6, [13, 8], [1]), (20, [4], [50, 0, 0, 0, 2, 1, 0, 0, 8]), (24, [0, 3], []), (24, [1, 4], []), (100, [10, 9, 11], []), (9, [10, 3], [96]), (20, [4], [50, 0, 0, 0, 2, 1, 0, 0, 8]), (100, [10, 8, 12], []), (10, [12, 10, 9], []), (10, [11, 10, 8], []), (7, [8, 9], [2]), (20, [4], [50, 0, 0, 0, 2, 1, 0, 0, 8]), (20, [3, 4, 5, 8, 9, 2], [60, 0, 1, 327, 96])], [], [], [(20, [3, 4, 5, 13, 14, 2], [60, 0, 1, 327, 96])], [], [(14, 9, -1, -1), (14, 1, -4294967296, -2), (14, 4, -4294967296, -2), (13, 8, 1, 1), (13, 9, -4294967296, 0), (13, 1, -4294967296, 0), (13, 4, -4294967296, 0), (13, 9, -4294967296, 2), (8, 9, -4294967296, -1), (1, 4, -4294967296, 0), (4, 1, -4294967296, 0), (5, 1, -4294967296, -2), (5, 4, -4294967296, -2), (5, 8, -4294967296, -1), (8, 1, -4294967296, -1), (8, 4, -4294967296, -1), (8, 9, -4294967296, 1), (9, 1, -4294967296, -1), (9, 4, -4294967296, -1)])
theorem oo_Mo_nextOrder_at_gx_8 {kA : Nat → ClassId} : or_ok PRD kA GG o_Mo_nextOrder_at_gx_8 := by
  refine or_mk fun A ta ws vs hD hth hl => ?_
  intro t0 r0 t1 k1 t2 k2 t4 k4 t5 k5 t8 k8 t9 k9 t11 k11 t12 k12 t13 k13 t14 k14 d0 d1 d2 d3 d4 d5 d6 d7 d8 d9 d10 d11 d12 d13 d14 d15 d16 d17 d18 f0 f1 f2 f3 f4 ta1 w1 le1 s1 f6 f7 ta2 w2 le2 s2 f9 f10 f11 f12 f13
  replace f0 := shm_198 f0
  replace f1 := shm_4 f1
  replace f2 := shm_647 f2
  replace f3 := shm_5 f3
  replace f4 := shm_5 f4
  have s1 : (∀ b j, w_el ws b j = if b = v_ad (n_v vs 10) ∧ j = (v_iv (n_v vs 9)).toNat then v_iv (n_v vs 11) else w_el w1 b j) ∧ ∀ b k, w_fd ws b k = w_fd w1 b k := s1.2
  replace f6 := shm_653 f6
  replace f7 := shm_647 f7
  have s2 : (∀ b j, w_el w1 b j = if b = v_ad (n_v vs 10) ∧ j = (v_iv (n_v vs 8)).toNat then v_iv (n_v vs 12) else w_el w2 b j) ∧ ∀ b k, w_fd w1 b k = w_fd w2 b k := s2.2
  replace f9 := shm_106 f9
  replace f10 := shm_106 f10
  replace f11 := shm_6 f11
  replace f12 := shm_647 f12
  replace f13 := shm_655 f13
  have q3 : n_v vs 3 = n_v vs 0 := f3.symm
  have q4 : n_v vs 4 = n_v vs 1 := f4.symm
  simp only [q4, q3] at f2 f6 f7 f12 f13
  have ar_0_96_1 : w_ar w1 (n_v vs 0) 96 = w_ar ws (n_v vs 0) 96 := congrArg v_ad (s1.2 _ _).symm
  have ar_0_96_2 : w_ar w2 (n_v vs 0) 96 = w_ar ws (n_v vs 0) 96 := by rw [← ar_0_96_1]; show v_ad (w_fd w2 _ _) = v_ad (w_fd w1 _ _); rw [s2.2]
  have cr_0_96 := fdq_165 hD hth r0
  have ad_10 : v_ad (n_v vs 10) = w_ar ws (n_v vs 0) 96 := (congrArg v_ad f6).trans ar_0_96_1
  simp only [ad_10] at f9
  have h9 : v_iv (n_v vs 12) = w_ei w2 (w_ar ws (n_v vs 0) 96) (v_iv (n_v vs 9)) := f9
  simp only [ad_10] at f10
  have h10 : v_iv (n_v vs 11) = w_ei w2 (w_ar ws (n_v vs 0) 96) (v_iv (n_v vs 8)) := f10
  simp only [ar_0_96_2] at f13
  have hE_0_96_1 : ∀ j : Int, 0 ≤ j → (j = v_iv (n_v vs 9) → w_ei ws (w_ar ws (n_v vs 0) 96) j = v_iv (n_v vs 11)) ∧ (j ≠ v_iv (n_v vs 9) → w_ei ws (w_ar ws (n_v vs 0) 96) j = w_ei w1 (w_ar ws (n_v vs 0) 96) j) := fun j hj => ⟨fun h => by unfold w_ei; rw [s1.1, if_pos ⟨ad_10.symm, by rw [h]⟩], fun h => by unfold w_ei; rw [s1.1, if_neg (fun e => h (by have := e.2; omega))]⟩
  have hE_0_96_2 : ∀ j : Int, 0 ≤ j → (j = v_iv (n_v vs 8) → w_ei w1 (w_ar ws (n_v vs 0) 96) j = v_iv (n_v vs 12)) ∧ (j ≠ v_iv (n_v vs 8) → w_ei w1 (w_ar ws (n_v vs 0) 96) j = w_ei w2 (w_ar ws (n_v vs 0) 96) j) := fun j hj => ⟨fun h => by unfold w_ei; rw [s2.1, if_pos ⟨ad_10.symm, by rw [h]⟩], fun h => by unfold w_ei; rw [s2.1, if_neg (fun e => h (by have := e.2; omega))]⟩
  have hK_0_96 := elq_93 hD hth cr_0_96
  have nf0 : fc_1 PRD (20, [3, 4, 5, 13, 14, 2], [60, 0, 1, 327, 96]) ws (vs) := by
    refine ⟨nf_in hl rfl, sgq_655 ?_⟩
    · show NO3 (w_ei ws (w_ar ws (n_v vs 3) 96)) (v_iv (n_v vs 4)) (v_iv (n_v vs 5)) (v_iv (n_v vs 13)) (v_iv (n_v vs 14)) (v_iv (n_v vs 2))
      simp only [q3, q4]
      exact vc_Mo_nextOrder_at_gx_8_0 (v_iv (n_v vs 1)) (v_iv (n_v vs 2)) (v_iv (n_v vs 4)) (v_iv (n_v vs 5)) (v_iv (n_v vs 8)) (v_iv (n_v vs 9)) (v_iv (n_v vs 11)) (v_iv (n_v vs 12)) (v_iv (n_v vs 13)) (v_iv (n_v vs 14)) (w_ei w2 (w_ar ws (n_v vs 0) 96)) (w_ei ws (w_ar ws (n_v vs 0) 96)) (w_ei w1 (w_ar ws (n_v vs 0) 96)) k1 k2 k4 k5 k8 k9 k11 k12 k13 k14 d0 d1 d2 d3 d4 d5 d6 d7 d8 d9 d10 d11 d12 d13 d14 d15 d16 d17 d18 f0 f1 f2 f7 h9 h10 f11 f12 f13 hE_0_96_1 hE_0_96_2 hK_0_96
  refine ⟨(fun _ h => (by cases h)), [], trivial, ?_, (fun _ h => (by cases h))⟩
  rw [List.append_nil]
  exact List.forall_mem_cons.mpr ⟨⟨show (20 : Nat) < 100 from by decide, nf0⟩, (fun _ h => (by cases h))⟩
def n_Mo_nextOrder_at_gx_an : List an_T := [(4, [(0, (2, 0, 0, [165])), (1, (0, 0, 8, [])), (2, (0, (Int.negSucc 1), 6, []))], [], (0, 0), [(0, 0, 99996), (2, 5, (Int.negSucc 1)), (0, 0, 100000)], [(1, 4, (Int.negSucc 999999999999), 0), (4, 1, (Int.negSucc 999999999999), 0), (5, 1, (Int.negSucc 999999999999), (Int.negSucc 1)), (5, 4, (Int.negSucc 999999999999), (Int.negSucc 1))], [], [(2, 0, 0, [165]), (0, 0, 8, []), (0, (Int.negSucc 1), 16777216, [])], 0, [], [(20, [4], [50, 0, 0, 0, 2, 1, 0, 0, 8]), (20, [3, 4, 5], [60, 0, 1, 325, 96]), (20, [3, 4, 2], [60, 0, 1, 323, 96]), (24, [0, 3], []), (24, [1, 4], [])]), (41, [(0, (2, 0, 0, [165])), (1, (0, 2, 8, [])), (2, (0, 0, 6, [])), (3, (0, 0, 7, []))], [], (0, 0), [(0, 0, 99959), (2, 6, 0), (0, 0, 100000)], [(1, 4, (Int.negSucc 999999999999), 0), (4, 1, (Int.negSucc 999999999999), 0), (5, 1, (Int.negSucc 999999999999), (Int.negSucc 1)), (5, 4, (Int.negSucc 999999999999), (Int.negSucc 1)), (6, 1, (Int.negSucc 999999999999), (Int.negSucc 0)), (6, 4, (Int.negSucc 999999999999), (Int.negSucc 0))], [], [(2, 0, 0, [165]), (0, 0, 8, []), (0, (Int.negSucc 1), 16777216, [])], 0, [], [(20, [4], [50, 0, 0, 0, 2, 1, 0, 0, 8]), (20, [3, 4, 5, 6], [60, 0, 1, 326, 96]), (20, [3, 4, 2], [60, 0, 1, 323, 96]), (24, [0, 3], []), (24, [1, 4], [])]), (100, [(0, (2, 0, 0, [165])), (1, (0, 2, 8, [])), (2, (0, 0, 6, [])), (3, (0, 0, 7, [])), (4, (0, 0, 25, [])), (5, (0, 1, 7, [])), (6, (0, 1, 7, []))], [], (0, 0), [(0, 0, 99900), (1, 8, 7), (0, 0, 100000)], [(1, 4, (Int.negSucc 999999999999), 0), (4, 1, (Int.negSucc 999999999999), 0), (5, 1, (Int.negSucc 999999999999), (Int.negSucc 1)), (5, 4, (Int.negSucc 999999999999), (Int.negSucc 1)), (5, 8, (Int.negSucc 999999999999), (Int.negSucc 0)), (6, 1, (Int.negSucc 999999999999), (Int.negSucc 0)), (6, 4, (Int.negSucc 999999999999), (Int.negSucc 0)), (8, 1, (Int.negSucc 999999999999), (Int.negSucc 0)), (8, 4, (Int.negSucc 999999999999), (Int.negSucc 0)), (8, 9, (Int.negSucc 999999999999), 1), (9, 1, (Int.negSucc 999999999999), (Int.negSucc 0)), (9, 4, (Int.negSucc 999999999999), (Int.negSucc 0))], [], [(2, 0, 0, [165]), (0, 0, 8, []), (0, (Int.negSucc 1), 16777216, [])], 0, [], [(20, [4], [50, 0, 0, 0, 2, 1, 0, 0, 8]), (20, [3, 4, 5, 8, 9, 2], [60, 0, 1, 327, 96]), (24, [0, 3], []), (24, [1, 4], [])])]
def t_Mo_nextOrder_at_gx_ct : ct_L := []
set_option maxRecDepth 100000 in
theorem c_Mo_nextOrder_at_gx {l : Launch} {D : va_G} {kA : Nat → ClassId} : ct_ok PRD l D kA GG y_Mo_nextOrder_at_gx z_Mo_nextOrder_at_gx e_Mo_nextOrder_at_gx := chk_all_ok (FT := [(213, 13, 96)]) (PT := []) (CT := t_Mo_nextOrder_at_gx_ct) (KT := []) (NT := []) (AN := n_Mo_nextOrder_at_gx_an) (OT := [o_Mo_nextOrder_at_gx_0, o_Mo_nextOrder_at_gx_1, o_Mo_nextOrder_at_gx_2, o_Mo_nextOrder_at_gx_3, o_Mo_nextOrder_at_gx_4, o_Mo_nextOrder_at_gx_5, o_Mo_nextOrder_at_gx_6, o_Mo_nextOrder_at_gx_7, o_Mo_nextOrder_at_gx_8]) 3 368 (List.forall_mem_cons.mpr ⟨oo_Mo_nextOrder_at_gx_0, List.forall_mem_cons.mpr ⟨oo_Mo_nextOrder_at_gx_1, List.forall_mem_cons.mpr ⟨oo_Mo_nextOrder_at_gx_2, List.forall_mem_cons.mpr ⟨oo_Mo_nextOrder_at_gx_3, List.forall_mem_cons.mpr ⟨oo_Mo_nextOrder_at_gx_4, List.forall_mem_cons.mpr ⟨oo_Mo_nextOrder_at_gx_5, List.forall_mem_cons.mpr ⟨oo_Mo_nextOrder_at_gx_6, List.forall_mem_cons.mpr ⟨oo_Mo_nextOrder_at_gx_7, List.forall_mem_cons.mpr ⟨oo_Mo_nextOrder_at_gx_8, List.forall_mem_nil _⟩⟩⟩⟩⟩⟩⟩⟩⟩) (by decide +kernel) ⟨List.forall_mem_cons.mpr ⟨gf_Mo_213, List.forall_mem_nil _⟩, List.forall_mem_nil _, List.forall_mem_nil _, List.forall_mem_nil _, List.forall_mem_nil _, GG_pl⟩ (by decide +kernel)
set_option maxHeartbeats 4000000 in
theorem vc_Mo_placeIn_0_0 (x1 : Int) (x2 : Int) (best_0 : Int → Int) (members_0 : Int) (k1 : 0 ≤ x1 ∧ x1 ≤ 23) (k2 : 0 ≤ x2 ∧ x2 ≤ 0) (hK_0_97 : ∀ j : Int, 0 ≤ j → j < 26 → 0 ≤ best_0 j ∧ best_0 j ≤ 25) (kz_0_99 : 0 ≤ members_0 ∧ members_0 ≤ 26) : PIL (best_0) (x1) (x2) := by
  first
    | (intro j a b; exfalso; omega)
    | exact pil_next ‹PIL _ _ _› (by omega) (by assumption) (by omega)
set_option maxHeartbeats 4000000 in
theorem vc_Mo_placeIn_0_1 (x1 : Int) (x2 : Int) (best_0 : Int → Int) (members_0 : Int) (k1 : 0 ≤ x1 ∧ x1 ≤ 23) (k2 : 0 ≤ x2 ∧ x2 ≤ 0) (hK_0_97 : ∀ j : Int, 0 ≤ j → j < 26 → 0 ≤ best_0 j ∧ best_0 j ≤ 25) (kz_0_99 : 0 ≤ members_0 ∧ members_0 ≤ 26) : x2 ≤ members_0 := by
  omega
def o_Mo_placeIn_0 : or_T := (2, 3, [(0, (2, 0, 0, [165])), (1, (0, 0, 23, [])), (2, (0, 0, 0, []))], [], [], [], [(20, [0, 1, 2], [60, 0, 1, 360, 97]), (20, [2, 0], [50, 1, 0, 1099, 0, 2, 1, 0, 2, 1, 99]), (24, [0, 0], []), (24, [1, 1], [])], [], [])
theorem oo_Mo_placeIn_0 {kA : Nat → ClassId} : or_ok PRD kA GG o_Mo_placeIn_0 := by
  refine or_mk fun A ta ws vs hD hth hl => ?_
  intro t0 r0 t1 k1 t2 k2
  have cr_0_97 := fdq_168 hD hth r0
  have hK_0_97 := elq_96 hD hth cr_0_97
  have kz_0_99 := fdq_157 hD hth r0
  have nf0 : fc_1 PRD (20, [0, 1, 2], [60, 0, 1, 360, 97]) ws (vs) := ⟨nf_in hl rfl, sgq_656 (vc_Mo_placeIn_0_0 (v_iv (n_v vs 1)) (v_iv (n_v vs 2)) (w_ei ws (w_ar ws (n_v vs 0) 97)) (w_fi ws (n_v vs 0) 99) k1 k2 hK_0_97 kz_0_99)⟩
  have nf1 : fc_1 PRD (20, [2, 0], [50, 1, 0, 1099, 0, 2, 1, 0, 2, 1, 99]) ws (vs) := ⟨nf_in hl rfl, sgq_657 (vc_Mo_placeIn_0_1 (v_iv (n_v vs 1)) (v_iv (n_v vs 2)) (w_ei ws (w_ar ws (n_v vs 0) 97)) (w_fi ws (n_v vs 0) 99) k1 k2 hK_0_97 kz_0_99)⟩
  have nf2 : fc_1 PRD (24, [0, 0], []) ws (vs) := by
    refine ⟨nf_in hl rfl, sgq_1 ?_⟩
    · show n_v vs 0 = n_v vs 0
      first | rfl | simp only [true_and]
  have nf3 : fc_1 PRD (24, [1, 1], []) ws (vs) := by
    refine ⟨nf_in hl rfl, sgq_1 ?_⟩
    · show n_v vs 1 = n_v vs 1
      first | rfl | simp only [true_and]
  refine ⟨(fun _ h => (by cases h)), [], trivial, ?_, (fun _ h => (by cases h))⟩
  rw [List.append_nil]
  exact List.forall_mem_cons.mpr ⟨⟨show (20 : Nat) < 100 from by decide, nf0⟩, List.forall_mem_cons.mpr ⟨⟨show (20 : Nat) < 100 from by decide, nf1⟩, List.forall_mem_cons.mpr ⟨⟨show (24 : Nat) < 100 from by decide, nf2⟩, List.forall_mem_cons.mpr ⟨⟨show (24 : Nat) < 100 from by decide, nf3⟩, (fun _ h => (by cases h))⟩⟩⟩⟩
set_option maxHeartbeats 4000000 in
theorem vc_Mo_placeIn_1_0 (x1 : Int) (x3 : Int) (x4 : Int) (x5 : Int) (members_0 : Int) (best_0 : Int → Int) (k1 : 0 ≤ x1 ∧ x1 ≤ 23) (k3 : 0 ≤ x3 ∧ x3 ≤ 23) (k4 : 0 ≤ x4 ∧ x4 ≤ 26) (k5 : 0 ≤ x5 ∧ x5 ≤ 26) (d0 : x5 + 0 ≤ x4 ∧ x4 ≤ x5 + 4294967296) (d1 : x3 + (-4294967296) ≤ x1 ∧ x1 ≤ x3 + 0) (d2 : x1 + (-4294967296) ≤ x3 ∧ x3 ≤ x1 + 0) (f0 : x5 ≤ x4) (g1 : x5 = members_0) (f2 : PIL (best_0) (x1) (x4)) (f3 : x4 ≤ members_0) (hK_0_97 : ∀ j : Int, 0 ≤ j → j < 26 → 0 ≤ best_0 j ∧ best_0 j ≤ 25) (kz_0_99 : 0 ≤ members_0 ∧ members_0 ≤ 26) : PIN (members_0) (best_0) (x1) (x4) := by
  first
    | exact ⟨by omega, ‹PIL _ _ _›, fun z => by exfalso; omega⟩
    | exact ⟨by omega, ‹PIL _ _ _›, fun z => by omega⟩
def o_Mo_placeIn_1 : or_T := (27, 6, [(0, (2, 0, 0, [165])), (1, (0, 0, 23, [])), (3, (0, 0, 23, [])), (4, (0, 0, 26, [])), (5, (0, 0, 26, []))], [(7, [4, 5], [3]), (9, [5, 2], [99]), (20, [2, 3, 4], [60, 0, 1, 360, 97]), (20, [4, 2], [50, 1, 0, 1099, 0, 2, 1, 0, 2, 1, 99]), (24, [0, 2], []), (24, [1, 3], [])], [], [], [(20, [0, 1, 4], [60, 1, 1, 359, 99, 97])], [], [(4, 5, 0, 4294967296), (1, 3, -4294967296, 0), (3, 1, -4294967296, 0)])
theorem oo_Mo_placeIn_1 {kA : Nat → ClassId} : or_ok PRD kA GG o_Mo_placeIn_1 := by
  refine or_mk fun A ta ws vs hD hth hl => ?_
  intro t0 r0 t1 k1 t3 k3 t4 k4 t5 k5 d0 d1 d2 f0 f1 f2 f3 f4 f5
  replace f1 := shm_600 f1
  replace f2 := shm_656 f2
  replace f3 := shm_657 f3
  replace f4 := shm_5 f4
  replace f5 := shm_5 f5
  have q2 : n_v vs 2 = n_v vs 0 := f4.symm
  have q3 : n_v vs 3 = n_v vs 1 := f5.symm
  simp only [q2, q3] at f1 f2 f3
  have cr_0_97 := fdq_168 hD hth r0
  have g1 : v_iv (n_v vs 5) = w_fi ws (n_v vs 0) 99 := congrArg v_iv f1
  have hK_0_97 := elq_96 hD hth cr_0_97
  have kz_0_99 := fdq_157 hD hth r0
  have nf0 : fc_1 PRD (20, [0, 1, 4], [60, 1, 1, 359, 99, 97]) ws (vs) := ⟨nf_in hl rfl, sgq_658 (vc_Mo_placeIn_1_0 (v_iv (n_v vs 1)) (v_iv (n_v vs 3)) (v_iv (n_v vs 4)) (v_iv (n_v vs 5)) (w_fi ws (n_v vs 0) 99) (w_ei ws (w_ar ws (n_v vs 0) 97)) k1 k3 k4 k5 d0 d1 d2 (shm_2 f0) g1 f2 f3 hK_0_97 kz_0_99)⟩
  refine ⟨(fun _ h => (by cases h)), [], trivial, ?_, (fun _ h => (by cases h))⟩
  rw [List.append_nil]
  exact List.forall_mem_cons.mpr ⟨⟨show (20 : Nat) < 100 from by decide, nf0⟩, (fun _ h => (by cases h))⟩
set_option maxHeartbeats 4000000 in
theorem vc_Mo_placeIn_2_0 (x1 : Int) (x3 : Int) (x4 : Int) (x5 : Int) (x7 : Int) (best_0 : Int → Int) (members_0 : Int) (k1 : 0 ≤ x1 ∧ x1 ≤ 23) (k3 : 0 ≤ x3 ∧ x3 ≤ 23) (k4 : 0 ≤ x4 ∧ x4 ≤ 25) (k5 : 1 ≤ x5 ∧ x5 ≤ 26) (k7 : 0 ≤ x7 ∧ x7 ≤ 23) (d0 : x3 + 0 ≤ x7 ∧ x7 ≤ x3 + 0) (d1 : x5 + (-4294967296) ≤ x4 ∧ x4 ≤ x5 + (-1)) (d2 : x3 + (-4294967296) ≤ x1 ∧ x1 ≤ x3 + 0) (d3 : x1 + (-4294967296) ≤ x3 ∧ x3 ≤ x1 + 0) (f0 : x7 = x1) (h1 : x7 = best_0 (x4)) (f3 : x4 < x5) (g4 : x5 = members_0) (f5 : PIL (best_0) (x1) (x4)) (f6 : x4 ≤ members_0) (hK_0_97 : ∀ j : Int, 0 ≤ j → j < 26 → 0 ≤ best_0 j ∧ best_0 j ≤ 25) (kz_0_99 : 0 ≤ members_0 ∧ members_0 ≤ 26) : PIN (members_0) (best_0) (x1) (x4) := by
  first
    | exact ⟨by omega, ‹PIL _ _ _›, fun z => by exfalso; omega⟩
    | exact ⟨by omega, ‹PIL _ _ _›, fun z => by omega⟩
def o_Mo_placeIn_2 : or_T := (27, 8, [(0, (2, 0, 0, [165])), (1, (0, 0, 23, [])), (3, (0, 0, 23, [])), (4, (0, 0, 25, [])), (5, (0, 1, 26, [])), (7, (0, 0, 23, []))], [(7, [7, 3], [0]), (10, [7, 6, 4], []), (9, [6, 2], [97]), (7, [4, 5], [2]), (9, [5, 2], [99]), (20, [2, 3, 4], [60, 0, 1, 360, 97]), (20, [4, 2], [50, 1, 0, 1099, 0, 2, 1, 0, 2, 1, 99]), (24, [0, 2], []), (24, [1, 3], [])], [], [], [(20, [0, 1, 4], [60, 1, 1, 359, 99, 97])], [], [(7, 3, 0, 0), (4, 5, -4294967296, -1), (1, 3, -4294967296, 0), (3, 1, -4294967296, 0)])
theorem oo_Mo_placeIn_2 {kA : Nat → ClassId} : or_ok PRD kA GG o_Mo_placeIn_2 := by
  refine or_mk fun A ta ws vs hD hth hl => ?_
  intro t0 r0 t1 k1 t3 k3 t4 k4 t5 k5 t7 k7 d0 d1 d2 d3 f0 f1 f2 f3 f4 f5 f6 f7 f8
  replace f0 := shm_37 f0
  replace f1 := shm_106 f1
  replace f2 := shm_659 f2
  replace f4 := shm_600 f4
  replace f5 := shm_656 f5
  replace f6 := shm_657 f6
  replace f7 := shm_5 f7
  replace f8 := shm_5 f8
  have q2 : n_v vs 2 = n_v vs 0 := f7.symm
  have q3 : n_v vs 3 = n_v vs 1 := f8.symm
  simp only [q3, q2] at f0 f2 f4 f5 f6
  have cr_0_97 := fdq_168 hD hth r0
  have ad_6 : v_ad (n_v vs 6) = w_ar ws (n_v vs 0) 97 := congrArg v_ad f2
  simp only [ad_6] at f1
  have h1 : v_iv (n_v vs 7) = w_ei ws (w_ar ws (n_v vs 0) 97) (v_iv (n_v vs 4)) := f1
  have g4 : v_iv (n_v vs 5) = w_fi ws (n_v vs 0) 99 := congrArg v_iv f4
  have hK_0_97 := elq_96 hD hth cr_0_97
  have kz_0_99 := fdq_157 hD hth r0
  have nf0 : fc_1 PRD (20, [0, 1, 4], [60, 1, 1, 359, 99, 97]) ws (vs) := ⟨nf_in hl rfl, sgq_658 (vc_Mo_placeIn_2_0 (v_iv (n_v vs 1)) (v_iv (n_v vs 3)) (v_iv (n_v vs 4)) (v_iv (n_v vs 5)) (v_iv (n_v vs 7)) (w_ei ws (w_ar ws (n_v vs 0) 97)) (w_fi ws (n_v vs 0) 99) k1 k3 k4 k5 k7 d0 d1 d2 d3 f0 h1 (shm_6 f3) g4 f5 f6 hK_0_97 kz_0_99)⟩
  refine ⟨(fun _ h => (by cases h)), [], trivial, ?_, (fun _ h => (by cases h))⟩
  rw [List.append_nil]
  exact List.forall_mem_cons.mpr ⟨⟨show (20 : Nat) < 100 from by decide, nf0⟩, (fun _ h => (by cases h))⟩
set_option maxHeartbeats 4000000 in
theorem vc_Mo_placeIn_3_0 (x1 : Int) (x3 : Int) (x4 : Int) (x5 : Int) (x7 : Int) (x8 : Int) (best_0 : Int → Int) (members_0 : Int) (k1 : 0 ≤ x1 ∧ x1 ≤ 23) (k3 : 0 ≤ x3 ∧ x3 ≤ 23) (k4 : 0 ≤ x4 ∧ x4 ≤ 25) (k5 : 1 ≤ x5 ∧ x5 ≤ 26) (k7 : 0 ≤ x7 ∧ x7 ≤ 25) (k8 : 1 ≤ x8 ∧ x8 ≤ 26) (d0 : x4 + 1 ≤ x8 ∧ x8 ≤ x4 + 1) (d1 : x5 + (-4294967296) ≤ x8 ∧ x8 ≤ x5 + 0) (d2 : x5 + (-4294967296) ≤ x4 ∧ x4 ≤ x5 + (-1)) (d3 : x3 + (-4294967296) ≤ x1 ∧ x1 ≤ x3 + 0) (d4 : x1 + (-4294967296) ≤ x3 ∧ x3 ≤ x1 + 0) (f0 : x8 = x4 + 1) (f1 : x7 ≠ x1) (h2 : x7 = best_0 (x4)) (f4 : x4 < x5) (g5 : x5 = members_0) (f6 : PIL (best_0) (x1) (x4)) (f7 : x4 ≤ members_0) (hK_0_97 : ∀ j : Int, 0 ≤ j → j < 26 → 0 ≤ best_0 j ∧ best_0 j ≤ 25) (kz_0_99 : 0 ≤ members_0 ∧ members_0 ≤ 26) : PIL (best_0) (x1) (x8) := by
  first
    | (intro j a b; exfalso; omega)
    | exact pil_next ‹PIL _ _ _› (by omega) (by assumption) (by omega)
set_option maxHeartbeats 4000000 in
theorem vc_Mo_placeIn_3_1 (x1 : Int) (x3 : Int) (x4 : Int) (x5 : Int) (x7 : Int) (x8 : Int) (best_0 : Int → Int) (members_0 : Int) (k1 : 0 ≤ x1 ∧ x1 ≤ 23) (k3 : 0 ≤ x3 ∧ x3 ≤ 23) (k4 : 0 ≤ x4 ∧ x4 ≤ 25) (k5 : 1 ≤ x5 ∧ x5 ≤ 26) (k7 : 0 ≤ x7 ∧ x7 ≤ 25) (k8 : 1 ≤ x8 ∧ x8 ≤ 26) (d0 : x4 + 1 ≤ x8 ∧ x8 ≤ x4 + 1) (d1 : x5 + (-4294967296) ≤ x8 ∧ x8 ≤ x5 + 0) (d2 : x5 + (-4294967296) ≤ x4 ∧ x4 ≤ x5 + (-1)) (d3 : x3 + (-4294967296) ≤ x1 ∧ x1 ≤ x3 + 0) (d4 : x1 + (-4294967296) ≤ x3 ∧ x3 ≤ x1 + 0) (f0 : x8 = x4 + 1) (f1 : x7 ≠ x1) (h2 : x7 = best_0 (x4)) (f4 : x4 < x5) (g5 : x5 = members_0) (f6 : PIL (best_0) (x1) (x4)) (f7 : x4 ≤ members_0) (hK_0_97 : ∀ j : Int, 0 ≤ j → j < 26 → 0 ≤ best_0 j ∧ best_0 j ≤ 25) (kz_0_99 : 0 ≤ members_0 ∧ members_0 ≤ 26) : x8 ≤ members_0 := by
  omega
def o_Mo_placeIn_3 : or_T := (2, 9, [(0, (2, 0, 0, [165])), (1, (0, 0, 23, [])), (3, (0, 0, 23, [])), (4, (0, 0, 25, [])), (5, (0, 1, 26, [])), (7, (0, 0, 25, [])), (8, (0, 1, 26, []))], [(6, [8, 4], [1]), (7, [7, 3], [1]), (10, [7, 6, 4], []), (9, [6, 2], [97]), (7, [4, 5], [2]), (9, [5, 2], [99]), (20, [2, 3, 4], [60, 0, 1, 360, 97]), (20, [4, 2], [50, 1, 0, 1099, 0, 2, 1, 0, 2, 1, 99]), (24, [0, 2], []), (24, [1, 3], [])], [], [], [(20, [2, 3, 8], [60, 0, 1, 360, 97]), (20, [8, 2], [50, 1, 0, 1099, 0, 2, 1, 0, 2, 1, 99])], [], [(8, 4, 1, 1), (8, 5, -4294967296, 0), (4, 5, -4294967296, -1), (1, 3, -4294967296, 0), (3, 1, -4294967296, 0)])
theorem oo_Mo_placeIn_3 {kA : Nat → ClassId} : or_ok PRD kA GG o_Mo_placeIn_3 := by
  refine or_mk fun A ta ws vs hD hth hl => ?_
  intro t0 r0 t1 k1 t3 k3 t4 k4 t5 k5 t7 k7 t8 k8 d0 d1 d2 d3 d4 f0 f1 f2 f3 f4 f5 f6 f7 f8 f9
  replace f0 := shm_4 f0
  replace f1 := shm_40 f1
  replace f2 := shm_106 f2
  replace f3 := shm_659 f3
  replace f4 := shm_6 f4
  replace f5 := shm_600 f5
  replace f6 := shm_656 f6
  replace f7 := shm_657 f7
  replace f8 := shm_5 f8
  replace f9 := shm_5 f9
  have q2 : n_v vs 2 = n_v vs 0 := f8.symm
  have q3 : n_v vs 3 = n_v vs 1 := f9.symm
  simp only [q3, q2] at f1 f3 f5 f6 f7
  have cr_0_97 := fdq_168 hD hth r0
  have ad_6 : v_ad (n_v vs 6) = w_ar ws (n_v vs 0) 97 := congrArg v_ad f3
  simp only [ad_6] at f2
  have h2 : v_iv (n_v vs 7) = w_ei ws (w_ar ws (n_v vs 0) 97) (v_iv (n_v vs 4)) := f2
  have g5 : v_iv (n_v vs 5) = w_fi ws (n_v vs 0) 99 := congrArg v_iv f5
  have hK_0_97 := elq_96 hD hth cr_0_97
  have kz_0_99 := fdq_157 hD hth r0
  have nf0 : fc_1 PRD (20, [2, 3, 8], [60, 0, 1, 360, 97]) ws (vs) := by
    refine ⟨nf_in hl rfl, sgq_656 ?_⟩
    · show PIL (w_ei ws (w_ar ws (n_v vs 2) 97)) (v_iv (n_v vs 3)) (v_iv (n_v vs 8))
      simp only [q2, q3]
      exact vc_Mo_placeIn_3_0 (v_iv (n_v vs 1)) (v_iv (n_v vs 3)) (v_iv (n_v vs 4)) (v_iv (n_v vs 5)) (v_iv (n_v vs 7)) (v_iv (n_v vs 8)) (w_ei ws (w_ar ws (n_v vs 0) 97)) (w_fi ws (n_v vs 0) 99) k1 k3 k4 k5 k7 k8 d0 d1 d2 d3 d4 f0 f1 h2 f4 g5 f6 f7 hK_0_97 kz_0_99
  have nf1 : fc_1 PRD (20, [8, 2], [50, 1, 0, 1099, 0, 2, 1, 0, 2, 1, 99]) ws (vs) := by
    refine ⟨nf_in hl rfl, sgq_657 ?_⟩
    · show v_iv (n_v vs 8) ≤ w_fi ws (n_v vs 2) 99
      rw [q2]
      exact vc_Mo_placeIn_3_1 (v_iv (n_v vs 1)) (v_iv (n_v vs 3)) (v_iv (n_v vs 4)) (v_iv (n_v vs 5)) (v_iv (n_v vs 7)) (v_iv (n_v vs 8)) (w_ei ws (w_ar ws (n_v vs 0) 97)) (w_fi ws (n_v vs 0) 99) k1 k3 k4 k5 k7 k8 d0 d1 d2 d3 d4 f0 f1 h2 f4 g5 f6 f7 hK_0_97 kz_0_99
  refine ⟨(fun _ h => (by cases h)), [], trivial, ?_, (fun _ h => (by cases h))⟩
  rw [List.append_nil]
  exact List.forall_mem_cons.mpr ⟨⟨show (20 : Nat) < 100 from by decide, nf0⟩, List.forall_mem_cons.mpr ⟨⟨show (20 : Nat) < 100 from by decide, nf1⟩, (fun _ h => (by cases h))⟩⟩
def n_Mo_placeIn_an : List an_T := [(2, [(0, (2, 0, 0, [165])), (1, (0, 0, 23, [])), (2, (0, 0, 26, []))], [], (0, 0), [(0, 0, 99998), (1, 4, 26), (0, 0, 100000)], [(1, 3, (Int.negSucc 999999999999), 0), (3, 1, (Int.negSucc 999999999999), 0)], [], [(2, 0, 0, [165]), (0, 0, 23, [])], 0, [], [(20, [2, 3, 4], [60, 0, 1, 360, 97]), (20, [4, 2], [50, 1, 0, 1099, 0, 2, 1, 0, 2, 1, 99]), (24, [0, 2], []), (24, [1, 3], [])])]
def t_Mo_placeIn_ct : ct_L := []
set_option maxRecDepth 100000 in
theorem c_Mo_placeIn {l : Launch} {D : va_G} {kA : Nat → ClassId} : ct_ok PRD l D kA GG y_Mo_placeIn z_Mo_placeIn e_Mo_placeIn := chk_all_ok (FT := [(216, 13, 97), (795, 13, 99)]) (PT := []) (CT := t_Mo_placeIn_ct) (KT := []) (NT := []) (AN := n_Mo_placeIn_an) (OT := [o_Mo_placeIn_0, o_Mo_placeIn_1, o_Mo_placeIn_2, o_Mo_placeIn_3]) 3 200 (List.forall_mem_cons.mpr ⟨oo_Mo_placeIn_0, List.forall_mem_cons.mpr ⟨oo_Mo_placeIn_1, List.forall_mem_cons.mpr ⟨oo_Mo_placeIn_2, List.forall_mem_cons.mpr ⟨oo_Mo_placeIn_3, List.forall_mem_nil _⟩⟩⟩⟩) (by decide +kernel) ⟨List.forall_mem_cons.mpr ⟨gf_Mo_216, List.forall_mem_cons.mpr ⟨gf_Mo_795, List.forall_mem_nil _⟩⟩, List.forall_mem_nil _, List.forall_mem_nil _, List.forall_mem_nil _, List.forall_mem_nil _, GG_pl⟩ (by decide +kernel)
set_option maxHeartbeats 4000000 in
theorem vc_Mo_placeOf_0_0 (x1 : Int) (x3 : Int) (x4 : Int) (itemLayer_0 : Int → Int) (all_0 : Int → Int) (turned_0 : Int → Int) (firstJoint_0 : Int → Int) (lineA_0 : Int → Int) (lineB_0 : Int → Int) (r_0 : Int) (items_0 : Int) (layerMany_0 : Int) (lines_0 : Int) (layerSize_0 : Int → Int) (layerItem_0 : Int → Int) (k1 : 0 ≤ x1 ∧ x1 ≤ 75) (k3 : 0 ≤ x3 ∧ x3 ≤ 75) (k4 : 0 ≤ x4 ∧ x4 ≤ 0) (h0 : x3 = itemLayer_0 (x1)) (f2 : LSA (r_0) (items_0) (layerMany_0) (lines_0) (all_0) (turned_0) (itemLayer_0) (firstJoint_0) (lineA_0) (lineB_0)) (f3 : LSB (items_0) (layerMany_0) (itemLayer_0) (layerSize_0) (layerItem_0)) (f4 : (0 ≤ x1) ∧ ((x1 + 1) ≤ items_0)) (hK_0_95 : ∀ j : Int, 0 ≤ j → j < 48 → 0 ≤ turned_0 j ∧ turned_0 j ≤ 1) (hK_0_102 : ∀ j : Int, 0 ≤ j → j < 76 → 0 ≤ itemLayer_0 j ∧ itemLayer_0 j ≤ 75) (hK_0_104 : ∀ j : Int, 0 ≤ j → j < 48 → 0 ≤ firstJoint_0 j ∧ firstJoint_0 j ≤ 76) (hK_0_105 : ∀ j : Int, 0 ≤ j → j < 76 → 0 ≤ layerSize_0 j ∧ layerSize_0 j ≤ 76) (hK_0_106 : ∀ j : Int, 0 ≤ j → j < 5776 → 0 ≤ layerItem_0 j ∧ layerItem_0 j ≤ 75) (hK_0_108 : ∀ j : Int, 0 ≤ j → j < 130 → 0 ≤ lineA_0 j ∧ lineA_0 j ≤ 75) (hK_0_109 : ∀ j : Int, 0 ≤ j → j < 130 → 0 ≤ lineB_0 j ∧ lineB_0 j ≤ 75) (kz_0_100 : 0 ≤ items_0 ∧ items_0 ≤ 76) (kz_0_101 : 0 ≤ layerMany_0 ∧ layerMany_0 ≤ 76) (kz_0_107 : 0 ≤ lines_0 ∧ lines_0 ≤ 130) : PLG (itemLayer_0) (layerItem_0) (x1) (x3) (x4) := by
  first
    | exact plg_zero (by assumption) (by omega)
    | exact plg_next (q := x9) (v := x10) ‹PLG _ _ _ _ _› (by assumption) (by omega) (by assumption) (by omega)
set_option maxHeartbeats 4000000 in
theorem vc_Mo_placeOf_0_1 (x1 : Int) (x3 : Int) (x4 : Int) (itemLayer_0 : Int → Int) (all_0 : Int → Int) (turned_0 : Int → Int) (firstJoint_0 : Int → Int) (lineA_0 : Int → Int) (lineB_0 : Int → Int) (r_0 : Int) (items_0 : Int) (layerMany_0 : Int) (lines_0 : Int) (layerSize_0 : Int → Int) (layerItem_0 : Int → Int) (k1 : 0 ≤ x1 ∧ x1 ≤ 75) (k3 : 0 ≤ x3 ∧ x3 ≤ 75) (k4 : 0 ≤ x4 ∧ x4 ≤ 0) (h0 : x3 = itemLayer_0 (x1)) (f2 : LSA (r_0) (items_0) (layerMany_0) (lines_0) (all_0) (turned_0) (itemLayer_0) (firstJoint_0) (lineA_0) (lineB_0)) (f3 : LSB (items_0) (layerMany_0) (itemLayer_0) (layerSize_0) (layerItem_0)) (f4 : (0 ≤ x1) ∧ ((x1 + 1) ≤ items_0)) (hK_0_95 : ∀ j : Int, 0 ≤ j → j < 48 → 0 ≤ turned_0 j ∧ turned_0 j ≤ 1) (hK_0_102 : ∀ j : Int, 0 ≤ j → j < 76 → 0 ≤ itemLayer_0 j ∧ itemLayer_0 j ≤ 75) (hK_0_104 : ∀ j : Int, 0 ≤ j → j < 48 → 0 ≤ firstJoint_0 j ∧ firstJoint_0 j ≤ 76) (hK_0_105 : ∀ j : Int, 0 ≤ j → j < 76 → 0 ≤ layerSize_0 j ∧ layerSize_0 j ≤ 76) (hK_0_106 : ∀ j : Int, 0 ≤ j → j < 5776 → 0 ≤ layerItem_0 j ∧ layerItem_0 j ≤ 75) (hK_0_108 : ∀ j : Int, 0 ≤ j → j < 130 → 0 ≤ lineA_0 j ∧ lineA_0 j ≤ 75) (hK_0_109 : ∀ j : Int, 0 ≤ j → j < 130 → 0 ≤ lineB_0 j ∧ lineB_0 j ≤ 75) (kz_0_100 : 0 ≤ items_0 ∧ items_0 ≤ 76) (kz_0_101 : 0 ≤ layerMany_0 ∧ layerMany_0 ≤ 76) (kz_0_107 : 0 ≤ lines_0 ∧ lines_0 ≤ 130) : (x3 ≤ 23) ∧ (x4 ≤ 75) := by
  first
    | omega
    | (have h := ‹LSA _ _ _ _ _ _ _ _ _ _›.2.2.1 x1 (by omega) (by omega); have h2 := ‹LSA _ _ _ _ _ _ _ _ _ _›.2.1; omega)
def o_Mo_placeOf_0 : or_T := (9, 5, [(0, (2, 0, 0, [165])), (1, (0, 0, 75, [])), (3, (0, 0, 75, [])), (4, (0, 0, 0, []))], [(10, [3, 2, 1], []), (9, [2, 0], [102]), (20, [0], [60, 4, 6, 445, 5, 100, 101, 107, 2, 95, 102, 104, 108, 109]), (20, [0], [60, 2, 3, 448, 100, 101, 102, 105, 106]), (20, [1, 0], [50, 1, 0, 1100, 2, 6, 0, 2, 0, 0, 1, 0, 0, 6, 4, 2, 1, 0, 0, 1, 2, 1, 100])], [], [], [(20, [0, 1, 3, 4], [60, 0, 2, 450, 102, 106]), (20, [3, 4], [50, 0, 0, 2, 6, 0, 2, 1, 0, 0, 23, 0, 2, 1, 1, 0, 75]), (24, [0, 0], []), (24, [1, 1], [])], [], [])
theorem oo_Mo_placeOf_0 {kA : Nat → ClassId} : or_ok PRD kA GG o_Mo_placeOf_0 := by
  refine or_mk fun A ta ws vs hD hth hl => ?_
  intro t0 r0 t1 k1 t3 k3 t4 k4 f0 f1 f2 f3 f4
  replace f0 := shm_106 f0
  replace f1 := shm_660 f1
  have cr_0_95 := fdq_129 hD hth r0
  have cr_0_102 := fdq_158 hD hth r0
  have cr_0_104 := fdq_169 hD hth r0
  have cr_0_105 := fdq_121 hD hth r0
  have cr_0_106 := fdq_122 hD hth r0
  have cr_0_108 := fdq_159 hD hth r0
  have cr_0_109 := fdq_160 hD hth r0
  have ad_2 : v_ad (n_v vs 2) = w_ar ws (n_v vs 0) 102 := congrArg v_ad f1
  simp only [ad_2] at f0
  have h0 : v_iv (n_v vs 3) = w_ei ws (w_ar ws (n_v vs 0) 102) (v_iv (n_v vs 1)) := f0
  have hK_0_95 := elq_68 hD hth cr_0_95
  have hK_0_102 := elq_88 hD hth cr_0_102
  have hK_0_104 := elq_97 hD hth cr_0_104
  have hK_0_105 := elq_62 hD hth cr_0_105
  have hK_0_106 := elq_63 hD hth cr_0_106
  have hK_0_108 := elq_89 hD hth cr_0_108
  have hK_0_109 := elq_90 hD hth cr_0_109
  have kz_0_100 := fdq_161 hD hth r0
  have kz_0_101 := fdq_124 hD hth r0
  have kz_0_107 := fdq_162 hD hth r0
  have nf0 : fc_1 PRD (20, [0, 1, 3, 4], [60, 0, 2, 450, 102, 106]) ws (vs) := ⟨nf_in hl rfl, sgq_664 (vc_Mo_placeOf_0_0 (v_iv (n_v vs 1)) (v_iv (n_v vs 3)) (v_iv (n_v vs 4)) (w_ei ws (w_ar ws (n_v vs 0) 102)) (w_ei ws (w_ar ws (n_v vs 0) 2)) (w_ei ws (w_ar ws (n_v vs 0) 95)) (w_ei ws (w_ar ws (n_v vs 0) 104)) (w_ei ws (w_ar ws (n_v vs 0) 108)) (w_ei ws (w_ar ws (n_v vs 0) 109)) (w_fi ws (n_v vs 0) 5) (w_fi ws (n_v vs 0) 100) (w_fi ws (n_v vs 0) 101) (w_fi ws (n_v vs 0) 107) (w_ei ws (w_ar ws (n_v vs 0) 105)) (w_ei ws (w_ar ws (n_v vs 0) 106)) k1 k3 k4 h0 (shm_661 f2) (shm_662 f3) (shm_663 f4) hK_0_95 hK_0_102 hK_0_104 hK_0_105 hK_0_106 hK_0_108 hK_0_109 kz_0_100 kz_0_101 kz_0_107)⟩
  have nf1 : fc_1 PRD (20, [3, 4], [50, 0, 0, 2, 6, 0, 2, 1, 0, 0, 23, 0, 2, 1, 1, 0, 75]) ws (vs) := ⟨nf_in hl rfl, sgq_665 (vc_Mo_placeOf_0_1 (v_iv (n_v vs 1)) (v_iv (n_v vs 3)) (v_iv (n_v vs 4)) (w_ei ws (w_ar ws (n_v vs 0) 102)) (w_ei ws (w_ar ws (n_v vs 0) 2)) (w_ei ws (w_ar ws (n_v vs 0) 95)) (w_ei ws (w_ar ws (n_v vs 0) 104)) (w_ei ws (w_ar ws (n_v vs 0) 108)) (w_ei ws (w_ar ws (n_v vs 0) 109)) (w_fi ws (n_v vs 0) 5) (w_fi ws (n_v vs 0) 100) (w_fi ws (n_v vs 0) 101) (w_fi ws (n_v vs 0) 107) (w_ei ws (w_ar ws (n_v vs 0) 105)) (w_ei ws (w_ar ws (n_v vs 0) 106)) k1 k3 k4 h0 (shm_661 f2) (shm_662 f3) (shm_663 f4) hK_0_95 hK_0_102 hK_0_104 hK_0_105 hK_0_106 hK_0_108 hK_0_109 kz_0_100 kz_0_101 kz_0_107)⟩
  have nf2 : fc_1 PRD (24, [0, 0], []) ws (vs) := by
    refine ⟨nf_in hl rfl, sgq_1 ?_⟩
    · show n_v vs 0 = n_v vs 0
      first | rfl | simp only [true_and]
  have nf3 : fc_1 PRD (24, [1, 1], []) ws (vs) := by
    refine ⟨nf_in hl rfl, sgq_1 ?_⟩
    · show n_v vs 1 = n_v vs 1
      first | rfl | simp only [true_and]
  refine ⟨(fun _ h => (by cases h)), [], trivial, ?_, (fun _ h => (by cases h))⟩
  rw [List.append_nil]
  exact List.forall_mem_cons.mpr ⟨⟨show (20 : Nat) < 100 from by decide, nf0⟩, List.forall_mem_cons.mpr ⟨⟨show (20 : Nat) < 100 from by decide, nf1⟩, List.forall_mem_cons.mpr ⟨⟨show (24 : Nat) < 100 from by decide, nf2⟩, List.forall_mem_cons.mpr ⟨⟨show (24 : Nat) < 100 from by decide, nf3⟩, (fun _ h => (by cases h))⟩⟩⟩⟩
set_option maxHeartbeats 4000000 in
theorem vc_Mo_placeOf_1_0 (x1 : Int) (x3 : Int) (x4 : Int) (x5 : Int) (x7 : Int) (x8 : Int) (x9 : Int) (x10 : Int) (layerItem_0 : Int → Int) (all_0 : Int → Int) (turned_0 : Int → Int) (itemLayer_0 : Int → Int) (firstJoint_0 : Int → Int) (lineA_0 : Int → Int) (lineB_0 : Int → Int) (r_0 : Int) (items_0 : Int) (layerMany_0 : Int) (lines_0 : Int) (layerSize_0 : Int → Int) (k1 : 0 ≤ x1 ∧ x1 ≤ 75) (k3 : 0 ≤ x3 ∧ x3 ≤ 75) (k4 : 0 ≤ x4 ∧ x4 ≤ 75) (k5 : 0 ≤ x5 ∧ x5 ≤ 75) (k7 : 76 ≤ x7 ∧ x7 ≤ 76) (k8 : 0 ≤ x8 ∧ x8 ≤ 5700) (k9 : 0 ≤ x9 ∧ x9 ≤ 5775) (k10 : 0 ≤ x10 ∧ x10 ≤ 75) (d0 : x3 + 0 ≤ x10 ∧ x10 ≤ x3 + 0) (d1 : x5 + 0 ≤ x9 ∧ x9 ≤ x5 + 5700) (d2 : x8 + 0 ≤ x9 ∧ x9 ≤ x8 + 75) (d3 : x3 + (-4294967296) ≤ x1 ∧ x1 ≤ x3 + 0) (d4 : x1 + (-4294967296) ≤ x3 ∧ x3 ≤ x1 + 0) (f0 : x10 = x1) (h1 : x10 = layerItem_0 (x9)) (f2 : x9 = x8 + x5) (f3 : x8 = 76 * x4) (f5 : LSA (r_0) (items_0) (layerMany_0) (lines_0) (all_0) (turned_0) (itemLayer_0) (firstJoint_0) (lineA_0) (lineB_0)) (f6 : LSB (items_0) (layerMany_0) (itemLayer_0) (layerSize_0) (layerItem_0)) (f7 : PLG (itemLayer_0) (layerItem_0) (x1) (x4) (x5)) (f8 : (0 ≤ x1) ∧ ((x1 + 1) ≤ items_0)) (f9 : (x4 ≤ 23) ∧ (x5 ≤ 75)) (hK_0_95 : ∀ j : Int, 0 ≤ j → j < 48 → 0 ≤ turned_0 j ∧ turned_0 j ≤ 1) (hK_0_102 : ∀ j : Int, 0 ≤ j → j < 76 → 0 ≤ itemLayer_0 j ∧ itemLayer_0 j ≤ 75) (hK_0_104 : ∀ j : Int, 0 ≤ j → j < 48 → 0 ≤ firstJoint_0 j ∧ firstJoint_0 j ≤ 76) (hK_0_105 : ∀ j : Int, 0 ≤ j → j < 76 → 0 ≤ layerSize_0 j ∧ layerSize_0 j ≤ 76) (hK_0_106 : ∀ j : Int, 0 ≤ j → j < 5776 → 0 ≤ layerItem_0 j ∧ layerItem_0 j ≤ 75) (hK_0_108 : ∀ j : Int, 0 ≤ j → j < 130 → 0 ≤ lineA_0 j ∧ lineA_0 j ≤ 75) (hK_0_109 : ∀ j : Int, 0 ≤ j → j < 130 → 0 ≤ lineB_0 j ∧ lineB_0 j ≤ 75) (kz_0_100 : 0 ≤ items_0 ∧ items_0 ≤ 76) (kz_0_101 : 0 ≤ layerMany_0 ∧ layerMany_0 ≤ 76) (kz_0_107 : 0 ≤ lines_0 ∧ lines_0 ≤ 130) : PLF (itemLayer_0) (layerSize_0) (layerItem_0) (x1) (x5) := by
  exact plf_of (q := x9) ‹LSA _ _ _ _ _ _ _ _ _ _› ‹LSB _ _ _ _ _› ‹PLG _ _ _ _ _› (by omega) (by omega) (by omega) (by omega) (by omega)
def o_Mo_placeOf_1 : or_T := (31, 11, [(0, (2, 0, 0, [165])), (1, (0, 0, 75, [])), (3, (0, 0, 75, [])), (4, (0, 0, 75, [])), (5, (0, 0, 75, [])), (7, (0, 76, 76, [])), (8, (0, 0, 5700, [])), (9, (0, 0, 5775, [])), (10, (0, 0, 75, []))], [(7, [10, 3], [0]), (10, [10, 6, 9], []), (1, [9, 8, 5], []), (3, [8, 7, 4], []), (9, [6, 2], [106]), (20, [2], [60, 4, 6, 445, 5, 100, 101, 107, 2, 95, 102, 104, 108, 109]), (20, [2], [60, 2, 3, 448, 100, 101, 102, 105, 106]), (20, [2, 3, 4, 5], [60, 0, 2, 450, 102, 106]), (20, [3, 2], [50, 1, 0, 1100, 2, 6, 0, 2, 0, 0, 1, 0, 0, 6, 4, 2, 1, 0, 0, 1, 2, 1, 100]), (20, [4, 5], [50, 0, 0, 2, 6, 0, 2, 1, 0, 0, 23, 0, 2, 1, 1, 0, 75]), (24, [0, 2], []), (24, [1, 3], [])], [], [], [(20, [0, 1, 5], [60, 0, 3, 449, 102, 105, 106])], [], [(10, 3, 0, 0), (9, 5, 0, 5700), (9, 8, 0, 75), (1, 3, -4294967296, 0), (3, 1, -4294967296, 0)])
theorem oo_Mo_placeOf_1 {kA : Nat → ClassId} : or_ok PRD kA GG o_Mo_placeOf_1 := by
  refine or_mk fun A ta ws vs hD hth hl => ?_
  intro t0 r0 t1 k1 t3 k3 t4 k4 t5 k5 t7 k7 t8 k8 t9 k9 t10 k10 d0 d1 d2 d3 d4 f0 f1 f2 f3 f4 f5 f6 f7 f8 f9 f10 f11
  replace f0 := shm_37 f0
  replace f1 := shm_106 f1
  replace f3 := shm_38 f3
  rw [show v_iv (n_v vs 7) = 76 from by omega] at f3
  replace f4 := shm_666 f4
  replace f5 := shm_661 f5
  replace f6 := shm_662 f6
  replace f7 := shm_664 f7
  replace f8 := shm_663 f8
  replace f10 := shm_5 f10
  replace f11 := shm_5 f11
  have q2 : n_v vs 2 = n_v vs 0 := f10.symm
  have q3 : n_v vs 3 = n_v vs 1 := f11.symm
  simp only [q3, q2] at f0 f4 f5 f6 f7 f8
  have cr_0_95 := fdq_129 hD hth r0
  have cr_0_102 := fdq_158 hD hth r0
  have cr_0_104 := fdq_169 hD hth r0
  have cr_0_105 := fdq_121 hD hth r0
  have cr_0_106 := fdq_122 hD hth r0
  have cr_0_108 := fdq_159 hD hth r0
  have cr_0_109 := fdq_160 hD hth r0
  have ad_6 : v_ad (n_v vs 6) = w_ar ws (n_v vs 0) 106 := congrArg v_ad f4
  simp only [ad_6] at f1
  have h1 : v_iv (n_v vs 10) = w_ei ws (w_ar ws (n_v vs 0) 106) (v_iv (n_v vs 9)) := f1
  have hK_0_95 := elq_68 hD hth cr_0_95
  have hK_0_102 := elq_88 hD hth cr_0_102
  have hK_0_104 := elq_97 hD hth cr_0_104
  have hK_0_105 := elq_62 hD hth cr_0_105
  have hK_0_106 := elq_63 hD hth cr_0_106
  have hK_0_108 := elq_89 hD hth cr_0_108
  have hK_0_109 := elq_90 hD hth cr_0_109
  have kz_0_100 := fdq_161 hD hth r0
  have kz_0_101 := fdq_124 hD hth r0
  have kz_0_107 := fdq_162 hD hth r0
  have nf0 : fc_1 PRD (20, [0, 1, 5], [60, 0, 3, 449, 102, 105, 106]) ws (vs) := ⟨nf_in hl rfl, sgq_667 (vc_Mo_placeOf_1_0 (v_iv (n_v vs 1)) (v_iv (n_v vs 3)) (v_iv (n_v vs 4)) (v_iv (n_v vs 5)) (v_iv (n_v vs 7)) (v_iv (n_v vs 8)) (v_iv (n_v vs 9)) (v_iv (n_v vs 10)) (w_ei ws (w_ar ws (n_v vs 0) 106)) (w_ei ws (w_ar ws (n_v vs 0) 2)) (w_ei ws (w_ar ws (n_v vs 0) 95)) (w_ei ws (w_ar ws (n_v vs 0) 102)) (w_ei ws (w_ar ws (n_v vs 0) 104)) (w_ei ws (w_ar ws (n_v vs 0) 108)) (w_ei ws (w_ar ws (n_v vs 0) 109)) (w_fi ws (n_v vs 0) 5) (w_fi ws (n_v vs 0) 100) (w_fi ws (n_v vs 0) 101) (w_fi ws (n_v vs 0) 107) (w_ei ws (w_ar ws (n_v vs 0) 105)) k1 k3 k4 k5 k7 k8 k9 k10 d0 d1 d2 d3 d4 f0 h1 (shm_12 f2) f3 f5 f6 f7 f8 (shm_665 f9) hK_0_95 hK_0_102 hK_0_104 hK_0_105 hK_0_106 hK_0_108 hK_0_109 kz_0_100 kz_0_101 kz_0_107)⟩
  refine ⟨(fun _ h => (by cases h)), [], trivial, ?_, (fun _ h => (by cases h))⟩
  rw [List.append_nil]
  exact List.forall_mem_cons.mpr ⟨⟨show (20 : Nat) < 100 from by decide, nf0⟩, (fun _ h => (by cases h))⟩
set_option maxHeartbeats 4000000 in
theorem vc_Mo_placeOf_2_r0 (x1 : Int) (x3 : Int) (x4 : Int) (x5 : Int) (x7 : Int) (x8 : Int) (x9 : Int) (x10 : Int) (x11 : Int) (layerItem_0 : Int → Int) (all_0 : Int → Int) (turned_0 : Int → Int) (itemLayer_0 : Int → Int) (firstJoint_0 : Int → Int) (lineA_0 : Int → Int) (lineB_0 : Int → Int) (r_0 : Int) (items_0 : Int) (layerMany_0 : Int) (lines_0 : Int) (layerSize_0 : Int → Int) (k1 : 0 ≤ x1 ∧ x1 ≤ 75) (k3 : 0 ≤ x3 ∧ x3 ≤ 75) (k4 : 0 ≤ x4 ∧ x4 ≤ 75) (k5 : 0 ≤ x5 ∧ x5 ≤ 75) (k7 : 76 ≤ x7 ∧ x7 ≤ 76) (k8 : 0 ≤ x8 ∧ x8 ≤ 5700) (k9 : 0 ≤ x9 ∧ x9 ≤ 5775) (k10 : 0 ≤ x10 ∧ x10 ≤ 75) (k11 : 1 ≤ x11 ∧ x11 ≤ 76) (d0 : x5 + 1 ≤ x11 ∧ x11 ≤ x5 + 1) (d1 : x5 + 0 ≤ x9 ∧ x9 ≤ x5 + 5700) (d2 : x8 + 0 ≤ x9 ∧ x9 ≤ x8 + 75) (d3 : x3 + (-4294967296) ≤ x1 ∧ x1 ≤ x3 + 0) (d4 : x1 + (-4294967296) ≤ x3 ∧ x3 ≤ x1 + 0) (f0 : x11 = x5 + 1) (f1 : x10 ≠ x1) (h2 : x10 = layerItem_0 (x9)) (f3 : x9 = x8 + x5) (f4 : x8 = 76 * x4) (f6 : LSA (r_0) (items_0) (layerMany_0) (lines_0) (all_0) (turned_0) (itemLayer_0) (firstJoint_0) (lineA_0) (lineB_0)) (f7 : LSB (items_0) (layerMany_0) (itemLayer_0) (layerSize_0) (layerItem_0)) (f8 : PLG (itemLayer_0) (layerItem_0) (x1) (x4) (x5)) (f9 : (0 ≤ x1) ∧ ((x1 + 1) ≤ items_0)) (f10 : (x4 ≤ 23) ∧ (x5 ≤ 75)) (hK_0_95 : ∀ j : Int, 0 ≤ j → j < 48 → 0 ≤ turned_0 j ∧ turned_0 j ≤ 1) (hK_0_102 : ∀ j : Int, 0 ≤ j → j < 76 → 0 ≤ itemLayer_0 j ∧ itemLayer_0 j ≤ 75) (hK_0_104 : ∀ j : Int, 0 ≤ j → j < 48 → 0 ≤ firstJoint_0 j ∧ firstJoint_0 j ≤ 76) (hK_0_105 : ∀ j : Int, 0 ≤ j → j < 76 → 0 ≤ layerSize_0 j ∧ layerSize_0 j ≤ 76) (hK_0_106 : ∀ j : Int, 0 ≤ j → j < 5776 → 0 ≤ layerItem_0 j ∧ layerItem_0 j ≤ 75) (hK_0_108 : ∀ j : Int, 0 ≤ j → j < 130 → 0 ≤ lineA_0 j ∧ lineA_0 j ≤ 75) (hK_0_109 : ∀ j : Int, 0 ≤ j → j < 130 → 0 ≤ lineB_0 j ∧ lineB_0 j ≤ 75) (kz_0_100 : 0 ≤ items_0 ∧ items_0 ≤ 76) (kz_0_101 : 0 ≤ layerMany_0 ∧ layerMany_0 ≤ 76) (kz_0_107 : 0 ≤ lines_0 ∧ lines_0 ≤ 130) : 1 ≤ x11 ∧ x11 ≤ 75 := by
  have h := plg_bd ‹LSA _ _ _ _ _ _ _ _ _ _› ‹LSB _ _ _ _ _› (plg_next (q := x9) (v := x10) ‹PLG _ _ _ _ _› ‹x11 = x5 + 1› (by omega) (by assumption) (by omega)) (by omega) (by omega) (by omega)
  omega
def o_Mo_placeOf_2 : or_T := (27, 12, [(0, (2, 0, 0, [165])), (1, (0, 0, 75, [])), (2, (2, 0, 0, [165])), (3, (0, 0, 75, [])), (4, (0, 0, 75, [])), (5, (0, 0, 75, [])), (6, (2, 0, 0, [239])), (7, (0, 76, 76, [])), (8, (0, 0, 5700, [])), (9, (0, 0, 5775, [])), (10, (0, 0, 75, [])), (11, (0, 1, 76, []))], [(6, [11, 5], [1]), (7, [10, 3], [1]), (10, [10, 6, 9], []), (1, [9, 8, 5], []), (3, [8, 7, 4], []), (9, [6, 2], [106]), (20, [2], [60, 4, 6, 445, 5, 100, 101, 107, 2, 95, 102, 104, 108, 109]), (20, [2], [60, 2, 3, 448, 100, 101, 102, 105, 106]), (20, [2, 3, 4, 5], [60, 0, 2, 450, 102, 106]), (20, [3, 2], [50, 1, 0, 1100, 2, 6, 0, 2, 0, 0, 1, 0, 0, 6, 4, 2, 1, 0, 0, 1, 2, 1, 100]), (20, [4, 5], [50, 0, 0, 2, 6, 0, 2, 1, 0, 0, 23, 0, 2, 1, 1, 0, 75]), (24, [0, 2], []), (24, [1, 3], [])], [(11, (0, 1, 75, []))], [], [], [], [(11, 5, 1, 1), (9, 5, 0, 5700), (9, 8, 0, 75), (1, 3, -4294967296, 0), (3, 1, -4294967296, 0)])
theorem oo_Mo_placeOf_2 {kA : Nat → ClassId} : or_ok PRD kA GG o_Mo_placeOf_2 := by
  refine or_mk fun A ta ws vs hD hth hl => ?_
  intro t0 r0 t1 k1 t2 r2 t3 k3 t4 k4 t5 k5 t6 r6 t7 k7 t8 k8 t9 k9 t10 k10 t11 k11 d0 d1 d2 d3 d4 f0 f1 f2 f3 f4 f5 f6 f7 f8 f9 f10 f11 f12
  replace f1 := shm_40 f1
  replace f2 := shm_106 f2
  replace f4 := shm_38 f4
  rw [show v_iv (n_v vs 7) = 76 from by omega] at f4
  replace f5 := shm_666 f5
  replace f6 := shm_661 f6
  replace f7 := shm_662 f7
  replace f8 := shm_664 f8
  replace f9 := shm_663 f9
  replace f11 := shm_5 f11
  replace f12 := shm_5 f12
  have q2 : n_v vs 2 = n_v vs 0 := f11.symm
  have q3 : n_v vs 3 = n_v vs 1 := f12.symm
  simp only [q3, q2] at f1 f5 f6 f7 f8 f9
  have cr_0_95 := fdq_129 hD hth r0
  have cr_0_102 := fdq_158 hD hth r0
  have cr_0_104 := fdq_169 hD hth r0
  have cr_0_105 := fdq_121 hD hth r0
  have cr_0_106 := fdq_122 hD hth r0
  have cr_0_108 := fdq_159 hD hth r0
  have cr_0_109 := fdq_160 hD hth r0
  have ad_6 : v_ad (n_v vs 6) = w_ar ws (n_v vs 0) 106 := congrArg v_ad f5
  simp only [ad_6] at f2
  have h2 : v_iv (n_v vs 10) = w_ei ws (w_ar ws (n_v vs 0) 106) (v_iv (n_v vs 9)) := f2
  have hK_0_95 := elq_68 hD hth cr_0_95
  have hK_0_102 := elq_88 hD hth cr_0_102
  have hK_0_104 := elq_97 hD hth cr_0_104
  have hK_0_105 := elq_62 hD hth cr_0_105
  have hK_0_106 := elq_63 hD hth cr_0_106
  have hK_0_108 := elq_89 hD hth cr_0_108
  have hK_0_109 := elq_90 hD hth cr_0_109
  have kz_0_100 := fdq_161 hD hth r0
  have kz_0_101 := fdq_124 hD hth r0
  have kz_0_107 := fdq_162 hD hth r0
  have hrf0 : 1 ≤ v_iv (n_v vs 11) ∧ v_iv (n_v vs 11) ≤ 75 := vc_Mo_placeOf_2_r0 (v_iv (n_v vs 1)) (v_iv (n_v vs 3)) (v_iv (n_v vs 4)) (v_iv (n_v vs 5)) (v_iv (n_v vs 7)) (v_iv (n_v vs 8)) (v_iv (n_v vs 9)) (v_iv (n_v vs 10)) (v_iv (n_v vs 11)) (w_ei ws (w_ar ws (n_v vs 0) 106)) (w_ei ws (w_ar ws (n_v vs 0) 2)) (w_ei ws (w_ar ws (n_v vs 0) 95)) (w_ei ws (w_ar ws (n_v vs 0) 102)) (w_ei ws (w_ar ws (n_v vs 0) 104)) (w_ei ws (w_ar ws (n_v vs 0) 108)) (w_ei ws (w_ar ws (n_v vs 0) 109)) (w_fi ws (n_v vs 0) 5) (w_fi ws (n_v vs 0) 100) (w_fi ws (n_v vs 0) 101) (w_fi ws (n_v vs 0) 107) (w_ei ws (w_ar ws (n_v vs 0) 105)) k1 k3 k4 k5 k7 k8 k9 k10 k11 d0 d1 d2 d3 d4 (shm_4 f0) f1 h2 (shm_12 f3) f4 f6 f7 f8 f9 (shm_665 f10) hK_0_95 hK_0_102 hK_0_104 hK_0_105 hK_0_106 hK_0_108 hK_0_109 kz_0_100 kz_0_101 kz_0_107
  have rf11 : tv_ok ta (0, 1, 75, []) (n_v vs 11) := tv_in t11 (by first | omega | grind) (by first | omega | grind)
  refine ⟨List.forall_mem_cons.mpr ⟨rf11, (fun _ h => (by cases h))⟩, [], trivial, ?_, (fun _ h => (by cases h))⟩
  rw [List.append_nil]
  exact (fun _ h => (by cases h))
set_option maxHeartbeats 4000000 in
theorem vc_Mo_placeOf_3_0 (x1 : Int) (x3 : Int) (x4 : Int) (x5 : Int) (x7 : Int) (x8 : Int) (x9 : Int) (x10 : Int) (x11 : Int) (layerItem_0 : Int → Int) (all_0 : Int → Int) (turned_0 : Int → Int) (itemLayer_0 : Int → Int) (firstJoint_0 : Int → Int) (lineA_0 : Int → Int) (lineB_0 : Int → Int) (r_0 : Int) (items_0 : Int) (layerMany_0 : Int) (lines_0 : Int) (layerSize_0 : Int → Int) (k1 : 0 ≤ x1 ∧ x1 ≤ 75) (k3 : 0 ≤ x3 ∧ x3 ≤ 75) (k4 : 0 ≤ x4 ∧ x4 ≤ 75) (k5 : 0 ≤ x5 ∧ x5 ≤ 75) (k7 : 76 ≤ x7 ∧ x7 ≤ 76) (k8 : 0 ≤ x8 ∧ x8 ≤ 5700) (k9 : 0 ≤ x9 ∧ x9 ≤ 5775) (k10 : 0 ≤ x10 ∧ x10 ≤ 75) (k11 : 1 ≤ x11 ∧ x11 ≤ 75) (d0 : x5 + 1 ≤ x11 ∧ x11 ≤ x5 + 1) (d1 : x5 + 0 ≤ x9 ∧ x9 ≤ x5 + 5700) (d2 : x8 + 0 ≤ x9 ∧ x9 ≤ x8 + 75) (d3 : x3 + (-4294967296) ≤ x1 ∧ x1 ≤ x3 + 0) (d4 : x1 + (-4294967296) ≤ x3 ∧ x3 ≤ x1 + 0) (f0 : x11 = x5 + 1) (f1 : x10 ≠ x1) (h2 : x10 = layerItem_0 (x9)) (f3 : x9 = x8 + x5) (f4 : x8 = 76 * x4) (f6 : LSA (r_0) (items_0) (layerMany_0) (lines_0) (all_0) (turned_0) (itemLayer_0) (firstJoint_0) (lineA_0) (lineB_0)) (f7 : LSB (items_0) (layerMany_0) (itemLayer_0) (layerSize_0) (layerItem_0)) (f8 : PLG (itemLayer_0) (layerItem_0) (x1) (x4) (x5)) (f9 : (0 ≤ x1) ∧ ((x1 + 1) ≤ items_0)) (f10 : (x4 ≤ 23) ∧ (x5 ≤ 75)) (hK_0_95 : ∀ j : Int, 0 ≤ j → j < 48 → 0 ≤ turned_0 j ∧ turned_0 j ≤ 1) (hK_0_102 : ∀ j : Int, 0 ≤ j → j < 76 → 0 ≤ itemLayer_0 j ∧ itemLayer_0 j ≤ 75) (hK_0_104 : ∀ j : Int, 0 ≤ j → j < 48 → 0 ≤ firstJoint_0 j ∧ firstJoint_0 j ≤ 76) (hK_0_105 : ∀ j : Int, 0 ≤ j → j < 76 → 0 ≤ layerSize_0 j ∧ layerSize_0 j ≤ 76) (hK_0_106 : ∀ j : Int, 0 ≤ j → j < 5776 → 0 ≤ layerItem_0 j ∧ layerItem_0 j ≤ 75) (hK_0_108 : ∀ j : Int, 0 ≤ j → j < 130 → 0 ≤ lineA_0 j ∧ lineA_0 j ≤ 75) (hK_0_109 : ∀ j : Int, 0 ≤ j → j < 130 → 0 ≤ lineB_0 j ∧ lineB_0 j ≤ 75) (kz_0_100 : 0 ≤ items_0 ∧ items_0 ≤ 76) (kz_0_101 : 0 ≤ layerMany_0 ∧ layerMany_0 ≤ 76) (kz_0_107 : 0 ≤ lines_0 ∧ lines_0 ≤ 130) : PLG (itemLayer_0) (layerItem_0) (x1) (x4) (x11) := by
  first
    | exact plg_zero (by assumption) (by omega)
    | exact plg_next (q := x9) (v := x10) ‹PLG _ _ _ _ _› (by assumption) (by omega) (by assumption) (by omega)
set_option maxHeartbeats 4000000 in
theorem vc_Mo_placeOf_3_1 (x1 : Int) (x3 : Int) (x4 : Int) (x5 : Int) (x7 : Int) (x8 : Int) (x9 : Int) (x10 : Int) (x11 : Int) (layerItem_0 : Int → Int) (all_0 : Int → Int) (turned_0 : Int → Int) (itemLayer_0 : Int → Int) (firstJoint_0 : Int → Int) (lineA_0 : Int → Int) (lineB_0 : Int → Int) (r_0 : Int) (items_0 : Int) (layerMany_0 : Int) (lines_0 : Int) (layerSize_0 : Int → Int) (k1 : 0 ≤ x1 ∧ x1 ≤ 75) (k3 : 0 ≤ x3 ∧ x3 ≤ 75) (k4 : 0 ≤ x4 ∧ x4 ≤ 75) (k5 : 0 ≤ x5 ∧ x5 ≤ 75) (k7 : 76 ≤ x7 ∧ x7 ≤ 76) (k8 : 0 ≤ x8 ∧ x8 ≤ 5700) (k9 : 0 ≤ x9 ∧ x9 ≤ 5775) (k10 : 0 ≤ x10 ∧ x10 ≤ 75) (k11 : 1 ≤ x11 ∧ x11 ≤ 75) (d0 : x5 + 1 ≤ x11 ∧ x11 ≤ x5 + 1) (d1 : x5 + 0 ≤ x9 ∧ x9 ≤ x5 + 5700) (d2 : x8 + 0 ≤ x9 ∧ x9 ≤ x8 + 75) (d3 : x3 + (-4294967296) ≤ x1 ∧ x1 ≤ x3 + 0) (d4 : x1 + (-4294967296) ≤ x3 ∧ x3 ≤ x1 + 0) (f0 : x11 = x5 + 1) (f1 : x10 ≠ x1) (h2 : x10 = layerItem_0 (x9)) (f3 : x9 = x8 + x5) (f4 : x8 = 76 * x4) (f6 : LSA (r_0) (items_0) (layerMany_0) (lines_0) (all_0) (turned_0) (itemLayer_0) (firstJoint_0) (lineA_0) (lineB_0)) (f7 : LSB (items_0) (layerMany_0) (itemLayer_0) (layerSize_0) (layerItem_0)) (f8 : PLG (itemLayer_0) (layerItem_0) (x1) (x4) (x5)) (f9 : (0 ≤ x1) ∧ ((x1 + 1) ≤ items_0)) (f10 : (x4 ≤ 23) ∧ (x5 ≤ 75)) (hK_0_95 : ∀ j : Int, 0 ≤ j → j < 48 → 0 ≤ turned_0 j ∧ turned_0 j ≤ 1) (hK_0_102 : ∀ j : Int, 0 ≤ j → j < 76 → 0 ≤ itemLayer_0 j ∧ itemLayer_0 j ≤ 75) (hK_0_104 : ∀ j : Int, 0 ≤ j → j < 48 → 0 ≤ firstJoint_0 j ∧ firstJoint_0 j ≤ 76) (hK_0_105 : ∀ j : Int, 0 ≤ j → j < 76 → 0 ≤ layerSize_0 j ∧ layerSize_0 j ≤ 76) (hK_0_106 : ∀ j : Int, 0 ≤ j → j < 5776 → 0 ≤ layerItem_0 j ∧ layerItem_0 j ≤ 75) (hK_0_108 : ∀ j : Int, 0 ≤ j → j < 130 → 0 ≤ lineA_0 j ∧ lineA_0 j ≤ 75) (hK_0_109 : ∀ j : Int, 0 ≤ j → j < 130 → 0 ≤ lineB_0 j ∧ lineB_0 j ≤ 75) (kz_0_100 : 0 ≤ items_0 ∧ items_0 ≤ 76) (kz_0_101 : 0 ≤ layerMany_0 ∧ layerMany_0 ≤ 76) (kz_0_107 : 0 ≤ lines_0 ∧ lines_0 ≤ 130) : (x4 ≤ 23) ∧ (x11 ≤ 75) := by
  first
    | omega
    | (have h := ‹LSA _ _ _ _ _ _ _ _ _ _›.2.2.1 x1 (by omega) (by omega); have h2 := ‹LSA _ _ _ _ _ _ _ _ _ _›.2.1; omega)
def o_Mo_placeOf_3 : or_T := (9, 12, [(0, (2, 0, 0, [165])), (1, (0, 0, 75, [])), (3, (0, 0, 75, [])), (4, (0, 0, 75, [])), (5, (0, 0, 75, [])), (7, (0, 76, 76, [])), (8, (0, 0, 5700, [])), (9, (0, 0, 5775, [])), (10, (0, 0, 75, [])), (11, (0, 1, 75, []))], [(6, [11, 5], [1]), (7, [10, 3], [1]), (10, [10, 6, 9], []), (1, [9, 8, 5], []), (3, [8, 7, 4], []), (9, [6, 2], [106]), (20, [2], [60, 4, 6, 445, 5, 100, 101, 107, 2, 95, 102, 104, 108, 109]), (20, [2], [60, 2, 3, 448, 100, 101, 102, 105, 106]), (20, [2, 3, 4, 5], [60, 0, 2, 450, 102, 106]), (20, [3, 2], [50, 1, 0, 1100, 2, 6, 0, 2, 0, 0, 1, 0, 0, 6, 4, 2, 1, 0, 0, 1, 2, 1, 100]), (20, [4, 5], [50, 0, 0, 2, 6, 0, 2, 1, 0, 0, 23, 0, 2, 1, 1, 0, 75]), (24, [0, 2], []), (24, [1, 3], [])], [], [], [(20, [2, 3, 4, 11], [60, 0, 2, 450, 102, 106]), (20, [4, 11], [50, 0, 0, 2, 6, 0, 2, 1, 0, 0, 23, 0, 2, 1, 1, 0, 75])], [], [(11, 5, 1, 1), (9, 5, 0, 5700), (9, 8, 0, 75), (1, 3, -4294967296, 0), (3, 1, -4294967296, 0)])
theorem oo_Mo_placeOf_3 {kA : Nat → ClassId} : or_ok PRD kA GG o_Mo_placeOf_3 := by
  refine or_mk fun A ta ws vs hD hth hl => ?_
  intro t0 r0 t1 k1 t3 k3 t4 k4 t5 k5 t7 k7 t8 k8 t9 k9 t10 k10 t11 k11 d0 d1 d2 d3 d4 f0 f1 f2 f3 f4 f5 f6 f7 f8 f9 f10 f11 f12
  replace f0 := shm_4 f0
  replace f1 := shm_40 f1
  replace f2 := shm_106 f2
  replace f3 := shm_12 f3
  replace f4 := shm_38 f4
  rw [show v_iv (n_v vs 7) = 76 from by omega] at f4
  replace f5 := shm_666 f5
  replace f6 := shm_661 f6
  replace f7 := shm_662 f7
  replace f8 := shm_664 f8
  replace f9 := shm_663 f9
  replace f10 := shm_665 f10
  replace f11 := shm_5 f11
  replace f12 := shm_5 f12
  have q2 : n_v vs 2 = n_v vs 0 := f11.symm
  have q3 : n_v vs 3 = n_v vs 1 := f12.symm
  simp only [q3, q2] at f1 f5 f6 f7 f8 f9
  have cr_0_95 := fdq_129 hD hth r0
  have cr_0_102 := fdq_158 hD hth r0
  have cr_0_104 := fdq_169 hD hth r0
  have cr_0_105 := fdq_121 hD hth r0
  have cr_0_106 := fdq_122 hD hth r0
  have cr_0_108 := fdq_159 hD hth r0
  have cr_0_109 := fdq_160 hD hth r0
  have ad_6 : v_ad (n_v vs 6) = w_ar ws (n_v vs 0) 106 := congrArg v_ad f5
  simp only [ad_6] at f2
  have h2 : v_iv (n_v vs 10) = w_ei ws (w_ar ws (n_v vs 0) 106) (v_iv (n_v vs 9)) := f2
  have hK_0_95 := elq_68 hD hth cr_0_95
  have hK_0_102 := elq_88 hD hth cr_0_102
  have hK_0_104 := elq_97 hD hth cr_0_104
  have hK_0_105 := elq_62 hD hth cr_0_105
  have hK_0_106 := elq_63 hD hth cr_0_106
  have hK_0_108 := elq_89 hD hth cr_0_108
  have hK_0_109 := elq_90 hD hth cr_0_109
  have kz_0_100 := fdq_161 hD hth r0
  have kz_0_101 := fdq_124 hD hth r0
  have kz_0_107 := fdq_162 hD hth r0
  have nf0 : fc_1 PRD (20, [2, 3, 4, 11], [60, 0, 2, 450, 102, 106]) ws (vs) := by
    refine ⟨nf_in hl rfl, sgq_664 ?_⟩
    · show PLG (w_ei ws (w_ar ws (n_v vs 2) 102)) (w_ei ws (w_ar ws (n_v vs 2) 106)) (v_iv (n_v vs 3)) (v_iv (n_v vs 4)) (v_iv (n_v vs 11))
      simp only [q2, q3]
      exact vc_Mo_placeOf_3_0 (v_iv (n_v vs 1)) (v_iv (n_v vs 3)) (v_iv (n_v vs 4)) (v_iv (n_v vs 5)) (v_iv (n_v vs 7)) (v_iv (n_v vs 8)) (v_iv (n_v vs 9)) (v_iv (n_v vs 10)) (v_iv (n_v vs 11)) (w_ei ws (w_ar ws (n_v vs 0) 106)) (w_ei ws (w_ar ws (n_v vs 0) 2)) (w_ei ws (w_ar ws (n_v vs 0) 95)) (w_ei ws (w_ar ws (n_v vs 0) 102)) (w_ei ws (w_ar ws (n_v vs 0) 104)) (w_ei ws (w_ar ws (n_v vs 0) 108)) (w_ei ws (w_ar ws (n_v vs 0) 109)) (w_fi ws (n_v vs 0) 5) (w_fi ws (n_v vs 0) 100) (w_fi ws (n_v vs 0) 101) (w_fi ws (n_v vs 0) 107) (w_ei ws (w_ar ws (n_v vs 0) 105)) k1 k3 k4 k5 k7 k8 k9 k10 k11 d0 d1 d2 d3 d4 f0 f1 h2 f3 f4 f6 f7 f8 f9 f10 hK_0_95 hK_0_102 hK_0_104 hK_0_105 hK_0_106 hK_0_108 hK_0_109 kz_0_100 kz_0_101 kz_0_107
  have nf1 : fc_1 PRD (20, [4, 11], [50, 0, 0, 2, 6, 0, 2, 1, 0, 0, 23, 0, 2, 1, 1, 0, 75]) ws (vs) := ⟨nf_in hl rfl, sgq_665 (vc_Mo_placeOf_3_1 (v_iv (n_v vs 1)) (v_iv (n_v vs 3)) (v_iv (n_v vs 4)) (v_iv (n_v vs 5)) (v_iv (n_v vs 7)) (v_iv (n_v vs 8)) (v_iv (n_v vs 9)) (v_iv (n_v vs 10)) (v_iv (n_v vs 11)) (w_ei ws (w_ar ws (n_v vs 0) 106)) (w_ei ws (w_ar ws (n_v vs 0) 2)) (w_ei ws (w_ar ws (n_v vs 0) 95)) (w_ei ws (w_ar ws (n_v vs 0) 102)) (w_ei ws (w_ar ws (n_v vs 0) 104)) (w_ei ws (w_ar ws (n_v vs 0) 108)) (w_ei ws (w_ar ws (n_v vs 0) 109)) (w_fi ws (n_v vs 0) 5) (w_fi ws (n_v vs 0) 100) (w_fi ws (n_v vs 0) 101) (w_fi ws (n_v vs 0) 107) (w_ei ws (w_ar ws (n_v vs 0) 105)) k1 k3 k4 k5 k7 k8 k9 k10 k11 d0 d1 d2 d3 d4 f0 f1 h2 f3 f4 f6 f7 f8 f9 f10 hK_0_95 hK_0_102 hK_0_104 hK_0_105 hK_0_106 hK_0_108 hK_0_109 kz_0_100 kz_0_101 kz_0_107)⟩
  refine ⟨(fun _ h => (by cases h)), [], trivial, ?_, (fun _ h => (by cases h))⟩
  rw [List.append_nil]
  exact List.forall_mem_cons.mpr ⟨⟨show (20 : Nat) < 100 from by decide, nf0⟩, List.forall_mem_cons.mpr ⟨⟨show (20 : Nat) < 100 from by decide, nf1⟩, (fun _ h => (by cases h))⟩⟩
def n_Mo_placeOf_an : List an_T := [(9, [(0, (2, 0, 0, [165])), (1, (0, 0, 75, [])), (2, (0, 0, 75, [])), (3, (0, 0, 75, []))], [], (0, 0), [(0, 0, 99991), (1, 5, 75), (0, 0, 100000)], [(1, 3, (Int.negSucc 999999999999), 0), (3, 1, (Int.negSucc 999999999999), 0)], [], [(2, 0, 0, [165]), (0, 0, 75, [])], 0, [], [(20, [2], [60, 4, 6, 445, 5, 100, 101, 107, 2, 95, 102, 104, 108, 109]), (20, [2], [60, 2, 3, 448, 100, 101, 102, 105, 106]), (20, [2, 3, 4, 5], [60, 0, 2, 450, 102, 106]), (20, [3, 2], [50, 1, 0, 1100, 2, 6, 0, 2, 0, 0, 1, 0, 0, 6, 4, 2, 1, 0, 0, 1, 2, 1, 100]), (20, [4, 5], [50, 0, 0, 2, 6, 0, 2, 1, 0, 0, 23, 0, 2, 1, 1, 0, 75]), (24, [0, 2], []), (24, [1, 3], [])])]
def t_Mo_placeOf_ct : ct_L := []
set_option maxRecDepth 100000 in
theorem c_Mo_placeOf {l : Launch} {D : va_G} {kA : Nat → ClassId} : ct_ok PRD l D kA GG y_Mo_placeOf z_Mo_placeOf e_Mo_placeOf := chk_all_ok (FT := [(222, 13, 102), (234, 13, 106)]) (PT := []) (CT := t_Mo_placeOf_ct) (KT := []) (NT := []) (AN := n_Mo_placeOf_an) (OT := [o_Mo_placeOf_0, o_Mo_placeOf_1, o_Mo_placeOf_2, o_Mo_placeOf_3]) 3 200 (List.forall_mem_cons.mpr ⟨oo_Mo_placeOf_0, List.forall_mem_cons.mpr ⟨oo_Mo_placeOf_1, List.forall_mem_cons.mpr ⟨oo_Mo_placeOf_2, List.forall_mem_cons.mpr ⟨oo_Mo_placeOf_3, List.forall_mem_nil _⟩⟩⟩⟩) (by decide +kernel) ⟨List.forall_mem_cons.mpr ⟨gf_Mo_222, List.forall_mem_cons.mpr ⟨gf_Mo_234, List.forall_mem_nil _⟩⟩, List.forall_mem_nil _, List.forall_mem_nil _, List.forall_mem_nil _, List.forall_mem_nil _, GG_pl⟩ (by decide +kernel)
set_option maxHeartbeats 4000000 in
theorem vc_Mo_pointsOf_0_0 (x1 : Int) (x3 : Int) (x4 : Int) (x5 : Int) (x6 : Int) (x7 : Int) (x8 : Int) (x9 : Int) (bendMany_0 : Int → Int) (g0_0 : Int) (k1 : 0 ≤ x1 ∧ x1 ≤ 47) (k3 : 48 ≤ x3 ∧ x3 ≤ 48) (k4 : 0 ≤ x4 ∧ x4 ≤ 3) (k5 : 0 ≤ x5 ∧ x5 ≤ 144) (k6 : 0 ≤ x6 ∧ x6 ≤ 191) (k7 : 0 ≤ x7 ∧ x7 ≤ 24) (k8 : 2 ≤ x8 ∧ x8 ≤ 2) (k9 : 2 ≤ x9 ∧ x9 ≤ 26) (d0 : x7 + 2 ≤ x9 ∧ x9 ≤ x7 + 2) (d1 : x1 + 0 ≤ x6 ∧ x6 ≤ x1 + 144) (d2 : x5 + 0 ≤ x6 ∧ x6 ≤ x5 + 47) (f0 : x9 = x7 + x8) (h1 : x7 = bendMany_0 (x6)) (f2 : x6 = x5 + x1) (f3 : x5 = 48 * x4) (g4 : x4 = g0_0) (hK_0_64 : ∀ j : Int, 0 ≤ j → j < 192 → 0 ≤ bendMany_0 j ∧ bendMany_0 j ≤ 24) (kz_0_139 : 0 ≤ g0_0 ∧ g0_0 ≤ 3) : x9 = (bendMany_0 (((48 * g0_0) + x1)) + 2) := by
  first | assumption | (clear hK_0_64; omega) | omega | grind
def o_Mo_pointsOf_0 : or_T := (16, 10, [(0, (2, 0, 0, [165])), (1, (0, 0, 47, [])), (3, (0, 48, 48, [])), (4, (0, 0, 3, [])), (5, (0, 0, 144, [])), (6, (0, 0, 191, [])), (7, (0, 0, 24, [])), (8, (0, 2, 2, [])), (9, (0, 2, 26, []))], [(1, [9, 7, 8], []), (10, [7, 2, 6], []), (1, [6, 5, 1], []), (3, [5, 3, 4], []), (9, [4, 0], [139]), (9, [2, 0], [64])], [], [], [(20, [9, 0, 1], [50, 1, 1, 1139, 1064, 1, 2, 1, 0, 4, 14, 3, 1, 64, 4, 7, 6, 2, 0, 48, 2, 1, 139, 1, 2, 0, 2])], [], [(9, 7, 2, 2), (6, 1, 0, 144), (6, 5, 0, 47)])
theorem oo_Mo_pointsOf_0 {kA : Nat → ClassId} : or_ok PRD kA GG o_Mo_pointsOf_0 := by
  refine or_mk fun A ta ws vs hD hth hl => ?_
  intro t0 r0 t1 k1 t3 k3 t4 k4 t5 k5 t6 k6 t7 k7 t8 k8 t9 k9 d0 d1 d2 f0 f1 f2 f3 f4 f5
  replace f1 := shm_106 f1
  replace f3 := shm_38 f3
  rw [show v_iv (n_v vs 3) = 48 from by omega] at f3
  replace f4 := shm_668 f4
  replace f5 := shm_669 f5
  have cr_0_64 := fdq_170 hD hth r0
  have ad_2 : v_ad (n_v vs 2) = w_ar ws (n_v vs 0) 64 := congrArg v_ad f5
  simp only [ad_2] at f1
  have h1 : v_iv (n_v vs 7) = w_ei ws (w_ar ws (n_v vs 0) 64) (v_iv (n_v vs 6)) := f1
  have g4 : v_iv (n_v vs 4) = w_fi ws (n_v vs 0) 139 := congrArg v_iv f4
  have hK_0_64 := elq_98 hD hth cr_0_64
  have kz_0_139 := fdq_171 hD hth r0
  have nf0 : fc_1 PRD (20, [9, 0, 1], [50, 1, 1, 1139, 1064, 1, 2, 1, 0, 4, 14, 3, 1, 64, 4, 7, 6, 2, 0, 48, 2, 1, 139, 1, 2, 0, 2]) ws (vs) := ⟨nf_in hl rfl, sgq_670 (vc_Mo_pointsOf_0_0 (v_iv (n_v vs 1)) (v_iv (n_v vs 3)) (v_iv (n_v vs 4)) (v_iv (n_v vs 5)) (v_iv (n_v vs 6)) (v_iv (n_v vs 7)) (v_iv (n_v vs 8)) (v_iv (n_v vs 9)) (w_ei ws (w_ar ws (n_v vs 0) 64)) (w_fi ws (n_v vs 0) 139) k1 k3 k4 k5 k6 k7 k8 k9 d0 d1 d2 (shm_12 f0) h1 (shm_12 f2) f3 g4 hK_0_64 kz_0_139)⟩
  refine ⟨(fun _ h => (by cases h)), [], trivial, ?_, (fun _ h => (by cases h))⟩
  rw [List.append_nil]
  exact List.forall_mem_cons.mpr ⟨⟨show (20 : Nat) < 100 from by decide, nf0⟩, (fun _ h => (by cases h))⟩
def n_Mo_pointsOf_an : List an_T := []
def t_Mo_pointsOf_ct : ct_L := []
set_option maxRecDepth 100000 in
theorem c_Mo_pointsOf {l : Launch} {D : va_G} {kA : Nat → ClassId} : ct_ok PRD l D kA GG y_Mo_pointsOf z_Mo_pointsOf e_Mo_pointsOf := chk_all_ok (FT := [(129, 13, 64), (1020, 13, 139)]) (PT := []) (CT := t_Mo_pointsOf_ct) (KT := []) (NT := []) (AN := n_Mo_pointsOf_an) (OT := [o_Mo_pointsOf_0]) 0 200 (List.forall_mem_cons.mpr ⟨oo_Mo_pointsOf_0, List.forall_mem_nil _⟩) (by decide +kernel) ⟨List.forall_mem_cons.mpr ⟨gf_Mo_129, List.forall_mem_cons.mpr ⟨gf_Mo_1020, List.forall_mem_nil _⟩⟩, List.forall_mem_nil _, List.forall_mem_nil _, List.forall_mem_nil _, List.forall_mem_nil _, GG_pl⟩ (by decide +kernel)
set_option maxHeartbeats 4000000 in
theorem vc_Mo_putAt_at_g1_0_0 (x1 : Int) (x2 : Int) (x3 : Int) (x4 : Int) (x6 : Int) (rotMany_0 : Int → Int) (pt_0 : Int → Int) (ph_0 : Int → Int) (alive_0 : Int → Int) (rot_0 : Int → Int) (pn_0 : Int) (pm_0 : Int) (k1 : 0 ≤ x1 ∧ x1 ≤ 24) (k2 : 0 ≤ x2 ∧ x2 ≤ 79) (k3 : 0 ≤ x3 ∧ x3 ≤ 79) (k4 : 0 ≤ x4 ∧ x4 ≤ 24) (k6 : 0 ≤ x6 ∧ x6 ≤ 80) (h0 : x6 = rotMany_0 (x1)) (f2 : PAa (pn_0) (pm_0) (pt_0) (ph_0) (alive_0) (rotMany_0) (rot_0) (x1) (x2) (x3) (x4)) (hK_0_33 : ∀ j : Int, 0 ≤ j → j < 80 → 0 ≤ pt_0 j ∧ pt_0 j ≤ 24) (hK_0_34 : ∀ j : Int, 0 ≤ j → j < 80 → 0 ≤ ph_0 j ∧ ph_0 j ≤ 24) (hK_0_35 : ∀ j : Int, 0 ≤ j → j < 80 → 0 ≤ alive_0 j ∧ alive_0 j ≤ 1) (hK_0_36 : ∀ j : Int, 0 ≤ j → j < 26 → 0 ≤ rotMany_0 j ∧ rotMany_0 j ≤ 80) (hK_0_37 : ∀ j : Int, 0 ≤ j → j < 2080 → 0 ≤ rot_0 j ∧ rot_0 j ≤ 79) (kz_0_31 : 0 ≤ pn_0 ∧ pn_0 ≤ 25) (kz_0_32 : 0 ≤ pm_0 ∧ pm_0 ≤ 80) : PLa (pn_0) (pm_0) (pt_0) (ph_0) (alive_0) (rotMany_0) (rot_0) (x1) (x2) (x3) (x6) (x4) := by
  first
    | exact pal_start ‹PAa _ _ _ _ _ _ _ _ _ _ _› (by omega)
    | exact pal_step ‹PLa _ _ _ _ _ _ _ _ _ _ _ _› (by omega) (by omega) (by assumption) (by omega) (by assumption) (by omega)
def o_Mo_putAt_at_g1_0 : or_T := (8, 7, [(0, (2, 0, 0, [165])), (1, (0, 0, 24, [])), (2, (0, 0, 79, [])), (3, (0, 0, 79, [])), (4, (0, 0, 24, [])), (6, (0, 0, 80, []))], [(10, [6, 5, 1], []), (9, [5, 0], [36]), (20, [0, 1, 2, 3, 4], [60, 2, 5, 251, 31, 32, 33, 34, 35, 36, 37])], [], [], [(20, [0, 1, 2, 3, 6, 4], [60, 2, 5, 255, 31, 32, 33, 34, 35, 36, 37]), (24, [0, 0], []), (24, [1, 1], []), (24, [2, 2], [])], [], [])
theorem oo_Mo_putAt_at_g1_0 {kA : Nat → ClassId} : or_ok PRD kA GG o_Mo_putAt_at_g1_0 := by
  refine or_mk fun A ta ws vs hD hth hl => ?_
  intro t0 r0 t1 k1 t2 k2 t3 k3 t4 k4 t6 k6 f0 f1 f2
  replace f0 := shm_106 f0
  replace f1 := shm_671 f1
  have cr_0_33 := fdq_116 hD hth r0
  have cr_0_34 := fdq_117 hD hth r0
  have cr_0_35 := fdq_131 hD hth r0
  have cr_0_36 := fdq_166 hD hth r0
  have cr_0_37 := fdq_167 hD hth r0
  have ad_5 : v_ad (n_v vs 5) = w_ar ws (n_v vs 0) 36 := congrArg v_ad f1
  simp only [ad_5] at f0
  have h0 : v_iv (n_v vs 6) = w_ei ws (w_ar ws (n_v vs 0) 36) (v_iv (n_v vs 1)) := f0
  have hK_0_33 := elq_57 hD hth cr_0_33
  have hK_0_34 := elq_58 hD hth cr_0_34
  have hK_0_35 := elq_69 hD hth cr_0_35
  have hK_0_36 := elq_94 hD hth cr_0_36
  have hK_0_37 := elq_95 hD hth cr_0_37
  have kz_0_31 := fdq_144 hD hth r0
  have kz_0_32 := fdq_139 hD hth r0
  have nf0 : fc_1 PRD (20, [0, 1, 2, 3, 6, 4], [60, 2, 5, 255, 31, 32, 33, 34, 35, 36, 37]) ws (vs) := ⟨nf_in hl rfl, sgq_673 (vc_Mo_putAt_at_g1_0_0 (v_iv (n_v vs 1)) (v_iv (n_v vs 2)) (v_iv (n_v vs 3)) (v_iv (n_v vs 4)) (v_iv (n_v vs 6)) (w_ei ws (w_ar ws (n_v vs 0) 36)) (w_ei ws (w_ar ws (n_v vs 0) 33)) (w_ei ws (w_ar ws (n_v vs 0) 34)) (w_ei ws (w_ar ws (n_v vs 0) 35)) (w_ei ws (w_ar ws (n_v vs 0) 37)) (w_fi ws (n_v vs 0) 31) (w_fi ws (n_v vs 0) 32) k1 k2 k3 k4 k6 h0 (shm_672 f2) hK_0_33 hK_0_34 hK_0_35 hK_0_36 hK_0_37 kz_0_31 kz_0_32)⟩
  have nf1 : fc_1 PRD (24, [0, 0], []) ws (vs) := by
    refine ⟨nf_in hl rfl, sgq_1 ?_⟩
    · show n_v vs 0 = n_v vs 0
      first | rfl | simp only [true_and]
  have nf2 : fc_1 PRD (24, [1, 1], []) ws (vs) := by
    refine ⟨nf_in hl rfl, sgq_1 ?_⟩
    · show n_v vs 1 = n_v vs 1
      first | rfl | simp only [true_and]
  have nf3 : fc_1 PRD (24, [2, 2], []) ws (vs) := by
    refine ⟨nf_in hl rfl, sgq_1 ?_⟩
    · show n_v vs 2 = n_v vs 2
      first | rfl | simp only [true_and]
  refine ⟨(fun _ h => (by cases h)), [], trivial, ?_, (fun _ h => (by cases h))⟩
  rw [List.append_nil]
  exact List.forall_mem_cons.mpr ⟨⟨show (20 : Nat) < 100 from by decide, nf0⟩, List.forall_mem_cons.mpr ⟨⟨show (24 : Nat) < 100 from by decide, nf1⟩, List.forall_mem_cons.mpr ⟨⟨show (24 : Nat) < 100 from by decide, nf2⟩, List.forall_mem_cons.mpr ⟨⟨show (24 : Nat) < 100 from by decide, nf3⟩, (fun _ h => (by cases h))⟩⟩⟩⟩
set_option maxHeartbeats 4000000 in
theorem vc_Mo_putAt_at_g1_1_r0 (x1 : Int) (x2 : Int) (x4 : Int) (x6 : Int) (x7 : Int) (x8 : Int) (x9 : Int) (x11 : Int) (x12 : Int) (x13 : Int) (x15 : Int) (x16 : Int) (x17 : Int) (rotMany_0 : Int → Int) (pt_1 : Int → Int) (ph_1 : Int → Int) (alive_1 : Int → Int) (rotMany_1 : Int → Int) (rot_1 : Int → Int) (pn_1 : Int) (pm_1 : Int) (pn_0 : Int) (pm_0 : Int) (pt_0 : Int → Int) (ph_0 : Int → Int) (alive_0 : Int → Int) (rot_0 : Int → Int) (k1 : 0 ≤ x1 ∧ x1 ≤ 24) (k2 : 0 ≤ x2 ∧ x2 ≤ 79) (k4 : 0 ≤ x4 ∧ x4 ≤ 24) (k6 : 0 ≤ x6 ∧ x6 ≤ 24) (k7 : 0 ≤ x7 ∧ x7 ≤ 79) (k8 : 0 ≤ x8 ∧ x8 ≤ 79) (k9 : 0 ≤ x9 ∧ x9 ≤ 79) (k11 : 80 ≤ x11 ∧ x11 ≤ 80) (k12 : 0 ≤ x12 ∧ x12 ≤ 1920) (k13 : 0 ≤ x13 ∧ x13 ≤ 1999) (k15 : 0 ≤ x15 ∧ x15 ≤ 80) (k16 : 1 ≤ x16 ∧ x16 ≤ 1) (k17 : 1 ≤ x17 ∧ x17 ≤ 81) (d0 : x15 + 1 ≤ x17 ∧ x17 ≤ x15 + 1) (d1 : x8 + 0 ≤ x13 ∧ x13 ≤ x8 + 1920) (d2 : x12 + 0 ≤ x13 ∧ x13 ≤ x12 + 79) (d3 : x8 + (-4294967296) ≤ x9 ∧ x9 ≤ x8 + 0) (d4 : x6 + (-4294967296) ≤ x1 ∧ x1 ≤ x6 + 0) (d5 : x7 + (-4294967296) ≤ x2 ∧ x2 ≤ x7 + 0) (d6 : x1 + (-4294967296) ≤ x6 ∧ x6 ≤ x1 + 0) (d7 : x2 + (-4294967296) ≤ x7 ∧ x7 ≤ x2 + 0) (f0 : x17 = x15 + x16) (h1 : x15 = rotMany_0 (x1)) (f7 : x13 = x12 + x8) (f8 : x12 = 80 * x1) (f10 : x9 ≤ x8) (f11 : PLa (pn_1) (pm_1) (pt_1) (ph_1) (alive_1) (rotMany_1) (rot_1) (x1) (x2) (x8) (x9) (x4)) (fe_0_31_1 : pn_0 = pn_1) (fe_0_32_1 : pm_0 = pm_1) (hE_0_33_1 : ∀ j : Int, pt_0 j = pt_1 j) (hK_0_33 : ∀ j : Int, 0 ≤ j → j < 80 → 0 ≤ pt_0 j ∧ pt_0 j ≤ 24) (hE_0_34_1 : ∀ j : Int, ph_0 j = ph_1 j) (hK_0_34 : ∀ j : Int, 0 ≤ j → j < 80 → 0 ≤ ph_0 j ∧ ph_0 j ≤ 24) (hE_0_35_1 : ∀ j : Int, alive_0 j = alive_1 j) (hK_0_35 : ∀ j : Int, 0 ≤ j → j < 80 → 0 ≤ alive_0 j ∧ alive_0 j ≤ 1) (hE_0_36_1 : ∀ j : Int, rotMany_0 j = rotMany_1 j) (hK_0_36 : ∀ j : Int, 0 ≤ j → j < 26 → 0 ≤ rotMany_0 j ∧ rotMany_0 j ≤ 80) (hE_0_37_1 : ∀ j : Int, 0 ≤ j → (j = x13 → rot_0 j = x2) ∧ (j ≠ x13 → rot_0 j = rot_1 j)) (hK_0_37 : ∀ j : Int, 0 ≤ j → j < 2080 → 0 ≤ rot_0 j ∧ rot_0 j ≤ 79) (kz_0_31 : 0 ≤ pn_0 ∧ pn_0 ≤ 25) (kz_0_32 : 0 ≤ pm_0 ∧ pm_0 ≤ 80) : 1 ≤ x17 ∧ x17 ≤ 80 := by
  subst fe_0_31_1
  subst fe_0_32_1
  have e_hE_0_33_1 := funext hE_0_33_1; subst e_hE_0_33_1
  have e_hE_0_34_1 := funext hE_0_34_1; subst e_hE_0_34_1
  have e_hE_0_35_1 := funext hE_0_35_1; subst e_hE_0_35_1
  have e_hE_0_36_1 := funext hE_0_36_1; subst e_hE_0_36_1
  first
    | omega
    | (have h := pax_len ‹PAa _ _ _ _ _ _ _ _ _ _ _›; omega)
    | (have h := pax_len ‹PAb _ _ _ _ _ _ _ _ _ _ _›; omega)
    | (have h := pax_len ‹PAc _ _ _ _ _ _ _ _ _ _ _ _ _ _›; omega)
    | (have h := pax_len ‹PAd _ _ _ _ _ _ _ _ _ _ _ _ _ _›; omega)
    | (have h := pal_len ‹PLa _ _ _ _ _ _ _ _ _ _ _ _›; omega)
    | (have h := pal_len ‹PLb _ _ _ _ _ _ _ _ _ _ _ _›; omega)
    | (have h := pal_len ‹PLc _ _ _ _ _ _ _ _ _ _ _ _ _ _ _›; omega)
    | (have h := pal_len ‹PLd _ _ _ _ _ _ _ _ _ _ _ _ _ _ _›; omega)
def o_Mo_putAt_at_g1_1 : or_T := (67, 18, [(0, (2, 0, 0, [165])), (1, (0, 0, 24, [])), (2, (0, 0, 79, [])), (4, (0, 0, 24, [])), (5, (2, 0, 0, [165])), (6, (0, 0, 24, [])), (7, (0, 0, 79, [])), (8, (0, 0, 79, [])), (9, (0, 0, 79, [])), (10, (2, 0, 0, [184])), (11, (0, 80, 80, [])), (12, (0, 0, 1920, [])), (13, (0, 0, 1999, [])), (14, (2, 0, 0, [183])), (15, (0, 0, 80, [])), (16, (0, 1, 1, [])), (17, (0, 1, 81, []))], [(1, [17, 15, 16], []), (10, [15, 14, 6], []), (9, [14, 5], [36]), (24, [0, 5], []), (24, [1, 6], []), (24, [2, 7], []), (100, [10, 13, 7], []), (1, [13, 12, 8], []), (3, [12, 11, 6], []), (9, [10, 5], [37]), (7, [9, 8], [5]), (20, [5, 6, 7, 8, 9, 4], [60, 2, 5, 255, 31, 32, 33, 34, 35, 36, 37])], [(17, (0, 1, 80, []))], [], [], [], [(17, 15, 1, 1), (13, 8, 0, 1920), (13, 12, 0, 79), (9, 8, -4294967296, 0), (1, 6, -4294967296, 0), (2, 7, -4294967296, 0), (6, 1, -4294967296, 0), (7, 2, -4294967296, 0)])
theorem oo_Mo_putAt_at_g1_1 {kA : Nat → ClassId} : or_ok PRD kA GG o_Mo_putAt_at_g1_1 := by
  refine or_mk fun A ta ws vs hD hth hl => ?_
  intro t0 r0 t1 k1 t2 k2 t4 k4 t5 r5 t6 k6 t7 k7 t8 k8 t9 k9 t10 r10 t11 k11 t12 k12 t13 k13 t14 r14 t15 k15 t16 k16 t17 k17 d0 d1 d2 d3 d4 d5 d6 d7 f0 f1 f2 f3 f4 f5 ta1 w1 le1 s1 f7 f8 f9 f10 f11
  replace f1 := shm_106 f1
  replace f2 := shm_671 f2
  replace f3 := shm_5 f3
  replace f4 := shm_5 f4
  replace f5 := shm_5 f5
  have s1 : (∀ b j, w_el ws b j = if b = v_ad (n_v vs 10) ∧ j = (v_iv (n_v vs 13)).toNat then v_iv (n_v vs 7) else w_el w1 b j) ∧ ∀ b k, w_fd ws b k = w_fd w1 b k := s1.2
  replace f8 := shm_38 f8
  rw [show v_iv (n_v vs 11) = 80 from by omega] at f8
  replace f9 := shm_674 f9
  replace f11 := shm_673 f11
  have q5 : n_v vs 5 = n_v vs 0 := f3.symm
  have q6 : n_v vs 6 = n_v vs 1 := f4.symm
  have q7 : n_v vs 7 = n_v vs 2 := f5.symm
  simp only [q6, q5] at f1 f2
  rw [q7] at s1
  simp only [q6, q5, q7] at f8 f9 f11
  have ar_0_33_1 : w_ar w1 (n_v vs 0) 33 = w_ar ws (n_v vs 0) 33 := congrArg v_ad (s1.2 _ _).symm
  have cr_0_33 := fdq_116 hD hth r0
  have ar_0_34_1 : w_ar w1 (n_v vs 0) 34 = w_ar ws (n_v vs 0) 34 := congrArg v_ad (s1.2 _ _).symm
  have cr_0_34 := fdq_117 hD hth r0
  have ar_0_35_1 : w_ar w1 (n_v vs 0) 35 = w_ar ws (n_v vs 0) 35 := congrArg v_ad (s1.2 _ _).symm
  have cr_0_35 := fdq_131 hD hth r0
  have ar_0_36_1 : w_ar w1 (n_v vs 0) 36 = w_ar ws (n_v vs 0) 36 := congrArg v_ad (s1.2 _ _).symm
  have cr_0_36 := fdq_166 hD hth r0
  have ar_0_37_1 : w_ar w1 (n_v vs 0) 37 = w_ar ws (n_v vs 0) 37 := congrArg v_ad (s1.2 _ _).symm
  have cr_0_37 := fdq_167 hD hth r0
  have ad_14 : v_ad (n_v vs 14) = w_ar ws (n_v vs 0) 36 := congrArg v_ad f2
  have ad_10 : v_ad (n_v vs 10) = w_ar ws (n_v vs 0) 37 := (congrArg v_ad f9).trans ar_0_37_1
  simp only [ad_14] at f1
  have h1 : v_iv (n_v vs 15) = w_ei ws (w_ar ws (n_v vs 0) 36) (v_iv (n_v vs 1)) := f1
  simp only [ar_0_33_1, ar_0_34_1, ar_0_35_1, ar_0_36_1, ar_0_37_1] at f11
  have fe_0_31_1 : w_fi ws (n_v vs 0) 31 = w_fi w1 (n_v vs 0) 31 := congrArg v_iv (s1.2 _ _)
  have fe_0_32_1 : w_fi ws (n_v vs 0) 32 = w_fi w1 (n_v vs 0) 32 := congrArg v_iv (s1.2 _ _)
  have hE_0_33_1 : ∀ j : Int, w_ei ws (w_ar ws (n_v vs 0) 33) j = w_ei w1 (w_ar ws (n_v vs 0) 33) j := el_kp s1.1 r10 cr_0_33 (by decide)
  have hK_0_33 := elq_57 hD hth cr_0_33
  have hE_0_34_1 : ∀ j : Int, w_ei ws (w_ar ws (n_v vs 0) 34) j = w_ei w1 (w_ar ws (n_v vs 0) 34) j := el_kp s1.1 r10 cr_0_34 (by decide)
  have hK_0_34 := elq_58 hD hth cr_0_34
  have hE_0_35_1 : ∀ j : Int, w_ei ws (w_ar ws (n_v vs 0) 35) j = w_ei w1 (w_ar ws (n_v vs 0) 35) j := el_kp s1.1 r10 cr_0_35 (by decide)
  have hK_0_35 := elq_69 hD hth cr_0_35
  have hE_0_36_1 : ∀ j : Int, w_ei ws (w_ar ws (n_v vs 0) 36) j = w_ei w1 (w_ar ws (n_v vs 0) 36) j := el_kp s1.1 r10 cr_0_36 (by decide)
  have hK_0_36 := elq_94 hD hth cr_0_36
  have hE_0_37_1 : ∀ j : Int, 0 ≤ j → (j = v_iv (n_v vs 13) → w_ei ws (w_ar ws (n_v vs 0) 37) j = v_iv (n_v vs 2)) ∧ (j ≠ v_iv (n_v vs 13) → w_ei ws (w_ar ws (n_v vs 0) 37) j = w_ei w1 (w_ar ws (n_v vs 0) 37) j) := fun j hj => ⟨fun h => by unfold w_ei; rw [s1.1, if_pos ⟨ad_10.symm, by rw [h]⟩], fun h => by unfold w_ei; rw [s1.1, if_neg (fun e => h (by have := e.2; omega))]⟩
  have hK_0_37 := elq_95 hD hth cr_0_37
  have kz_0_31 := fdq_144 hD hth r0
  have kz_0_32 := fdq_139 hD hth r0
  have hrf0 : 1 ≤ v_iv (n_v vs 17) ∧ v_iv (n_v vs 17) ≤ 80 := vc_Mo_putAt_at_g1_1_r0 (v_iv (n_v vs 1)) (v_iv (n_v vs 2)) (v_iv (n_v vs 4)) (v_iv (n_v vs 6)) (v_iv (n_v vs 7)) (v_iv (n_v vs 8)) (v_iv (n_v vs 9)) (v_iv (n_v vs 11)) (v_iv (n_v vs 12)) (v_iv (n_v vs 13)) (v_iv (n_v vs 15)) (v_iv (n_v vs 16)) (v_iv (n_v vs 17)) (w_ei ws (w_ar ws (n_v vs 0) 36)) (w_ei w1 (w_ar ws (n_v vs 0) 33)) (w_ei w1 (w_ar ws (n_v vs 0) 34)) (w_ei w1 (w_ar ws (n_v vs 0) 35)) (w_ei w1 (w_ar ws (n_v vs 0) 36)) (w_ei w1 (w_ar ws (n_v vs 0) 37)) (w_fi w1 (n_v vs 0) 31) (w_fi w1 (n_v vs 0) 32) (w_fi ws (n_v vs 0) 31) (w_fi ws (n_v vs 0) 32) (w_ei ws (w_ar ws (n_v vs 0) 33)) (w_ei ws (w_ar ws (n_v vs 0) 34)) (w_ei ws (w_ar ws (n_v vs 0) 35)) (w_ei ws (w_ar ws (n_v vs 0) 37)) k1 k2 k4 k6 k7 k8 k9 k11 k12 k13 k15 k16 k17 d0 d1 d2 d3 d4 d5 d6 d7 (shm_12 f0) h1 (shm_12 f7) f8 (shm_24 f10) f11 fe_0_31_1 fe_0_32_1 hE_0_33_1 hK_0_33 hE_0_34_1 hK_0_34 hE_0_35_1 hK_0_35 hE_0_36_1 hK_0_36 hE_0_37_1 hK_0_37 kz_0_31 kz_0_32
  have rf17 : tv_ok ta (0, 1, 80, []) (n_v vs 17) := tv_in t17 (by first | omega | grind) (by first | omega | grind)
  refine ⟨List.forall_mem_cons.mpr ⟨rf17, (fun _ h => (by cases h))⟩, [], trivial, ?_, (fun _ h => (by cases h))⟩
  rw [List.append_nil]
  exact (fun _ h => (by cases h))
set_option maxHeartbeats 4000000 in
theorem vc_Mo_putAt_at_g1_2_0 (x1 : Int) (x2 : Int) (x4 : Int) (x6 : Int) (x7 : Int) (x8 : Int) (x9 : Int) (x11 : Int) (x12 : Int) (x13 : Int) (x15 : Int) (x16 : Int) (x17 : Int) (rotMany_1 : Int → Int) (pt_2 : Int → Int) (ph_2 : Int → Int) (alive_2 : Int → Int) (rotMany_2 : Int → Int) (rot_2 : Int → Int) (pn_2 : Int) (pm_2 : Int) (pn_0 : Int) (pn_1 : Int) (pm_0 : Int) (pm_1 : Int) (pt_0 : Int → Int) (pt_1 : Int → Int) (ph_0 : Int → Int) (ph_1 : Int → Int) (alive_0 : Int → Int) (alive_1 : Int → Int) (rotMany_0 : Int → Int) (rot_0 : Int → Int) (rot_1 : Int → Int) (k1 : 0 ≤ x1 ∧ x1 ≤ 24) (k2 : 0 ≤ x2 ∧ x2 ≤ 79) (k4 : 0 ≤ x4 ∧ x4 ≤ 24) (k6 : 0 ≤ x6 ∧ x6 ≤ 24) (k7 : 0 ≤ x7 ∧ x7 ≤ 79) (k8 : 0 ≤ x8 ∧ x8 ≤ 79) (k9 : 0 ≤ x9 ∧ x9 ≤ 79) (k11 : 80 ≤ x11 ∧ x11 ≤ 80) (k12 : 0 ≤ x12 ∧ x12 ≤ 1920) (k13 : 0 ≤ x13 ∧ x13 ≤ 1999) (k15 : 0 ≤ x15 ∧ x15 ≤ 80) (k16 : 1 ≤ x16 ∧ x16 ≤ 1) (k17 : 1 ≤ x17 ∧ x17 ≤ 80) (d0 : x15 + 1 ≤ x17 ∧ x17 ≤ x15 + 1) (d1 : x8 + 0 ≤ x13 ∧ x13 ≤ x8 + 1920) (d2 : x12 + 0 ≤ x13 ∧ x13 ≤ x12 + 79) (d3 : x8 + (-4294967296) ≤ x9 ∧ x9 ≤ x8 + 0) (d4 : x6 + (-4294967296) ≤ x1 ∧ x1 ≤ x6 + 0) (d5 : x7 + (-4294967296) ≤ x2 ∧ x2 ≤ x7 + 0) (d6 : x1 + (-4294967296) ≤ x6 ∧ x6 ≤ x1 + 0) (d7 : x2 + (-4294967296) ≤ x7 ∧ x7 ≤ x2 + 0) (f4 : x17 = x15 + x16) (h5 : x15 = rotMany_1 (x1)) (f8 : x13 = x12 + x8) (f9 : x12 = 80 * x1) (f11 : x9 ≤ x8) (f12 : PLa (pn_2) (pm_2) (pt_2) (ph_2) (alive_2) (rotMany_2) (rot_2) (x1) (x2) (x8) (x9) (x4)) (fe_0_31_1 : pn_0 = pn_1) (fe_0_32_1 : pm_0 = pm_1) (fe_0_31_2 : pn_1 = pn_2) (fe_0_32_2 : pm_1 = pm_2) (hE_0_33_1 : ∀ j : Int, pt_0 j = pt_1 j) (hE_0_33_2 : ∀ j : Int, pt_1 j = pt_2 j) (hK_0_33 : ∀ j : Int, 0 ≤ j → j < 80 → 0 ≤ pt_0 j ∧ pt_0 j ≤ 24) (hE_0_34_1 : ∀ j : Int, ph_0 j = ph_1 j) (hE_0_34_2 : ∀ j : Int, ph_1 j = ph_2 j) (hK_0_34 : ∀ j : Int, 0 ≤ j → j < 80 → 0 ≤ ph_0 j ∧ ph_0 j ≤ 24) (hE_0_35_1 : ∀ j : Int, alive_0 j = alive_1 j) (hE_0_35_2 : ∀ j : Int, alive_1 j = alive_2 j) (hK_0_35 : ∀ j : Int, 0 ≤ j → j < 80 → 0 ≤ alive_0 j ∧ alive_0 j ≤ 1) (hE_0_36_1 : ∀ j : Int, 0 ≤ j → (j = x1 → rotMany_0 j = x17) ∧ (j ≠ x1 → rotMany_0 j = rotMany_1 j)) (hE_0_36_2 : ∀ j : Int, rotMany_1 j = rotMany_2 j) (hK_0_36 : ∀ j : Int, 0 ≤ j → j < 26 → 0 ≤ rotMany_0 j ∧ rotMany_0 j ≤ 80) (hE_0_37_1 : ∀ j : Int, rot_0 j = rot_1 j) (hE_0_37_2 : ∀ j : Int, 0 ≤ j → (j = x13 → rot_1 j = x2) ∧ (j ≠ x13 → rot_1 j = rot_2 j)) (hK_0_37 : ∀ j : Int, 0 ≤ j → j < 2080 → 0 ≤ rot_0 j ∧ rot_0 j ≤ 79) (kz_0_31 : 0 ≤ pn_0 ∧ pn_0 ≤ 25) (kz_0_32 : 0 ≤ pm_0 ∧ pm_0 ≤ 80) : PUb (pn_0) (pm_0) (pt_0) (ph_0) (alive_0) (rotMany_0) (rot_0) (x4) (x2) := by
  subst fe_0_31_1
  subst fe_0_32_1
  subst fe_0_31_2
  subst fe_0_32_2
  have e_hE_0_33_1 := funext hE_0_33_1; subst e_hE_0_33_1
  have e_hE_0_33_2 := funext hE_0_33_2; subst e_hE_0_33_2
  have e_hE_0_34_1 := funext hE_0_34_1; subst e_hE_0_34_1
  have e_hE_0_34_2 := funext hE_0_34_2; subst e_hE_0_34_2
  have e_hE_0_35_1 := funext hE_0_35_1; subst e_hE_0_35_1
  have e_hE_0_35_2 := funext hE_0_35_2; subst e_hE_0_35_2
  have e_hE_0_36_2 := funext hE_0_36_2; subst e_hE_0_36_2
  have e_hE_0_37_1 := funext hE_0_37_1; subst e_hE_0_37_1
  exact pal_end ‹PLa _ _ _ _ _ _ _ _ _ _ _ _› (by omega) (by assumption) (by omega) (by omega) (by assumption) (by omega) (by omega)
def o_Mo_putAt_at_g1_2 : or_T := (68, 18, [(0, (2, 0, 0, [165])), (1, (0, 0, 24, [])), (2, (0, 0, 79, [])), (4, (0, 0, 24, [])), (6, (0, 0, 24, [])), (7, (0, 0, 79, [])), (8, (0, 0, 79, [])), (9, (0, 0, 79, [])), (10, (2, 0, 0, [184])), (11, (0, 80, 80, [])), (12, (0, 0, 1920, [])), (13, (0, 0, 1999, [])), (14, (2, 0, 0, [183])), (15, (0, 0, 80, [])), (16, (0, 1, 1, [])), (17, (0, 1, 80, []))], [(24, [0, 5], []), (24, [1, 6], []), (24, [2, 7], []), (100, [14, 6, 17], []), (1, [17, 15, 16], []), (10, [15, 14, 6], []), (9, [14, 5], [36]), (100, [10, 13, 7], []), (1, [13, 12, 8], []), (3, [12, 11, 6], []), (9, [10, 5], [37]), (7, [9, 8], [5]), (20, [5, 6, 7, 8, 9, 4], [60, 2, 5, 255, 31, 32, 33, 34, 35, 36, 37])], [], [], [(20, [0, 4, 2], [60, 2, 5, 248, 31, 32, 33, 34, 35, 36, 37])], [], [(17, 15, 1, 1), (13, 8, 0, 1920), (13, 12, 0, 79), (9, 8, -4294967296, 0), (1, 6, -4294967296, 0), (2, 7, -4294967296, 0), (6, 1, -4294967296, 0), (7, 2, -4294967296, 0)])
theorem oo_Mo_putAt_at_g1_2 {kA : Nat → ClassId} : or_ok PRD kA GG o_Mo_putAt_at_g1_2 := by
  refine or_mk fun A ta ws vs hD hth hl => ?_
  intro t0 r0 t1 k1 t2 k2 t4 k4 t6 k6 t7 k7 t8 k8 t9 k9 t10 r10 t11 k11 t12 k12 t13 k13 t14 r14 t15 k15 t16 k16 t17 k17 d0 d1 d2 d3 d4 d5 d6 d7 f0 f1 f2 ta1 w1 le1 s1 f4 f5 f6 ta2 w2 le2 s2 f8 f9 f10 f11 f12
  replace f0 := shm_5 f0
  replace f1 := shm_5 f1
  replace f2 := shm_5 f2
  have s1 : (∀ b j, w_el ws b j = if b = v_ad (n_v vs 14) ∧ j = (v_iv (n_v vs 6)).toNat then v_iv (n_v vs 17) else w_el w1 b j) ∧ ∀ b k, w_fd ws b k = w_fd w1 b k := s1.2
  replace f5 := shm_106 f5
  replace f6 := shm_671 f6
  have s2 : (∀ b j, w_el w1 b j = if b = v_ad (n_v vs 10) ∧ j = (v_iv (n_v vs 13)).toNat then v_iv (n_v vs 7) else w_el w2 b j) ∧ ∀ b k, w_fd w1 b k = w_fd w2 b k := s2.2
  replace f9 := shm_38 f9
  rw [show v_iv (n_v vs 11) = 80 from by omega] at f9
  replace f10 := shm_674 f10
  replace f12 := shm_673 f12
  have q5 : n_v vs 5 = n_v vs 0 := f0.symm
  have q6 : n_v vs 6 = n_v vs 1 := f1.symm
  have q7 : n_v vs 7 = n_v vs 2 := f2.symm
  rw [q6] at s1
  simp only [q6, q5] at f5 f6
  rw [q7] at s2
  simp only [q6, q5, q7] at f9 f10 f12
  have ar_0_33_1 : w_ar w1 (n_v vs 0) 33 = w_ar ws (n_v vs 0) 33 := congrArg v_ad (s1.2 _ _).symm
  have ar_0_33_2 : w_ar w2 (n_v vs 0) 33 = w_ar ws (n_v vs 0) 33 := by rw [← ar_0_33_1]; show v_ad (w_fd w2 _ _) = v_ad (w_fd w1 _ _); rw [s2.2]
  have cr_0_33 := fdq_116 hD hth r0
  have ar_0_34_1 : w_ar w1 (n_v vs 0) 34 = w_ar ws (n_v vs 0) 34 := congrArg v_ad (s1.2 _ _).symm
  have ar_0_34_2 : w_ar w2 (n_v vs 0) 34 = w_ar ws (n_v vs 0) 34 := by rw [← ar_0_34_1]; show v_ad (w_fd w2 _ _) = v_ad (w_fd w1 _ _); rw [s2.2]
  have cr_0_34 := fdq_117 hD hth r0
  have ar_0_35_1 : w_ar w1 (n_v vs 0) 35 = w_ar ws (n_v vs 0) 35 := congrArg v_ad (s1.2 _ _).symm
  have ar_0_35_2 : w_ar w2 (n_v vs 0) 35 = w_ar ws (n_v vs 0) 35 := by rw [← ar_0_35_1]; show v_ad (w_fd w2 _ _) = v_ad (w_fd w1 _ _); rw [s2.2]
  have cr_0_35 := fdq_131 hD hth r0
  have ar_0_36_1 : w_ar w1 (n_v vs 0) 36 = w_ar ws (n_v vs 0) 36 := congrArg v_ad (s1.2 _ _).symm
  have ar_0_36_2 : w_ar w2 (n_v vs 0) 36 = w_ar ws (n_v vs 0) 36 := by rw [← ar_0_36_1]; show v_ad (w_fd w2 _ _) = v_ad (w_fd w1 _ _); rw [s2.2]
  have cr_0_36 := fdq_166 hD hth r0
  have ar_0_37_1 : w_ar w1 (n_v vs 0) 37 = w_ar ws (n_v vs 0) 37 := congrArg v_ad (s1.2 _ _).symm
  have ar_0_37_2 : w_ar w2 (n_v vs 0) 37 = w_ar ws (n_v vs 0) 37 := by rw [← ar_0_37_1]; show v_ad (w_fd w2 _ _) = v_ad (w_fd w1 _ _); rw [s2.2]
  have cr_0_37 := fdq_167 hD hth r0
  have ad_14 : v_ad (n_v vs 14) = w_ar ws (n_v vs 0) 36 := (congrArg v_ad f6).trans ar_0_36_1
  have ad_10 : v_ad (n_v vs 10) = w_ar ws (n_v vs 0) 37 := (congrArg v_ad f10).trans ar_0_37_2
  simp only [ad_14] at f5
  have h5 : v_iv (n_v vs 15) = w_ei w1 (w_ar ws (n_v vs 0) 36) (v_iv (n_v vs 1)) := f5
  simp only [ar_0_33_2, ar_0_34_2, ar_0_35_2, ar_0_36_2, ar_0_37_2] at f12
  have fe_0_31_1 : w_fi ws (n_v vs 0) 31 = w_fi w1 (n_v vs 0) 31 := congrArg v_iv (s1.2 _ _)
  have fe_0_32_1 : w_fi ws (n_v vs 0) 32 = w_fi w1 (n_v vs 0) 32 := congrArg v_iv (s1.2 _ _)
  have fe_0_31_2 : w_fi w1 (n_v vs 0) 31 = w_fi w2 (n_v vs 0) 31 := congrArg v_iv (s2.2 _ _)
  have fe_0_32_2 : w_fi w1 (n_v vs 0) 32 = w_fi w2 (n_v vs 0) 32 := congrArg v_iv (s2.2 _ _)
  have hE_0_33_1 : ∀ j : Int, w_ei ws (w_ar ws (n_v vs 0) 33) j = w_ei w1 (w_ar ws (n_v vs 0) 33) j := el_kp s1.1 r14 cr_0_33 (by decide)
  have hE_0_33_2 : ∀ j : Int, w_ei w1 (w_ar ws (n_v vs 0) 33) j = w_ei w2 (w_ar ws (n_v vs 0) 33) j := el_kp s2.1 r10 cr_0_33 (by decide)
  have hK_0_33 := elq_57 hD hth cr_0_33
  have hE_0_34_1 : ∀ j : Int, w_ei ws (w_ar ws (n_v vs 0) 34) j = w_ei w1 (w_ar ws (n_v vs 0) 34) j := el_kp s1.1 r14 cr_0_34 (by decide)
  have hE_0_34_2 : ∀ j : Int, w_ei w1 (w_ar ws (n_v vs 0) 34) j = w_ei w2 (w_ar ws (n_v vs 0) 34) j := el_kp s2.1 r10 cr_0_34 (by decide)
  have hK_0_34 := elq_58 hD hth cr_0_34
  have hE_0_35_1 : ∀ j : Int, w_ei ws (w_ar ws (n_v vs 0) 35) j = w_ei w1 (w_ar ws (n_v vs 0) 35) j := el_kp s1.1 r14 cr_0_35 (by decide)
  have hE_0_35_2 : ∀ j : Int, w_ei w1 (w_ar ws (n_v vs 0) 35) j = w_ei w2 (w_ar ws (n_v vs 0) 35) j := el_kp s2.1 r10 cr_0_35 (by decide)
  have hK_0_35 := elq_69 hD hth cr_0_35
  have hE_0_36_1 : ∀ j : Int, 0 ≤ j → (j = v_iv (n_v vs 1) → w_ei ws (w_ar ws (n_v vs 0) 36) j = v_iv (n_v vs 17)) ∧ (j ≠ v_iv (n_v vs 1) → w_ei ws (w_ar ws (n_v vs 0) 36) j = w_ei w1 (w_ar ws (n_v vs 0) 36) j) := fun j hj => ⟨fun h => by unfold w_ei; rw [s1.1, if_pos ⟨ad_14.symm, by rw [h]⟩], fun h => by unfold w_ei; rw [s1.1, if_neg (fun e => h (by have := e.2; omega))]⟩
  have hE_0_36_2 : ∀ j : Int, w_ei w1 (w_ar ws (n_v vs 0) 36) j = w_ei w2 (w_ar ws (n_v vs 0) 36) j := el_kp s2.1 r10 cr_0_36 (by decide)
  have hK_0_36 := elq_94 hD hth cr_0_36
  have hE_0_37_1 : ∀ j : Int, w_ei ws (w_ar ws (n_v vs 0) 37) j = w_ei w1 (w_ar ws (n_v vs 0) 37) j := el_kp s1.1 r14 cr_0_37 (by decide)
  have hE_0_37_2 : ∀ j : Int, 0 ≤ j → (j = v_iv (n_v vs 13) → w_ei w1 (w_ar ws (n_v vs 0) 37) j = v_iv (n_v vs 2)) ∧ (j ≠ v_iv (n_v vs 13) → w_ei w1 (w_ar ws (n_v vs 0) 37) j = w_ei w2 (w_ar ws (n_v vs 0) 37) j) := fun j hj => ⟨fun h => by unfold w_ei; rw [s2.1, if_pos ⟨ad_10.symm, by rw [h]⟩], fun h => by unfold w_ei; rw [s2.1, if_neg (fun e => h (by have := e.2; omega))]⟩
  have hK_0_37 := elq_95 hD hth cr_0_37
  have kz_0_31 := fdq_144 hD hth r0
  have kz_0_32 := fdq_139 hD hth r0
  have nf0 : fc_1 PRD (20, [0, 4, 2], [60, 2, 5, 248, 31, 32, 33, 34, 35, 36, 37]) ws (vs) := ⟨nf_in hl rfl, sgq_675 (vc_Mo_putAt_at_g1_2_0 (v_iv (n_v vs 1)) (v_iv (n_v vs 2)) (v_iv (n_v vs 4)) (v_iv (n_v vs 6)) (v_iv (n_v vs 7)) (v_iv (n_v vs 8)) (v_iv (n_v vs 9)) (v_iv (n_v vs 11)) (v_iv (n_v vs 12)) (v_iv (n_v vs 13)) (v_iv (n_v vs 15)) (v_iv (n_v vs 16)) (v_iv (n_v vs 17)) (w_ei w1 (w_ar ws (n_v vs 0) 36)) (w_ei w2 (w_ar ws (n_v vs 0) 33)) (w_ei w2 (w_ar ws (n_v vs 0) 34)) (w_ei w2 (w_ar ws (n_v vs 0) 35)) (w_ei w2 (w_ar ws (n_v vs 0) 36)) (w_ei w2 (w_ar ws (n_v vs 0) 37)) (w_fi w2 (n_v vs 0) 31) (w_fi w2 (n_v vs 0) 32) (w_fi ws (n_v vs 0) 31) (w_fi w1 (n_v vs 0) 31) (w_fi ws (n_v vs 0) 32) (w_fi w1 (n_v vs 0) 32) (w_ei ws (w_ar ws (n_v vs 0) 33)) (w_ei w1 (w_ar ws (n_v vs 0) 33)) (w_ei ws (w_ar ws (n_v vs 0) 34)) (w_ei w1 (w_ar ws (n_v vs 0) 34)) (w_ei ws (w_ar ws (n_v vs 0) 35)) (w_ei w1 (w_ar ws (n_v vs 0) 35)) (w_ei ws (w_ar ws (n_v vs 0) 36)) (w_ei ws (w_ar ws (n_v vs 0) 37)) (w_ei w1 (w_ar ws (n_v vs 0) 37)) k1 k2 k4 k6 k7 k8 k9 k11 k12 k13 k15 k16 k17 d0 d1 d2 d3 d4 d5 d6 d7 (shm_12 f4) h5 (shm_12 f8) f9 (shm_24 f11) f12 fe_0_31_1 fe_0_32_1 fe_0_31_2 fe_0_32_2 hE_0_33_1 hE_0_33_2 hK_0_33 hE_0_34_1 hE_0_34_2 hK_0_34 hE_0_35_1 hE_0_35_2 hK_0_35 hE_0_36_1 hE_0_36_2 hK_0_36 hE_0_37_1 hE_0_37_2 hK_0_37 kz_0_31 kz_0_32)⟩
  refine ⟨(fun _ h => (by cases h)), [], trivial, ?_, (fun _ h => (by cases h))⟩
  rw [List.append_nil]
  exact List.forall_mem_cons.mpr ⟨⟨show (20 : Nat) < 100 from by decide, nf0⟩, (fun _ h => (by cases h))⟩
set_option maxHeartbeats 4000000 in
theorem vc_Mo_putAt_at_g1_3_0 (x1 : Int) (x2 : Int) (x4 : Int) (x6 : Int) (x7 : Int) (x8 : Int) (x9 : Int) (x11 : Int) (x12 : Int) (x13 : Int) (x14 : Int) (x15 : Int) (x16 : Int) (x17 : Int) (x18 : Int) (x19 : Int) (x20 : Int) (rot_1 : Int → Int) (pt_1 : Int → Int) (ph_1 : Int → Int) (alive_1 : Int → Int) (rotMany_1 : Int → Int) (pn_1 : Int) (pm_1 : Int) (pn_0 : Int) (pm_0 : Int) (pt_0 : Int → Int) (ph_0 : Int → Int) (alive_0 : Int → Int) (rotMany_0 : Int → Int) (rot_0 : Int → Int) (k1 : 0 ≤ x1 ∧ x1 ≤ 24) (k2 : 0 ≤ x2 ∧ x2 ≤ 79) (k4 : 0 ≤ x4 ∧ x4 ≤ 24) (k6 : 0 ≤ x6 ∧ x6 ≤ 24) (k7 : 0 ≤ x7 ∧ x7 ≤ 79) (k8 : 0 ≤ x8 ∧ x8 ≤ 79) (k9 : 1 ≤ x9 ∧ x9 ≤ 80) (k11 : 80 ≤ x11 ∧ x11 ≤ 80) (k12 : 0 ≤ x12 ∧ x12 ≤ 1920) (k13 : 1 ≤ x13 ∧ x13 ≤ 2000) (k14 : 80 ≤ x14 ∧ x14 ≤ 80) (k15 : 0 ≤ x15 ∧ x15 ≤ 1920) (k16 : 1 ≤ x16 ∧ x16 ≤ 2000) (k17 : 1 ≤ x17 ∧ x17 ≤ 1) (k18 : 0 ≤ x18 ∧ x18 ≤ 1999) (k19 : 0 ≤ x19 ∧ x19 ≤ 79) (k20 : 0 ≤ x20 ∧ x20 ≤ 79) (d0 : x9 + (-1) ≤ x20 ∧ x20 ≤ x9 + (-1)) (d1 : x8 + 0 ≤ x20 ∧ x20 ≤ x8 + 4294967296) (d2 : x16 + (-1) ≤ x18 ∧ x18 ≤ x16 + (-1)) (d3 : x9 + (-1) ≤ x18 ∧ x18 ≤ x9 + 1919) (d4 : x8 + 0 ≤ x18 ∧ x18 ≤ x8 + 4294967296) (d5 : x15 + 0 ≤ x18 ∧ x18 ≤ x15 + 79) (d6 : x9 + 0 ≤ x16 ∧ x16 ≤ x9 + 1920) (d7 : x8 + 1 ≤ x16 ∧ x16 ≤ x8 + 4294967296) (d8 : x15 + 1 ≤ x16 ∧ x16 ≤ x15 + 80) (d9 : x9 + 0 ≤ x13 ∧ x13 ≤ x9 + 1920) (d10 : x8 + 1 ≤ x13 ∧ x13 ≤ x8 + 4294967296) (d11 : x12 + 1 ≤ x13 ∧ x13 ≤ x12 + 80) (d12 : x8 + 1 ≤ x9 ∧ x9 ≤ x8 + 4294967296) (d13 : x6 + (-4294967296) ≤ x1 ∧ x1 ≤ x6 + 0) (d14 : x7 + (-4294967296) ≤ x2 ∧ x2 ≤ x7 + 0) (d15 : x1 + (-4294967296) ≤ x6 ∧ x6 ≤ x1 + 0) (d16 : x2 + (-4294967296) ≤ x7 ∧ x7 ≤ x2 + 0) (f0 : x20 = x9 + (-1)) (h5 : x19 = rot_1 (x18)) (f6 : x18 = x16 - x17) (f7 : x16 = x15 + x9) (f8 : x15 = 80 * x1) (f10 : x13 = x12 + x9) (f11 : x12 = 80 * x1) (f12 : x8 < x9) (f13 : PLa (pn_1) (pm_1) (pt_1) (ph_1) (alive_1) (rotMany_1) (rot_1) (x1) (x2) (x8) (x9) (x4)) (fe_0_31_1 : pn_0 = pn_1) (fe_0_32_1 : pm_0 = pm_1) (hE_0_33_1 : ∀ j : Int, pt_0 j = pt_1 j) (hK_0_33 : ∀ j : Int, 0 ≤ j → j < 80 → 0 ≤ pt_0 j ∧ pt_0 j ≤ 24) (hE_0_34_1 : ∀ j : Int, ph_0 j = ph_1 j) (hK_0_34 : ∀ j : Int, 0 ≤ j → j < 80 → 0 ≤ ph_0 j ∧ ph_0 j ≤ 24) (hE_0_35_1 : ∀ j : Int, alive_0 j = alive_1 j) (hK_0_35 : ∀ j : Int, 0 ≤ j → j < 80 → 0 ≤ alive_0 j ∧ alive_0 j ≤ 1) (hE_0_36_1 : ∀ j : Int, rotMany_0 j = rotMany_1 j) (hK_0_36 : ∀ j : Int, 0 ≤ j → j < 26 → 0 ≤ rotMany_0 j ∧ rotMany_0 j ≤ 80) (hE_0_37_1 : ∀ j : Int, 0 ≤ j → (j = x13 → rot_0 j = x19) ∧ (j ≠ x13 → rot_0 j = rot_1 j)) (hK_0_37 : ∀ j : Int, 0 ≤ j → j < 2080 → 0 ≤ rot_0 j ∧ rot_0 j ≤ 79) (kz_0_31 : 0 ≤ pn_0 ∧ pn_0 ≤ 25) (kz_0_32 : 0 ≤ pm_0 ∧ pm_0 ≤ 80) : PLa (pn_0) (pm_0) (pt_0) (ph_0) (alive_0) (rotMany_0) (rot_0) (x1) (x2) (x8) (x20) (x4) := by
  subst fe_0_31_1
  subst fe_0_32_1
  have e_hE_0_33_1 := funext hE_0_33_1; subst e_hE_0_33_1
  have e_hE_0_34_1 := funext hE_0_34_1; subst e_hE_0_34_1
  have e_hE_0_35_1 := funext hE_0_35_1; subst e_hE_0_35_1
  have e_hE_0_36_1 := funext hE_0_36_1; subst e_hE_0_36_1
  first
    | exact pal_start ‹PAa _ _ _ _ _ _ _ _ _ _ _› (by omega)
    | exact pal_step ‹PLa _ _ _ _ _ _ _ _ _ _ _ _› (by omega) (by omega) (by assumption) (by omega) (by assumption) (by omega)
def o_Mo_putAt_at_g1_3 : or_T := (8, 21, [(0, (2, 0, 0, [165])), (1, (0, 0, 24, [])), (2, (0, 0, 79, [])), (4, (0, 0, 24, [])), (6, (0, 0, 24, [])), (7, (0, 0, 79, [])), (8, (0, 0, 79, [])), (9, (0, 1, 80, [])), (10, (2, 0, 0, [184])), (11, (0, 80, 80, [])), (12, (0, 0, 1920, [])), (13, (0, 1, 2000, [])), (14, (0, 80, 80, [])), (15, (0, 0, 1920, [])), (16, (0, 1, 2000, [])), (17, (0, 1, 1, [])), (18, (0, 0, 1999, [])), (19, (0, 0, 79, [])), (20, (0, 0, 79, []))], [(6, [20, 9], [-1]), (24, [0, 5], []), (24, [1, 6], []), (24, [2, 7], []), (100, [10, 13, 19], []), (10, [19, 10, 18], []), (2, [18, 16, 17], []), (1, [16, 15, 9], []), (3, [15, 14, 6], []), (9, [10, 5], [37]), (1, [13, 12, 9], []), (3, [12, 11, 6], []), (7, [9, 8], [4]), (20, [5, 6, 7, 8, 9, 4], [60, 2, 5, 255, 31, 32, 33, 34, 35, 36, 37])], [], [], [(20, [5, 6, 7, 8, 20, 4], [60, 2, 5, 255, 31, 32, 33, 34, 35, 36, 37])], [], [(20, 9, -1, -1), (20, 8, 0, 4294967296), (18, 16, -1, -1), (18, 9, -1, 1919), (18, 8, 0, 4294967296), (18, 15, 0, 79), (16, 9, 0, 1920), (16, 8, 1, 4294967296), (16, 15, 1, 80), (13, 9, 0, 1920), (13, 8, 1, 4294967296), (13, 12, 1, 80), (9, 8, 1, 4294967296), (1, 6, -4294967296, 0), (2, 7, -4294967296, 0), (6, 1, -4294967296, 0), (7, 2, -4294967296, 0)])
theorem oo_Mo_putAt_at_g1_3 {kA : Nat → ClassId} : or_ok PRD kA GG o_Mo_putAt_at_g1_3 := by
  refine or_mk fun A ta ws vs hD hth hl => ?_
  intro t0 r0 t1 k1 t2 k2 t4 k4 t6 k6 t7 k7 t8 k8 t9 k9 t10 r10 t11 k11 t12 k12 t13 k13 t14 k14 t15 k15 t16 k16 t17 k17 t18 k18 t19 k19 t20 k20 d0 d1 d2 d3 d4 d5 d6 d7 d8 d9 d10 d11 d12 d13 d14 d15 d16 f0 f1 f2 f3 ta1 w1 le1 s1 f5 f6 f7 f8 f9 f10 f11 f12 f13
  replace f0 := shm_198 f0
  replace f1 := shm_5 f1
  replace f2 := shm_5 f2
  replace f3 := shm_5 f3
  have s1 : (∀ b j, w_el ws b j = if b = v_ad (n_v vs 10) ∧ j = (v_iv (n_v vs 13)).toNat then v_iv (n_v vs 19) else w_el w1 b j) ∧ ∀ b k, w_fd ws b k = w_fd w1 b k := s1.2
  replace f5 := shm_106 f5
  replace f6 := shm_14 f6
  replace f7 := shm_12 f7
  replace f8 := shm_38 f8
  rw [show v_iv (n_v vs 14) = 80 from by omega] at f8
  replace f9 := shm_674 f9
  replace f10 := shm_12 f10
  replace f11 := shm_38 f11
  rw [show v_iv (n_v vs 11) = 80 from by omega] at f11
  replace f12 := shm_21 f12
  replace f13 := shm_673 f13
  have q5 : n_v vs 5 = n_v vs 0 := f1.symm
  have q6 : n_v vs 6 = n_v vs 1 := f2.symm
  have q7 : n_v vs 7 = n_v vs 2 := f3.symm
  simp only [q6, q5, q7] at f8 f9 f11 f13
  have ar_0_33_1 : w_ar w1 (n_v vs 0) 33 = w_ar ws (n_v vs 0) 33 := congrArg v_ad (s1.2 _ _).symm
  have cr_0_33 := fdq_116 hD hth r0
  have ar_0_34_1 : w_ar w1 (n_v vs 0) 34 = w_ar ws (n_v vs 0) 34 := congrArg v_ad (s1.2 _ _).symm
  have cr_0_34 := fdq_117 hD hth r0
  have ar_0_35_1 : w_ar w1 (n_v vs 0) 35 = w_ar ws (n_v vs 0) 35 := congrArg v_ad (s1.2 _ _).symm
  have cr_0_35 := fdq_131 hD hth r0
  have ar_0_36_1 : w_ar w1 (n_v vs 0) 36 = w_ar ws (n_v vs 0) 36 := congrArg v_ad (s1.2 _ _).symm
  have cr_0_36 := fdq_166 hD hth r0
  have ar_0_37_1 : w_ar w1 (n_v vs 0) 37 = w_ar ws (n_v vs 0) 37 := congrArg v_ad (s1.2 _ _).symm
  have cr_0_37 := fdq_167 hD hth r0
  have ad_10 : v_ad (n_v vs 10) = w_ar ws (n_v vs 0) 37 := (congrArg v_ad f9).trans ar_0_37_1
  simp only [ad_10] at f5
  have h5 : v_iv (n_v vs 19) = w_ei w1 (w_ar ws (n_v vs 0) 37) (v_iv (n_v vs 18)) := f5
  simp only [ar_0_33_1, ar_0_34_1, ar_0_35_1, ar_0_36_1, ar_0_37_1] at f13
  have fe_0_31_1 : w_fi ws (n_v vs 0) 31 = w_fi w1 (n_v vs 0) 31 := congrArg v_iv (s1.2 _ _)
  have fe_0_32_1 : w_fi ws (n_v vs 0) 32 = w_fi w1 (n_v vs 0) 32 := congrArg v_iv (s1.2 _ _)
  have hE_0_33_1 : ∀ j : Int, w_ei ws (w_ar ws (n_v vs 0) 33) j = w_ei w1 (w_ar ws (n_v vs 0) 33) j := el_kp s1.1 r10 cr_0_33 (by decide)
  have hK_0_33 := elq_57 hD hth cr_0_33
  have hE_0_34_1 : ∀ j : Int, w_ei ws (w_ar ws (n_v vs 0) 34) j = w_ei w1 (w_ar ws (n_v vs 0) 34) j := el_kp s1.1 r10 cr_0_34 (by decide)
  have hK_0_34 := elq_58 hD hth cr_0_34
  have hE_0_35_1 : ∀ j : Int, w_ei ws (w_ar ws (n_v vs 0) 35) j = w_ei w1 (w_ar ws (n_v vs 0) 35) j := el_kp s1.1 r10 cr_0_35 (by decide)
  have hK_0_35 := elq_69 hD hth cr_0_35
  have hE_0_36_1 : ∀ j : Int, w_ei ws (w_ar ws (n_v vs 0) 36) j = w_ei w1 (w_ar ws (n_v vs 0) 36) j := el_kp s1.1 r10 cr_0_36 (by decide)
  have hK_0_36 := elq_94 hD hth cr_0_36
  have hE_0_37_1 : ∀ j : Int, 0 ≤ j → (j = v_iv (n_v vs 13) → w_ei ws (w_ar ws (n_v vs 0) 37) j = v_iv (n_v vs 19)) ∧ (j ≠ v_iv (n_v vs 13) → w_ei ws (w_ar ws (n_v vs 0) 37) j = w_ei w1 (w_ar ws (n_v vs 0) 37) j) := fun j hj => ⟨fun h => by unfold w_ei; rw [s1.1, if_pos ⟨ad_10.symm, by rw [h]⟩], fun h => by unfold w_ei; rw [s1.1, if_neg (fun e => h (by have := e.2; omega))]⟩
  have hK_0_37 := elq_95 hD hth cr_0_37
  have kz_0_31 := fdq_144 hD hth r0
  have kz_0_32 := fdq_139 hD hth r0
  have nf0 : fc_1 PRD (20, [5, 6, 7, 8, 20, 4], [60, 2, 5, 255, 31, 32, 33, 34, 35, 36, 37]) ws (vs) := by
    refine ⟨nf_in hl rfl, sgq_673 ?_⟩
    · show PLa (w_fi ws (n_v vs 5) 31) (w_fi ws (n_v vs 5) 32) (w_ei ws (w_ar ws (n_v vs 5) 33)) (w_ei ws (w_ar ws (n_v vs 5) 34)) (w_ei ws (w_ar ws (n_v vs 5) 35)) (w_ei ws (w_ar ws (n_v vs 5) 36)) (w_ei ws (w_ar ws (n_v vs 5) 37)) (v_iv (n_v vs 6)) (v_iv (n_v vs 7)) (v_iv (n_v vs 8)) (v_iv (n_v vs 20)) (v_iv (n_v vs 4))
      simp only [q5, q6, q7]
      exact vc_Mo_putAt_at_g1_3_0 (v_iv (n_v vs 1)) (v_iv (n_v vs 2)) (v_iv (n_v vs 4)) (v_iv (n_v vs 6)) (v_iv (n_v vs 7)) (v_iv (n_v vs 8)) (v_iv (n_v vs 9)) (v_iv (n_v vs 11)) (v_iv (n_v vs 12)) (v_iv (n_v vs 13)) (v_iv (n_v vs 14)) (v_iv (n_v vs 15)) (v_iv (n_v vs 16)) (v_iv (n_v vs 17)) (v_iv (n_v vs 18)) (v_iv (n_v vs 19)) (v_iv (n_v vs 20)) (w_ei w1 (w_ar ws (n_v vs 0) 37)) (w_ei w1 (w_ar ws (n_v vs 0) 33)) (w_ei w1 (w_ar ws (n_v vs 0) 34)) (w_ei w1 (w_ar ws (n_v vs 0) 35)) (w_ei w1 (w_ar ws (n_v vs 0) 36)) (w_fi w1 (n_v vs 0) 31) (w_fi w1 (n_v vs 0) 32) (w_fi ws (n_v vs 0) 31) (w_fi ws (n_v vs 0) 32) (w_ei ws (w_ar ws (n_v vs 0) 33)) (w_ei ws (w_ar ws (n_v vs 0) 34)) (w_ei ws (w_ar ws (n_v vs 0) 35)) (w_ei ws (w_ar ws (n_v vs 0) 36)) (w_ei ws (w_ar ws (n_v vs 0) 37)) k1 k2 k4 k6 k7 k8 k9 k11 k12 k13 k14 k15 k16 k17 k18 k19 k20 d0 d1 d2 d3 d4 d5 d6 d7 d8 d9 d10 d11 d12 d13 d14 d15 d16 f0 h5 f6 f7 f8 f10 f11 f12 f13 fe_0_31_1 fe_0_32_1 hE_0_33_1 hK_0_33 hE_0_34_1 hK_0_34 hE_0_35_1 hK_0_35 hE_0_36_1 hK_0_36 hE_0_37_1 hK_0_37 kz_0_31 kz_0_32
  refine ⟨(fun _ h => (by cases h)), [], trivial, ?_, (fun _ h => (by cases h))⟩
  rw [List.append_nil]
  exact List.forall_mem_cons.mpr ⟨⟨show (20 : Nat) < 100 from by decide, nf0⟩, (fun _ h => (by cases h))⟩
def n_Mo_putAt_at_g1_an : List an_T := [(8, [(0, (2, 0, 0, [165])), (1, (0, 0, 24, [])), (2, (0, 0, 79, [])), (3, (0, 0, 79, [])), (4, (0, 0, 80, []))], [], (0, 0), [(0, 0, 99992), (2, 9, 0), (0, 0, 100000)], [(1, 6, (Int.negSucc 999999999999), 0), (2, 7, (Int.negSucc 999999999999), 0), (3, 8, (Int.negSucc 999999999999), 0), (6, 1, (Int.negSucc 999999999999), 0), (7, 2, (Int.negSucc 999999999999), 0), (8, 3, (Int.negSucc 999999999999), 0)], [], [(2, 0, 0, [165]), (0, 0, 24, []), (0, 0, 79, []), (0, 0, 79, []), (0, 0, 24, [])], 0, [], [(20, [5, 6, 7, 8, 9, 4], [60, 2, 5, 255, 31, 32, 33, 34, 35, 36, 37]), (24, [0, 5], []), (24, [1, 6], []), (24, [2, 7], [])])]
def t_Mo_putAt_at_g1_ct : ct_L := []
set_option maxRecDepth 100000 in
theorem c_Mo_putAt_at_g1 {l : Launch} {D : va_G} {kA : Nat → ClassId} : ct_ok PRD l D kA GG y_Mo_putAt_at_g1 z_Mo_putAt_at_g1 e_Mo_putAt_at_g1 := chk_all_ok (FT := [(66, 13, 36), (69, 13, 37)]) (PT := []) (CT := t_Mo_putAt_at_g1_ct) (KT := []) (NT := []) (AN := n_Mo_putAt_at_g1_an) (OT := [o_Mo_putAt_at_g1_0, o_Mo_putAt_at_g1_1, o_Mo_putAt_at_g1_2, o_Mo_putAt_at_g1_3]) 3 200 (List.forall_mem_cons.mpr ⟨oo_Mo_putAt_at_g1_0, List.forall_mem_cons.mpr ⟨oo_Mo_putAt_at_g1_1, List.forall_mem_cons.mpr ⟨oo_Mo_putAt_at_g1_2, List.forall_mem_cons.mpr ⟨oo_Mo_putAt_at_g1_3, List.forall_mem_nil _⟩⟩⟩⟩) (by decide +kernel) ⟨List.forall_mem_cons.mpr ⟨gf_Mo_66, List.forall_mem_cons.mpr ⟨gf_Mo_69, List.forall_mem_nil _⟩⟩, List.forall_mem_nil _, List.forall_mem_nil _, List.forall_mem_nil _, List.forall_mem_nil _, GG_pl⟩ (by decide +kernel)

set_option maxHeartbeats 4000000 in
theorem vc_Mo_putAt_at_g2_0_0 (x1 : Int) (x2 : Int) (x3 : Int) (x4 : Int) (x6 : Int) (rotMany_0 : Int → Int) (pt_0 : Int → Int) (ph_0 : Int → Int) (alive_0 : Int → Int) (rot_0 : Int → Int) (pn_0 : Int) (pm_0 : Int) (k1 : 0 ≤ x1 ∧ x1 ≤ 24) (k2 : 0 ≤ x2 ∧ x2 ≤ 79) (k3 : 0 ≤ x3 ∧ x3 ≤ 79) (k4 : 0 ≤ x4 ∧ x4 ≤ 24) (k6 : 0 ≤ x6 ∧ x6 ≤ 80) (h0 : x6 = rotMany_0 (x1)) (f2 : PAb (pn_0) (pm_0) (pt_0) (ph_0) (alive_0) (rotMany_0) (rot_0) (x1) (x2) (x3) (x4)) (hK_0_33 : ∀ j : Int, 0 ≤ j → j < 80 → 0 ≤ pt_0 j ∧ pt_0 j ≤ 24) (hK_0_34 : ∀ j : Int, 0 ≤ j → j < 80 → 0 ≤ ph_0 j ∧ ph_0 j ≤ 24) (hK_0_35 : ∀ j : Int, 0 ≤ j → j < 80 → 0 ≤ alive_0 j ∧ alive_0 j ≤ 1) (hK_0_36 : ∀ j : Int, 0 ≤ j → j < 26 → 0 ≤ rotMany_0 j ∧ rotMany_0 j ≤ 80) (hK_0_37 : ∀ j : Int, 0 ≤ j → j < 2080 → 0 ≤ rot_0 j ∧ rot_0 j ≤ 79) (kz_0_31 : 0 ≤ pn_0 ∧ pn_0 ≤ 25) (kz_0_32 : 0 ≤ pm_0 ∧ pm_0 ≤ 80) : PLb (pn_0) (pm_0) (pt_0) (ph_0) (alive_0) (rotMany_0) (rot_0) (x1) (x2) (x3) (x6) (x4) := by
  first
    | exact pal_start ‹PAb _ _ _ _ _ _ _ _ _ _ _› (by omega)
    | exact pal_step ‹PLb _ _ _ _ _ _ _ _ _ _ _ _› (by omega) (by omega) (by assumption) (by omega) (by assumption) (by omega)
def o_Mo_putAt_at_g2_0 : or_T := (8, 7, [(0, (2, 0, 0, [165])), (1, (0, 0, 24, [])), (2, (0, 0, 79, [])), (3, (0, 0, 79, [])), (4, (0, 0, 24, [])), (6, (0, 0, 80, []))], [(10, [6, 5, 1], []), (9, [5, 0], [36]), (20, [0, 1, 2, 3, 4], [60, 2, 5, 252, 31, 32, 33, 34, 35, 36, 37])], [], [], [(20, [0, 1, 2, 3, 6, 4], [60, 2, 5, 256, 31, 32, 33, 34, 35, 36, 37]), (24, [0, 0], []), (24, [1, 1], []), (24, [2, 2], [])], [], [])
theorem oo_Mo_putAt_at_g2_0 {kA : Nat → ClassId} : or_ok PRD kA GG o_Mo_putAt_at_g2_0 := by
  refine or_mk fun A ta ws vs hD hth hl => ?_
  intro t0 r0 t1 k1 t2 k2 t3 k3 t4 k4 t6 k6 f0 f1 f2
  replace f0 := shm_106 f0
  replace f1 := shm_671 f1
  have cr_0_33 := fdq_116 hD hth r0
  have cr_0_34 := fdq_117 hD hth r0
  have cr_0_35 := fdq_131 hD hth r0
  have cr_0_36 := fdq_166 hD hth r0
  have cr_0_37 := fdq_167 hD hth r0
  have ad_5 : v_ad (n_v vs 5) = w_ar ws (n_v vs 0) 36 := congrArg v_ad f1
  simp only [ad_5] at f0
  have h0 : v_iv (n_v vs 6) = w_ei ws (w_ar ws (n_v vs 0) 36) (v_iv (n_v vs 1)) := f0
  have hK_0_33 := elq_57 hD hth cr_0_33
  have hK_0_34 := elq_58 hD hth cr_0_34
  have hK_0_35 := elq_69 hD hth cr_0_35
  have hK_0_36 := elq_94 hD hth cr_0_36
  have hK_0_37 := elq_95 hD hth cr_0_37
  have kz_0_31 := fdq_144 hD hth r0
  have kz_0_32 := fdq_139 hD hth r0
  have nf0 : fc_1 PRD (20, [0, 1, 2, 3, 6, 4], [60, 2, 5, 256, 31, 32, 33, 34, 35, 36, 37]) ws (vs) := ⟨nf_in hl rfl, sgq_677 (vc_Mo_putAt_at_g2_0_0 (v_iv (n_v vs 1)) (v_iv (n_v vs 2)) (v_iv (n_v vs 3)) (v_iv (n_v vs 4)) (v_iv (n_v vs 6)) (w_ei ws (w_ar ws (n_v vs 0) 36)) (w_ei ws (w_ar ws (n_v vs 0) 33)) (w_ei ws (w_ar ws (n_v vs 0) 34)) (w_ei ws (w_ar ws (n_v vs 0) 35)) (w_ei ws (w_ar ws (n_v vs 0) 37)) (w_fi ws (n_v vs 0) 31) (w_fi ws (n_v vs 0) 32) k1 k2 k3 k4 k6 h0 (shm_676 f2) hK_0_33 hK_0_34 hK_0_35 hK_0_36 hK_0_37 kz_0_31 kz_0_32)⟩
  have nf1 : fc_1 PRD (24, [0, 0], []) ws (vs) := by
    refine ⟨nf_in hl rfl, sgq_1 ?_⟩
    · show n_v vs 0 = n_v vs 0
      first | rfl | simp only [true_and]
  have nf2 : fc_1 PRD (24, [1, 1], []) ws (vs) := by
    refine ⟨nf_in hl rfl, sgq_1 ?_⟩
    · show n_v vs 1 = n_v vs 1
      first | rfl | simp only [true_and]
  have nf3 : fc_1 PRD (24, [2, 2], []) ws (vs) := by
    refine ⟨nf_in hl rfl, sgq_1 ?_⟩
    · show n_v vs 2 = n_v vs 2
      first | rfl | simp only [true_and]
  refine ⟨(fun _ h => (by cases h)), [], trivial, ?_, (fun _ h => (by cases h))⟩
  rw [List.append_nil]
  exact List.forall_mem_cons.mpr ⟨⟨show (20 : Nat) < 100 from by decide, nf0⟩, List.forall_mem_cons.mpr ⟨⟨show (24 : Nat) < 100 from by decide, nf1⟩, List.forall_mem_cons.mpr ⟨⟨show (24 : Nat) < 100 from by decide, nf2⟩, List.forall_mem_cons.mpr ⟨⟨show (24 : Nat) < 100 from by decide, nf3⟩, (fun _ h => (by cases h))⟩⟩⟩⟩
set_option maxHeartbeats 4000000 in
theorem vc_Mo_putAt_at_g2_1_r0 (x1 : Int) (x2 : Int) (x4 : Int) (x6 : Int) (x7 : Int) (x8 : Int) (x9 : Int) (x11 : Int) (x12 : Int) (x13 : Int) (x15 : Int) (x16 : Int) (x17 : Int) (rotMany_0 : Int → Int) (pt_1 : Int → Int) (ph_1 : Int → Int) (alive_1 : Int → Int) (rotMany_1 : Int → Int) (rot_1 : Int → Int) (pn_1 : Int) (pm_1 : Int) (pn_0 : Int) (pm_0 : Int) (pt_0 : Int → Int) (ph_0 : Int → Int) (alive_0 : Int → Int) (rot_0 : Int → Int) (k1 : 0 ≤ x1 ∧ x1 ≤ 24) (k2 : 0 ≤ x2 ∧ x2 ≤ 79) (k4 : 0 ≤ x4 ∧ x4 ≤ 24) (k6 : 0 ≤ x6 ∧ x6 ≤ 24) (k7 : 0 ≤ x7 ∧ x7 ≤ 79) (k8 : 0 ≤ x8 ∧ x8 ≤ 79) (k9 : 0 ≤ x9 ∧ x9 ≤ 79) (k11 : 80 ≤ x11 ∧ x11 ≤ 80) (k12 : 0 ≤ x12 ∧ x12 ≤ 1920) (k13 : 0 ≤ x13 ∧ x13 ≤ 1999) (k15 : 0 ≤ x15 ∧ x15 ≤ 80) (k16 : 1 ≤ x16 ∧ x16 ≤ 1) (k17 : 1 ≤ x17 ∧ x17 ≤ 81) (d0 : x15 + 1 ≤ x17 ∧ x17 ≤ x15 + 1) (d1 : x8 + 0 ≤ x13 ∧ x13 ≤ x8 + 1920) (d2 : x12 + 0 ≤ x13 ∧ x13 ≤ x12 + 79) (d3 : x8 + (-4294967296) ≤ x9 ∧ x9 ≤ x8 + 0) (d4 : x6 + (-4294967296) ≤ x1 ∧ x1 ≤ x6 + 0) (d5 : x7 + (-4294967296) ≤ x2 ∧ x2 ≤ x7 + 0) (d6 : x1 + (-4294967296) ≤ x6 ∧ x6 ≤ x1 + 0) (d7 : x2 + (-4294967296) ≤ x7 ∧ x7 ≤ x2 + 0) (f0 : x17 = x15 + x16) (h1 : x15 = rotMany_0 (x1)) (f7 : x13 = x12 + x8) (f8 : x12 = 80 * x1) (f10 : x9 ≤ x8) (f11 : PLb (pn_1) (pm_1) (pt_1) (ph_1) (alive_1) (rotMany_1) (rot_1) (x1) (x2) (x8) (x9) (x4)) (fe_0_31_1 : pn_0 = pn_1) (fe_0_32_1 : pm_0 = pm_1) (hE_0_33_1 : ∀ j : Int, pt_0 j = pt_1 j) (hK_0_33 : ∀ j : Int, 0 ≤ j → j < 80 → 0 ≤ pt_0 j ∧ pt_0 j ≤ 24) (hE_0_34_1 : ∀ j : Int, ph_0 j = ph_1 j) (hK_0_34 : ∀ j : Int, 0 ≤ j → j < 80 → 0 ≤ ph_0 j ∧ ph_0 j ≤ 24) (hE_0_35_1 : ∀ j : Int, alive_0 j = alive_1 j) (hK_0_35 : ∀ j : Int, 0 ≤ j → j < 80 → 0 ≤ alive_0 j ∧ alive_0 j ≤ 1) (hE_0_36_1 : ∀ j : Int, rotMany_0 j = rotMany_1 j) (hK_0_36 : ∀ j : Int, 0 ≤ j → j < 26 → 0 ≤ rotMany_0 j ∧ rotMany_0 j ≤ 80) (hE_0_37_1 : ∀ j : Int, 0 ≤ j → (j = x13 → rot_0 j = x2) ∧ (j ≠ x13 → rot_0 j = rot_1 j)) (hK_0_37 : ∀ j : Int, 0 ≤ j → j < 2080 → 0 ≤ rot_0 j ∧ rot_0 j ≤ 79) (kz_0_31 : 0 ≤ pn_0 ∧ pn_0 ≤ 25) (kz_0_32 : 0 ≤ pm_0 ∧ pm_0 ≤ 80) : 1 ≤ x17 ∧ x17 ≤ 80 := by
  subst fe_0_31_1
  subst fe_0_32_1
  have e_hE_0_33_1 := funext hE_0_33_1; subst e_hE_0_33_1
  have e_hE_0_34_1 := funext hE_0_34_1; subst e_hE_0_34_1
  have e_hE_0_35_1 := funext hE_0_35_1; subst e_hE_0_35_1
  have e_hE_0_36_1 := funext hE_0_36_1; subst e_hE_0_36_1
  first
    | omega
    | (have h := pax_len ‹PAa _ _ _ _ _ _ _ _ _ _ _›; omega)
    | (have h := pax_len ‹PAb _ _ _ _ _ _ _ _ _ _ _›; omega)
    | (have h := pax_len ‹PAc _ _ _ _ _ _ _ _ _ _ _ _ _ _›; omega)
    | (have h := pax_len ‹PAd _ _ _ _ _ _ _ _ _ _ _ _ _ _›; omega)
    | (have h := pal_len ‹PLa _ _ _ _ _ _ _ _ _ _ _ _›; omega)
    | (have h := pal_len ‹PLb _ _ _ _ _ _ _ _ _ _ _ _›; omega)
    | (have h := pal_len ‹PLc _ _ _ _ _ _ _ _ _ _ _ _ _ _ _›; omega)
    | (have h := pal_len ‹PLd _ _ _ _ _ _ _ _ _ _ _ _ _ _ _›; omega)
def o_Mo_putAt_at_g2_1 : or_T := (67, 18, [(0, (2, 0, 0, [165])), (1, (0, 0, 24, [])), (2, (0, 0, 79, [])), (4, (0, 0, 24, [])), (5, (2, 0, 0, [165])), (6, (0, 0, 24, [])), (7, (0, 0, 79, [])), (8, (0, 0, 79, [])), (9, (0, 0, 79, [])), (10, (2, 0, 0, [184])), (11, (0, 80, 80, [])), (12, (0, 0, 1920, [])), (13, (0, 0, 1999, [])), (14, (2, 0, 0, [183])), (15, (0, 0, 80, [])), (16, (0, 1, 1, [])), (17, (0, 1, 81, []))], [(1, [17, 15, 16], []), (10, [15, 14, 6], []), (9, [14, 5], [36]), (24, [0, 5], []), (24, [1, 6], []), (24, [2, 7], []), (100, [10, 13, 7], []), (1, [13, 12, 8], []), (3, [12, 11, 6], []), (9, [10, 5], [37]), (7, [9, 8], [5]), (20, [5, 6, 7, 8, 9, 4], [60, 2, 5, 256, 31, 32, 33, 34, 35, 36, 37])], [(17, (0, 1, 80, []))], [], [], [], [(17, 15, 1, 1), (13, 8, 0, 1920), (13, 12, 0, 79), (9, 8, -4294967296, 0), (1, 6, -4294967296, 0), (2, 7, -4294967296, 0), (6, 1, -4294967296, 0), (7, 2, -4294967296, 0)])
theorem oo_Mo_putAt_at_g2_1 {kA : Nat → ClassId} : or_ok PRD kA GG o_Mo_putAt_at_g2_1 := by
  refine or_mk fun A ta ws vs hD hth hl => ?_
  intro t0 r0 t1 k1 t2 k2 t4 k4 t5 r5 t6 k6 t7 k7 t8 k8 t9 k9 t10 r10 t11 k11 t12 k12 t13 k13 t14 r14 t15 k15 t16 k16 t17 k17 d0 d1 d2 d3 d4 d5 d6 d7 f0 f1 f2 f3 f4 f5 ta1 w1 le1 s1 f7 f8 f9 f10 f11
  replace f1 := shm_106 f1
  replace f2 := shm_671 f2
  replace f3 := shm_5 f3
  replace f4 := shm_5 f4
  replace f5 := shm_5 f5
  have s1 : (∀ b j, w_el ws b j = if b = v_ad (n_v vs 10) ∧ j = (v_iv (n_v vs 13)).toNat then v_iv (n_v vs 7) else w_el w1 b j) ∧ ∀ b k, w_fd ws b k = w_fd w1 b k := s1.2
  replace f8 := shm_38 f8
  rw [show v_iv (n_v vs 11) = 80 from by omega] at f8
  replace f9 := shm_674 f9
  replace f11 := shm_677 f11
  have q5 : n_v vs 5 = n_v vs 0 := f3.symm
  have q6 : n_v vs 6 = n_v vs 1 := f4.symm
  have q7 : n_v vs 7 = n_v vs 2 := f5.symm
  simp only [q6, q5] at f1 f2
  rw [q7] at s1
  simp only [q6, q5, q7] at f8 f9 f11
  have ar_0_33_1 : w_ar w1 (n_v vs 0) 33 = w_ar ws (n_v vs 0) 33 := congrArg v_ad (s1.2 _ _).symm
  have cr_0_33 := fdq_116 hD hth r0
  have ar_0_34_1 : w_ar w1 (n_v vs 0) 34 = w_ar ws (n_v vs 0) 34 := congrArg v_ad (s1.2 _ _).symm
  have cr_0_34 := fdq_117 hD hth r0
  have ar_0_35_1 : w_ar w1 (n_v vs 0) 35 = w_ar ws (n_v vs 0) 35 := congrArg v_ad (s1.2 _ _).symm
  have cr_0_35 := fdq_131 hD hth r0
  have ar_0_36_1 : w_ar w1 (n_v vs 0) 36 = w_ar ws (n_v vs 0) 36 := congrArg v_ad (s1.2 _ _).symm
  have cr_0_36 := fdq_166 hD hth r0
  have ar_0_37_1 : w_ar w1 (n_v vs 0) 37 = w_ar ws (n_v vs 0) 37 := congrArg v_ad (s1.2 _ _).symm
  have cr_0_37 := fdq_167 hD hth r0
  have ad_14 : v_ad (n_v vs 14) = w_ar ws (n_v vs 0) 36 := congrArg v_ad f2
  have ad_10 : v_ad (n_v vs 10) = w_ar ws (n_v vs 0) 37 := (congrArg v_ad f9).trans ar_0_37_1
  simp only [ad_14] at f1
  have h1 : v_iv (n_v vs 15) = w_ei ws (w_ar ws (n_v vs 0) 36) (v_iv (n_v vs 1)) := f1
  simp only [ar_0_33_1, ar_0_34_1, ar_0_35_1, ar_0_36_1, ar_0_37_1] at f11
  have fe_0_31_1 : w_fi ws (n_v vs 0) 31 = w_fi w1 (n_v vs 0) 31 := congrArg v_iv (s1.2 _ _)
  have fe_0_32_1 : w_fi ws (n_v vs 0) 32 = w_fi w1 (n_v vs 0) 32 := congrArg v_iv (s1.2 _ _)
  have hE_0_33_1 : ∀ j : Int, w_ei ws (w_ar ws (n_v vs 0) 33) j = w_ei w1 (w_ar ws (n_v vs 0) 33) j := el_kp s1.1 r10 cr_0_33 (by decide)
  have hK_0_33 := elq_57 hD hth cr_0_33
  have hE_0_34_1 : ∀ j : Int, w_ei ws (w_ar ws (n_v vs 0) 34) j = w_ei w1 (w_ar ws (n_v vs 0) 34) j := el_kp s1.1 r10 cr_0_34 (by decide)
  have hK_0_34 := elq_58 hD hth cr_0_34
  have hE_0_35_1 : ∀ j : Int, w_ei ws (w_ar ws (n_v vs 0) 35) j = w_ei w1 (w_ar ws (n_v vs 0) 35) j := el_kp s1.1 r10 cr_0_35 (by decide)
  have hK_0_35 := elq_69 hD hth cr_0_35
  have hE_0_36_1 : ∀ j : Int, w_ei ws (w_ar ws (n_v vs 0) 36) j = w_ei w1 (w_ar ws (n_v vs 0) 36) j := el_kp s1.1 r10 cr_0_36 (by decide)
  have hK_0_36 := elq_94 hD hth cr_0_36
  have hE_0_37_1 : ∀ j : Int, 0 ≤ j → (j = v_iv (n_v vs 13) → w_ei ws (w_ar ws (n_v vs 0) 37) j = v_iv (n_v vs 2)) ∧ (j ≠ v_iv (n_v vs 13) → w_ei ws (w_ar ws (n_v vs 0) 37) j = w_ei w1 (w_ar ws (n_v vs 0) 37) j) := fun j hj => ⟨fun h => by unfold w_ei; rw [s1.1, if_pos ⟨ad_10.symm, by rw [h]⟩], fun h => by unfold w_ei; rw [s1.1, if_neg (fun e => h (by have := e.2; omega))]⟩
  have hK_0_37 := elq_95 hD hth cr_0_37
  have kz_0_31 := fdq_144 hD hth r0
  have kz_0_32 := fdq_139 hD hth r0
  have hrf0 : 1 ≤ v_iv (n_v vs 17) ∧ v_iv (n_v vs 17) ≤ 80 := vc_Mo_putAt_at_g2_1_r0 (v_iv (n_v vs 1)) (v_iv (n_v vs 2)) (v_iv (n_v vs 4)) (v_iv (n_v vs 6)) (v_iv (n_v vs 7)) (v_iv (n_v vs 8)) (v_iv (n_v vs 9)) (v_iv (n_v vs 11)) (v_iv (n_v vs 12)) (v_iv (n_v vs 13)) (v_iv (n_v vs 15)) (v_iv (n_v vs 16)) (v_iv (n_v vs 17)) (w_ei ws (w_ar ws (n_v vs 0) 36)) (w_ei w1 (w_ar ws (n_v vs 0) 33)) (w_ei w1 (w_ar ws (n_v vs 0) 34)) (w_ei w1 (w_ar ws (n_v vs 0) 35)) (w_ei w1 (w_ar ws (n_v vs 0) 36)) (w_ei w1 (w_ar ws (n_v vs 0) 37)) (w_fi w1 (n_v vs 0) 31) (w_fi w1 (n_v vs 0) 32) (w_fi ws (n_v vs 0) 31) (w_fi ws (n_v vs 0) 32) (w_ei ws (w_ar ws (n_v vs 0) 33)) (w_ei ws (w_ar ws (n_v vs 0) 34)) (w_ei ws (w_ar ws (n_v vs 0) 35)) (w_ei ws (w_ar ws (n_v vs 0) 37)) k1 k2 k4 k6 k7 k8 k9 k11 k12 k13 k15 k16 k17 d0 d1 d2 d3 d4 d5 d6 d7 (shm_12 f0) h1 (shm_12 f7) f8 (shm_24 f10) f11 fe_0_31_1 fe_0_32_1 hE_0_33_1 hK_0_33 hE_0_34_1 hK_0_34 hE_0_35_1 hK_0_35 hE_0_36_1 hK_0_36 hE_0_37_1 hK_0_37 kz_0_31 kz_0_32
  have rf17 : tv_ok ta (0, 1, 80, []) (n_v vs 17) := tv_in t17 (by first | omega | grind) (by first | omega | grind)
  refine ⟨List.forall_mem_cons.mpr ⟨rf17, (fun _ h => (by cases h))⟩, [], trivial, ?_, (fun _ h => (by cases h))⟩
  rw [List.append_nil]
  exact (fun _ h => (by cases h))
set_option maxHeartbeats 4000000 in
theorem vc_Mo_putAt_at_g2_2_0 (x1 : Int) (x2 : Int) (x4 : Int) (x6 : Int) (x7 : Int) (x8 : Int) (x9 : Int) (x11 : Int) (x12 : Int) (x13 : Int) (x15 : Int) (x16 : Int) (x17 : Int) (rotMany_1 : Int → Int) (pt_2 : Int → Int) (ph_2 : Int → Int) (alive_2 : Int → Int) (rotMany_2 : Int → Int) (rot_2 : Int → Int) (pn_2 : Int) (pm_2 : Int) (pn_0 : Int) (pn_1 : Int) (pm_0 : Int) (pm_1 : Int) (pt_0 : Int → Int) (pt_1 : Int → Int) (ph_0 : Int → Int) (ph_1 : Int → Int) (alive_0 : Int → Int) (alive_1 : Int → Int) (rotMany_0 : Int → Int) (rot_0 : Int → Int) (rot_1 : Int → Int) (k1 : 0 ≤ x1 ∧ x1 ≤ 24) (k2 : 0 ≤ x2 ∧ x2 ≤ 79) (k4 : 0 ≤ x4 ∧ x4 ≤ 24) (k6 : 0 ≤ x6 ∧ x6 ≤ 24) (k7 : 0 ≤ x7 ∧ x7 ≤ 79) (k8 : 0 ≤ x8 ∧ x8 ≤ 79) (k9 : 0 ≤ x9 ∧ x9 ≤ 79) (k11 : 80 ≤ x11 ∧ x11 ≤ 80) (k12 : 0 ≤ x12 ∧ x12 ≤ 1920) (k13 : 0 ≤ x13 ∧ x13 ≤ 1999) (k15 : 0 ≤ x15 ∧ x15 ≤ 80) (k16 : 1 ≤ x16 ∧ x16 ≤ 1) (k17 : 1 ≤ x17 ∧ x17 ≤ 80) (d0 : x15 + 1 ≤ x17 ∧ x17 ≤ x15 + 1) (d1 : x8 + 0 ≤ x13 ∧ x13 ≤ x8 + 1920) (d2 : x12 + 0 ≤ x13 ∧ x13 ≤ x12 + 79) (d3 : x8 + (-4294967296) ≤ x9 ∧ x9 ≤ x8 + 0) (d4 : x6 + (-4294967296) ≤ x1 ∧ x1 ≤ x6 + 0) (d5 : x7 + (-4294967296) ≤ x2 ∧ x2 ≤ x7 + 0) (d6 : x1 + (-4294967296) ≤ x6 ∧ x6 ≤ x1 + 0) (d7 : x2 + (-4294967296) ≤ x7 ∧ x7 ≤ x2 + 0) (f4 : x17 = x15 + x16) (h5 : x15 = rotMany_1 (x1)) (f8 : x13 = x12 + x8) (f9 : x12 = 80 * x1) (f11 : x9 ≤ x8) (f12 : PLb (pn_2) (pm_2) (pt_2) (ph_2) (alive_2) (rotMany_2) (rot_2) (x1) (x2) (x8) (x9) (x4)) (fe_0_31_1 : pn_0 = pn_1) (fe_0_32_1 : pm_0 = pm_1) (fe_0_31_2 : pn_1 = pn_2) (fe_0_32_2 : pm_1 = pm_2) (hE_0_33_1 : ∀ j : Int, pt_0 j = pt_1 j) (hE_0_33_2 : ∀ j : Int, pt_1 j = pt_2 j) (hK_0_33 : ∀ j : Int, 0 ≤ j → j < 80 → 0 ≤ pt_0 j ∧ pt_0 j ≤ 24) (hE_0_34_1 : ∀ j : Int, ph_0 j = ph_1 j) (hE_0_34_2 : ∀ j : Int, ph_1 j = ph_2 j) (hK_0_34 : ∀ j : Int, 0 ≤ j → j < 80 → 0 ≤ ph_0 j ∧ ph_0 j ≤ 24) (hE_0_35_1 : ∀ j : Int, alive_0 j = alive_1 j) (hE_0_35_2 : ∀ j : Int, alive_1 j = alive_2 j) (hK_0_35 : ∀ j : Int, 0 ≤ j → j < 80 → 0 ≤ alive_0 j ∧ alive_0 j ≤ 1) (hE_0_36_1 : ∀ j : Int, 0 ≤ j → (j = x1 → rotMany_0 j = x17) ∧ (j ≠ x1 → rotMany_0 j = rotMany_1 j)) (hE_0_36_2 : ∀ j : Int, rotMany_1 j = rotMany_2 j) (hK_0_36 : ∀ j : Int, 0 ≤ j → j < 26 → 0 ≤ rotMany_0 j ∧ rotMany_0 j ≤ 80) (hE_0_37_1 : ∀ j : Int, rot_0 j = rot_1 j) (hE_0_37_2 : ∀ j : Int, 0 ≤ j → (j = x13 → rot_1 j = x2) ∧ (j ≠ x13 → rot_1 j = rot_2 j)) (hK_0_37 : ∀ j : Int, 0 ≤ j → j < 2080 → 0 ≤ rot_0 j ∧ rot_0 j ≤ 79) (kz_0_31 : 0 ≤ pn_0 ∧ pn_0 ≤ 25) (kz_0_32 : 0 ≤ pm_0 ∧ pm_0 ≤ 80) : GRI (pn_0) (pm_0) (pt_0) (ph_0) (alive_0) (rotMany_0) (rot_0) := by
  subst fe_0_31_1
  subst fe_0_32_1
  subst fe_0_31_2
  subst fe_0_32_2
  have e_hE_0_33_1 := funext hE_0_33_1; subst e_hE_0_33_1
  have e_hE_0_33_2 := funext hE_0_33_2; subst e_hE_0_33_2
  have e_hE_0_34_1 := funext hE_0_34_1; subst e_hE_0_34_1
  have e_hE_0_34_2 := funext hE_0_34_2; subst e_hE_0_34_2
  have e_hE_0_35_1 := funext hE_0_35_1; subst e_hE_0_35_1
  have e_hE_0_35_2 := funext hE_0_35_2; subst e_hE_0_35_2
  have e_hE_0_36_2 := funext hE_0_36_2; subst e_hE_0_36_2
  have e_hE_0_37_1 := funext hE_0_37_1; subst e_hE_0_37_1
  first
    | exact (pal_end ‹PLb _ _ _ _ _ _ _ _ _ _ _ _› (by omega) (by assumption) (by omega) (by omega) (by assumption) (by omega) (by omega)).2.2.2.2 rfl
    | exact (pal_end ‹PLd _ _ _ _ _ _ _ _ _ _ _ _ _ _ _› (by omega) (by assumption) (by omega) (by omega) (by assumption) (by omega) (by omega)).2.2.2.2 rfl
def o_Mo_putAt_at_g2_2 : or_T := (68, 18, [(0, (2, 0, 0, [165])), (1, (0, 0, 24, [])), (2, (0, 0, 79, [])), (4, (0, 0, 24, [])), (6, (0, 0, 24, [])), (7, (0, 0, 79, [])), (8, (0, 0, 79, [])), (9, (0, 0, 79, [])), (10, (2, 0, 0, [184])), (11, (0, 80, 80, [])), (12, (0, 0, 1920, [])), (13, (0, 0, 1999, [])), (14, (2, 0, 0, [183])), (15, (0, 0, 80, [])), (16, (0, 1, 1, [])), (17, (0, 1, 80, []))], [(24, [0, 5], []), (24, [1, 6], []), (24, [2, 7], []), (100, [14, 6, 17], []), (1, [17, 15, 16], []), (10, [15, 14, 6], []), (9, [14, 5], [36]), (100, [10, 13, 7], []), (1, [13, 12, 8], []), (3, [12, 11, 6], []), (9, [10, 5], [37]), (7, [9, 8], [5]), (20, [5, 6, 7, 8, 9, 4], [60, 2, 5, 256, 31, 32, 33, 34, 35, 36, 37])], [], [], [(20, [0], [60, 2, 5, 261, 31, 32, 33, 34, 35, 36, 37])], [], [(17, 15, 1, 1), (13, 8, 0, 1920), (13, 12, 0, 79), (9, 8, -4294967296, 0), (1, 6, -4294967296, 0), (2, 7, -4294967296, 0), (6, 1, -4294967296, 0), (7, 2, -4294967296, 0)])
theorem oo_Mo_putAt_at_g2_2 {kA : Nat → ClassId} : or_ok PRD kA GG o_Mo_putAt_at_g2_2 := by
  refine or_mk fun A ta ws vs hD hth hl => ?_
  intro t0 r0 t1 k1 t2 k2 t4 k4 t6 k6 t7 k7 t8 k8 t9 k9 t10 r10 t11 k11 t12 k12 t13 k13 t14 r14 t15 k15 t16 k16 t17 k17 d0 d1 d2 d3 d4 d5 d6 d7 f0 f1 f2 ta1 w1 le1 s1 f4 f5 f6 ta2 w2 le2 s2 f8 f9 f10 f11 f12
  replace f0 := shm_5 f0
  replace f1 := shm_5 f1
  replace f2 := shm_5 f2
  have s1 : (∀ b j, w_el ws b j = if b = v_ad (n_v vs 14) ∧ j = (v_iv (n_v vs 6)).toNat then v_iv (n_v vs 17) else w_el w1 b j) ∧ ∀ b k, w_fd ws b k = w_fd w1 b k := s1.2
  replace f5 := shm_106 f5
  replace f6 := shm_671 f6
  have s2 : (∀ b j, w_el w1 b j = if b = v_ad (n_v vs 10) ∧ j = (v_iv (n_v vs 13)).toNat then v_iv (n_v vs 7) else w_el w2 b j) ∧ ∀ b k, w_fd w1 b k = w_fd w2 b k := s2.2
  replace f9 := shm_38 f9
  rw [show v_iv (n_v vs 11) = 80 from by omega] at f9
  replace f10 := shm_674 f10
  replace f12 := shm_677 f12
  have q5 : n_v vs 5 = n_v vs 0 := f0.symm
  have q6 : n_v vs 6 = n_v vs 1 := f1.symm
  have q7 : n_v vs 7 = n_v vs 2 := f2.symm
  rw [q6] at s1
  simp only [q6, q5] at f5 f6
  rw [q7] at s2
  simp only [q6, q5, q7] at f9 f10 f12
  have ar_0_33_1 : w_ar w1 (n_v vs 0) 33 = w_ar ws (n_v vs 0) 33 := congrArg v_ad (s1.2 _ _).symm
  have ar_0_33_2 : w_ar w2 (n_v vs 0) 33 = w_ar ws (n_v vs 0) 33 := by rw [← ar_0_33_1]; show v_ad (w_fd w2 _ _) = v_ad (w_fd w1 _ _); rw [s2.2]
  have cr_0_33 := fdq_116 hD hth r0
  have ar_0_34_1 : w_ar w1 (n_v vs 0) 34 = w_ar ws (n_v vs 0) 34 := congrArg v_ad (s1.2 _ _).symm
  have ar_0_34_2 : w_ar w2 (n_v vs 0) 34 = w_ar ws (n_v vs 0) 34 := by rw [← ar_0_34_1]; show v_ad (w_fd w2 _ _) = v_ad (w_fd w1 _ _); rw [s2.2]
  have cr_0_34 := fdq_117 hD hth r0
  have ar_0_35_1 : w_ar w1 (n_v vs 0) 35 = w_ar ws (n_v vs 0) 35 := congrArg v_ad (s1.2 _ _).symm
  have ar_0_35_2 : w_ar w2 (n_v vs 0) 35 = w_ar ws (n_v vs 0) 35 := by rw [← ar_0_35_1]; show v_ad (w_fd w2 _ _) = v_ad (w_fd w1 _ _); rw [s2.2]
  have cr_0_35 := fdq_131 hD hth r0
  have ar_0_36_1 : w_ar w1 (n_v vs 0) 36 = w_ar ws (n_v vs 0) 36 := congrArg v_ad (s1.2 _ _).symm
  have ar_0_36_2 : w_ar w2 (n_v vs 0) 36 = w_ar ws (n_v vs 0) 36 := by rw [← ar_0_36_1]; show v_ad (w_fd w2 _ _) = v_ad (w_fd w1 _ _); rw [s2.2]
  have cr_0_36 := fdq_166 hD hth r0
  have ar_0_37_1 : w_ar w1 (n_v vs 0) 37 = w_ar ws (n_v vs 0) 37 := congrArg v_ad (s1.2 _ _).symm
  have ar_0_37_2 : w_ar w2 (n_v vs 0) 37 = w_ar ws (n_v vs 0) 37 := by rw [← ar_0_37_1]; show v_ad (w_fd w2 _ _) = v_ad (w_fd w1 _ _); rw [s2.2]
  have cr_0_37 := fdq_167 hD hth r0
  have ad_14 : v_ad (n_v vs 14) = w_ar ws (n_v vs 0) 36 := (congrArg v_ad f6).trans ar_0_36_1
  have ad_10 : v_ad (n_v vs 10) = w_ar ws (n_v vs 0) 37 := (congrArg v_ad f10).trans ar_0_37_2
  simp only [ad_14] at f5
  have h5 : v_iv (n_v vs 15) = w_ei w1 (w_ar ws (n_v vs 0) 36) (v_iv (n_v vs 1)) := f5
  simp only [ar_0_33_2, ar_0_34_2, ar_0_35_2, ar_0_36_2, ar_0_37_2] at f12
  have fe_0_31_1 : w_fi ws (n_v vs 0) 31 = w_fi w1 (n_v vs 0) 31 := congrArg v_iv (s1.2 _ _)
  have fe_0_32_1 : w_fi ws (n_v vs 0) 32 = w_fi w1 (n_v vs 0) 32 := congrArg v_iv (s1.2 _ _)
  have fe_0_31_2 : w_fi w1 (n_v vs 0) 31 = w_fi w2 (n_v vs 0) 31 := congrArg v_iv (s2.2 _ _)
  have fe_0_32_2 : w_fi w1 (n_v vs 0) 32 = w_fi w2 (n_v vs 0) 32 := congrArg v_iv (s2.2 _ _)
  have hE_0_33_1 : ∀ j : Int, w_ei ws (w_ar ws (n_v vs 0) 33) j = w_ei w1 (w_ar ws (n_v vs 0) 33) j := el_kp s1.1 r14 cr_0_33 (by decide)
  have hE_0_33_2 : ∀ j : Int, w_ei w1 (w_ar ws (n_v vs 0) 33) j = w_ei w2 (w_ar ws (n_v vs 0) 33) j := el_kp s2.1 r10 cr_0_33 (by decide)
  have hK_0_33 := elq_57 hD hth cr_0_33
  have hE_0_34_1 : ∀ j : Int, w_ei ws (w_ar ws (n_v vs 0) 34) j = w_ei w1 (w_ar ws (n_v vs 0) 34) j := el_kp s1.1 r14 cr_0_34 (by decide)
  have hE_0_34_2 : ∀ j : Int, w_ei w1 (w_ar ws (n_v vs 0) 34) j = w_ei w2 (w_ar ws (n_v vs 0) 34) j := el_kp s2.1 r10 cr_0_34 (by decide)
  have hK_0_34 := elq_58 hD hth cr_0_34
  have hE_0_35_1 : ∀ j : Int, w_ei ws (w_ar ws (n_v vs 0) 35) j = w_ei w1 (w_ar ws (n_v vs 0) 35) j := el_kp s1.1 r14 cr_0_35 (by decide)
  have hE_0_35_2 : ∀ j : Int, w_ei w1 (w_ar ws (n_v vs 0) 35) j = w_ei w2 (w_ar ws (n_v vs 0) 35) j := el_kp s2.1 r10 cr_0_35 (by decide)
  have hK_0_35 := elq_69 hD hth cr_0_35
  have hE_0_36_1 : ∀ j : Int, 0 ≤ j → (j = v_iv (n_v vs 1) → w_ei ws (w_ar ws (n_v vs 0) 36) j = v_iv (n_v vs 17)) ∧ (j ≠ v_iv (n_v vs 1) → w_ei ws (w_ar ws (n_v vs 0) 36) j = w_ei w1 (w_ar ws (n_v vs 0) 36) j) := fun j hj => ⟨fun h => by unfold w_ei; rw [s1.1, if_pos ⟨ad_14.symm, by rw [h]⟩], fun h => by unfold w_ei; rw [s1.1, if_neg (fun e => h (by have := e.2; omega))]⟩
  have hE_0_36_2 : ∀ j : Int, w_ei w1 (w_ar ws (n_v vs 0) 36) j = w_ei w2 (w_ar ws (n_v vs 0) 36) j := el_kp s2.1 r10 cr_0_36 (by decide)
  have hK_0_36 := elq_94 hD hth cr_0_36
  have hE_0_37_1 : ∀ j : Int, w_ei ws (w_ar ws (n_v vs 0) 37) j = w_ei w1 (w_ar ws (n_v vs 0) 37) j := el_kp s1.1 r14 cr_0_37 (by decide)
  have hE_0_37_2 : ∀ j : Int, 0 ≤ j → (j = v_iv (n_v vs 13) → w_ei w1 (w_ar ws (n_v vs 0) 37) j = v_iv (n_v vs 2)) ∧ (j ≠ v_iv (n_v vs 13) → w_ei w1 (w_ar ws (n_v vs 0) 37) j = w_ei w2 (w_ar ws (n_v vs 0) 37) j) := fun j hj => ⟨fun h => by unfold w_ei; rw [s2.1, if_pos ⟨ad_10.symm, by rw [h]⟩], fun h => by unfold w_ei; rw [s2.1, if_neg (fun e => h (by have := e.2; omega))]⟩
  have hK_0_37 := elq_95 hD hth cr_0_37
  have kz_0_31 := fdq_144 hD hth r0
  have kz_0_32 := fdq_139 hD hth r0
  have nf0 : fc_1 PRD (20, [0], [60, 2, 5, 261, 31, 32, 33, 34, 35, 36, 37]) ws (vs) := ⟨nf_in hl rfl, sgq_678 (vc_Mo_putAt_at_g2_2_0 (v_iv (n_v vs 1)) (v_iv (n_v vs 2)) (v_iv (n_v vs 4)) (v_iv (n_v vs 6)) (v_iv (n_v vs 7)) (v_iv (n_v vs 8)) (v_iv (n_v vs 9)) (v_iv (n_v vs 11)) (v_iv (n_v vs 12)) (v_iv (n_v vs 13)) (v_iv (n_v vs 15)) (v_iv (n_v vs 16)) (v_iv (n_v vs 17)) (w_ei w1 (w_ar ws (n_v vs 0) 36)) (w_ei w2 (w_ar ws (n_v vs 0) 33)) (w_ei w2 (w_ar ws (n_v vs 0) 34)) (w_ei w2 (w_ar ws (n_v vs 0) 35)) (w_ei w2 (w_ar ws (n_v vs 0) 36)) (w_ei w2 (w_ar ws (n_v vs 0) 37)) (w_fi w2 (n_v vs 0) 31) (w_fi w2 (n_v vs 0) 32) (w_fi ws (n_v vs 0) 31) (w_fi w1 (n_v vs 0) 31) (w_fi ws (n_v vs 0) 32) (w_fi w1 (n_v vs 0) 32) (w_ei ws (w_ar ws (n_v vs 0) 33)) (w_ei w1 (w_ar ws (n_v vs 0) 33)) (w_ei ws (w_ar ws (n_v vs 0) 34)) (w_ei w1 (w_ar ws (n_v vs 0) 34)) (w_ei ws (w_ar ws (n_v vs 0) 35)) (w_ei w1 (w_ar ws (n_v vs 0) 35)) (w_ei ws (w_ar ws (n_v vs 0) 36)) (w_ei ws (w_ar ws (n_v vs 0) 37)) (w_ei w1 (w_ar ws (n_v vs 0) 37)) k1 k2 k4 k6 k7 k8 k9 k11 k12 k13 k15 k16 k17 d0 d1 d2 d3 d4 d5 d6 d7 (shm_12 f4) h5 (shm_12 f8) f9 (shm_24 f11) f12 fe_0_31_1 fe_0_32_1 fe_0_31_2 fe_0_32_2 hE_0_33_1 hE_0_33_2 hK_0_33 hE_0_34_1 hE_0_34_2 hK_0_34 hE_0_35_1 hE_0_35_2 hK_0_35 hE_0_36_1 hE_0_36_2 hK_0_36 hE_0_37_1 hE_0_37_2 hK_0_37 kz_0_31 kz_0_32)⟩
  refine ⟨(fun _ h => (by cases h)), [], trivial, ?_, (fun _ h => (by cases h))⟩
  rw [List.append_nil]
  exact List.forall_mem_cons.mpr ⟨⟨show (20 : Nat) < 100 from by decide, nf0⟩, (fun _ h => (by cases h))⟩
set_option maxHeartbeats 4000000 in
theorem vc_Mo_putAt_at_g2_3_0 (x1 : Int) (x2 : Int) (x4 : Int) (x6 : Int) (x7 : Int) (x8 : Int) (x9 : Int) (x11 : Int) (x12 : Int) (x13 : Int) (x14 : Int) (x15 : Int) (x16 : Int) (x17 : Int) (x18 : Int) (x19 : Int) (x20 : Int) (rot_1 : Int → Int) (pt_1 : Int → Int) (ph_1 : Int → Int) (alive_1 : Int → Int) (rotMany_1 : Int → Int) (pn_1 : Int) (pm_1 : Int) (pn_0 : Int) (pm_0 : Int) (pt_0 : Int → Int) (ph_0 : Int → Int) (alive_0 : Int → Int) (rotMany_0 : Int → Int) (rot_0 : Int → Int) (k1 : 0 ≤ x1 ∧ x1 ≤ 24) (k2 : 0 ≤ x2 ∧ x2 ≤ 79) (k4 : 0 ≤ x4 ∧ x4 ≤ 24) (k6 : 0 ≤ x6 ∧ x6 ≤ 24) (k7 : 0 ≤ x7 ∧ x7 ≤ 79) (k8 : 0 ≤ x8 ∧ x8 ≤ 79) (k9 : 1 ≤ x9 ∧ x9 ≤ 80) (k11 : 80 ≤ x11 ∧ x11 ≤ 80) (k12 : 0 ≤ x12 ∧ x12 ≤ 1920) (k13 : 1 ≤ x13 ∧ x13 ≤ 2000) (k14 : 80 ≤ x14 ∧ x14 ≤ 80) (k15 : 0 ≤ x15 ∧ x15 ≤ 1920) (k16 : 1 ≤ x16 ∧ x16 ≤ 2000) (k17 : 1 ≤ x17 ∧ x17 ≤ 1) (k18 : 0 ≤ x18 ∧ x18 ≤ 1999) (k19 : 0 ≤ x19 ∧ x19 ≤ 79) (k20 : 0 ≤ x20 ∧ x20 ≤ 79) (d0 : x9 + (-1) ≤ x20 ∧ x20 ≤ x9 + (-1)) (d1 : x8 + 0 ≤ x20 ∧ x20 ≤ x8 + 4294967296) (d2 : x16 + (-1) ≤ x18 ∧ x18 ≤ x16 + (-1)) (d3 : x9 + (-1) ≤ x18 ∧ x18 ≤ x9 + 1919) (d4 : x8 + 0 ≤ x18 ∧ x18 ≤ x8 + 4294967296) (d5 : x15 + 0 ≤ x18 ∧ x18 ≤ x15 + 79) (d6 : x9 + 0 ≤ x16 ∧ x16 ≤ x9 + 1920) (d7 : x8 + 1 ≤ x16 ∧ x16 ≤ x8 + 4294967296) (d8 : x15 + 1 ≤ x16 ∧ x16 ≤ x15 + 80) (d9 : x9 + 0 ≤ x13 ∧ x13 ≤ x9 + 1920) (d10 : x8 + 1 ≤ x13 ∧ x13 ≤ x8 + 4294967296) (d11 : x12 + 1 ≤ x13 ∧ x13 ≤ x12 + 80) (d12 : x8 + 1 ≤ x9 ∧ x9 ≤ x8 + 4294967296) (d13 : x6 + (-4294967296) ≤ x1 ∧ x1 ≤ x6 + 0) (d14 : x7 + (-4294967296) ≤ x2 ∧ x2 ≤ x7 + 0) (d15 : x1 + (-4294967296) ≤ x6 ∧ x6 ≤ x1 + 0) (d16 : x2 + (-4294967296) ≤ x7 ∧ x7 ≤ x2 + 0) (f0 : x20 = x9 + (-1)) (h5 : x19 = rot_1 (x18)) (f6 : x18 = x16 - x17) (f7 : x16 = x15 + x9) (f8 : x15 = 80 * x1) (f10 : x13 = x12 + x9) (f11 : x12 = 80 * x1) (f12 : x8 < x9) (f13 : PLb (pn_1) (pm_1) (pt_1) (ph_1) (alive_1) (rotMany_1) (rot_1) (x1) (x2) (x8) (x9) (x4)) (fe_0_31_1 : pn_0 = pn_1) (fe_0_32_1 : pm_0 = pm_1) (hE_0_33_1 : ∀ j : Int, pt_0 j = pt_1 j) (hK_0_33 : ∀ j : Int, 0 ≤ j → j < 80 → 0 ≤ pt_0 j ∧ pt_0 j ≤ 24) (hE_0_34_1 : ∀ j : Int, ph_0 j = ph_1 j) (hK_0_34 : ∀ j : Int, 0 ≤ j → j < 80 → 0 ≤ ph_0 j ∧ ph_0 j ≤ 24) (hE_0_35_1 : ∀ j : Int, alive_0 j = alive_1 j) (hK_0_35 : ∀ j : Int, 0 ≤ j → j < 80 → 0 ≤ alive_0 j ∧ alive_0 j ≤ 1) (hE_0_36_1 : ∀ j : Int, rotMany_0 j = rotMany_1 j) (hK_0_36 : ∀ j : Int, 0 ≤ j → j < 26 → 0 ≤ rotMany_0 j ∧ rotMany_0 j ≤ 80) (hE_0_37_1 : ∀ j : Int, 0 ≤ j → (j = x13 → rot_0 j = x19) ∧ (j ≠ x13 → rot_0 j = rot_1 j)) (hK_0_37 : ∀ j : Int, 0 ≤ j → j < 2080 → 0 ≤ rot_0 j ∧ rot_0 j ≤ 79) (kz_0_31 : 0 ≤ pn_0 ∧ pn_0 ≤ 25) (kz_0_32 : 0 ≤ pm_0 ∧ pm_0 ≤ 80) : PLb (pn_0) (pm_0) (pt_0) (ph_0) (alive_0) (rotMany_0) (rot_0) (x1) (x2) (x8) (x20) (x4) := by
  subst fe_0_31_1
  subst fe_0_32_1
  have e_hE_0_33_1 := funext hE_0_33_1; subst e_hE_0_33_1
  have e_hE_0_34_1 := funext hE_0_34_1; subst e_hE_0_34_1
  have e_hE_0_35_1 := funext hE_0_35_1; subst e_hE_0_35_1
  have e_hE_0_36_1 := funext hE_0_36_1; subst e_hE_0_36_1
  first
    | exact pal_start ‹PAb _ _ _ _ _ _ _ _ _ _ _› (by omega)
    | exact pal_step ‹PLb _ _ _ _ _ _ _ _ _ _ _ _› (by omega) (by omega) (by assumption) (by omega) (by assumption) (by omega)
def o_Mo_putAt_at_g2_3 : or_T := (8, 21, [(0, (2, 0, 0, [165])), (1, (0, 0, 24, [])), (2, (0, 0, 79, [])), (4, (0, 0, 24, [])), (6, (0, 0, 24, [])), (7, (0, 0, 79, [])), (8, (0, 0, 79, [])), (9, (0, 1, 80, [])), (10, (2, 0, 0, [184])), (11, (0, 80, 80, [])), (12, (0, 0, 1920, [])), (13, (0, 1, 2000, [])), (14, (0, 80, 80, [])), (15, (0, 0, 1920, [])), (16, (0, 1, 2000, [])), (17, (0, 1, 1, [])), (18, (0, 0, 1999, [])), (19, (0, 0, 79, [])), (20, (0, 0, 79, []))], [(6, [20, 9], [-1]), (24, [0, 5], []), (24, [1, 6], []), (24, [2, 7], []), (100, [10, 13, 19], []), (10, [19, 10, 18], []), (2, [18, 16, 17], []), (1, [16, 15, 9], []), (3, [15, 14, 6], []), (9, [10, 5], [37]), (1, [13, 12, 9], []), (3, [12, 11, 6], []), (7, [9, 8], [4]), (20, [5, 6, 7, 8, 9, 4], [60, 2, 5, 256, 31, 32, 33, 34, 35, 36, 37])], [], [], [(20, [5, 6, 7, 8, 20, 4], [60, 2, 5, 256, 31, 32, 33, 34, 35, 36, 37])], [], [(20, 9, -1, -1), (20, 8, 0, 4294967296), (18, 16, -1, -1), (18, 9, -1, 1919), (18, 8, 0, 4294967296), (18, 15, 0, 79), (16, 9, 0, 1920), (16, 8, 1, 4294967296), (16, 15, 1, 80), (13, 9, 0, 1920), (13, 8, 1, 4294967296), (13, 12, 1, 80), (9, 8, 1, 4294967296), (1, 6, -4294967296, 0), (2, 7, -4294967296, 0), (6, 1, -4294967296, 0), (7, 2, -4294967296, 0)])
theorem oo_Mo_putAt_at_g2_3 {kA : Nat → ClassId} : or_ok PRD kA GG o_Mo_putAt_at_g2_3 := by
  refine or_mk fun A ta ws vs hD hth hl => ?_
  intro t0 r0 t1 k1 t2 k2 t4 k4 t6 k6 t7 k7 t8 k8 t9 k9 t10 r10 t11 k11 t12 k12 t13 k13 t14 k14 t15 k15 t16 k16 t17 k17 t18 k18 t19 k19 t20 k20 d0 d1 d2 d3 d4 d5 d6 d7 d8 d9 d10 d11 d12 d13 d14 d15 d16 f0 f1 f2 f3 ta1 w1 le1 s1 f5 f6 f7 f8 f9 f10 f11 f12 f13
  replace f0 := shm_198 f0
  replace f1 := shm_5 f1
  replace f2 := shm_5 f2
  replace f3 := shm_5 f3
  have s1 : (∀ b j, w_el ws b j = if b = v_ad (n_v vs 10) ∧ j = (v_iv (n_v vs 13)).toNat then v_iv (n_v vs 19) else w_el w1 b j) ∧ ∀ b k, w_fd ws b k = w_fd w1 b k := s1.2
  replace f5 := shm_106 f5
  replace f6 := shm_14 f6
  replace f7 := shm_12 f7
  replace f8 := shm_38 f8
  rw [show v_iv (n_v vs 14) = 80 from by omega] at f8
  replace f9 := shm_674 f9
  replace f10 := shm_12 f10
  replace f11 := shm_38 f11
  rw [show v_iv (n_v vs 11) = 80 from by omega] at f11
  replace f12 := shm_21 f12
  replace f13 := shm_677 f13
  have q5 : n_v vs 5 = n_v vs 0 := f1.symm
  have q6 : n_v vs 6 = n_v vs 1 := f2.symm
  have q7 : n_v vs 7 = n_v vs 2 := f3.symm
  simp only [q6, q5, q7] at f8 f9 f11 f13
  have ar_0_33_1 : w_ar w1 (n_v vs 0) 33 = w_ar ws (n_v vs 0) 33 := congrArg v_ad (s1.2 _ _).symm
  have cr_0_33 := fdq_116 hD hth r0
  have ar_0_34_1 : w_ar w1 (n_v vs 0) 34 = w_ar ws (n_v vs 0) 34 := congrArg v_ad (s1.2 _ _).symm
  have cr_0_34 := fdq_117 hD hth r0
  have ar_0_35_1 : w_ar w1 (n_v vs 0) 35 = w_ar ws (n_v vs 0) 35 := congrArg v_ad (s1.2 _ _).symm
  have cr_0_35 := fdq_131 hD hth r0
  have ar_0_36_1 : w_ar w1 (n_v vs 0) 36 = w_ar ws (n_v vs 0) 36 := congrArg v_ad (s1.2 _ _).symm
  have cr_0_36 := fdq_166 hD hth r0
  have ar_0_37_1 : w_ar w1 (n_v vs 0) 37 = w_ar ws (n_v vs 0) 37 := congrArg v_ad (s1.2 _ _).symm
  have cr_0_37 := fdq_167 hD hth r0
  have ad_10 : v_ad (n_v vs 10) = w_ar ws (n_v vs 0) 37 := (congrArg v_ad f9).trans ar_0_37_1
  simp only [ad_10] at f5
  have h5 : v_iv (n_v vs 19) = w_ei w1 (w_ar ws (n_v vs 0) 37) (v_iv (n_v vs 18)) := f5
  simp only [ar_0_33_1, ar_0_34_1, ar_0_35_1, ar_0_36_1, ar_0_37_1] at f13
  have fe_0_31_1 : w_fi ws (n_v vs 0) 31 = w_fi w1 (n_v vs 0) 31 := congrArg v_iv (s1.2 _ _)
  have fe_0_32_1 : w_fi ws (n_v vs 0) 32 = w_fi w1 (n_v vs 0) 32 := congrArg v_iv (s1.2 _ _)
  have hE_0_33_1 : ∀ j : Int, w_ei ws (w_ar ws (n_v vs 0) 33) j = w_ei w1 (w_ar ws (n_v vs 0) 33) j := el_kp s1.1 r10 cr_0_33 (by decide)
  have hK_0_33 := elq_57 hD hth cr_0_33
  have hE_0_34_1 : ∀ j : Int, w_ei ws (w_ar ws (n_v vs 0) 34) j = w_ei w1 (w_ar ws (n_v vs 0) 34) j := el_kp s1.1 r10 cr_0_34 (by decide)
  have hK_0_34 := elq_58 hD hth cr_0_34
  have hE_0_35_1 : ∀ j : Int, w_ei ws (w_ar ws (n_v vs 0) 35) j = w_ei w1 (w_ar ws (n_v vs 0) 35) j := el_kp s1.1 r10 cr_0_35 (by decide)
  have hK_0_35 := elq_69 hD hth cr_0_35
  have hE_0_36_1 : ∀ j : Int, w_ei ws (w_ar ws (n_v vs 0) 36) j = w_ei w1 (w_ar ws (n_v vs 0) 36) j := el_kp s1.1 r10 cr_0_36 (by decide)
  have hK_0_36 := elq_94 hD hth cr_0_36
  have hE_0_37_1 : ∀ j : Int, 0 ≤ j → (j = v_iv (n_v vs 13) → w_ei ws (w_ar ws (n_v vs 0) 37) j = v_iv (n_v vs 19)) ∧ (j ≠ v_iv (n_v vs 13) → w_ei ws (w_ar ws (n_v vs 0) 37) j = w_ei w1 (w_ar ws (n_v vs 0) 37) j) := fun j hj => ⟨fun h => by unfold w_ei; rw [s1.1, if_pos ⟨ad_10.symm, by rw [h]⟩], fun h => by unfold w_ei; rw [s1.1, if_neg (fun e => h (by have := e.2; omega))]⟩
  have hK_0_37 := elq_95 hD hth cr_0_37
  have kz_0_31 := fdq_144 hD hth r0
  have kz_0_32 := fdq_139 hD hth r0
  have nf0 : fc_1 PRD (20, [5, 6, 7, 8, 20, 4], [60, 2, 5, 256, 31, 32, 33, 34, 35, 36, 37]) ws (vs) := by
    refine ⟨nf_in hl rfl, sgq_677 ?_⟩
    · show PLb (w_fi ws (n_v vs 5) 31) (w_fi ws (n_v vs 5) 32) (w_ei ws (w_ar ws (n_v vs 5) 33)) (w_ei ws (w_ar ws (n_v vs 5) 34)) (w_ei ws (w_ar ws (n_v vs 5) 35)) (w_ei ws (w_ar ws (n_v vs 5) 36)) (w_ei ws (w_ar ws (n_v vs 5) 37)) (v_iv (n_v vs 6)) (v_iv (n_v vs 7)) (v_iv (n_v vs 8)) (v_iv (n_v vs 20)) (v_iv (n_v vs 4))
      simp only [q5, q6, q7]
      exact vc_Mo_putAt_at_g2_3_0 (v_iv (n_v vs 1)) (v_iv (n_v vs 2)) (v_iv (n_v vs 4)) (v_iv (n_v vs 6)) (v_iv (n_v vs 7)) (v_iv (n_v vs 8)) (v_iv (n_v vs 9)) (v_iv (n_v vs 11)) (v_iv (n_v vs 12)) (v_iv (n_v vs 13)) (v_iv (n_v vs 14)) (v_iv (n_v vs 15)) (v_iv (n_v vs 16)) (v_iv (n_v vs 17)) (v_iv (n_v vs 18)) (v_iv (n_v vs 19)) (v_iv (n_v vs 20)) (w_ei w1 (w_ar ws (n_v vs 0) 37)) (w_ei w1 (w_ar ws (n_v vs 0) 33)) (w_ei w1 (w_ar ws (n_v vs 0) 34)) (w_ei w1 (w_ar ws (n_v vs 0) 35)) (w_ei w1 (w_ar ws (n_v vs 0) 36)) (w_fi w1 (n_v vs 0) 31) (w_fi w1 (n_v vs 0) 32) (w_fi ws (n_v vs 0) 31) (w_fi ws (n_v vs 0) 32) (w_ei ws (w_ar ws (n_v vs 0) 33)) (w_ei ws (w_ar ws (n_v vs 0) 34)) (w_ei ws (w_ar ws (n_v vs 0) 35)) (w_ei ws (w_ar ws (n_v vs 0) 36)) (w_ei ws (w_ar ws (n_v vs 0) 37)) k1 k2 k4 k6 k7 k8 k9 k11 k12 k13 k14 k15 k16 k17 k18 k19 k20 d0 d1 d2 d3 d4 d5 d6 d7 d8 d9 d10 d11 d12 d13 d14 d15 d16 f0 h5 f6 f7 f8 f10 f11 f12 f13 fe_0_31_1 fe_0_32_1 hE_0_33_1 hK_0_33 hE_0_34_1 hK_0_34 hE_0_35_1 hK_0_35 hE_0_36_1 hK_0_36 hE_0_37_1 hK_0_37 kz_0_31 kz_0_32
  refine ⟨(fun _ h => (by cases h)), [], trivial, ?_, (fun _ h => (by cases h))⟩
  rw [List.append_nil]
  exact List.forall_mem_cons.mpr ⟨⟨show (20 : Nat) < 100 from by decide, nf0⟩, (fun _ h => (by cases h))⟩
def n_Mo_putAt_at_g2_an : List an_T := [(8, [(0, (2, 0, 0, [165])), (1, (0, 0, 24, [])), (2, (0, 0, 79, [])), (3, (0, 0, 79, [])), (4, (0, 0, 80, []))], [], (0, 0), [(0, 0, 99992), (2, 9, 0), (0, 0, 100000)], [(1, 6, (Int.negSucc 999999999999), 0), (2, 7, (Int.negSucc 999999999999), 0), (3, 8, (Int.negSucc 999999999999), 0), (6, 1, (Int.negSucc 999999999999), 0), (7, 2, (Int.negSucc 999999999999), 0), (8, 3, (Int.negSucc 999999999999), 0)], [], [(2, 0, 0, [165]), (0, 0, 24, []), (0, 0, 79, []), (0, 0, 79, []), (0, 0, 24, [])], 0, [], [(20, [5, 6, 7, 8, 9, 4], [60, 2, 5, 256, 31, 32, 33, 34, 35, 36, 37]), (24, [0, 5], []), (24, [1, 6], []), (24, [2, 7], [])])]
def t_Mo_putAt_at_g2_ct : ct_L := []
set_option maxRecDepth 100000 in
theorem c_Mo_putAt_at_g2 {l : Launch} {D : va_G} {kA : Nat → ClassId} : ct_ok PRD l D kA GG y_Mo_putAt_at_g2 z_Mo_putAt_at_g2 e_Mo_putAt_at_g2 := chk_all_ok (FT := [(66, 13, 36), (69, 13, 37)]) (PT := []) (CT := t_Mo_putAt_at_g2_ct) (KT := []) (NT := []) (AN := n_Mo_putAt_at_g2_an) (OT := [o_Mo_putAt_at_g2_0, o_Mo_putAt_at_g2_1, o_Mo_putAt_at_g2_2, o_Mo_putAt_at_g2_3]) 3 200 (List.forall_mem_cons.mpr ⟨oo_Mo_putAt_at_g2_0, List.forall_mem_cons.mpr ⟨oo_Mo_putAt_at_g2_1, List.forall_mem_cons.mpr ⟨oo_Mo_putAt_at_g2_2, List.forall_mem_cons.mpr ⟨oo_Mo_putAt_at_g2_3, List.forall_mem_nil _⟩⟩⟩⟩) (by decide +kernel) ⟨List.forall_mem_cons.mpr ⟨gf_Mo_66, List.forall_mem_cons.mpr ⟨gf_Mo_69, List.forall_mem_nil _⟩⟩, List.forall_mem_nil _, List.forall_mem_nil _, List.forall_mem_nil _, List.forall_mem_nil _, GG_pl⟩ (by decide +kernel)
set_option maxHeartbeats 4000000 in
theorem vc_Mo_putAt_at_g3_0_0 (x1 : Int) (x2 : Int) (x3 : Int) (x4 : Int) (x5 : Int) (x6 : Int) (x7 : Int) (x9 : Int) (rotMany_0 : Int → Int) (pt_0 : Int → Int) (ph_0 : Int → Int) (alive_0 : Int → Int) (rot_0 : Int → Int) (pn_0 : Int) (pm_0 : Int) (k1 : 0 ≤ x1 ∧ x1 ≤ 24) (k2 : 0 ≤ x2 ∧ x2 ≤ 79) (k3 : 0 ≤ x3 ∧ x3 ≤ 79) (k4 : 0 ≤ x4 ∧ x4 ≤ 24) (k5 : 0 ≤ x5 ∧ x5 ≤ 24) (k6 : 0 ≤ x6 ∧ x6 ≤ 159) (k7 : 0 ≤ x7 ∧ x7 ≤ 159) (k9 : 0 ≤ x9 ∧ x9 ≤ 80) (h0 : x9 = rotMany_0 (x1)) (f2 : PAc (pn_0) (pm_0) (pt_0) (ph_0) (alive_0) (rotMany_0) (rot_0) (x1) (x2) (x3) (x4) (x5) (x6) (x7)) (hK_0_33 : ∀ j : Int, 0 ≤ j → j < 80 → 0 ≤ pt_0 j ∧ pt_0 j ≤ 24) (hK_0_34 : ∀ j : Int, 0 ≤ j → j < 80 → 0 ≤ ph_0 j ∧ ph_0 j ≤ 24) (hK_0_35 : ∀ j : Int, 0 ≤ j → j < 80 → 0 ≤ alive_0 j ∧ alive_0 j ≤ 1) (hK_0_36 : ∀ j : Int, 0 ≤ j → j < 26 → 0 ≤ rotMany_0 j ∧ rotMany_0 j ≤ 80) (hK_0_37 : ∀ j : Int, 0 ≤ j → j < 2080 → 0 ≤ rot_0 j ∧ rot_0 j ≤ 79) (kz_0_31 : 0 ≤ pn_0 ∧ pn_0 ≤ 25) (kz_0_32 : 0 ≤ pm_0 ∧ pm_0 ≤ 80) : PLc (pn_0) (pm_0) (pt_0) (ph_0) (alive_0) (rotMany_0) (rot_0) (x1) (x2) (x3) (x9) (x4) (x5) (x6) (x7) := by
  first
    | exact pal_start ‹PAc _ _ _ _ _ _ _ _ _ _ _ _ _ _› (by omega)
    | exact pal_step ‹PLc _ _ _ _ _ _ _ _ _ _ _ _ _ _ _› (by omega) (by omega) (by assumption) (by omega) (by assumption) (by omega)
def o_Mo_putAt_at_g3_0 : or_T := (8, 10, [(0, (2, 0, 0, [165])), (1, (0, 0, 24, [])), (2, (0, 0, 79, [])), (3, (0, 0, 79, [])), (4, (0, 0, 24, [])), (5, (0, 0, 24, [])), (6, (0, 0, 159, [])), (7, (0, 0, 159, [])), (9, (0, 0, 80, []))], [(10, [9, 8, 1], []), (9, [8, 0], [36]), (20, [0, 1, 2, 3, 4, 5, 6, 7], [60, 2, 5, 253, 31, 32, 33, 34, 35, 36, 37])], [], [], [(20, [0, 1, 2, 3, 9, 4, 5, 6, 7], [60, 2, 5, 257, 31, 32, 33, 34, 35, 36, 37]), (24, [0, 0], []), (24, [1, 1], []), (24, [2, 2], [])], [], [])
theorem oo_Mo_putAt_at_g3_0 {kA : Nat → ClassId} : or_ok PRD kA GG o_Mo_putAt_at_g3_0 := by
  refine or_mk fun A ta ws vs hD hth hl => ?_
  intro t0 r0 t1 k1 t2 k2 t3 k3 t4 k4 t5 k5 t6 k6 t7 k7 t9 k9 f0 f1 f2
  replace f0 := shm_106 f0
  replace f1 := shm_671 f1
  have cr_0_33 := fdq_116 hD hth r0
  have cr_0_34 := fdq_117 hD hth r0
  have cr_0_35 := fdq_131 hD hth r0
  have cr_0_36 := fdq_166 hD hth r0
  have cr_0_37 := fdq_167 hD hth r0
  have ad_8 : v_ad (n_v vs 8) = w_ar ws (n_v vs 0) 36 := congrArg v_ad f1
  simp only [ad_8] at f0
  have h0 : v_iv (n_v vs 9) = w_ei ws (w_ar ws (n_v vs 0) 36) (v_iv (n_v vs 1)) := f0
  have hK_0_33 := elq_57 hD hth cr_0_33
  have hK_0_34 := elq_58 hD hth cr_0_34
  have hK_0_35 := elq_69 hD hth cr_0_35
  have hK_0_36 := elq_94 hD hth cr_0_36
  have hK_0_37 := elq_95 hD hth cr_0_37
  have kz_0_31 := fdq_144 hD hth r0
  have kz_0_32 := fdq_139 hD hth r0
  have nf0 : fc_1 PRD (20, [0, 1, 2, 3, 9, 4, 5, 6, 7], [60, 2, 5, 257, 31, 32, 33, 34, 35, 36, 37]) ws (vs) := ⟨nf_in hl rfl, sgq_680 (vc_Mo_putAt_at_g3_0_0 (v_iv (n_v vs 1)) (v_iv (n_v vs 2)) (v_iv (n_v vs 3)) (v_iv (n_v vs 4)) (v_iv (n_v vs 5)) (v_iv (n_v vs 6)) (v_iv (n_v vs 7)) (v_iv (n_v vs 9)) (w_ei ws (w_ar ws (n_v vs 0) 36)) (w_ei ws (w_ar ws (n_v vs 0) 33)) (w_ei ws (w_ar ws (n_v vs 0) 34)) (w_ei ws (w_ar ws (n_v vs 0) 35)) (w_ei ws (w_ar ws (n_v vs 0) 37)) (w_fi ws (n_v vs 0) 31) (w_fi ws (n_v vs 0) 32) k1 k2 k3 k4 k5 k6 k7 k9 h0 (shm_679 f2) hK_0_33 hK_0_34 hK_0_35 hK_0_36 hK_0_37 kz_0_31 kz_0_32)⟩
  have nf1 : fc_1 PRD (24, [0, 0], []) ws (vs) := by
    refine ⟨nf_in hl rfl, sgq_1 ?_⟩
    · show n_v vs 0 = n_v vs 0
      first | rfl | simp only [true_and]
  have nf2 : fc_1 PRD (24, [1, 1], []) ws (vs) := by
    refine ⟨nf_in hl rfl, sgq_1 ?_⟩
    · show n_v vs 1 = n_v vs 1
      first | rfl | simp only [true_and]
  have nf3 : fc_1 PRD (24, [2, 2], []) ws (vs) := by
    refine ⟨nf_in hl rfl, sgq_1 ?_⟩
    · show n_v vs 2 = n_v vs 2
      first | rfl | simp only [true_and]
  refine ⟨(fun _ h => (by cases h)), [], trivial, ?_, (fun _ h => (by cases h))⟩
  rw [List.append_nil]
  exact List.forall_mem_cons.mpr ⟨⟨show (20 : Nat) < 100 from by decide, nf0⟩, List.forall_mem_cons.mpr ⟨⟨show (24 : Nat) < 100 from by decide, nf1⟩, List.forall_mem_cons.mpr ⟨⟨show (24 : Nat) < 100 from by decide, nf2⟩, List.forall_mem_cons.mpr ⟨⟨show (24 : Nat) < 100 from by decide, nf3⟩, (fun _ h => (by cases h))⟩⟩⟩⟩
set_option maxHeartbeats 4000000 in
theorem vc_Mo_putAt_at_g3_1_r0 (x1 : Int) (x2 : Int) (x4 : Int) (x5 : Int) (x6 : Int) (x7 : Int) (x9 : Int) (x10 : Int) (x11 : Int) (x12 : Int) (x14 : Int) (x15 : Int) (x16 : Int) (x18 : Int) (x19 : Int) (x20 : Int) (rotMany_0 : Int → Int) (pt_1 : Int → Int) (ph_1 : Int → Int) (alive_1 : Int → Int) (rotMany_1 : Int → Int) (rot_1 : Int → Int) (pn_1 : Int) (pm_1 : Int) (pn_0 : Int) (pm_0 : Int) (pt_0 : Int → Int) (ph_0 : Int → Int) (alive_0 : Int → Int) (rot_0 : Int → Int) (k1 : 0 ≤ x1 ∧ x1 ≤ 24) (k2 : 0 ≤ x2 ∧ x2 ≤ 79) (k4 : 0 ≤ x4 ∧ x4 ≤ 24) (k5 : 0 ≤ x5 ∧ x5 ≤ 24) (k6 : 0 ≤ x6 ∧ x6 ≤ 159) (k7 : 0 ≤ x7 ∧ x7 ≤ 159) (k9 : 0 ≤ x9 ∧ x9 ≤ 24) (k10 : 0 ≤ x10 ∧ x10 ≤ 79) (k11 : 0 ≤ x11 ∧ x11 ≤ 79) (k12 : 0 ≤ x12 ∧ x12 ≤ 79) (k14 : 80 ≤ x14 ∧ x14 ≤ 80) (k15 : 0 ≤ x15 ∧ x15 ≤ 1920) (k16 : 0 ≤ x16 ∧ x16 ≤ 1999) (k18 : 0 ≤ x18 ∧ x18 ≤ 80) (k19 : 1 ≤ x19 ∧ x19 ≤ 1) (k20 : 1 ≤ x20 ∧ x20 ≤ 81) (d0 : x18 + 1 ≤ x20 ∧ x20 ≤ x18 + 1) (d1 : x11 + 0 ≤ x16 ∧ x16 ≤ x11 + 1920) (d2 : x15 + 0 ≤ x16 ∧ x16 ≤ x15 + 79) (d3 : x11 + (-4294967296) ≤ x12 ∧ x12 ≤ x11 + 0) (d4 : x9 + (-4294967296) ≤ x1 ∧ x1 ≤ x9 + 0) (d5 : x10 + (-4294967296) ≤ x2 ∧ x2 ≤ x10 + 0) (d6 : x1 + (-4294967296) ≤ x9 ∧ x9 ≤ x1 + 0) (d7 : x2 + (-4294967296) ≤ x10 ∧ x10 ≤ x2 + 0) (f0 : x20 = x18 + x19) (h1 : x18 = rotMany_0 (x1)) (f7 : x16 = x15 + x11) (f8 : x15 = 80 * x1) (f10 : x12 ≤ x11) (f11 : PLc (pn_1) (pm_1) (pt_1) (ph_1) (alive_1) (rotMany_1) (rot_1) (x1) (x2) (x11) (x12) (x4) (x5) (x6) (x7)) (fe_0_31_1 : pn_0 = pn_1) (fe_0_32_1 : pm_0 = pm_1) (hE_0_33_1 : ∀ j : Int, pt_0 j = pt_1 j) (hK_0_33 : ∀ j : Int, 0 ≤ j → j < 80 → 0 ≤ pt_0 j ∧ pt_0 j ≤ 24) (hE_0_34_1 : ∀ j : Int, ph_0 j = ph_1 j) (hK_0_34 : ∀ j : Int, 0 ≤ j → j < 80 → 0 ≤ ph_0 j ∧ ph_0 j ≤ 24) (hE_0_35_1 : ∀ j : Int, alive_0 j = alive_1 j) (hK_0_35 : ∀ j : Int, 0 ≤ j → j < 80 → 0 ≤ alive_0 j ∧ alive_0 j ≤ 1) (hE_0_36_1 : ∀ j : Int, rotMany_0 j = rotMany_1 j) (hK_0_36 : ∀ j : Int, 0 ≤ j → j < 26 → 0 ≤ rotMany_0 j ∧ rotMany_0 j ≤ 80) (hE_0_37_1 : ∀ j : Int, 0 ≤ j → (j = x16 → rot_0 j = x2) ∧ (j ≠ x16 → rot_0 j = rot_1 j)) (hK_0_37 : ∀ j : Int, 0 ≤ j → j < 2080 → 0 ≤ rot_0 j ∧ rot_0 j ≤ 79) (kz_0_31 : 0 ≤ pn_0 ∧ pn_0 ≤ 25) (kz_0_32 : 0 ≤ pm_0 ∧ pm_0 ≤ 80) : 1 ≤ x20 ∧ x20 ≤ 80 := by
  subst fe_0_31_1
  subst fe_0_32_1
  have e_hE_0_33_1 := funext hE_0_33_1; subst e_hE_0_33_1
  have e_hE_0_34_1 := funext hE_0_34_1; subst e_hE_0_34_1
  have e_hE_0_35_1 := funext hE_0_35_1; subst e_hE_0_35_1
  have e_hE_0_36_1 := funext hE_0_36_1; subst e_hE_0_36_1
  first
    | omega
    | (have h := pax_len ‹PAa _ _ _ _ _ _ _ _ _ _ _›; omega)
    | (have h := pax_len ‹PAb _ _ _ _ _ _ _ _ _ _ _›; omega)
    | (have h := pax_len ‹PAc _ _ _ _ _ _ _ _ _ _ _ _ _ _›; omega)
    | (have h := pax_len ‹PAd _ _ _ _ _ _ _ _ _ _ _ _ _ _›; omega)
    | (have h := pal_len ‹PLa _ _ _ _ _ _ _ _ _ _ _ _›; omega)
    | (have h := pal_len ‹PLb _ _ _ _ _ _ _ _ _ _ _ _›; omega)
    | (have h := pal_len ‹PLc _ _ _ _ _ _ _ _ _ _ _ _ _ _ _›; omega)
    | (have h := pal_len ‹PLd _ _ _ _ _ _ _ _ _ _ _ _ _ _ _›; omega)
def o_Mo_putAt_at_g3_1 : or_T := (67, 21, [(0, (2, 0, 0, [165])), (1, (0, 0, 24, [])), (2, (0, 0, 79, [])), (4, (0, 0, 24, [])), (5, (0, 0, 24, [])), (6, (0, 0, 159, [])), (7, (0, 0, 159, [])), (8, (2, 0, 0, [165])), (9, (0, 0, 24, [])), (10, (0, 0, 79, [])), (11, (0, 0, 79, [])), (12, (0, 0, 79, [])), (13, (2, 0, 0, [184])), (14, (0, 80, 80, [])), (15, (0, 0, 1920, [])), (16, (0, 0, 1999, [])), (17, (2, 0, 0, [183])), (18, (0, 0, 80, [])), (19, (0, 1, 1, [])), (20, (0, 1, 81, []))], [(1, [20, 18, 19], []), (10, [18, 17, 9], []), (9, [17, 8], [36]), (24, [0, 8], []), (24, [1, 9], []), (24, [2, 10], []), (100, [13, 16, 10], []), (1, [16, 15, 11], []), (3, [15, 14, 9], []), (9, [13, 8], [37]), (7, [12, 11], [5]), (20, [8, 9, 10, 11, 12, 4, 5, 6, 7], [60, 2, 5, 257, 31, 32, 33, 34, 35, 36, 37])], [(20, (0, 1, 80, []))], [], [], [], [(20, 18, 1, 1), (16, 11, 0, 1920), (16, 15, 0, 79), (12, 11, -4294967296, 0), (1, 9, -4294967296, 0), (2, 10, -4294967296, 0), (9, 1, -4294967296, 0), (10, 2, -4294967296, 0)])
theorem oo_Mo_putAt_at_g3_1 {kA : Nat → ClassId} : or_ok PRD kA GG o_Mo_putAt_at_g3_1 := by
  refine or_mk fun A ta ws vs hD hth hl => ?_
  intro t0 r0 t1 k1 t2 k2 t4 k4 t5 k5 t6 k6 t7 k7 t8 r8 t9 k9 t10 k10 t11 k11 t12 k12 t13 r13 t14 k14 t15 k15 t16 k16 t17 r17 t18 k18 t19 k19 t20 k20 d0 d1 d2 d3 d4 d5 d6 d7 f0 f1 f2 f3 f4 f5 ta1 w1 le1 s1 f7 f8 f9 f10 f11
  replace f1 := shm_106 f1
  replace f2 := shm_671 f2
  replace f3 := shm_5 f3
  replace f4 := shm_5 f4
  replace f5 := shm_5 f5
  have s1 : (∀ b j, w_el ws b j = if b = v_ad (n_v vs 13) ∧ j = (v_iv (n_v vs 16)).toNat then v_iv (n_v vs 10) else w_el w1 b j) ∧ ∀ b k, w_fd ws b k = w_fd w1 b k := s1.2
  replace f8 := shm_38 f8
  rw [show v_iv (n_v vs 14) = 80 from by omega] at f8
  replace f9 := shm_674 f9
  replace f11 := shm_680 f11
  have q8 : n_v vs 8 = n_v vs 0 := f3.symm
  have q9 : n_v vs 9 = n_v vs 1 := f4.symm
  have q10 : n_v vs 10 = n_v vs 2 := f5.symm
  simp only [q9, q8] at f1 f2
  rw [q10] at s1
  simp only [q9, q8, q10] at f8 f9 f11
  have ar_0_33_1 : w_ar w1 (n_v vs 0) 33 = w_ar ws (n_v vs 0) 33 := congrArg v_ad (s1.2 _ _).symm
  have cr_0_33 := fdq_116 hD hth r0
  have ar_0_34_1 : w_ar w1 (n_v vs 0) 34 = w_ar ws (n_v vs 0) 34 := congrArg v_ad (s1.2 _ _).symm
  have cr_0_34 := fdq_117 hD hth r0
  have ar_0_35_1 : w_ar w1 (n_v vs 0) 35 = w_ar ws (n_v vs 0) 35 := congrArg v_ad (s1.2 _ _).symm
  have cr_0_35 := fdq_131 hD hth r0
  have ar_0_36_1 : w_ar w1 (n_v vs 0) 36 = w_ar ws (n_v vs 0) 36 := congrArg v_ad (s1.2 _ _).symm
  have cr_0_36 := fdq_166 hD hth r0
  have ar_0_37_1 : w_ar w1 (n_v vs 0) 37 = w_ar ws (n_v vs 0) 37 := congrArg v_ad (s1.2 _ _).symm
  have cr_0_37 := fdq_167 hD hth r0
  have ad_17 : v_ad (n_v vs 17) = w_ar ws (n_v vs 0) 36 := congrArg v_ad f2
  have ad_13 : v_ad (n_v vs 13) = w_ar ws (n_v vs 0) 37 := (congrArg v_ad f9).trans ar_0_37_1
  simp only [ad_17] at f1
  have h1 : v_iv (n_v vs 18) = w_ei ws (w_ar ws (n_v vs 0) 36) (v_iv (n_v vs 1)) := f1
  simp only [ar_0_33_1, ar_0_34_1, ar_0_35_1, ar_0_36_1, ar_0_37_1] at f11
  have fe_0_31_1 : w_fi ws (n_v vs 0) 31 = w_fi w1 (n_v vs 0) 31 := congrArg v_iv (s1.2 _ _)
  have fe_0_32_1 : w_fi ws (n_v vs 0) 32 = w_fi w1 (n_v vs 0) 32 := congrArg v_iv (s1.2 _ _)
  have hE_0_33_1 : ∀ j : Int, w_ei ws (w_ar ws (n_v vs 0) 33) j = w_ei w1 (w_ar ws (n_v vs 0) 33) j := el_kp s1.1 r13 cr_0_33 (by decide)
  have hK_0_33 := elq_57 hD hth cr_0_33
  have hE_0_34_1 : ∀ j : Int, w_ei ws (w_ar ws (n_v vs 0) 34) j = w_ei w1 (w_ar ws (n_v vs 0) 34) j := el_kp s1.1 r13 cr_0_34 (by decide)
  have hK_0_34 := elq_58 hD hth cr_0_34
  have hE_0_35_1 : ∀ j : Int, w_ei ws (w_ar ws (n_v vs 0) 35) j = w_ei w1 (w_ar ws (n_v vs 0) 35) j := el_kp s1.1 r13 cr_0_35 (by decide)
  have hK_0_35 := elq_69 hD hth cr_0_35
  have hE_0_36_1 : ∀ j : Int, w_ei ws (w_ar ws (n_v vs 0) 36) j = w_ei w1 (w_ar ws (n_v vs 0) 36) j := el_kp s1.1 r13 cr_0_36 (by decide)
  have hK_0_36 := elq_94 hD hth cr_0_36
  have hE_0_37_1 : ∀ j : Int, 0 ≤ j → (j = v_iv (n_v vs 16) → w_ei ws (w_ar ws (n_v vs 0) 37) j = v_iv (n_v vs 2)) ∧ (j ≠ v_iv (n_v vs 16) → w_ei ws (w_ar ws (n_v vs 0) 37) j = w_ei w1 (w_ar ws (n_v vs 0) 37) j) := fun j hj => ⟨fun h => by unfold w_ei; rw [s1.1, if_pos ⟨ad_13.symm, by rw [h]⟩], fun h => by unfold w_ei; rw [s1.1, if_neg (fun e => h (by have := e.2; omega))]⟩
  have hK_0_37 := elq_95 hD hth cr_0_37
  have kz_0_31 := fdq_144 hD hth r0
  have kz_0_32 := fdq_139 hD hth r0
  have hrf0 : 1 ≤ v_iv (n_v vs 20) ∧ v_iv (n_v vs 20) ≤ 80 := vc_Mo_putAt_at_g3_1_r0 (v_iv (n_v vs 1)) (v_iv (n_v vs 2)) (v_iv (n_v vs 4)) (v_iv (n_v vs 5)) (v_iv (n_v vs 6)) (v_iv (n_v vs 7)) (v_iv (n_v vs 9)) (v_iv (n_v vs 10)) (v_iv (n_v vs 11)) (v_iv (n_v vs 12)) (v_iv (n_v vs 14)) (v_iv (n_v vs 15)) (v_iv (n_v vs 16)) (v_iv (n_v vs 18)) (v_iv (n_v vs 19)) (v_iv (n_v vs 20)) (w_ei ws (w_ar ws (n_v vs 0) 36)) (w_ei w1 (w_ar ws (n_v vs 0) 33)) (w_ei w1 (w_ar ws (n_v vs 0) 34)) (w_ei w1 (w_ar ws (n_v vs 0) 35)) (w_ei w1 (w_ar ws (n_v vs 0) 36)) (w_ei w1 (w_ar ws (n_v vs 0) 37)) (w_fi w1 (n_v vs 0) 31) (w_fi w1 (n_v vs 0) 32) (w_fi ws (n_v vs 0) 31) (w_fi ws (n_v vs 0) 32) (w_ei ws (w_ar ws (n_v vs 0) 33)) (w_ei ws (w_ar ws (n_v vs 0) 34)) (w_ei ws (w_ar ws (n_v vs 0) 35)) (w_ei ws (w_ar ws (n_v vs 0) 37)) k1 k2 k4 k5 k6 k7 k9 k10 k11 k12 k14 k15 k16 k18 k19 k20 d0 d1 d2 d3 d4 d5 d6 d7 (shm_12 f0) h1 (shm_12 f7) f8 (shm_24 f10) f11 fe_0_31_1 fe_0_32_1 hE_0_33_1 hK_0_33 hE_0_34_1 hK_0_34 hE_0_35_1 hK_0_35 hE_0_36_1 hK_0_36 hE_0_37_1 hK_0_37 kz_0_31 kz_0_32
  have rf20 : tv_ok ta (0, 1, 80, []) (n_v vs 20) := tv_in t20 (by first | omega | grind) (by first | omega | grind)
  refine ⟨List.forall_mem_cons.mpr ⟨rf20, (fun _ h => (by cases h))⟩, [], trivial, ?_, (fun _ h => (by cases h))⟩
  rw [List.append_nil]
  exact (fun _ h => (by cases h))
set_option maxHeartbeats 4000000 in
theorem vc_Mo_putAt_at_g3_2_0 (x1 : Int) (x2 : Int) (x4 : Int) (x5 : Int) (x6 : Int) (x7 : Int) (x9 : Int) (x10 : Int) (x11 : Int) (x12 : Int) (x14 : Int) (x15 : Int) (x16 : Int) (x18 : Int) (x19 : Int) (x20 : Int) (rotMany_1 : Int → Int) (pt_2 : Int → Int) (ph_2 : Int → Int) (alive_2 : Int → Int) (rotMany_2 : Int → Int) (rot_2 : Int → Int) (pn_2 : Int) (pm_2 : Int) (pn_0 : Int) (pn_1 : Int) (pm_0 : Int) (pm_1 : Int) (pt_0 : Int → Int) (pt_1 : Int → Int) (ph_0 : Int → Int) (ph_1 : Int → Int) (alive_0 : Int → Int) (alive_1 : Int → Int) (rotMany_0 : Int → Int) (rot_0 : Int → Int) (rot_1 : Int → Int) (k1 : 0 ≤ x1 ∧ x1 ≤ 24) (k2 : 0 ≤ x2 ∧ x2 ≤ 79) (k4 : 0 ≤ x4 ∧ x4 ≤ 24) (k5 : 0 ≤ x5 ∧ x5 ≤ 24) (k6 : 0 ≤ x6 ∧ x6 ≤ 159) (k7 : 0 ≤ x7 ∧ x7 ≤ 159) (k9 : 0 ≤ x9 ∧ x9 ≤ 24) (k10 : 0 ≤ x10 ∧ x10 ≤ 79) (k11 : 0 ≤ x11 ∧ x11 ≤ 79) (k12 : 0 ≤ x12 ∧ x12 ≤ 79) (k14 : 80 ≤ x14 ∧ x14 ≤ 80) (k15 : 0 ≤ x15 ∧ x15 ≤ 1920) (k16 : 0 ≤ x16 ∧ x16 ≤ 1999) (k18 : 0 ≤ x18 ∧ x18 ≤ 80) (k19 : 1 ≤ x19 ∧ x19 ≤ 1) (k20 : 1 ≤ x20 ∧ x20 ≤ 80) (d0 : x18 + 1 ≤ x20 ∧ x20 ≤ x18 + 1) (d1 : x11 + 0 ≤ x16 ∧ x16 ≤ x11 + 1920) (d2 : x15 + 0 ≤ x16 ∧ x16 ≤ x15 + 79) (d3 : x11 + (-4294967296) ≤ x12 ∧ x12 ≤ x11 + 0) (d4 : x9 + (-4294967296) ≤ x1 ∧ x1 ≤ x9 + 0) (d5 : x10 + (-4294967296) ≤ x2 ∧ x2 ≤ x10 + 0) (d6 : x1 + (-4294967296) ≤ x9 ∧ x9 ≤ x1 + 0) (d7 : x2 + (-4294967296) ≤ x10 ∧ x10 ≤ x2 + 0) (f4 : x20 = x18 + x19) (h5 : x18 = rotMany_1 (x1)) (f8 : x16 = x15 + x11) (f9 : x15 = 80 * x1) (f11 : x12 ≤ x11) (f12 : PLc (pn_2) (pm_2) (pt_2) (ph_2) (alive_2) (rotMany_2) (rot_2) (x1) (x2) (x11) (x12) (x4) (x5) (x6) (x7)) (fe_0_31_1 : pn_0 = pn_1) (fe_0_32_1 : pm_0 = pm_1) (fe_0_31_2 : pn_1 = pn_2) (fe_0_32_2 : pm_1 = pm_2) (hE_0_33_1 : ∀ j : Int, pt_0 j = pt_1 j) (hE_0_33_2 : ∀ j : Int, pt_1 j = pt_2 j) (hK_0_33 : ∀ j : Int, 0 ≤ j → j < 80 → 0 ≤ pt_0 j ∧ pt_0 j ≤ 24) (hE_0_34_1 : ∀ j : Int, ph_0 j = ph_1 j) (hE_0_34_2 : ∀ j : Int, ph_1 j = ph_2 j) (hK_0_34 : ∀ j : Int, 0 ≤ j → j < 80 → 0 ≤ ph_0 j ∧ ph_0 j ≤ 24) (hE_0_35_1 : ∀ j : Int, alive_0 j = alive_1 j) (hE_0_35_2 : ∀ j : Int, alive_1 j = alive_2 j) (hK_0_35 : ∀ j : Int, 0 ≤ j → j < 80 → 0 ≤ alive_0 j ∧ alive_0 j ≤ 1) (hE_0_36_1 : ∀ j : Int, 0 ≤ j → (j = x1 → rotMany_0 j = x20) ∧ (j ≠ x1 → rotMany_0 j = rotMany_1 j)) (hE_0_36_2 : ∀ j : Int, rotMany_1 j = rotMany_2 j) (hK_0_36 : ∀ j : Int, 0 ≤ j → j < 26 → 0 ≤ rotMany_0 j ∧ rotMany_0 j ≤ 80) (hE_0_37_1 : ∀ j : Int, rot_0 j = rot_1 j) (hE_0_37_2 : ∀ j : Int, 0 ≤ j → (j = x16 → rot_1 j = x2) ∧ (j ≠ x16 → rot_1 j = rot_2 j)) (hK_0_37 : ∀ j : Int, 0 ≤ j → j < 2080 → 0 ≤ rot_0 j ∧ rot_0 j ≤ 79) (kz_0_31 : 0 ≤ pn_0 ∧ pn_0 ≤ 25) (kz_0_32 : 0 ≤ pm_0 ∧ pm_0 ≤ 80) : PUd (pn_0) (pm_0) (pt_0) (ph_0) (alive_0) (rotMany_0) (rot_0) (x4) (x5) (x6) (x7) (x2) := by
  subst fe_0_31_1
  subst fe_0_32_1
  subst fe_0_31_2
  subst fe_0_32_2
  have e_hE_0_33_1 := funext hE_0_33_1; subst e_hE_0_33_1
  have e_hE_0_33_2 := funext hE_0_33_2; subst e_hE_0_33_2
  have e_hE_0_34_1 := funext hE_0_34_1; subst e_hE_0_34_1
  have e_hE_0_34_2 := funext hE_0_34_2; subst e_hE_0_34_2
  have e_hE_0_35_1 := funext hE_0_35_1; subst e_hE_0_35_1
  have e_hE_0_35_2 := funext hE_0_35_2; subst e_hE_0_35_2
  have e_hE_0_36_2 := funext hE_0_36_2; subst e_hE_0_36_2
  have e_hE_0_37_1 := funext hE_0_37_1; subst e_hE_0_37_1
  exact pal_end ‹PLc _ _ _ _ _ _ _ _ _ _ _ _ _ _ _› (by omega) (by assumption) (by omega) (by omega) (by assumption) (by omega) (by omega)
def o_Mo_putAt_at_g3_2 : or_T := (68, 21, [(0, (2, 0, 0, [165])), (1, (0, 0, 24, [])), (2, (0, 0, 79, [])), (4, (0, 0, 24, [])), (5, (0, 0, 24, [])), (6, (0, 0, 159, [])), (7, (0, 0, 159, [])), (9, (0, 0, 24, [])), (10, (0, 0, 79, [])), (11, (0, 0, 79, [])), (12, (0, 0, 79, [])), (13, (2, 0, 0, [184])), (14, (0, 80, 80, [])), (15, (0, 0, 1920, [])), (16, (0, 0, 1999, [])), (17, (2, 0, 0, [183])), (18, (0, 0, 80, [])), (19, (0, 1, 1, [])), (20, (0, 1, 80, []))], [(24, [0, 8], []), (24, [1, 9], []), (24, [2, 10], []), (100, [17, 9, 20], []), (1, [20, 18, 19], []), (10, [18, 17, 9], []), (9, [17, 8], [36]), (100, [13, 16, 10], []), (1, [16, 15, 11], []), (3, [15, 14, 9], []), (9, [13, 8], [37]), (7, [12, 11], [5]), (20, [8, 9, 10, 11, 12, 4, 5, 6, 7], [60, 2, 5, 257, 31, 32, 33, 34, 35, 36, 37])], [], [], [(20, [0, 4, 5, 6, 7, 2], [60, 2, 5, 250, 31, 32, 33, 34, 35, 36, 37])], [], [(20, 18, 1, 1), (16, 11, 0, 1920), (16, 15, 0, 79), (12, 11, -4294967296, 0), (1, 9, -4294967296, 0), (2, 10, -4294967296, 0), (9, 1, -4294967296, 0), (10, 2, -4294967296, 0)])
theorem oo_Mo_putAt_at_g3_2 {kA : Nat → ClassId} : or_ok PRD kA GG o_Mo_putAt_at_g3_2 := by
  refine or_mk fun A ta ws vs hD hth hl => ?_
  intro t0 r0 t1 k1 t2 k2 t4 k4 t5 k5 t6 k6 t7 k7 t9 k9 t10 k10 t11 k11 t12 k12 t13 r13 t14 k14 t15 k15 t16 k16 t17 r17 t18 k18 t19 k19 t20 k20 d0 d1 d2 d3 d4 d5 d6 d7 f0 f1 f2 ta1 w1 le1 s1 f4 f5 f6 ta2 w2 le2 s2 f8 f9 f10 f11 f12
  replace f0 := shm_5 f0
  replace f1 := shm_5 f1
  replace f2 := shm_5 f2
  have s1 : (∀ b j, w_el ws b j = if b = v_ad (n_v vs 17) ∧ j = (v_iv (n_v vs 9)).toNat then v_iv (n_v vs 20) else w_el w1 b j) ∧ ∀ b k, w_fd ws b k = w_fd w1 b k := s1.2
  replace f5 := shm_106 f5
  replace f6 := shm_671 f6
  have s2 : (∀ b j, w_el w1 b j = if b = v_ad (n_v vs 13) ∧ j = (v_iv (n_v vs 16)).toNat then v_iv (n_v vs 10) else w_el w2 b j) ∧ ∀ b k, w_fd w1 b k = w_fd w2 b k := s2.2
  replace f9 := shm_38 f9
  rw [show v_iv (n_v vs 14) = 80 from by omega] at f9
  replace f10 := shm_674 f10
  replace f12 := shm_680 f12
  have q8 : n_v vs 8 = n_v vs 0 := f0.symm
  have q9 : n_v vs 9 = n_v vs 1 := f1.symm
  have q10 : n_v vs 10 = n_v vs 2 := f2.symm
  rw [q9] at s1
  simp only [q9, q8] at f5 f6
  rw [q10] at s2
  simp only [q9, q8, q10] at f9 f10 f12
  have ar_0_33_1 : w_ar w1 (n_v vs 0) 33 = w_ar ws (n_v vs 0) 33 := congrArg v_ad (s1.2 _ _).symm
  have ar_0_33_2 : w_ar w2 (n_v vs 0) 33 = w_ar ws (n_v vs 0) 33 := by rw [← ar_0_33_1]; show v_ad (w_fd w2 _ _) = v_ad (w_fd w1 _ _); rw [s2.2]
  have cr_0_33 := fdq_116 hD hth r0
  have ar_0_34_1 : w_ar w1 (n_v vs 0) 34 = w_ar ws (n_v vs 0) 34 := congrArg v_ad (s1.2 _ _).symm
  have ar_0_34_2 : w_ar w2 (n_v vs 0) 34 = w_ar ws (n_v vs 0) 34 := by rw [← ar_0_34_1]; show v_ad (w_fd w2 _ _) = v_ad (w_fd w1 _ _); rw [s2.2]
  have cr_0_34 := fdq_117 hD hth r0
  have ar_0_35_1 : w_ar w1 (n_v vs 0) 35 = w_ar ws (n_v vs 0) 35 := congrArg v_ad (s1.2 _ _).symm
  have ar_0_35_2 : w_ar w2 (n_v vs 0) 35 = w_ar ws (n_v vs 0) 35 := by rw [← ar_0_35_1]; show v_ad (w_fd w2 _ _) = v_ad (w_fd w1 _ _); rw [s2.2]
  have cr_0_35 := fdq_131 hD hth r0
  have ar_0_36_1 : w_ar w1 (n_v vs 0) 36 = w_ar ws (n_v vs 0) 36 := congrArg v_ad (s1.2 _ _).symm
  have ar_0_36_2 : w_ar w2 (n_v vs 0) 36 = w_ar ws (n_v vs 0) 36 := by rw [← ar_0_36_1]; show v_ad (w_fd w2 _ _) = v_ad (w_fd w1 _ _); rw [s2.2]
  have cr_0_36 := fdq_166 hD hth r0
  have ar_0_37_1 : w_ar w1 (n_v vs 0) 37 = w_ar ws (n_v vs 0) 37 := congrArg v_ad (s1.2 _ _).symm
  have ar_0_37_2 : w_ar w2 (n_v vs 0) 37 = w_ar ws (n_v vs 0) 37 := by rw [← ar_0_37_1]; show v_ad (w_fd w2 _ _) = v_ad (w_fd w1 _ _); rw [s2.2]
  have cr_0_37 := fdq_167 hD hth r0
  have ad_17 : v_ad (n_v vs 17) = w_ar ws (n_v vs 0) 36 := (congrArg v_ad f6).trans ar_0_36_1
  have ad_13 : v_ad (n_v vs 13) = w_ar ws (n_v vs 0) 37 := (congrArg v_ad f10).trans ar_0_37_2
  simp only [ad_17] at f5
  have h5 : v_iv (n_v vs 18) = w_ei w1 (w_ar ws (n_v vs 0) 36) (v_iv (n_v vs 1)) := f5
  simp only [ar_0_33_2, ar_0_34_2, ar_0_35_2, ar_0_36_2, ar_0_37_2] at f12
  have fe_0_31_1 : w_fi ws (n_v vs 0) 31 = w_fi w1 (n_v vs 0) 31 := congrArg v_iv (s1.2 _ _)
  have fe_0_32_1 : w_fi ws (n_v vs 0) 32 = w_fi w1 (n_v vs 0) 32 := congrArg v_iv (s1.2 _ _)
  have fe_0_31_2 : w_fi w1 (n_v vs 0) 31 = w_fi w2 (n_v vs 0) 31 := congrArg v_iv (s2.2 _ _)
  have fe_0_32_2 : w_fi w1 (n_v vs 0) 32 = w_fi w2 (n_v vs 0) 32 := congrArg v_iv (s2.2 _ _)
  have hE_0_33_1 : ∀ j : Int, w_ei ws (w_ar ws (n_v vs 0) 33) j = w_ei w1 (w_ar ws (n_v vs 0) 33) j := el_kp s1.1 r17 cr_0_33 (by decide)
  have hE_0_33_2 : ∀ j : Int, w_ei w1 (w_ar ws (n_v vs 0) 33) j = w_ei w2 (w_ar ws (n_v vs 0) 33) j := el_kp s2.1 r13 cr_0_33 (by decide)
  have hK_0_33 := elq_57 hD hth cr_0_33
  have hE_0_34_1 : ∀ j : Int, w_ei ws (w_ar ws (n_v vs 0) 34) j = w_ei w1 (w_ar ws (n_v vs 0) 34) j := el_kp s1.1 r17 cr_0_34 (by decide)
  have hE_0_34_2 : ∀ j : Int, w_ei w1 (w_ar ws (n_v vs 0) 34) j = w_ei w2 (w_ar ws (n_v vs 0) 34) j := el_kp s2.1 r13 cr_0_34 (by decide)
  have hK_0_34 := elq_58 hD hth cr_0_34
  have hE_0_35_1 : ∀ j : Int, w_ei ws (w_ar ws (n_v vs 0) 35) j = w_ei w1 (w_ar ws (n_v vs 0) 35) j := el_kp s1.1 r17 cr_0_35 (by decide)
  have hE_0_35_2 : ∀ j : Int, w_ei w1 (w_ar ws (n_v vs 0) 35) j = w_ei w2 (w_ar ws (n_v vs 0) 35) j := el_kp s2.1 r13 cr_0_35 (by decide)
  have hK_0_35 := elq_69 hD hth cr_0_35
  have hE_0_36_1 : ∀ j : Int, 0 ≤ j → (j = v_iv (n_v vs 1) → w_ei ws (w_ar ws (n_v vs 0) 36) j = v_iv (n_v vs 20)) ∧ (j ≠ v_iv (n_v vs 1) → w_ei ws (w_ar ws (n_v vs 0) 36) j = w_ei w1 (w_ar ws (n_v vs 0) 36) j) := fun j hj => ⟨fun h => by unfold w_ei; rw [s1.1, if_pos ⟨ad_17.symm, by rw [h]⟩], fun h => by unfold w_ei; rw [s1.1, if_neg (fun e => h (by have := e.2; omega))]⟩
  have hE_0_36_2 : ∀ j : Int, w_ei w1 (w_ar ws (n_v vs 0) 36) j = w_ei w2 (w_ar ws (n_v vs 0) 36) j := el_kp s2.1 r13 cr_0_36 (by decide)
  have hK_0_36 := elq_94 hD hth cr_0_36
  have hE_0_37_1 : ∀ j : Int, w_ei ws (w_ar ws (n_v vs 0) 37) j = w_ei w1 (w_ar ws (n_v vs 0) 37) j := el_kp s1.1 r17 cr_0_37 (by decide)
  have hE_0_37_2 : ∀ j : Int, 0 ≤ j → (j = v_iv (n_v vs 16) → w_ei w1 (w_ar ws (n_v vs 0) 37) j = v_iv (n_v vs 2)) ∧ (j ≠ v_iv (n_v vs 16) → w_ei w1 (w_ar ws (n_v vs 0) 37) j = w_ei w2 (w_ar ws (n_v vs 0) 37) j) := fun j hj => ⟨fun h => by unfold w_ei; rw [s2.1, if_pos ⟨ad_13.symm, by rw [h]⟩], fun h => by unfold w_ei; rw [s2.1, if_neg (fun e => h (by have := e.2; omega))]⟩
  have hK_0_37 := elq_95 hD hth cr_0_37
  have kz_0_31 := fdq_144 hD hth r0
  have kz_0_32 := fdq_139 hD hth r0
  have nf0 : fc_1 PRD (20, [0, 4, 5, 6, 7, 2], [60, 2, 5, 250, 31, 32, 33, 34, 35, 36, 37]) ws (vs) := ⟨nf_in hl rfl, sgq_681 (vc_Mo_putAt_at_g3_2_0 (v_iv (n_v vs 1)) (v_iv (n_v vs 2)) (v_iv (n_v vs 4)) (v_iv (n_v vs 5)) (v_iv (n_v vs 6)) (v_iv (n_v vs 7)) (v_iv (n_v vs 9)) (v_iv (n_v vs 10)) (v_iv (n_v vs 11)) (v_iv (n_v vs 12)) (v_iv (n_v vs 14)) (v_iv (n_v vs 15)) (v_iv (n_v vs 16)) (v_iv (n_v vs 18)) (v_iv (n_v vs 19)) (v_iv (n_v vs 20)) (w_ei w1 (w_ar ws (n_v vs 0) 36)) (w_ei w2 (w_ar ws (n_v vs 0) 33)) (w_ei w2 (w_ar ws (n_v vs 0) 34)) (w_ei w2 (w_ar ws (n_v vs 0) 35)) (w_ei w2 (w_ar ws (n_v vs 0) 36)) (w_ei w2 (w_ar ws (n_v vs 0) 37)) (w_fi w2 (n_v vs 0) 31) (w_fi w2 (n_v vs 0) 32) (w_fi ws (n_v vs 0) 31) (w_fi w1 (n_v vs 0) 31) (w_fi ws (n_v vs 0) 32) (w_fi w1 (n_v vs 0) 32) (w_ei ws (w_ar ws (n_v vs 0) 33)) (w_ei w1 (w_ar ws (n_v vs 0) 33)) (w_ei ws (w_ar ws (n_v vs 0) 34)) (w_ei w1 (w_ar ws (n_v vs 0) 34)) (w_ei ws (w_ar ws (n_v vs 0) 35)) (w_ei w1 (w_ar ws (n_v vs 0) 35)) (w_ei ws (w_ar ws (n_v vs 0) 36)) (w_ei ws (w_ar ws (n_v vs 0) 37)) (w_ei w1 (w_ar ws (n_v vs 0) 37)) k1 k2 k4 k5 k6 k7 k9 k10 k11 k12 k14 k15 k16 k18 k19 k20 d0 d1 d2 d3 d4 d5 d6 d7 (shm_12 f4) h5 (shm_12 f8) f9 (shm_24 f11) f12 fe_0_31_1 fe_0_32_1 fe_0_31_2 fe_0_32_2 hE_0_33_1 hE_0_33_2 hK_0_33 hE_0_34_1 hE_0_34_2 hK_0_34 hE_0_35_1 hE_0_35_2 hK_0_35 hE_0_36_1 hE_0_36_2 hK_0_36 hE_0_37_1 hE_0_37_2 hK_0_37 kz_0_31 kz_0_32)⟩
  refine ⟨(fun _ h => (by cases h)), [], trivial, ?_, (fun _ h => (by cases h))⟩
  rw [List.append_nil]
  exact List.forall_mem_cons.mpr ⟨⟨show (20 : Nat) < 100 from by decide, nf0⟩, (fun _ h => (by cases h))⟩
set_option maxHeartbeats 4000000 in
theorem vc_Mo_putAt_at_g3_3_0 (x1 : Int) (x2 : Int) (x4 : Int) (x5 : Int) (x6 : Int) (x7 : Int) (x9 : Int) (x10 : Int) (x11 : Int) (x12 : Int) (x14 : Int) (x15 : Int) (x16 : Int) (x17 : Int) (x18 : Int) (x19 : Int) (x20 : Int) (x21 : Int) (x22 : Int) (x23 : Int) (rot_1 : Int → Int) (pt_1 : Int → Int) (ph_1 : Int → Int) (alive_1 : Int → Int) (rotMany_1 : Int → Int) (pn_1 : Int) (pm_1 : Int) (pn_0 : Int) (pm_0 : Int) (pt_0 : Int → Int) (ph_0 : Int → Int) (alive_0 : Int → Int) (rotMany_0 : Int → Int) (rot_0 : Int → Int) (k1 : 0 ≤ x1 ∧ x1 ≤ 24) (k2 : 0 ≤ x2 ∧ x2 ≤ 79) (k4 : 0 ≤ x4 ∧ x4 ≤ 24) (k5 : 0 ≤ x5 ∧ x5 ≤ 24) (k6 : 0 ≤ x6 ∧ x6 ≤ 159) (k7 : 0 ≤ x7 ∧ x7 ≤ 159) (k9 : 0 ≤ x9 ∧ x9 ≤ 24) (k10 : 0 ≤ x10 ∧ x10 ≤ 79) (k11 : 0 ≤ x11 ∧ x11 ≤ 79) (k12 : 1 ≤ x12 ∧ x12 ≤ 80) (k14 : 80 ≤ x14 ∧ x14 ≤ 80) (k15 : 0 ≤ x15 ∧ x15 ≤ 1920) (k16 : 1 ≤ x16 ∧ x16 ≤ 2000) (k17 : 80 ≤ x17 ∧ x17 ≤ 80) (k18 : 0 ≤ x18 ∧ x18 ≤ 1920) (k19 : 1 ≤ x19 ∧ x19 ≤ 2000) (k20 : 1 ≤ x20 ∧ x20 ≤ 1) (k21 : 0 ≤ x21 ∧ x21 ≤ 1999) (k22 : 0 ≤ x22 ∧ x22 ≤ 79) (k23 : 0 ≤ x23 ∧ x23 ≤ 79) (d0 : x12 + (-1) ≤ x23 ∧ x23 ≤ x12 + (-1)) (d1 : x11 + 0 ≤ x23 ∧ x23 ≤ x11 + 4294967296) (d2 : x19 + (-1) ≤ x21 ∧ x21 ≤ x19 + (-1)) (d3 : x12 + (-1) ≤ x21 ∧ x21 ≤ x12 + 1919) (d4 : x11 + 0 ≤ x21 ∧ x21 ≤ x11 + 4294967296) (d5 : x18 + 0 ≤ x21 ∧ x21 ≤ x18 + 79) (d6 : x12 + 0 ≤ x19 ∧ x19 ≤ x12 + 1920) (d7 : x11 + 1 ≤ x19 ∧ x19 ≤ x11 + 4294967296) (d8 : x18 + 1 ≤ x19 ∧ x19 ≤ x18 + 80) (d9 : x12 + 0 ≤ x16 ∧ x16 ≤ x12 + 1920) (d10 : x11 + 1 ≤ x16 ∧ x16 ≤ x11 + 4294967296) (d11 : x15 + 1 ≤ x16 ∧ x16 ≤ x15 + 80) (d12 : x11 + 1 ≤ x12 ∧ x12 ≤ x11 + 4294967296) (d13 : x9 + (-4294967296) ≤ x1 ∧ x1 ≤ x9 + 0) (d14 : x10 + (-4294967296) ≤ x2 ∧ x2 ≤ x10 + 0) (d15 : x1 + (-4294967296) ≤ x9 ∧ x9 ≤ x1 + 0) (d16 : x2 + (-4294967296) ≤ x10 ∧ x10 ≤ x2 + 0) (f0 : x23 = x12 + (-1)) (h5 : x22 = rot_1 (x21)) (f6 : x21 = x19 - x20) (f7 : x19 = x18 + x12) (f8 : x18 = 80 * x1) (f10 : x16 = x15 + x12) (f11 : x15 = 80 * x1) (f12 : x11 < x12) (f13 : PLc (pn_1) (pm_1) (pt_1) (ph_1) (alive_1) (rotMany_1) (rot_1) (x1) (x2) (x11) (x12) (x4) (x5) (x6) (x7)) (fe_0_31_1 : pn_0 = pn_1) (fe_0_32_1 : pm_0 = pm_1) (hE_0_33_1 : ∀ j : Int, pt_0 j = pt_1 j) (hK_0_33 : ∀ j : Int, 0 ≤ j → j < 80 → 0 ≤ pt_0 j ∧ pt_0 j ≤ 24) (hE_0_34_1 : ∀ j : Int, ph_0 j = ph_1 j) (hK_0_34 : ∀ j : Int, 0 ≤ j → j < 80 → 0 ≤ ph_0 j ∧ ph_0 j ≤ 24) (hE_0_35_1 : ∀ j : Int, alive_0 j = alive_1 j) (hK_0_35 : ∀ j : Int, 0 ≤ j → j < 80 → 0 ≤ alive_0 j ∧ alive_0 j ≤ 1) (hE_0_36_1 : ∀ j : Int, rotMany_0 j = rotMany_1 j) (hK_0_36 : ∀ j : Int, 0 ≤ j → j < 26 → 0 ≤ rotMany_0 j ∧ rotMany_0 j ≤ 80) (hE_0_37_1 : ∀ j : Int, 0 ≤ j → (j = x16 → rot_0 j = x22) ∧ (j ≠ x16 → rot_0 j = rot_1 j)) (hK_0_37 : ∀ j : Int, 0 ≤ j → j < 2080 → 0 ≤ rot_0 j ∧ rot_0 j ≤ 79) (kz_0_31 : 0 ≤ pn_0 ∧ pn_0 ≤ 25) (kz_0_32 : 0 ≤ pm_0 ∧ pm_0 ≤ 80) : PLc (pn_0) (pm_0) (pt_0) (ph_0) (alive_0) (rotMany_0) (rot_0) (x1) (x2) (x11) (x23) (x4) (x5) (x6) (x7) := by
  subst fe_0_31_1
  subst fe_0_32_1
  have e_hE_0_33_1 := funext hE_0_33_1; subst e_hE_0_33_1
  have e_hE_0_34_1 := funext hE_0_34_1; subst e_hE_0_34_1
  have e_hE_0_35_1 := funext hE_0_35_1; subst e_hE_0_35_1
  have e_hE_0_36_1 := funext hE_0_36_1; subst e_hE_0_36_1
  first
    | exact pal_start ‹PAc _ _ _ _ _ _ _ _ _ _ _ _ _ _› (by omega)
    | exact pal_step ‹PLc _ _ _ _ _ _ _ _ _ _ _ _ _ _ _› (by omega) (by omega) (by assumption) (by omega) (by assumption) (by omega)
def o_Mo_putAt_at_g3_3 : or_T := (8, 24, [(0, (2, 0, 0, [165])), (1, (0, 0, 24, [])), (2, (0, 0, 79, [])), (4, (0, 0, 24, [])), (5, (0, 0, 24, [])), (6, (0, 0, 159, [])), (7, (0, 0, 159, [])), (9, (0, 0, 24, [])), (10, (0, 0, 79, [])), (11, (0, 0, 79, [])), (12, (0, 1, 80, [])), (13, (2, 0, 0, [184])), (14, (0, 80, 80, [])), (15, (0, 0, 1920, [])), (16, (0, 1, 2000, [])), (17, (0, 80, 80, [])), (18, (0, 0, 1920, [])), (19, (0, 1, 2000, [])), (20, (0, 1, 1, [])), (21, (0, 0, 1999, [])), (22, (0, 0, 79, [])), (23, (0, 0, 79, []))], [(6, [23, 12], [-1]), (24, [0, 8], []), (24, [1, 9], []), (24, [2, 10], []), (100, [13, 16, 22], []), (10, [22, 13, 21], []), (2, [21, 19, 20], []), (1, [19, 18, 12], []), (3, [18, 17, 9], []), (9, [13, 8], [37]), (1, [16, 15, 12], []), (3, [15, 14, 9], []), (7, [12, 11], [4]), (20, [8, 9, 10, 11, 12, 4, 5, 6, 7], [60, 2, 5, 257, 31, 32, 33, 34, 35, 36, 37])], [], [], [(20, [8, 9, 10, 11, 23, 4, 5, 6, 7], [60, 2, 5, 257, 31, 32, 33, 34, 35, 36, 37])], [], [(23, 12, -1, -1), (23, 11, 0, 4294967296), (21, 19, -1, -1), (21, 12, -1, 1919), (21, 11, 0, 4294967296), (21, 18, 0, 79), (19, 12, 0, 1920), (19, 11, 1, 4294967296), (19, 18, 1, 80), (16, 12, 0, 1920), (16, 11, 1, 4294967296), (16, 15, 1, 80), (12, 11, 1, 4294967296), (1, 9, -4294967296, 0), (2, 10, -4294967296, 0), (9, 1, -4294967296, 0), (10, 2, -4294967296, 0)])
theorem oo_Mo_putAt_at_g3_3 {kA : Nat → ClassId} : or_ok PRD kA GG o_Mo_putAt_at_g3_3 := by
  refine or_mk fun A ta ws vs hD hth hl => ?_
  intro t0 r0 t1 k1 t2 k2 t4 k4 t5 k5 t6 k6 t7 k7 t9 k9 t10 k10 t11 k11 t12 k12 t13 r13 t14 k14 t15 k15 t16 k16 t17 k17 t18 k18 t19 k19 t20 k20 t21 k21 t22 k22 t23 k23 d0 d1 d2 d3 d4 d5 d6 d7 d8 d9 d10 d11 d12 d13 d14 d15 d16 f0 f1 f2 f3 ta1 w1 le1 s1 f5 f6 f7 f8 f9 f10 f11 f12 f13
  replace f0 := shm_198 f0
  replace f1 := shm_5 f1
  replace f2 := shm_5 f2
  replace f3 := shm_5 f3
  have s1 : (∀ b j, w_el ws b j = if b = v_ad (n_v vs 13) ∧ j = (v_iv (n_v vs 16)).toNat then v_iv (n_v vs 22) else w_el w1 b j) ∧ ∀ b k, w_fd ws b k = w_fd w1 b k := s1.2
  replace f5 := shm_106 f5
  replace f6 := shm_14 f6
  replace f7 := shm_12 f7
  replace f8 := shm_38 f8
  rw [show v_iv (n_v vs 17) = 80 from by omega] at f8
  replace f9 := shm_674 f9
  replace f10 := shm_12 f10
  replace f11 := shm_38 f11
  rw [show v_iv (n_v vs 14) = 80 from by omega] at f11
  replace f12 := shm_21 f12
  replace f13 := shm_680 f13
  have q8 : n_v vs 8 = n_v vs 0 := f1.symm
  have q9 : n_v vs 9 = n_v vs 1 := f2.symm
  have q10 : n_v vs 10 = n_v vs 2 := f3.symm
  simp only [q9, q8, q10] at f8 f9 f11 f13
  have ar_0_33_1 : w_ar w1 (n_v vs 0) 33 = w_ar ws (n_v vs 0) 33 := congrArg v_ad (s1.2 _ _).symm
  have cr_0_33 := fdq_116 hD hth r0
  have ar_0_34_1 : w_ar w1 (n_v vs 0) 34 = w_ar ws (n_v vs 0) 34 := congrArg v_ad (s1.2 _ _).symm
  have cr_0_34 := fdq_117 hD hth r0
  have ar_0_35_1 : w_ar w1 (n_v vs 0) 35 = w_ar ws (n_v vs 0) 35 := congrArg v_ad (s1.2 _ _).symm
  have cr_0_35 := fdq_131 hD hth r0
  have ar_0_36_1 : w_ar w1 (n_v vs 0) 36 = w_ar ws (n_v vs 0) 36 := congrArg v_ad (s1.2 _ _).symm
  have cr_0_36 := fdq_166 hD hth r0
  have ar_0_37_1 : w_ar w1 (n_v vs 0) 37 = w_ar ws (n_v vs 0) 37 := congrArg v_ad (s1.2 _ _).symm
  have cr_0_37 := fdq_167 hD hth r0
  have ad_13 : v_ad (n_v vs 13) = w_ar ws (n_v vs 0) 37 := (congrArg v_ad f9).trans ar_0_37_1
  simp only [ad_13] at f5
  have h5 : v_iv (n_v vs 22) = w_ei w1 (w_ar ws (n_v vs 0) 37) (v_iv (n_v vs 21)) := f5
  simp only [ar_0_33_1, ar_0_34_1, ar_0_35_1, ar_0_36_1, ar_0_37_1] at f13
  have fe_0_31_1 : w_fi ws (n_v vs 0) 31 = w_fi w1 (n_v vs 0) 31 := congrArg v_iv (s1.2 _ _)
  have fe_0_32_1 : w_fi ws (n_v vs 0) 32 = w_fi w1 (n_v vs 0) 32 := congrArg v_iv (s1.2 _ _)
  have hE_0_33_1 : ∀ j : Int, w_ei ws (w_ar ws (n_v vs 0) 33) j = w_ei w1 (w_ar ws (n_v vs 0) 33) j := el_kp s1.1 r13 cr_0_33 (by decide)
  have hK_0_33 := elq_57 hD hth cr_0_33
  have hE_0_34_1 : ∀ j : Int, w_ei ws (w_ar ws (n_v vs 0) 34) j = w_ei w1 (w_ar ws (n_v vs 0) 34) j := el_kp s1.1 r13 cr_0_34 (by decide)
  have hK_0_34 := elq_58 hD hth cr_0_34
  have hE_0_35_1 : ∀ j : Int, w_ei ws (w_ar ws (n_v vs 0) 35) j = w_ei w1 (w_ar ws (n_v vs 0) 35) j := el_kp s1.1 r13 cr_0_35 (by decide)
  have hK_0_35 := elq_69 hD hth cr_0_35
  have hE_0_36_1 : ∀ j : Int, w_ei ws (w_ar ws (n_v vs 0) 36) j = w_ei w1 (w_ar ws (n_v vs 0) 36) j := el_kp s1.1 r13 cr_0_36 (by decide)
  have hK_0_36 := elq_94 hD hth cr_0_36
  have hE_0_37_1 : ∀ j : Int, 0 ≤ j → (j = v_iv (n_v vs 16) → w_ei ws (w_ar ws (n_v vs 0) 37) j = v_iv (n_v vs 22)) ∧ (j ≠ v_iv (n_v vs 16) → w_ei ws (w_ar ws (n_v vs 0) 37) j = w_ei w1 (w_ar ws (n_v vs 0) 37) j) := fun j hj => ⟨fun h => by unfold w_ei; rw [s1.1, if_pos ⟨ad_13.symm, by rw [h]⟩], fun h => by unfold w_ei; rw [s1.1, if_neg (fun e => h (by have := e.2; omega))]⟩
  have hK_0_37 := elq_95 hD hth cr_0_37
  have kz_0_31 := fdq_144 hD hth r0
  have kz_0_32 := fdq_139 hD hth r0
  have nf0 : fc_1 PRD (20, [8, 9, 10, 11, 23, 4, 5, 6, 7], [60, 2, 5, 257, 31, 32, 33, 34, 35, 36, 37]) ws (vs) := by
    refine ⟨nf_in hl rfl, sgq_680 ?_⟩
    · show PLc (w_fi ws (n_v vs 8) 31) (w_fi ws (n_v vs 8) 32) (w_ei ws (w_ar ws (n_v vs 8) 33)) (w_ei ws (w_ar ws (n_v vs 8) 34)) (w_ei ws (w_ar ws (n_v vs 8) 35)) (w_ei ws (w_ar ws (n_v vs 8) 36)) (w_ei ws (w_ar ws (n_v vs 8) 37)) (v_iv (n_v vs 9)) (v_iv (n_v vs 10)) (v_iv (n_v vs 11)) (v_iv (n_v vs 23)) (v_iv (n_v vs 4)) (v_iv (n_v vs 5)) (v_iv (n_v vs 6)) (v_iv (n_v vs 7))
      simp only [q8, q9, q10]
      exact vc_Mo_putAt_at_g3_3_0 (v_iv (n_v vs 1)) (v_iv (n_v vs 2)) (v_iv (n_v vs 4)) (v_iv (n_v vs 5)) (v_iv (n_v vs 6)) (v_iv (n_v vs 7)) (v_iv (n_v vs 9)) (v_iv (n_v vs 10)) (v_iv (n_v vs 11)) (v_iv (n_v vs 12)) (v_iv (n_v vs 14)) (v_iv (n_v vs 15)) (v_iv (n_v vs 16)) (v_iv (n_v vs 17)) (v_iv (n_v vs 18)) (v_iv (n_v vs 19)) (v_iv (n_v vs 20)) (v_iv (n_v vs 21)) (v_iv (n_v vs 22)) (v_iv (n_v vs 23)) (w_ei w1 (w_ar ws (n_v vs 0) 37)) (w_ei w1 (w_ar ws (n_v vs 0) 33)) (w_ei w1 (w_ar ws (n_v vs 0) 34)) (w_ei w1 (w_ar ws (n_v vs 0) 35)) (w_ei w1 (w_ar ws (n_v vs 0) 36)) (w_fi w1 (n_v vs 0) 31) (w_fi w1 (n_v vs 0) 32) (w_fi ws (n_v vs 0) 31) (w_fi ws (n_v vs 0) 32) (w_ei ws (w_ar ws (n_v vs 0) 33)) (w_ei ws (w_ar ws (n_v vs 0) 34)) (w_ei ws (w_ar ws (n_v vs 0) 35)) (w_ei ws (w_ar ws (n_v vs 0) 36)) (w_ei ws (w_ar ws (n_v vs 0) 37)) k1 k2 k4 k5 k6 k7 k9 k10 k11 k12 k14 k15 k16 k17 k18 k19 k20 k21 k22 k23 d0 d1 d2 d3 d4 d5 d6 d7 d8 d9 d10 d11 d12 d13 d14 d15 d16 f0 h5 f6 f7 f8 f10 f11 f12 f13 fe_0_31_1 fe_0_32_1 hE_0_33_1 hK_0_33 hE_0_34_1 hK_0_34 hE_0_35_1 hK_0_35 hE_0_36_1 hK_0_36 hE_0_37_1 hK_0_37 kz_0_31 kz_0_32
  refine ⟨(fun _ h => (by cases h)), [], trivial, ?_, (fun _ h => (by cases h))⟩
  rw [List.append_nil]
  exact List.forall_mem_cons.mpr ⟨⟨show (20 : Nat) < 100 from by decide, nf0⟩, (fun _ h => (by cases h))⟩
def n_Mo_putAt_at_g3_an : List an_T := [(8, [(0, (2, 0, 0, [165])), (1, (0, 0, 24, [])), (2, (0, 0, 79, [])), (3, (0, 0, 79, [])), (4, (0, 0, 80, []))], [], (0, 0), [(0, 0, 99992), (2, 12, 0), (0, 0, 100000)], [(1, 9, (Int.negSucc 999999999999), 0), (2, 10, (Int.negSucc 999999999999), 0), (3, 11, (Int.negSucc 999999999999), 0), (9, 1, (Int.negSucc 999999999999), 0), (10, 2, (Int.negSucc 999999999999), 0), (11, 3, (Int.negSucc 999999999999), 0)], [], [(2, 0, 0, [165]), (0, 0, 24, []), (0, 0, 79, []), (0, 0, 79, []), (0, 0, 24, []), (0, 0, 24, []), (0, 0, 159, []), (0, 0, 159, [])], 0, [], [(20, [8, 9, 10, 11, 12, 4, 5, 6, 7], [60, 2, 5, 257, 31, 32, 33, 34, 35, 36, 37]), (24, [0, 8], []), (24, [1, 9], []), (24, [2, 10], [])])]
def t_Mo_putAt_at_g3_ct : ct_L := []
set_option maxRecDepth 100000 in
theorem c_Mo_putAt_at_g3 {l : Launch} {D : va_G} {kA : Nat → ClassId} : ct_ok PRD l D kA GG y_Mo_putAt_at_g3 z_Mo_putAt_at_g3 e_Mo_putAt_at_g3 := chk_all_ok (FT := [(66, 13, 36), (69, 13, 37)]) (PT := []) (CT := t_Mo_putAt_at_g3_ct) (KT := []) (NT := []) (AN := n_Mo_putAt_at_g3_an) (OT := [o_Mo_putAt_at_g3_0, o_Mo_putAt_at_g3_1, o_Mo_putAt_at_g3_2, o_Mo_putAt_at_g3_3]) 3 200 (List.forall_mem_cons.mpr ⟨oo_Mo_putAt_at_g3_0, List.forall_mem_cons.mpr ⟨oo_Mo_putAt_at_g3_1, List.forall_mem_cons.mpr ⟨oo_Mo_putAt_at_g3_2, List.forall_mem_cons.mpr ⟨oo_Mo_putAt_at_g3_3, List.forall_mem_nil _⟩⟩⟩⟩) (by decide +kernel) ⟨List.forall_mem_cons.mpr ⟨gf_Mo_66, List.forall_mem_cons.mpr ⟨gf_Mo_69, List.forall_mem_nil _⟩⟩, List.forall_mem_nil _, List.forall_mem_nil _, List.forall_mem_nil _, List.forall_mem_nil _, GG_pl⟩ (by decide +kernel)
set_option maxHeartbeats 4000000 in
theorem vc_Mo_putAt_at_g4_0_0 (x1 : Int) (x2 : Int) (x3 : Int) (x4 : Int) (x5 : Int) (x6 : Int) (x7 : Int) (x9 : Int) (rotMany_0 : Int → Int) (pt_0 : Int → Int) (ph_0 : Int → Int) (alive_0 : Int → Int) (rot_0 : Int → Int) (pn_0 : Int) (pm_0 : Int) (k1 : 0 ≤ x1 ∧ x1 ≤ 24) (k2 : 0 ≤ x2 ∧ x2 ≤ 79) (k3 : 0 ≤ x3 ∧ x3 ≤ 79) (k4 : 0 ≤ x4 ∧ x4 ≤ 24) (k5 : 0 ≤ x5 ∧ x5 ≤ 24) (k6 : 0 ≤ x6 ∧ x6 ≤ 159) (k7 : 0 ≤ x7 ∧ x7 ≤ 159) (k9 : 0 ≤ x9 ∧ x9 ≤ 80) (h0 : x9 = rotMany_0 (x1)) (f2 : PAd (pn_0) (pm_0) (pt_0) (ph_0) (alive_0) (rotMany_0) (rot_0) (x1) (x2) (x3) (x4) (x5) (x6) (x7)) (hK_0_33 : ∀ j : Int, 0 ≤ j → j < 80 → 0 ≤ pt_0 j ∧ pt_0 j ≤ 24) (hK_0_34 : ∀ j : Int, 0 ≤ j → j < 80 → 0 ≤ ph_0 j ∧ ph_0 j ≤ 24) (hK_0_35 : ∀ j : Int, 0 ≤ j → j < 80 → 0 ≤ alive_0 j ∧ alive_0 j ≤ 1) (hK_0_36 : ∀ j : Int, 0 ≤ j → j < 26 → 0 ≤ rotMany_0 j ∧ rotMany_0 j ≤ 80) (hK_0_37 : ∀ j : Int, 0 ≤ j → j < 2080 → 0 ≤ rot_0 j ∧ rot_0 j ≤ 79) (kz_0_31 : 0 ≤ pn_0 ∧ pn_0 ≤ 25) (kz_0_32 : 0 ≤ pm_0 ∧ pm_0 ≤ 80) : PLd (pn_0) (pm_0) (pt_0) (ph_0) (alive_0) (rotMany_0) (rot_0) (x1) (x2) (x3) (x9) (x4) (x5) (x6) (x7) := by
  first
    | exact pal_start ‹PAd _ _ _ _ _ _ _ _ _ _ _ _ _ _› (by omega)
    | exact pal_step ‹PLd _ _ _ _ _ _ _ _ _ _ _ _ _ _ _› (by omega) (by omega) (by assumption) (by omega) (by assumption) (by omega)
def o_Mo_putAt_at_g4_0 : or_T := (8, 10, [(0, (2, 0, 0, [165])), (1, (0, 0, 24, [])), (2, (0, 0, 79, [])), (3, (0, 0, 79, [])), (4, (0, 0, 24, [])), (5, (0, 0, 24, [])), (6, (0, 0, 159, [])), (7, (0, 0, 159, [])), (9, (0, 0, 80, []))], [(10, [9, 8, 1], []), (9, [8, 0], [36]), (20, [0, 1, 2, 3, 4, 5, 6, 7], [60, 2, 5, 254, 31, 32, 33, 34, 35, 36, 37])], [], [], [(20, [0, 1, 2, 3, 9, 4, 5, 6, 7], [60, 2, 5, 258, 31, 32, 33, 34, 35, 36, 37]), (24, [0, 0], []), (24, [1, 1], []), (24, [2, 2], [])], [], [])
theorem oo_Mo_putAt_at_g4_0 {kA : Nat → ClassId} : or_ok PRD kA GG o_Mo_putAt_at_g4_0 := by
  refine or_mk fun A ta ws vs hD hth hl => ?_
  intro t0 r0 t1 k1 t2 k2 t3 k3 t4 k4 t5 k5 t6 k6 t7 k7 t9 k9 f0 f1 f2
  replace f0 := shm_106 f0
  replace f1 := shm_671 f1
  have cr_0_33 := fdq_116 hD hth r0
  have cr_0_34 := fdq_117 hD hth r0
  have cr_0_35 := fdq_131 hD hth r0
  have cr_0_36 := fdq_166 hD hth r0
  have cr_0_37 := fdq_167 hD hth r0
  have ad_8 : v_ad (n_v vs 8) = w_ar ws (n_v vs 0) 36 := congrArg v_ad f1
  simp only [ad_8] at f0
  have h0 : v_iv (n_v vs 9) = w_ei ws (w_ar ws (n_v vs 0) 36) (v_iv (n_v vs 1)) := f0
  have hK_0_33 := elq_57 hD hth cr_0_33
  have hK_0_34 := elq_58 hD hth cr_0_34
  have hK_0_35 := elq_69 hD hth cr_0_35
  have hK_0_36 := elq_94 hD hth cr_0_36
  have hK_0_37 := elq_95 hD hth cr_0_37
  have kz_0_31 := fdq_144 hD hth r0
  have kz_0_32 := fdq_139 hD hth r0
  have nf0 : fc_1 PRD (20, [0, 1, 2, 3, 9, 4, 5, 6, 7], [60, 2, 5, 258, 31, 32, 33, 34, 35, 36, 37]) ws (vs) := ⟨nf_in hl rfl, sgq_683 (vc_Mo_putAt_at_g4_0_0 (v_iv (n_v vs 1)) (v_iv (n_v vs 2)) (v_iv (n_v vs 3)) (v_iv (n_v vs 4)) (v_iv (n_v vs 5)) (v_iv (n_v vs 6)) (v_iv (n_v vs 7)) (v_iv (n_v vs 9)) (w_ei ws (w_ar ws (n_v vs 0) 36)) (w_ei ws (w_ar ws (n_v vs 0) 33)) (w_ei ws (w_ar ws (n_v vs 0) 34)) (w_ei ws (w_ar ws (n_v vs 0) 35)) (w_ei ws (w_ar ws (n_v vs 0) 37)) (w_fi ws (n_v vs 0) 31) (w_fi ws (n_v vs 0) 32) k1 k2 k3 k4 k5 k6 k7 k9 h0 (shm_682 f2) hK_0_33 hK_0_34 hK_0_35 hK_0_36 hK_0_37 kz_0_31 kz_0_32)⟩
  have nf1 : fc_1 PRD (24, [0, 0], []) ws (vs) := by
    refine ⟨nf_in hl rfl, sgq_1 ?_⟩
    · show n_v vs 0 = n_v vs 0
      first | rfl | simp only [true_and]
  have nf2 : fc_1 PRD (24, [1, 1], []) ws (vs) := by
    refine ⟨nf_in hl rfl, sgq_1 ?_⟩
    · show n_v vs 1 = n_v vs 1
      first | rfl | simp only [true_and]
  have nf3 : fc_1 PRD (24, [2, 2], []) ws (vs) := by
    refine ⟨nf_in hl rfl, sgq_1 ?_⟩
    · show n_v vs 2 = n_v vs 2
      first | rfl | simp only [true_and]
  refine ⟨(fun _ h => (by cases h)), [], trivial, ?_, (fun _ h => (by cases h))⟩
  rw [List.append_nil]
  exact List.forall_mem_cons.mpr ⟨⟨show (20 : Nat) < 100 from by decide, nf0⟩, List.forall_mem_cons.mpr ⟨⟨show (24 : Nat) < 100 from by decide, nf1⟩, List.forall_mem_cons.mpr ⟨⟨show (24 : Nat) < 100 from by decide, nf2⟩, List.forall_mem_cons.mpr ⟨⟨show (24 : Nat) < 100 from by decide, nf3⟩, (fun _ h => (by cases h))⟩⟩⟩⟩
set_option maxHeartbeats 4000000 in
theorem vc_Mo_putAt_at_g4_1_r0 (x1 : Int) (x2 : Int) (x4 : Int) (x5 : Int) (x6 : Int) (x7 : Int) (x9 : Int) (x10 : Int) (x11 : Int) (x12 : Int) (x14 : Int) (x15 : Int) (x16 : Int) (x18 : Int) (x19 : Int) (x20 : Int) (rotMany_0 : Int → Int) (pt_1 : Int → Int) (ph_1 : Int → Int) (alive_1 : Int → Int) (rotMany_1 : Int → Int) (rot_1 : Int → Int) (pn_1 : Int) (pm_1 : Int) (pn_0 : Int) (pm_0 : Int) (pt_0 : Int → Int) (ph_0 : Int → Int) (alive_0 : Int → Int) (rot_0 : Int → Int) (k1 : 0 ≤ x1 ∧ x1 ≤ 24) (k2 : 0 ≤ x2 ∧ x2 ≤ 79) (k4 : 0 ≤ x4 ∧ x4 ≤ 24) (k5 : 0 ≤ x5 ∧ x5 ≤ 24) (k6 : 0 ≤ x6 ∧ x6 ≤ 159) (k7 : 0 ≤ x7 ∧ x7 ≤ 159) (k9 : 0 ≤ x9 ∧ x9 ≤ 24) (k10 : 0 ≤ x10 ∧ x10 ≤ 79) (k11 : 0 ≤ x11 ∧ x11 ≤ 79) (k12 : 0 ≤ x12 ∧ x12 ≤ 79) (k14 : 80 ≤ x14 ∧ x14 ≤ 80) (k15 : 0 ≤ x15 ∧ x15 ≤ 1920) (k16 : 0 ≤ x16 ∧ x16 ≤ 1999) (k18 : 0 ≤ x18 ∧ x18 ≤ 80) (k19 : 1 ≤ x19 ∧ x19 ≤ 1) (k20 : 1 ≤ x20 ∧ x20 ≤ 81) (d0 : x18 + 1 ≤ x20 ∧ x20 ≤ x18 + 1) (d1 : x11 + 0 ≤ x16 ∧ x16 ≤ x11 + 1920) (d2 : x15 + 0 ≤ x16 ∧ x16 ≤ x15 + 79) (d3 : x11 + (-4294967296) ≤ x12 ∧ x12 ≤ x11 + 0) (d4 : x9 + (-4294967296) ≤ x1 ∧ x1 ≤ x9 + 0) (d5 : x10 + (-4294967296) ≤ x2 ∧ x2 ≤ x10 + 0) (d6 : x1 + (-4294967296) ≤ x9 ∧ x9 ≤ x1 + 0) (d7 : x2 + (-4294967296) ≤ x10 ∧ x10 ≤ x2 + 0) (f0 : x20 = x18 + x19) (h1 : x18 = rotMany_0 (x1)) (f7 : x16 = x15 + x11) (f8 : x15 = 80 * x1) (f10 : x12 ≤ x11) (f11 : PLd (pn_1) (pm_1) (pt_1) (ph_1) (alive_1) (rotMany_1) (rot_1) (x1) (x2) (x11) (x12) (x4) (x5) (x6) (x7)) (fe_0_31_1 : pn_0 = pn_1) (fe_0_32_1 : pm_0 = pm_1) (hE_0_33_1 : ∀ j : Int, pt_0 j = pt_1 j) (hK_0_33 : ∀ j : Int, 0 ≤ j → j < 80 → 0 ≤ pt_0 j ∧ pt_0 j ≤ 24) (hE_0_34_1 : ∀ j : Int, ph_0 j = ph_1 j) (hK_0_34 : ∀ j : Int, 0 ≤ j → j < 80 → 0 ≤ ph_0 j ∧ ph_0 j ≤ 24) (hE_0_35_1 : ∀ j : Int, alive_0 j = alive_1 j) (hK_0_35 : ∀ j : Int, 0 ≤ j → j < 80 → 0 ≤ alive_0 j ∧ alive_0 j ≤ 1) (hE_0_36_1 : ∀ j : Int, rotMany_0 j = rotMany_1 j) (hK_0_36 : ∀ j : Int, 0 ≤ j → j < 26 → 0 ≤ rotMany_0 j ∧ rotMany_0 j ≤ 80) (hE_0_37_1 : ∀ j : Int, 0 ≤ j → (j = x16 → rot_0 j = x2) ∧ (j ≠ x16 → rot_0 j = rot_1 j)) (hK_0_37 : ∀ j : Int, 0 ≤ j → j < 2080 → 0 ≤ rot_0 j ∧ rot_0 j ≤ 79) (kz_0_31 : 0 ≤ pn_0 ∧ pn_0 ≤ 25) (kz_0_32 : 0 ≤ pm_0 ∧ pm_0 ≤ 80) : 1 ≤ x20 ∧ x20 ≤ 80 := by
  subst fe_0_31_1
  subst fe_0_32_1
  have e_hE_0_33_1 := funext hE_0_33_1; subst e_hE_0_33_1
  have e_hE_0_34_1 := funext hE_0_34_1; subst e_hE_0_34_1
  have e_hE_0_35_1 := funext hE_0_35_1; subst e_hE_0_35_1
  have e_hE_0_36_1 := funext hE_0_36_1; subst e_hE_0_36_1
  first
    | omega
    | (have h := pax_len ‹PAa _ _ _ _ _ _ _ _ _ _ _›; omega)
    | (have h := pax_len ‹PAb _ _ _ _ _ _ _ _ _ _ _›; omega)
    | (have h := pax_len ‹PAc _ _ _ _ _ _ _ _ _ _ _ _ _ _›; omega)
    | (have h := pax_len ‹PAd _ _ _ _ _ _ _ _ _ _ _ _ _ _›; omega)
    | (have h := pal_len ‹PLa _ _ _ _ _ _ _ _ _ _ _ _›; omega)
    | (have h := pal_len ‹PLb _ _ _ _ _ _ _ _ _ _ _ _›; omega)
    | (have h := pal_len ‹PLc _ _ _ _ _ _ _ _ _ _ _ _ _ _ _›; omega)
    | (have h := pal_len ‹PLd _ _ _ _ _ _ _ _ _ _ _ _ _ _ _›; omega)
def o_Mo_putAt_at_g4_1 : or_T := (67, 21, [(0, (2, 0, 0, [165])), (1, (0, 0, 24, [])), (2, (0, 0, 79, [])), (4, (0, 0, 24, [])), (5, (0, 0, 24, [])), (6, (0, 0, 159, [])), (7, (0, 0, 159, [])), (8, (2, 0, 0, [165])), (9, (0, 0, 24, [])), (10, (0, 0, 79, [])), (11, (0, 0, 79, [])), (12, (0, 0, 79, [])), (13, (2, 0, 0, [184])), (14, (0, 80, 80, [])), (15, (0, 0, 1920, [])), (16, (0, 0, 1999, [])), (17, (2, 0, 0, [183])), (18, (0, 0, 80, [])), (19, (0, 1, 1, [])), (20, (0, 1, 81, []))], [(1, [20, 18, 19], []), (10, [18, 17, 9], []), (9, [17, 8], [36]), (24, [0, 8], []), (24, [1, 9], []), (24, [2, 10], []), (100, [13, 16, 10], []), (1, [16, 15, 11], []), (3, [15, 14, 9], []), (9, [13, 8], [37]), (7, [12, 11], [5]), (20, [8, 9, 10, 11, 12, 4, 5, 6, 7], [60, 2, 5, 258, 31, 32, 33, 34, 35, 36, 37])], [(20, (0, 1, 80, []))], [], [], [], [(20, 18, 1, 1), (16, 11, 0, 1920), (16, 15, 0, 79), (12, 11, -4294967296, 0), (1, 9, -4294967296, 0), (2, 10, -4294967296, 0), (9, 1, -4294967296, 0), (10, 2, -4294967296, 0)])
theorem oo_Mo_putAt_at_g4_1 {kA : Nat → ClassId} : or_ok PRD kA GG o_Mo_putAt_at_g4_1 := by
  refine or_mk fun A ta ws vs hD hth hl => ?_
  intro t0 r0 t1 k1 t2 k2 t4 k4 t5 k5 t6 k6 t7 k7 t8 r8 t9 k9 t10 k10 t11 k11 t12 k12 t13 r13 t14 k14 t15 k15 t16 k16 t17 r17 t18 k18 t19 k19 t20 k20 d0 d1 d2 d3 d4 d5 d6 d7 f0 f1 f2 f3 f4 f5 ta1 w1 le1 s1 f7 f8 f9 f10 f11
  replace f1 := shm_106 f1
  replace f2 := shm_671 f2
  replace f3 := shm_5 f3
  replace f4 := shm_5 f4
  replace f5 := shm_5 f5
  have s1 : (∀ b j, w_el ws b j = if b = v_ad (n_v vs 13) ∧ j = (v_iv (n_v vs 16)).toNat then v_iv (n_v vs 10) else w_el w1 b j) ∧ ∀ b k, w_fd ws b k = w_fd w1 b k := s1.2
  replace f8 := shm_38 f8
  rw [show v_iv (n_v vs 14) = 80 from by omega] at f8
  replace f9 := shm_674 f9
  replace f11 := shm_683 f11
  have q8 : n_v vs 8 = n_v vs 0 := f3.symm
  have q9 : n_v vs 9 = n_v vs 1 := f4.symm
  have q10 : n_v vs 10 = n_v vs 2 := f5.symm
  simp only [q9, q8] at f1 f2
  rw [q10] at s1
  simp only [q9, q8, q10] at f8 f9 f11
  have ar_0_33_1 : w_ar w1 (n_v vs 0) 33 = w_ar ws (n_v vs 0) 33 := congrArg v_ad (s1.2 _ _).symm
  have cr_0_33 := fdq_116 hD hth r0
  have ar_0_34_1 : w_ar w1 (n_v vs 0) 34 = w_ar ws (n_v vs 0) 34 := congrArg v_ad (s1.2 _ _).symm
  have cr_0_34 := fdq_117 hD hth r0
  have ar_0_35_1 : w_ar w1 (n_v vs 0) 35 = w_ar ws (n_v vs 0) 35 := congrArg v_ad (s1.2 _ _).symm
  have cr_0_35 := fdq_131 hD hth r0
  have ar_0_36_1 : w_ar w1 (n_v vs 0) 36 = w_ar ws (n_v vs 0) 36 := congrArg v_ad (s1.2 _ _).symm
  have cr_0_36 := fdq_166 hD hth r0
  have ar_0_37_1 : w_ar w1 (n_v vs 0) 37 = w_ar ws (n_v vs 0) 37 := congrArg v_ad (s1.2 _ _).symm
  have cr_0_37 := fdq_167 hD hth r0
  have ad_17 : v_ad (n_v vs 17) = w_ar ws (n_v vs 0) 36 := congrArg v_ad f2
  have ad_13 : v_ad (n_v vs 13) = w_ar ws (n_v vs 0) 37 := (congrArg v_ad f9).trans ar_0_37_1
  simp only [ad_17] at f1
  have h1 : v_iv (n_v vs 18) = w_ei ws (w_ar ws (n_v vs 0) 36) (v_iv (n_v vs 1)) := f1
  simp only [ar_0_33_1, ar_0_34_1, ar_0_35_1, ar_0_36_1, ar_0_37_1] at f11
  have fe_0_31_1 : w_fi ws (n_v vs 0) 31 = w_fi w1 (n_v vs 0) 31 := congrArg v_iv (s1.2 _ _)
  have fe_0_32_1 : w_fi ws (n_v vs 0) 32 = w_fi w1 (n_v vs 0) 32 := congrArg v_iv (s1.2 _ _)
  have hE_0_33_1 : ∀ j : Int, w_ei ws (w_ar ws (n_v vs 0) 33) j = w_ei w1 (w_ar ws (n_v vs 0) 33) j := el_kp s1.1 r13 cr_0_33 (by decide)
  have hK_0_33 := elq_57 hD hth cr_0_33
  have hE_0_34_1 : ∀ j : Int, w_ei ws (w_ar ws (n_v vs 0) 34) j = w_ei w1 (w_ar ws (n_v vs 0) 34) j := el_kp s1.1 r13 cr_0_34 (by decide)
  have hK_0_34 := elq_58 hD hth cr_0_34
  have hE_0_35_1 : ∀ j : Int, w_ei ws (w_ar ws (n_v vs 0) 35) j = w_ei w1 (w_ar ws (n_v vs 0) 35) j := el_kp s1.1 r13 cr_0_35 (by decide)
  have hK_0_35 := elq_69 hD hth cr_0_35
  have hE_0_36_1 : ∀ j : Int, w_ei ws (w_ar ws (n_v vs 0) 36) j = w_ei w1 (w_ar ws (n_v vs 0) 36) j := el_kp s1.1 r13 cr_0_36 (by decide)
  have hK_0_36 := elq_94 hD hth cr_0_36
  have hE_0_37_1 : ∀ j : Int, 0 ≤ j → (j = v_iv (n_v vs 16) → w_ei ws (w_ar ws (n_v vs 0) 37) j = v_iv (n_v vs 2)) ∧ (j ≠ v_iv (n_v vs 16) → w_ei ws (w_ar ws (n_v vs 0) 37) j = w_ei w1 (w_ar ws (n_v vs 0) 37) j) := fun j hj => ⟨fun h => by unfold w_ei; rw [s1.1, if_pos ⟨ad_13.symm, by rw [h]⟩], fun h => by unfold w_ei; rw [s1.1, if_neg (fun e => h (by have := e.2; omega))]⟩
  have hK_0_37 := elq_95 hD hth cr_0_37
  have kz_0_31 := fdq_144 hD hth r0
  have kz_0_32 := fdq_139 hD hth r0
  have hrf0 : 1 ≤ v_iv (n_v vs 20) ∧ v_iv (n_v vs 20) ≤ 80 := vc_Mo_putAt_at_g4_1_r0 (v_iv (n_v vs 1)) (v_iv (n_v vs 2)) (v_iv (n_v vs 4)) (v_iv (n_v vs 5)) (v_iv (n_v vs 6)) (v_iv (n_v vs 7)) (v_iv (n_v vs 9)) (v_iv (n_v vs 10)) (v_iv (n_v vs 11)) (v_iv (n_v vs 12)) (v_iv (n_v vs 14)) (v_iv (n_v vs 15)) (v_iv (n_v vs 16)) (v_iv (n_v vs 18)) (v_iv (n_v vs 19)) (v_iv (n_v vs 20)) (w_ei ws (w_ar ws (n_v vs 0) 36)) (w_ei w1 (w_ar ws (n_v vs 0) 33)) (w_ei w1 (w_ar ws (n_v vs 0) 34)) (w_ei w1 (w_ar ws (n_v vs 0) 35)) (w_ei w1 (w_ar ws (n_v vs 0) 36)) (w_ei w1 (w_ar ws (n_v vs 0) 37)) (w_fi w1 (n_v vs 0) 31) (w_fi w1 (n_v vs 0) 32) (w_fi ws (n_v vs 0) 31) (w_fi ws (n_v vs 0) 32) (w_ei ws (w_ar ws (n_v vs 0) 33)) (w_ei ws (w_ar ws (n_v vs 0) 34)) (w_ei ws (w_ar ws (n_v vs 0) 35)) (w_ei ws (w_ar ws (n_v vs 0) 37)) k1 k2 k4 k5 k6 k7 k9 k10 k11 k12 k14 k15 k16 k18 k19 k20 d0 d1 d2 d3 d4 d5 d6 d7 (shm_12 f0) h1 (shm_12 f7) f8 (shm_24 f10) f11 fe_0_31_1 fe_0_32_1 hE_0_33_1 hK_0_33 hE_0_34_1 hK_0_34 hE_0_35_1 hK_0_35 hE_0_36_1 hK_0_36 hE_0_37_1 hK_0_37 kz_0_31 kz_0_32
  have rf20 : tv_ok ta (0, 1, 80, []) (n_v vs 20) := tv_in t20 (by first | omega | grind) (by first | omega | grind)
  refine ⟨List.forall_mem_cons.mpr ⟨rf20, (fun _ h => (by cases h))⟩, [], trivial, ?_, (fun _ h => (by cases h))⟩
  rw [List.append_nil]
  exact (fun _ h => (by cases h))
set_option maxHeartbeats 4000000 in
theorem vc_Mo_putAt_at_g4_2_0 (x1 : Int) (x2 : Int) (x4 : Int) (x5 : Int) (x6 : Int) (x7 : Int) (x9 : Int) (x10 : Int) (x11 : Int) (x12 : Int) (x14 : Int) (x15 : Int) (x16 : Int) (x18 : Int) (x19 : Int) (x20 : Int) (rotMany_1 : Int → Int) (pt_2 : Int → Int) (ph_2 : Int → Int) (alive_2 : Int → Int) (rotMany_2 : Int → Int) (rot_2 : Int → Int) (pn_2 : Int) (pm_2 : Int) (pn_0 : Int) (pn_1 : Int) (pm_0 : Int) (pm_1 : Int) (pt_0 : Int → Int) (pt_1 : Int → Int) (ph_0 : Int → Int) (ph_1 : Int → Int) (alive_0 : Int → Int) (alive_1 : Int → Int) (rotMany_0 : Int → Int) (rot_0 : Int → Int) (rot_1 : Int → Int) (k1 : 0 ≤ x1 ∧ x1 ≤ 24) (k2 : 0 ≤ x2 ∧ x2 ≤ 79) (k4 : 0 ≤ x4 ∧ x4 ≤ 24) (k5 : 0 ≤ x5 ∧ x5 ≤ 24) (k6 : 0 ≤ x6 ∧ x6 ≤ 159) (k7 : 0 ≤ x7 ∧ x7 ≤ 159) (k9 : 0 ≤ x9 ∧ x9 ≤ 24) (k10 : 0 ≤ x10 ∧ x10 ≤ 79) (k11 : 0 ≤ x11 ∧ x11 ≤ 79) (k12 : 0 ≤ x12 ∧ x12 ≤ 79) (k14 : 80 ≤ x14 ∧ x14 ≤ 80) (k15 : 0 ≤ x15 ∧ x15 ≤ 1920) (k16 : 0 ≤ x16 ∧ x16 ≤ 1999) (k18 : 0 ≤ x18 ∧ x18 ≤ 80) (k19 : 1 ≤ x19 ∧ x19 ≤ 1) (k20 : 1 ≤ x20 ∧ x20 ≤ 80) (d0 : x18 + 1 ≤ x20 ∧ x20 ≤ x18 + 1) (d1 : x11 + 0 ≤ x16 ∧ x16 ≤ x11 + 1920) (d2 : x15 + 0 ≤ x16 ∧ x16 ≤ x15 + 79) (d3 : x11 + (-4294967296) ≤ x12 ∧ x12 ≤ x11 + 0) (d4 : x9 + (-4294967296) ≤ x1 ∧ x1 ≤ x9 + 0) (d5 : x10 + (-4294967296) ≤ x2 ∧ x2 ≤ x10 + 0) (d6 : x1 + (-4294967296) ≤ x9 ∧ x9 ≤ x1 + 0) (d7 : x2 + (-4294967296) ≤ x10 ∧ x10 ≤ x2 + 0) (f4 : x20 = x18 + x19) (h5 : x18 = rotMany_1 (x1)) (f8 : x16 = x15 + x11) (f9 : x15 = 80 * x1) (f11 : x12 ≤ x11) (f12 : PLd (pn_2) (pm_2) (pt_2) (ph_2) (alive_2) (rotMany_2) (rot_2) (x1) (x2) (x11) (x12) (x4) (x5) (x6) (x7)) (fe_0_31_1 : pn_0 = pn_1) (fe_0_32_1 : pm_0 = pm_1) (fe_0_31_2 : pn_1 = pn_2) (fe_0_32_2 : pm_1 = pm_2) (hE_0_33_1 : ∀ j : Int, pt_0 j = pt_1 j) (hE_0_33_2 : ∀ j : Int, pt_1 j = pt_2 j) (hK_0_33 : ∀ j : Int, 0 ≤ j → j < 80 → 0 ≤ pt_0 j ∧ pt_0 j ≤ 24) (hE_0_34_1 : ∀ j : Int, ph_0 j = ph_1 j) (hE_0_34_2 : ∀ j : Int, ph_1 j = ph_2 j) (hK_0_34 : ∀ j : Int, 0 ≤ j → j < 80 → 0 ≤ ph_0 j ∧ ph_0 j ≤ 24) (hE_0_35_1 : ∀ j : Int, alive_0 j = alive_1 j) (hE_0_35_2 : ∀ j : Int, alive_1 j = alive_2 j) (hK_0_35 : ∀ j : Int, 0 ≤ j → j < 80 → 0 ≤ alive_0 j ∧ alive_0 j ≤ 1) (hE_0_36_1 : ∀ j : Int, 0 ≤ j → (j = x1 → rotMany_0 j = x20) ∧ (j ≠ x1 → rotMany_0 j = rotMany_1 j)) (hE_0_36_2 : ∀ j : Int, rotMany_1 j = rotMany_2 j) (hK_0_36 : ∀ j : Int, 0 ≤ j → j < 26 → 0 ≤ rotMany_0 j ∧ rotMany_0 j ≤ 80) (hE_0_37_1 : ∀ j : Int, rot_0 j = rot_1 j) (hE_0_37_2 : ∀ j : Int, 0 ≤ j → (j = x16 → rot_1 j = x2) ∧ (j ≠ x16 → rot_1 j = rot_2 j)) (hK_0_37 : ∀ j : Int, 0 ≤ j → j < 2080 → 0 ≤ rot_0 j ∧ rot_0 j ≤ 79) (kz_0_31 : 0 ≤ pn_0 ∧ pn_0 ≤ 25) (kz_0_32 : 0 ≤ pm_0 ∧ pm_0 ≤ 80) : GRI (pn_0) (pm_0) (pt_0) (ph_0) (alive_0) (rotMany_0) (rot_0) := by
  subst fe_0_31_1
  subst fe_0_32_1
  subst fe_0_31_2
  subst fe_0_32_2
  have e_hE_0_33_1 := funext hE_0_33_1; subst e_hE_0_33_1
  have e_hE_0_33_2 := funext hE_0_33_2; subst e_hE_0_33_2
  have e_hE_0_34_1 := funext hE_0_34_1; subst e_hE_0_34_1
  have e_hE_0_34_2 := funext hE_0_34_2; subst e_hE_0_34_2
  have e_hE_0_35_1 := funext hE_0_35_1; subst e_hE_0_35_1
  have e_hE_0_35_2 := funext hE_0_35_2; subst e_hE_0_35_2
  have e_hE_0_36_2 := funext hE_0_36_2; subst e_hE_0_36_2
  have e_hE_0_37_1 := funext hE_0_37_1; subst e_hE_0_37_1
  first
    | exact (pal_end ‹PLb _ _ _ _ _ _ _ _ _ _ _ _› (by omega) (by assumption) (by omega) (by omega) (by assumption) (by omega) (by omega)).2.2.2.2 rfl
    | exact (pal_end ‹PLd _ _ _ _ _ _ _ _ _ _ _ _ _ _ _› (by omega) (by assumption) (by omega) (by omega) (by assumption) (by omega) (by omega)).2.2.2.2 rfl
def o_Mo_putAt_at_g4_2 : or_T := (68, 21, [(0, (2, 0, 0, [165])), (1, (0, 0, 24, [])), (2, (0, 0, 79, [])), (4, (0, 0, 24, [])), (5, (0, 0, 24, [])), (6, (0, 0, 159, [])), (7, (0, 0, 159, [])), (9, (0, 0, 24, [])), (10, (0, 0, 79, [])), (11, (0, 0, 79, [])), (12, (0, 0, 79, [])), (13, (2, 0, 0, [184])), (14, (0, 80, 80, [])), (15, (0, 0, 1920, [])), (16, (0, 0, 1999, [])), (17, (2, 0, 0, [183])), (18, (0, 0, 80, [])), (19, (0, 1, 1, [])), (20, (0, 1, 80, []))], [(24, [0, 8], []), (24, [1, 9], []), (24, [2, 10], []), (100, [17, 9, 20], []), (1, [20, 18, 19], []), (10, [18, 17, 9], []), (9, [17, 8], [36]), (100, [13, 16, 10], []), (1, [16, 15, 11], []), (3, [15, 14, 9], []), (9, [13, 8], [37]), (7, [12, 11], [5]), (20, [8, 9, 10, 11, 12, 4, 5, 6, 7], [60, 2, 5, 258, 31, 32, 33, 34, 35, 36, 37])], [], [], [(20, [0], [60, 2, 5, 261, 31, 32, 33, 34, 35, 36, 37])], [], [(20, 18, 1, 1), (16, 11, 0, 1920), (16, 15, 0, 79), (12, 11, -4294967296, 0), (1, 9, -4294967296, 0), (2, 10, -4294967296, 0), (9, 1, -4294967296, 0), (10, 2, -4294967296, 0)])
theorem oo_Mo_putAt_at_g4_2 {kA : Nat → ClassId} : or_ok PRD kA GG o_Mo_putAt_at_g4_2 := by
  refine or_mk fun A ta ws vs hD hth hl => ?_
  intro t0 r0 t1 k1 t2 k2 t4 k4 t5 k5 t6 k6 t7 k7 t9 k9 t10 k10 t11 k11 t12 k12 t13 r13 t14 k14 t15 k15 t16 k16 t17 r17 t18 k18 t19 k19 t20 k20 d0 d1 d2 d3 d4 d5 d6 d7 f0 f1 f2 ta1 w1 le1 s1 f4 f5 f6 ta2 w2 le2 s2 f8 f9 f10 f11 f12
  replace f0 := shm_5 f0
  replace f1 := shm_5 f1
  replace f2 := shm_5 f2
  have s1 : (∀ b j, w_el ws b j = if b = v_ad (n_v vs 17) ∧ j = (v_iv (n_v vs 9)).toNat then v_iv (n_v vs 20) else w_el w1 b j) ∧ ∀ b k, w_fd ws b k = w_fd w1 b k := s1.2
  replace f5 := shm_106 f5
  replace f6 := shm_671 f6
  have s2 : (∀ b j, w_el w1 b j = if b = v_ad (n_v vs 13) ∧ j = (v_iv (n_v vs 16)).toNat then v_iv (n_v vs 10) else w_el w2 b j) ∧ ∀ b k, w_fd w1 b k = w_fd w2 b k := s2.2
  replace f9 := shm_38 f9
  rw [show v_iv (n_v vs 14) = 80 from by omega] at f9
  replace f10 := shm_674 f10
  replace f12 := shm_683 f12
  have q8 : n_v vs 8 = n_v vs 0 := f0.symm
  have q9 : n_v vs 9 = n_v vs 1 := f1.symm
  have q10 : n_v vs 10 = n_v vs 2 := f2.symm
  rw [q9] at s1
  simp only [q9, q8] at f5 f6
  rw [q10] at s2
  simp only [q9, q8, q10] at f9 f10 f12
  have ar_0_33_1 : w_ar w1 (n_v vs 0) 33 = w_ar ws (n_v vs 0) 33 := congrArg v_ad (s1.2 _ _).symm
  have ar_0_33_2 : w_ar w2 (n_v vs 0) 33 = w_ar ws (n_v vs 0) 33 := by rw [← ar_0_33_1]; show v_ad (w_fd w2 _ _) = v_ad (w_fd w1 _ _); rw [s2.2]
  have cr_0_33 := fdq_116 hD hth r0
  have ar_0_34_1 : w_ar w1 (n_v vs 0) 34 = w_ar ws (n_v vs 0) 34 := congrArg v_ad (s1.2 _ _).symm
  have ar_0_34_2 : w_ar w2 (n_v vs 0) 34 = w_ar ws (n_v vs 0) 34 := by rw [← ar_0_34_1]; show v_ad (w_fd w2 _ _) = v_ad (w_fd w1 _ _); rw [s2.2]
  have cr_0_34 := fdq_117 hD hth r0
  have ar_0_35_1 : w_ar w1 (n_v vs 0) 35 = w_ar ws (n_v vs 0) 35 := congrArg v_ad (s1.2 _ _).symm
  have ar_0_35_2 : w_ar w2 (n_v vs 0) 35 = w_ar ws (n_v vs 0) 35 := by rw [← ar_0_35_1]; show v_ad (w_fd w2 _ _) = v_ad (w_fd w1 _ _); rw [s2.2]
  have cr_0_35 := fdq_131 hD hth r0
  have ar_0_36_1 : w_ar w1 (n_v vs 0) 36 = w_ar ws (n_v vs 0) 36 := congrArg v_ad (s1.2 _ _).symm
  have ar_0_36_2 : w_ar w2 (n_v vs 0) 36 = w_ar ws (n_v vs 0) 36 := by rw [← ar_0_36_1]; show v_ad (w_fd w2 _ _) = v_ad (w_fd w1 _ _); rw [s2.2]
  have cr_0_36 := fdq_166 hD hth r0
  have ar_0_37_1 : w_ar w1 (n_v vs 0) 37 = w_ar ws (n_v vs 0) 37 := congrArg v_ad (s1.2 _ _).symm
  have ar_0_37_2 : w_ar w2 (n_v vs 0) 37 = w_ar ws (n_v vs 0) 37 := by rw [← ar_0_37_1]; show v_ad (w_fd w2 _ _) = v_ad (w_fd w1 _ _); rw [s2.2]
  have cr_0_37 := fdq_167 hD hth r0
  have ad_17 : v_ad (n_v vs 17) = w_ar ws (n_v vs 0) 36 := (congrArg v_ad f6).trans ar_0_36_1
  have ad_13 : v_ad (n_v vs 13) = w_ar ws (n_v vs 0) 37 := (congrArg v_ad f10).trans ar_0_37_2
  simp only [ad_17] at f5
  have h5 : v_iv (n_v vs 18) = w_ei w1 (w_ar ws (n_v vs 0) 36) (v_iv (n_v vs 1)) := f5
  simp only [ar_0_33_2, ar_0_34_2, ar_0_35_2, ar_0_36_2, ar_0_37_2] at f12
  have fe_0_31_1 : w_fi ws (n_v vs 0) 31 = w_fi w1 (n_v vs 0) 31 := congrArg v_iv (s1.2 _ _)
  have fe_0_32_1 : w_fi ws (n_v vs 0) 32 = w_fi w1 (n_v vs 0) 32 := congrArg v_iv (s1.2 _ _)
  have fe_0_31_2 : w_fi w1 (n_v vs 0) 31 = w_fi w2 (n_v vs 0) 31 := congrArg v_iv (s2.2 _ _)
  have fe_0_32_2 : w_fi w1 (n_v vs 0) 32 = w_fi w2 (n_v vs 0) 32 := congrArg v_iv (s2.2 _ _)
  have hE_0_33_1 : ∀ j : Int, w_ei ws (w_ar ws (n_v vs 0) 33) j = w_ei w1 (w_ar ws (n_v vs 0) 33) j := el_kp s1.1 r17 cr_0_33 (by decide)
  have hE_0_33_2 : ∀ j : Int, w_ei w1 (w_ar ws (n_v vs 0) 33) j = w_ei w2 (w_ar ws (n_v vs 0) 33) j := el_kp s2.1 r13 cr_0_33 (by decide)
  have hK_0_33 := elq_57 hD hth cr_0_33
  have hE_0_34_1 : ∀ j : Int, w_ei ws (w_ar ws (n_v vs 0) 34) j = w_ei w1 (w_ar ws (n_v vs 0) 34) j := el_kp s1.1 r17 cr_0_34 (by decide)
  have hE_0_34_2 : ∀ j : Int, w_ei w1 (w_ar ws (n_v vs 0) 34) j = w_ei w2 (w_ar ws (n_v vs 0) 34) j := el_kp s2.1 r13 cr_0_34 (by decide)
  have hK_0_34 := elq_58 hD hth cr_0_34
  have hE_0_35_1 : ∀ j : Int, w_ei ws (w_ar ws (n_v vs 0) 35) j = w_ei w1 (w_ar ws (n_v vs 0) 35) j := el_kp s1.1 r17 cr_0_35 (by decide)
  have hE_0_35_2 : ∀ j : Int, w_ei w1 (w_ar ws (n_v vs 0) 35) j = w_ei w2 (w_ar ws (n_v vs 0) 35) j := el_kp s2.1 r13 cr_0_35 (by decide)
  have hK_0_35 := elq_69 hD hth cr_0_35
  have hE_0_36_1 : ∀ j : Int, 0 ≤ j → (j = v_iv (n_v vs 1) → w_ei ws (w_ar ws (n_v vs 0) 36) j = v_iv (n_v vs 20)) ∧ (j ≠ v_iv (n_v vs 1) → w_ei ws (w_ar ws (n_v vs 0) 36) j = w_ei w1 (w_ar ws (n_v vs 0) 36) j) := fun j hj => ⟨fun h => by unfold w_ei; rw [s1.1, if_pos ⟨ad_17.symm, by rw [h]⟩], fun h => by unfold w_ei; rw [s1.1, if_neg (fun e => h (by have := e.2; omega))]⟩
  have hE_0_36_2 : ∀ j : Int, w_ei w1 (w_ar ws (n_v vs 0) 36) j = w_ei w2 (w_ar ws (n_v vs 0) 36) j := el_kp s2.1 r13 cr_0_36 (by decide)
  have hK_0_36 := elq_94 hD hth cr_0_36
  have hE_0_37_1 : ∀ j : Int, w_ei ws (w_ar ws (n_v vs 0) 37) j = w_ei w1 (w_ar ws (n_v vs 0) 37) j := el_kp s1.1 r17 cr_0_37 (by decide)
  have hE_0_37_2 : ∀ j : Int, 0 ≤ j → (j = v_iv (n_v vs 16) → w_ei w1 (w_ar ws (n_v vs 0) 37) j = v_iv (n_v vs 2)) ∧ (j ≠ v_iv (n_v vs 16) → w_ei w1 (w_ar ws (n_v vs 0) 37) j = w_ei w2 (w_ar ws (n_v vs 0) 37) j) := fun j hj => ⟨fun h => by unfold w_ei; rw [s2.1, if_pos ⟨ad_13.symm, by rw [h]⟩], fun h => by unfold w_ei; rw [s2.1, if_neg (fun e => h (by have := e.2; omega))]⟩
  have hK_0_37 := elq_95 hD hth cr_0_37
  have kz_0_31 := fdq_144 hD hth r0
  have kz_0_32 := fdq_139 hD hth r0
  have nf0 : fc_1 PRD (20, [0], [60, 2, 5, 261, 31, 32, 33, 34, 35, 36, 37]) ws (vs) := ⟨nf_in hl rfl, sgq_678 (vc_Mo_putAt_at_g4_2_0 (v_iv (n_v vs 1)) (v_iv (n_v vs 2)) (v_iv (n_v vs 4)) (v_iv (n_v vs 5)) (v_iv (n_v vs 6)) (v_iv (n_v vs 7)) (v_iv (n_v vs 9)) (v_iv (n_v vs 10)) (v_iv (n_v vs 11)) (v_iv (n_v vs 12)) (v_iv (n_v vs 14)) (v_iv (n_v vs 15)) (v_iv (n_v vs 16)) (v_iv (n_v vs 18)) (v_iv (n_v vs 19)) (v_iv (n_v vs 20)) (w_ei w1 (w_ar ws (n_v vs 0) 36)) (w_ei w2 (w_ar ws (n_v vs 0) 33)) (w_ei w2 (w_ar ws (n_v vs 0) 34)) (w_ei w2 (w_ar ws (n_v vs 0) 35)) (w_ei w2 (w_ar ws (n_v vs 0) 36)) (w_ei w2 (w_ar ws (n_v vs 0) 37)) (w_fi w2 (n_v vs 0) 31) (w_fi w2 (n_v vs 0) 32) (w_fi ws (n_v vs 0) 31) (w_fi w1 (n_v vs 0) 31) (w_fi ws (n_v vs 0) 32) (w_fi w1 (n_v vs 0) 32) (w_ei ws (w_ar ws (n_v vs 0) 33)) (w_ei w1 (w_ar ws (n_v vs 0) 33)) (w_ei ws (w_ar ws (n_v vs 0) 34)) (w_ei w1 (w_ar ws (n_v vs 0) 34)) (w_ei ws (w_ar ws (n_v vs 0) 35)) (w_ei w1 (w_ar ws (n_v vs 0) 35)) (w_ei ws (w_ar ws (n_v vs 0) 36)) (w_ei ws (w_ar ws (n_v vs 0) 37)) (w_ei w1 (w_ar ws (n_v vs 0) 37)) k1 k2 k4 k5 k6 k7 k9 k10 k11 k12 k14 k15 k16 k18 k19 k20 d0 d1 d2 d3 d4 d5 d6 d7 (shm_12 f4) h5 (shm_12 f8) f9 (shm_24 f11) f12 fe_0_31_1 fe_0_32_1 fe_0_31_2 fe_0_32_2 hE_0_33_1 hE_0_33_2 hK_0_33 hE_0_34_1 hE_0_34_2 hK_0_34 hE_0_35_1 hE_0_35_2 hK_0_35 hE_0_36_1 hE_0_36_2 hK_0_36 hE_0_37_1 hE_0_37_2 hK_0_37 kz_0_31 kz_0_32)⟩
  refine ⟨(fun _ h => (by cases h)), [], trivial, ?_, (fun _ h => (by cases h))⟩
  rw [List.append_nil]
  exact List.forall_mem_cons.mpr ⟨⟨show (20 : Nat) < 100 from by decide, nf0⟩, (fun _ h => (by cases h))⟩
set_option maxHeartbeats 4000000 in
theorem vc_Mo_putAt_at_g4_3_0 (x1 : Int) (x2 : Int) (x4 : Int) (x5 : Int) (x6 : Int) (x7 : Int) (x9 : Int) (x10 : Int) (x11 : Int) (x12 : Int) (x14 : Int) (x15 : Int) (x16 : Int) (x17 : Int) (x18 : Int) (x19 : Int) (x20 : Int) (x21 : Int) (x22 : Int) (x23 : Int) (rot_1 : Int → Int) (pt_1 : Int → Int) (ph_1 : Int → Int) (alive_1 : Int → Int) (rotMany_1 : Int → Int) (pn_1 : Int) (pm_1 : Int) (pn_0 : Int) (pm_0 : Int) (pt_0 : Int → Int) (ph_0 : Int → Int) (alive_0 : Int → Int) (rotMany_0 : Int → Int) (rot_0 : Int → Int) (k1 : 0 ≤ x1 ∧ x1 ≤ 24) (k2 : 0 ≤ x2 ∧ x2 ≤ 79) (k4 : 0 ≤ x4 ∧ x4 ≤ 24) (k5 : 0 ≤ x5 ∧ x5 ≤ 24) (k6 : 0 ≤ x6 ∧ x6 ≤ 159) (k7 : 0 ≤ x7 ∧ x7 ≤ 159) (k9 : 0 ≤ x9 ∧ x9 ≤ 24) (k10 : 0 ≤ x10 ∧ x10 ≤ 79) (k11 : 0 ≤ x11 ∧ x11 ≤ 79) (k12 : 1 ≤ x12 ∧ x12 ≤ 80) (k14 : 80 ≤ x14 ∧ x14 ≤ 80) (k15 : 0 ≤ x15 ∧ x15 ≤ 1920) (k16 : 1 ≤ x16 ∧ x16 ≤ 2000) (k17 : 80 ≤ x17 ∧ x17 ≤ 80) (k18 : 0 ≤ x18 ∧ x18 ≤ 1920) (k19 : 1 ≤ x19 ∧ x19 ≤ 2000) (k20 : 1 ≤ x20 ∧ x20 ≤ 1) (k21 : 0 ≤ x21 ∧ x21 ≤ 1999) (k22 : 0 ≤ x22 ∧ x22 ≤ 79) (k23 : 0 ≤ x23 ∧ x23 ≤ 79) (d0 : x12 + (-1) ≤ x23 ∧ x23 ≤ x12 + (-1)) (d1 : x11 + 0 ≤ x23 ∧ x23 ≤ x11 + 4294967296) (d2 : x19 + (-1) ≤ x21 ∧ x21 ≤ x19 + (-1)) (d3 : x12 + (-1) ≤ x21 ∧ x21 ≤ x12 + 1919) (d4 : x11 + 0 ≤ x21 ∧ x21 ≤ x11 + 4294967296) (d5 : x18 + 0 ≤ x21 ∧ x21 ≤ x18 + 79) (d6 : x12 + 0 ≤ x19 ∧ x19 ≤ x12 + 1920) (d7 : x11 + 1 ≤ x19 ∧ x19 ≤ x11 + 4294967296) (d8 : x18 + 1 ≤ x19 ∧ x19 ≤ x18 + 80) (d9 : x12 + 0 ≤ x16 ∧ x16 ≤ x12 + 1920) (d10 : x11 + 1 ≤ x16 ∧ x16 ≤ x11 + 4294967296) (d11 : x15 + 1 ≤ x16 ∧ x16 ≤ x15 + 80) (d12 : x11 + 1 ≤ x12 ∧ x12 ≤ x11 + 4294967296) (d13 : x9 + (-4294967296) ≤ x1 ∧ x1 ≤ x9 + 0) (d14 : x10 + (-4294967296) ≤ x2 ∧ x2 ≤ x10 + 0) (d15 : x1 + (-4294967296) ≤ x9 ∧ x9 ≤ x1 + 0) (d16 : x2 + (-4294967296) ≤ x10 ∧ x10 ≤ x2 + 0) (f0 : x23 = x12 + (-1)) (h5 : x22 = rot_1 (x21)) (f6 : x21 = x19 - x20) (f7 : x19 = x18 + x12) (f8 : x18 = 80 * x1) (f10 : x16 = x15 + x12) (f11 : x15 = 80 * x1) (f12 : x11 < x12) (f13 : PLd (pn_1) (pm_1) (pt_1) (ph_1) (alive_1) (rotMany_1) (rot_1) (x1) (x2) (x11) (x12) (x4) (x5) (x6) (x7)) (fe_0_31_1 : pn_0 = pn_1) (fe_0_32_1 : pm_0 = pm_1) (hE_0_33_1 : ∀ j : Int, pt_0 j = pt_1 j) (hK_0_33 : ∀ j : Int, 0 ≤ j → j < 80 → 0 ≤ pt_0 j ∧ pt_0 j ≤ 24) (hE_0_34_1 : ∀ j : Int, ph_0 j = ph_1 j) (hK_0_34 : ∀ j : Int, 0 ≤ j → j < 80 → 0 ≤ ph_0 j ∧ ph_0 j ≤ 24) (hE_0_35_1 : ∀ j : Int, alive_0 j = alive_1 j) (hK_0_35 : ∀ j : Int, 0 ≤ j → j < 80 → 0 ≤ alive_0 j ∧ alive_0 j ≤ 1) (hE_0_36_1 : ∀ j : Int, rotMany_0 j = rotMany_1 j) (hK_0_36 : ∀ j : Int, 0 ≤ j → j < 26 → 0 ≤ rotMany_0 j ∧ rotMany_0 j ≤ 80) (hE_0_37_1 : ∀ j : Int, 0 ≤ j → (j = x16 → rot_0 j = x22) ∧ (j ≠ x16 → rot_0 j = rot_1 j)) (hK_0_37 : ∀ j : Int, 0 ≤ j → j < 2080 → 0 ≤ rot_0 j ∧ rot_0 j ≤ 79) (kz_0_31 : 0 ≤ pn_0 ∧ pn_0 ≤ 25) (kz_0_32 : 0 ≤ pm_0 ∧ pm_0 ≤ 80) : PLd (pn_0) (pm_0) (pt_0) (ph_0) (alive_0) (rotMany_0) (rot_0) (x1) (x2) (x11) (x23) (x4) (x5) (x6) (x7) := by
  subst fe_0_31_1
  subst fe_0_32_1
  have e_hE_0_33_1 := funext hE_0_33_1; subst e_hE_0_33_1
  have e_hE_0_34_1 := funext hE_0_34_1; subst e_hE_0_34_1
  have e_hE_0_35_1 := funext hE_0_35_1; subst e_hE_0_35_1
  have e_hE_0_36_1 := funext hE_0_36_1; subst e_hE_0_36_1
  first
    | exact pal_start ‹PAd _ _ _ _ _ _ _ _ _ _ _ _ _ _› (by omega)
    | exact pal_step ‹PLd _ _ _ _ _ _ _ _ _ _ _ _ _ _ _› (by omega) (by omega) (by assumption) (by omega) (by assumption) (by omega)
def o_Mo_putAt_at_g4_3 : or_T := (8, 24, [(0, (2, 0, 0, [165])), (1, (0, 0, 24, [])), (2, (0, 0, 79, [])), (4, (0, 0, 24, [])), (5, (0, 0, 24, [])), (6, (0, 0, 159, [])), (7, (0, 0, 159, [])), (9, (0, 0, 24, [])), (10, (0, 0, 79, [])), (11, (0, 0, 79, [])), (12, (0, 1, 80, [])), (13, (2, 0, 0, [184])), (14, (0, 80, 80, [])), (15, (0, 0, 1920, [])), (16, (0, 1, 2000, [])), (17, (0, 80, 80, [])), (18, (0, 0, 1920, [])), (19, (0, 1, 2000, [])), (20, (0, 1, 1, [])), (21, (0, 0, 1999, [])), (22, (0, 0, 79, [])), (23, (0, 0, 79, []))], [(6, [23, 12], [-1]), (24, [0, 8], []), (24, [1, 9], []), (24, [2, 10], []), (100, [13, 16, 22], []), (10, [22, 13, 21], []), (2, [21, 19, 20], []), (1, [19, 18, 12], []), (3, [18, 17, 9], []), (9, [13, 8], [37]), (1, [16, 15, 12], []), (3, [15, 14, 9], []), (7, [12, 11], [4]), (20, [8, 9, 10, 11, 12, 4, 5, 6, 7], [60, 2, 5, 258, 31, 32, 33, 34, 35, 36, 37])], [], [], [(20, [8, 9, 10, 11, 23, 4, 5, 6, 7], [60, 2, 5, 258, 31, 32, 33, 34, 35, 36, 37])], [], [(23, 12, -1, -1), (23, 11, 0, 4294967296), (21, 19, -1, -1), (21, 12, -1, 1919), (21, 11, 0, 4294967296), (21, 18, 0, 79), (19, 12, 0, 1920), (19, 11, 1, 4294967296), (19, 18, 1, 80), (16, 12, 0, 1920), (16, 11, 1, 4294967296), (16, 15, 1, 80), (12, 11, 1, 4294967296), (1, 9, -4294967296, 0), (2, 10, -4294967296, 0), (9, 1, -4294967296, 0), (10, 2, -4294967296, 0)])
theorem oo_Mo_putAt_at_g4_3 {kA : Nat → ClassId} : or_ok PRD kA GG o_Mo_putAt_at_g4_3 := by
  refine or_mk fun A ta ws vs hD hth hl => ?_
  intro t0 r0 t1 k1 t2 k2 t4 k4 t5 k5 t6 k6 t7 k7 t9 k9 t10 k10 t11 k11 t12 k12 t13 r13 t14 k14 t15 k15 t16 k16 t17 k17 t18 k18 t19 k19 t20 k20 t21 k21 t22 k22 t23 k23 d0 d1 d2 d3 d4 d5 d6 d7 d8 d9 d10 d11 d12 d13 d14 d15 d16 f0 f1 f2 f3 ta1 w1 le1 s1 f5 f6 f7 f8 f9 f10 f11 f12 f13
  replace f0 := shm_198 f0
  replace f1 := shm_5 f1
  replace f2 := shm_5 f2
  replace f3 := shm_5 f3
  have s1 : (∀ b j, w_el ws b j = if b = v_ad (n_v vs 13) ∧ j = (v_iv (n_v vs 16)).toNat then v_iv (n_v vs 22) else w_el w1 b j) ∧ ∀ b k, w_fd ws b k = w_fd w1 b k := s1.2
  replace f5 := shm_106 f5
  replace f6 := shm_14 f6
  replace f7 := shm_12 f7
  replace f8 := shm_38 f8
  rw [show v_iv (n_v vs 17) = 80 from by omega] at f8
  replace f9 := shm_674 f9
  replace f10 := shm_12 f10
  replace f11 := shm_38 f11
  rw [show v_iv (n_v vs 14) = 80 from by omega] at f11
  replace f12 := shm_21 f12
  replace f13 := shm_683 f13
  have q8 : n_v vs 8 = n_v vs 0 := f1.symm
  have q9 : n_v vs 9 = n_v vs 1 := f2.symm
  have q10 : n_v vs 10 = n_v vs 2 := f3.symm
  simp only [q9, q8, q10] at f8 f9 f11 f13
  have ar_0_33_1 : w_ar w1 (n_v vs 0) 33 = w_ar ws (n_v vs 0) 33 := congrArg v_ad (s1.2 _ _).symm
  have cr_0_33 := fdq_116 hD hth r0
  have ar_0_34_1 : w_ar w1 (n_v vs 0) 34 = w_ar ws (n_v vs 0) 34 := congrArg v_ad (s1.2 _ _).symm
  have cr_0_34 := fdq_117 hD hth r0
  have ar_0_35_1 : w_ar w1 (n_v vs 0) 35 = w_ar ws (n_v vs 0) 35 := congrArg v_ad (s1.2 _ _).symm
  have cr_0_35 := fdq_131 hD hth r0
  have ar_0_36_1 : w_ar w1 (n_v vs 0) 36 = w_ar ws (n_v vs 0) 36 := congrArg v_ad (s1.2 _ _).symm
  have cr_0_36 := fdq_166 hD hth r0
  have ar_0_37_1 : w_ar w1 (n_v vs 0) 37 = w_ar ws (n_v vs 0) 37 := congrArg v_ad (s1.2 _ _).symm
  have cr_0_37 := fdq_167 hD hth r0
  have ad_13 : v_ad (n_v vs 13) = w_ar ws (n_v vs 0) 37 := (congrArg v_ad f9).trans ar_0_37_1
  simp only [ad_13] at f5
  have h5 : v_iv (n_v vs 22) = w_ei w1 (w_ar ws (n_v vs 0) 37) (v_iv (n_v vs 21)) := f5
  simp only [ar_0_33_1, ar_0_34_1, ar_0_35_1, ar_0_36_1, ar_0_37_1] at f13
  have fe_0_31_1 : w_fi ws (n_v vs 0) 31 = w_fi w1 (n_v vs 0) 31 := congrArg v_iv (s1.2 _ _)
  have fe_0_32_1 : w_fi ws (n_v vs 0) 32 = w_fi w1 (n_v vs 0) 32 := congrArg v_iv (s1.2 _ _)
  have hE_0_33_1 : ∀ j : Int, w_ei ws (w_ar ws (n_v vs 0) 33) j = w_ei w1 (w_ar ws (n_v vs 0) 33) j := el_kp s1.1 r13 cr_0_33 (by decide)
  have hK_0_33 := elq_57 hD hth cr_0_33
  have hE_0_34_1 : ∀ j : Int, w_ei ws (w_ar ws (n_v vs 0) 34) j = w_ei w1 (w_ar ws (n_v vs 0) 34) j := el_kp s1.1 r13 cr_0_34 (by decide)
  have hK_0_34 := elq_58 hD hth cr_0_34
  have hE_0_35_1 : ∀ j : Int, w_ei ws (w_ar ws (n_v vs 0) 35) j = w_ei w1 (w_ar ws (n_v vs 0) 35) j := el_kp s1.1 r13 cr_0_35 (by decide)
  have hK_0_35 := elq_69 hD hth cr_0_35
  have hE_0_36_1 : ∀ j : Int, w_ei ws (w_ar ws (n_v vs 0) 36) j = w_ei w1 (w_ar ws (n_v vs 0) 36) j := el_kp s1.1 r13 cr_0_36 (by decide)
  have hK_0_36 := elq_94 hD hth cr_0_36
  have hE_0_37_1 : ∀ j : Int, 0 ≤ j → (j = v_iv (n_v vs 16) → w_ei ws (w_ar ws (n_v vs 0) 37) j = v_iv (n_v vs 22)) ∧ (j ≠ v_iv (n_v vs 16) → w_ei ws (w_ar ws (n_v vs 0) 37) j = w_ei w1 (w_ar ws (n_v vs 0) 37) j) := fun j hj => ⟨fun h => by unfold w_ei; rw [s1.1, if_pos ⟨ad_13.symm, by rw [h]⟩], fun h => by unfold w_ei; rw [s1.1, if_neg (fun e => h (by have := e.2; omega))]⟩
  have hK_0_37 := elq_95 hD hth cr_0_37
  have kz_0_31 := fdq_144 hD hth r0
  have kz_0_32 := fdq_139 hD hth r0
  have nf0 : fc_1 PRD (20, [8, 9, 10, 11, 23, 4, 5, 6, 7], [60, 2, 5, 258, 31, 32, 33, 34, 35, 36, 37]) ws (vs) := by
    refine ⟨nf_in hl rfl, sgq_683 ?_⟩
    · show PLd (w_fi ws (n_v vs 8) 31) (w_fi ws (n_v vs 8) 32) (w_ei ws (w_ar ws (n_v vs 8) 33)) (w_ei ws (w_ar ws (n_v vs 8) 34)) (w_ei ws (w_ar ws (n_v vs 8) 35)) (w_ei ws (w_ar ws (n_v vs 8) 36)) (w_ei ws (w_ar ws (n_v vs 8) 37)) (v_iv (n_v vs 9)) (v_iv (n_v vs 10)) (v_iv (n_v vs 11)) (v_iv (n_v vs 23)) (v_iv (n_v vs 4)) (v_iv (n_v vs 5)) (v_iv (n_v vs 6)) (v_iv (n_v vs 7))
      simp only [q8, q9, q10]
      exact vc_Mo_putAt_at_g4_3_0 (v_iv (n_v vs 1)) (v_iv (n_v vs 2)) (v_iv (n_v vs 4)) (v_iv (n_v vs 5)) (v_iv (n_v vs 6)) (v_iv (n_v vs 7)) (v_iv (n_v vs 9)) (v_iv (n_v vs 10)) (v_iv (n_v vs 11)) (v_iv (n_v vs 12)) (v_iv (n_v vs 14)) (v_iv (n_v vs 15)) (v_iv (n_v vs 16)) (v_iv (n_v vs 17)) (v_iv (n_v vs 18)) (v_iv (n_v vs 19)) (v_iv (n_v vs 20)) (v_iv (n_v vs 21)) (v_iv (n_v vs 22)) (v_iv (n_v vs 23)) (w_ei w1 (w_ar ws (n_v vs 0) 37)) (w_ei w1 (w_ar ws (n_v vs 0) 33)) (w_ei w1 (w_ar ws (n_v vs 0) 34)) (w_ei w1 (w_ar ws (n_v vs 0) 35)) (w_ei w1 (w_ar ws (n_v vs 0) 36)) (w_fi w1 (n_v vs 0) 31) (w_fi w1 (n_v vs 0) 32) (w_fi ws (n_v vs 0) 31) (w_fi ws (n_v vs 0) 32) (w_ei ws (w_ar ws (n_v vs 0) 33)) (w_ei ws (w_ar ws (n_v vs 0) 34)) (w_ei ws (w_ar ws (n_v vs 0) 35)) (w_ei ws (w_ar ws (n_v vs 0) 36)) (w_ei ws (w_ar ws (n_v vs 0) 37)) k1 k2 k4 k5 k6 k7 k9 k10 k11 k12 k14 k15 k16 k17 k18 k19 k20 k21 k22 k23 d0 d1 d2 d3 d4 d5 d6 d7 d8 d9 d10 d11 d12 d13 d14 d15 d16 f0 h5 f6 f7 f8 f10 f11 f12 f13 fe_0_31_1 fe_0_32_1 hE_0_33_1 hK_0_33 hE_0_34_1 hK_0_34 hE_0_35_1 hK_0_35 hE_0_36_1 hK_0_36 hE_0_37_1 hK_0_37 kz_0_31 kz_0_32
  refine ⟨(fun _ h => (by cases h)), [], trivial, ?_, (fun _ h => (by cases h))⟩
  rw [List.append_nil]
  exact List.forall_mem_cons.mpr ⟨⟨show (20 : Nat) < 100 from by decide, nf0⟩, (fun _ h => (by cases h))⟩
def n_Mo_putAt_at_g4_an : List an_T := [(8, [(0, (2, 0, 0, [165])), (1, (0, 0, 24, [])), (2, (0, 0, 79, [])), (3, (0, 0, 79, [])), (4, (0, 0, 80, []))], [], (0, 0), [(0, 0, 99992), (2, 12, 0), (0, 0, 100000)], [(1, 9, (Int.negSucc 999999999999), 0), (2, 10, (Int.negSucc 999999999999), 0), (3, 11, (Int.negSucc 999999999999), 0), (9, 1, (Int.negSucc 999999999999), 0), (10, 2, (Int.negSucc 999999999999), 0), (11, 3, (Int.negSucc 999999999999), 0)], [], [(2, 0, 0, [165]), (0, 0, 24, []), (0, 0, 79, []), (0, 0, 79, []), (0, 0, 24, []), (0, 0, 24, []), (0, 0, 159, []), (0, 0, 159, [])], 0, [], [(20, [8, 9, 10, 11, 12, 4, 5, 6, 7], [60, 2, 5, 258, 31, 32, 33, 34, 35, 36, 37]), (24, [0, 8], []), (24, [1, 9], []), (24, [2, 10], [])])]
def t_Mo_putAt_at_g4_ct : ct_L := []
set_option maxRecDepth 100000 in
theorem c_Mo_putAt_at_g4 {l : Launch} {D : va_G} {kA : Nat → ClassId} : ct_ok PRD l D kA GG y_Mo_putAt_at_g4 z_Mo_putAt_at_g4 e_Mo_putAt_at_g4 := chk_all_ok (FT := [(66, 13, 36), (69, 13, 37)]) (PT := []) (CT := t_Mo_putAt_at_g4_ct) (KT := []) (NT := []) (AN := n_Mo_putAt_at_g4_an) (OT := [o_Mo_putAt_at_g4_0, o_Mo_putAt_at_g4_1, o_Mo_putAt_at_g4_2, o_Mo_putAt_at_g4_3]) 3 200 (List.forall_mem_cons.mpr ⟨oo_Mo_putAt_at_g4_0, List.forall_mem_cons.mpr ⟨oo_Mo_putAt_at_g4_1, List.forall_mem_cons.mpr ⟨oo_Mo_putAt_at_g4_2, List.forall_mem_cons.mpr ⟨oo_Mo_putAt_at_g4_3, List.forall_mem_nil _⟩⟩⟩⟩) (by decide +kernel) ⟨List.forall_mem_cons.mpr ⟨gf_Mo_66, List.forall_mem_cons.mpr ⟨gf_Mo_69, List.forall_mem_nil _⟩⟩, List.forall_mem_nil _, List.forall_mem_nil _, List.forall_mem_nil _, List.forall_mem_nil _, GG_pl⟩ (by decide +kernel)
set_option maxHeartbeats 4000000 in
theorem vc_Mo_px_0_0 (x1 : Int) (x3 : Int) (x4 : Int) (x5 : Int) (x6 : Int) (x7 : Int) (nodeX_0 : Int → Int) (g0_0 : Int) (k1 : 0 ≤ x1 ∧ x1 ≤ 23) (k3 : 24 ≤ x3 ∧ x3 ≤ 24) (k4 : 0 ≤ x4 ∧ x4 ≤ 3) (k5 : 0 ≤ x5 ∧ x5 ≤ 72) (k6 : 0 ≤ x6 ∧ x6 ≤ 95) (k7 : (-300000000) ≤ x7 ∧ x7 ≤ 300000000) (d0 : x1 + 0 ≤ x6 ∧ x6 ≤ x1 + 72) (d1 : x5 + 0 ≤ x6 ∧ x6 ≤ x5 + 23) (h0 : x7 = nodeX_0 (x6)) (f1 : x6 = x5 + x1) (f2 : x5 = 24 * x4) (g3 : x4 = g0_0) (hK_0_62 : ∀ j : Int, 0 ≤ j → j < 96 → (-300000000) ≤ nodeX_0 j ∧ nodeX_0 j ≤ 300000000) (kz_0_139 : 0 ≤ g0_0 ∧ g0_0 ≤ 3) : x7 = nodeX_0 (((24 * g0_0) + x1)) := by
  first | assumption | (clear hK_0_62; omega) | omega | grind
def o_Mo_px_0 : or_T := (14, 8, [(0, (2, 0, 0, [165])), (1, (0, 0, 23, [])), (3, (0, 24, 24, [])), (4, (0, 0, 3, [])), (5, (0, 0, 72, [])), (6, (0, 0, 95, [])), (7, (0, -300000000, 300000000, []))], [(10, [7, 2, 6], []), (1, [6, 5, 1], []), (3, [5, 3, 4], []), (9, [4, 0], [139]), (9, [2, 0], [62])], [], [], [(20, [7, 0, 1], [50, 1, 1, 1139, 1062, 1, 2, 1, 0, 3, 1, 62, 4, 7, 6, 2, 0, 24, 2, 1, 139, 1, 2])], [], [(6, 1, 0, 72), (6, 5, 0, 23)])
theorem oo_Mo_px_0 {kA : Nat → ClassId} : or_ok PRD kA GG o_Mo_px_0 := by
  refine or_mk fun A ta ws vs hD hth hl => ?_
  intro t0 r0 t1 k1 t3 k3 t4 k4 t5 k5 t6 k6 t7 k7 d0 d1 f0 f1 f2 f3 f4
  replace f0 := shm_106 f0
  replace f2 := shm_38 f2
  rw [show v_iv (n_v vs 3) = 24 from by omega] at f2
  replace f3 := shm_668 f3
  replace f4 := shm_684 f4
  have cr_0_62 := fdq_172 hD hth r0
  have ad_2 : v_ad (n_v vs 2) = w_ar ws (n_v vs 0) 62 := congrArg v_ad f4
  simp only [ad_2] at f0
  have h0 : v_iv (n_v vs 7) = w_ei ws (w_ar ws (n_v vs 0) 62) (v_iv (n_v vs 6)) := f0
  have g3 : v_iv (n_v vs 4) = w_fi ws (n_v vs 0) 139 := congrArg v_iv f3
  have hK_0_62 := elq_99 hD hth cr_0_62
  have kz_0_139 := fdq_171 hD hth r0
  have nf0 : fc_1 PRD (20, [7, 0, 1], [50, 1, 1, 1139, 1062, 1, 2, 1, 0, 3, 1, 62, 4, 7, 6, 2, 0, 24, 2, 1, 139, 1, 2]) ws (vs) := ⟨nf_in hl rfl, sgq_685 (vc_Mo_px_0_0 (v_iv (n_v vs 1)) (v_iv (n_v vs 3)) (v_iv (n_v vs 4)) (v_iv (n_v vs 5)) (v_iv (n_v vs 6)) (v_iv (n_v vs 7)) (w_ei ws (w_ar ws (n_v vs 0) 62)) (w_fi ws (n_v vs 0) 139) k1 k3 k4 k5 k6 k7 d0 d1 h0 (shm_12 f1) f2 g3 hK_0_62 kz_0_139)⟩
  refine ⟨(fun _ h => (by cases h)), [], trivial, ?_, (fun _ h => (by cases h))⟩
  rw [List.append_nil]
  exact List.forall_mem_cons.mpr ⟨⟨show (20 : Nat) < 100 from by decide, nf0⟩, (fun _ h => (by cases h))⟩
def n_Mo_px_an : List an_T := []
def t_Mo_px_ct : ct_L := []
set_option maxRecDepth 100000 in
theorem c_Mo_px {l : Launch} {D : va_G} {kA : Nat → ClassId} : ct_ok PRD l D kA GG y_Mo_px z_Mo_px e_Mo_px := chk_all_ok (FT := [(123, 13, 62), (1020, 13, 139)]) (PT := []) (CT := t_Mo_px_ct) (KT := []) (NT := []) (AN := n_Mo_px_an) (OT := [o_Mo_px_0]) 0 200 (List.forall_mem_cons.mpr ⟨oo_Mo_px_0, List.forall_mem_nil _⟩) (by decide +kernel) ⟨List.forall_mem_cons.mpr ⟨gf_Mo_123, List.forall_mem_cons.mpr ⟨gf_Mo_1020, List.forall_mem_nil _⟩⟩, List.forall_mem_nil _, List.forall_mem_nil _, List.forall_mem_nil _, List.forall_mem_nil _, GG_pl⟩ (by decide +kernel)
set_option maxHeartbeats 4000000 in
theorem vc_Mo_py_0_0 (x1 : Int) (x3 : Int) (x4 : Int) (x5 : Int) (x6 : Int) (x7 : Int) (nodeY_0 : Int → Int) (g0_0 : Int) (k1 : 0 ≤ x1 ∧ x1 ≤ 23) (k3 : 24 ≤ x3 ∧ x3 ≤ 24) (k4 : 0 ≤ x4 ∧ x4 ≤ 3) (k5 : 0 ≤ x5 ∧ x5 ≤ 72) (k6 : 0 ≤ x6 ∧ x6 ≤ 95) (k7 : (-300000000) ≤ x7 ∧ x7 ≤ 300000000) (d0 : x1 + 0 ≤ x6 ∧ x6 ≤ x1 + 72) (d1 : x5 + 0 ≤ x6 ∧ x6 ≤ x5 + 23) (h0 : x7 = nodeY_0 (x6)) (f1 : x6 = x5 + x1) (f2 : x5 = 24 * x4) (g3 : x4 = g0_0) (hK_0_63 : ∀ j : Int, 0 ≤ j → j < 96 → (-300000000) ≤ nodeY_0 j ∧ nodeY_0 j ≤ 300000000) (kz_0_139 : 0 ≤ g0_0 ∧ g0_0 ≤ 3) : x7 = nodeY_0 (((24 * g0_0) + x1)) := by
  first | assumption | (clear hK_0_63; omega) | omega | grind
def o_Mo_py_0 : or_T := (14, 8, [(0, (2, 0, 0, [165])), (1, (0, 0, 23, [])), (3, (0, 24, 24, [])), (4, (0, 0, 3, [])), (5, (0, 0, 72, [])), (6, (0, 0, 95, [])), (7, (0, -300000000, 300000000, []))], [(10, [7, 2, 6], []), (1, [6, 5, 1], []), (3, [5, 3, 4], []), (9, [4, 0], [139]), (9, [2, 0], [63])], [], [], [(20, [7, 0, 1], [50, 1, 1, 1139, 1063, 1, 2, 1, 0, 3, 1, 63, 4, 7, 6, 2, 0, 24, 2, 1, 139, 1, 2])], [], [(6, 1, 0, 72), (6, 5, 0, 23)])
theorem oo_Mo_py_0 {kA : Nat → ClassId} : or_ok PRD kA GG o_Mo_py_0 := by
  refine or_mk fun A ta ws vs hD hth hl => ?_
  intro t0 r0 t1 k1 t3 k3 t4 k4 t5 k5 t6 k6 t7 k7 d0 d1 f0 f1 f2 f3 f4
  replace f0 := shm_106 f0
  replace f2 := shm_38 f2
  rw [show v_iv (n_v vs 3) = 24 from by omega] at f2
  replace f3 := shm_668 f3
  replace f4 := shm_686 f4
  have cr_0_63 := fdq_173 hD hth r0
  have ad_2 : v_ad (n_v vs 2) = w_ar ws (n_v vs 0) 63 := congrArg v_ad f4
  simp only [ad_2] at f0
  have h0 : v_iv (n_v vs 7) = w_ei ws (w_ar ws (n_v vs 0) 63) (v_iv (n_v vs 6)) := f0
  have g3 : v_iv (n_v vs 4) = w_fi ws (n_v vs 0) 139 := congrArg v_iv f3
  have hK_0_63 := elq_100 hD hth cr_0_63
  have kz_0_139 := fdq_171 hD hth r0
  have nf0 : fc_1 PRD (20, [7, 0, 1], [50, 1, 1, 1139, 1063, 1, 2, 1, 0, 3, 1, 63, 4, 7, 6, 2, 0, 24, 2, 1, 139, 1, 2]) ws (vs) := ⟨nf_in hl rfl, sgq_687 (vc_Mo_py_0_0 (v_iv (n_v vs 1)) (v_iv (n_v vs 3)) (v_iv (n_v vs 4)) (v_iv (n_v vs 5)) (v_iv (n_v vs 6)) (v_iv (n_v vs 7)) (w_ei ws (w_ar ws (n_v vs 0) 63)) (w_fi ws (n_v vs 0) 139) k1 k3 k4 k5 k6 k7 d0 d1 h0 (shm_12 f1) f2 g3 hK_0_63 kz_0_139)⟩
  refine ⟨(fun _ h => (by cases h)), [], trivial, ?_, (fun _ h => (by cases h))⟩
  rw [List.append_nil]
  exact List.forall_mem_cons.mpr ⟨⟨show (20 : Nat) < 100 from by decide, nf0⟩, (fun _ h => (by cases h))⟩
def n_Mo_py_an : List an_T := []
def t_Mo_py_ct : ct_L := []
set_option maxRecDepth 100000 in
theorem c_Mo_py {l : Launch} {D : va_G} {kA : Nat → ClassId} : ct_ok PRD l D kA GG y_Mo_py z_Mo_py e_Mo_py := chk_all_ok (FT := [(126, 13, 63), (1020, 13, 139)]) (PT := []) (CT := t_Mo_py_ct) (KT := []) (NT := []) (AN := n_Mo_py_an) (OT := [o_Mo_py_0]) 0 200 (List.forall_mem_cons.mpr ⟨oo_Mo_py_0, List.forall_mem_nil _⟩) (by decide +kernel) ⟨List.forall_mem_cons.mpr ⟨gf_Mo_126, List.forall_mem_cons.mpr ⟨gf_Mo_1020, List.forall_mem_nil _⟩⟩, List.forall_mem_nil _, List.forall_mem_nil _, List.forall_mem_nil _, List.forall_mem_nil _, GG_pl⟩ (by decide +kernel)
set_option maxHeartbeats 4000000 in
theorem vc_Mo_reached_at_gb_0_r0 (x1 : Int) (x2 : Int) (x3 : Int) (x4 : Int) (x5 : Int) (x7 : Int) (x8 : Int) (x9 : Int) (x11 : Int) (x12 : Int) (x14 : Int) (x15 : Int) (x16 : Int) (x17 : Int) (x18 : Int) (bucketMany_0 : Int → Int) (bucketMany_1 : Int → Int) (costOf_2 : Int → Int) (barredPoint_2 : Int → Int) (bucket_2 : Int → Int) (bucketMany_2 : Int → Int) (wide_2 : Int) (tall_2 : Int) (wide_0 : Int) (wide_1 : Int) (tall_0 : Int) (tall_1 : Int) (costOf_0 : Int → Int) (costOf_1 : Int → Int) (bucket_0 : Int → Int) (bucket_1 : Int → Int) (barredPoint_0 : Int → Int) (barredPoint_1 : Int → Int) (k1 : 0 ≤ x1 ∧ x1 ≤ 23999) (k2 : 1 ≤ x2 ∧ x2 ≤ 999999) (k3 : 0 ≤ x3 ∧ x3 ≤ 5999) (k4 : 0 ≤ x4 ∧ x4 ≤ 1000008) (k5 : 0 ≤ x5 ∧ x5 ≤ 23999) (k7 : 2 ≤ x7 ∧ x7 ≤ 1000000) (k8 : 3 ≤ x8 ∧ x8 ≤ 3) (k9 : 0 ≤ x9 ∧ x9 ≤ 3) (k11 : 24010 ≤ x11 ∧ x11 ≤ 24010) (k12 : 0 ≤ x12 ∧ x12 ≤ 72030) (k14 : 0 ≤ x14 ∧ x14 ≤ 24009) (k15 : 0 ≤ x15 ∧ x15 ≤ 96039) (k16 : 0 ≤ x16 ∧ x16 ≤ 24009) (k17 : 1 ≤ x17 ∧ x17 ≤ 1) (k18 : 1 ≤ x18 ∧ x18 ≤ 24010) (d0 : x16 + 1 ≤ x18 ∧ x18 ≤ x16 + 1) (d1 : x14 + 0 ≤ x15 ∧ x15 ≤ x14 + 72030) (d2 : x12 + 0 ≤ x15 ∧ x15 ≤ x12 + 24009) (d3 : x2 + 1 ≤ x7 ∧ x7 ≤ x2 + 4294967296) (f0 : x18 = x16 + x17) (h1 : x16 = bucketMany_0 (x9)) (f4 : x15 = x12 + x14) (h5 : x14 = bucketMany_1 (x9)) (f6 : x12 = 24010 * x9) (f8 : x9 = x2 % 4) (f9 : bvp (x9) = bvp (x2) &&& bvp (x8)) (f12 : x2 < x7) (h13 : x7 = costOf_2 (x1)) (f14 : RTQ (wide_2) (tall_2) (barredPoint_2) (costOf_2) (bucket_2) (bucketMany_2) (x3) (x4)) (f15 : RJB (wide_2) (tall_2) (barredPoint_2) (costOf_2) (x3) (x4) (x1) (x2)) (f16 : PIV (costOf_2) (x5) (x4)) (fe_0_146_1 : wide_0 = wide_1) (fe_0_147_1 : tall_0 = tall_1) (fe_0_146_2 : wide_1 = wide_2) (fe_0_147_2 : tall_1 = tall_2) (hE_0_140_1 : ∀ j : Int, costOf_0 j = costOf_1 j) (hE_0_140_2 : ∀ j : Int, 0 ≤ j → (j = x1 → costOf_1 j = x2) ∧ (j ≠ x1 → costOf_1 j = costOf_2 j)) (hK_0_140 : ∀ j : Int, 0 ≤ j → j < 24000 → 0 ≤ costOf_0 j ∧ costOf_0 j ≤ 1000000) (hE_0_141_1 : ∀ j : Int, 0 ≤ j → (j = x15 → bucket_0 j = x1) ∧ (j ≠ x15 → bucket_0 j = bucket_1 j)) (hE_0_141_2 : ∀ j : Int, bucket_1 j = bucket_2 j) (hK_0_141 : ∀ j : Int, 0 ≤ j → j < 96040 → 0 ≤ bucket_0 j ∧ bucket_0 j ≤ 23999) (hE_0_142_1 : ∀ j : Int, bucketMany_0 j = bucketMany_1 j) (hE_0_142_2 : ∀ j : Int, bucketMany_1 j = bucketMany_2 j) (hK_0_142 : ∀ j : Int, 0 ≤ j → j < 4 → 0 ≤ bucketMany_0 j ∧ bucketMany_0 j ≤ 24009) (hE_0_143_1 : ∀ j : Int, barredPoint_0 j = barredPoint_1 j) (hE_0_143_2 : ∀ j : Int, barredPoint_1 j = barredPoint_2 j) (hK_0_143 : ∀ j : Int, 0 ≤ j → j < 6000 → 0 ≤ barredPoint_0 j ∧ barredPoint_0 j ≤ 1) (kz_0_146 : (-3999999) ≤ wide_0 ∧ wide_0 ≤ 600000023) (kz_0_147 : (-3999999) ≤ tall_0 ∧ tall_0 ≤ 600000007) : 1 ≤ x18 ∧ x18 ≤ 24001 := by
  subst fe_0_146_1
  subst fe_0_147_1
  subst fe_0_146_2
  subst fe_0_147_2
  have e_hE_0_140_1 := funext hE_0_140_1; subst e_hE_0_140_1
  have e_hE_0_141_2 := funext hE_0_141_2; subst e_hE_0_141_2
  have e_hE_0_142_1 := funext hE_0_142_1; subst e_hE_0_142_1
  have e_hE_0_142_2 := funext hE_0_142_2; subst e_hE_0_142_2
  have e_hE_0_143_1 := funext hE_0_143_1; subst e_hE_0_143_1
  have e_hE_0_143_2 := funext hE_0_143_2; subst e_hE_0_143_2
  first
    | (have h := reach_room (b := x7) (m := x14) (s := x1) (v := x2) (c := 0) ‹RT0 _ _ _ _ _ _ _› ‹RJ0 _ _ _ _ _ _ _› (by omega) (by omega) (by assumption); omega)
    | (have h := reach_room (b := x9) (m := x16) (s := x1) (v := x2) ‹RTQ _ _ _ _ _ _ _ _› ‹RJB _ _ _ _ _ _ _ _› (by omega) (by omega) (by assumption); omega)
def o_Mo_reached_at_gb_0 : or_T := (49, 19, [(0, (2, 0, 0, [165])), (1, (0, 0, 23999, [])), (2, (0, 1, 999999, [])), (3, (0, 0, 5999, [])), (4, (0, 0, 1000008, [])), (5, (0, 0, 23999, [])), (6, (2, 0, 0, [266])), (7, (0, 2, 1000000, [])), (8, (0, 3, 3, [])), (9, (0, 0, 3, [])), (10, (2, 0, 0, [267])), (11, (0, 24010, 24010, [])), (12, (0, 0, 72030, [])), (13, (2, 0, 0, [268])), (14, (0, 0, 24009, [])), (15, (0, 0, 96039, [])), (16, (0, 0, 24009, [])), (17, (0, 1, 1, [])), (18, (0, 1, 24010, []))], [(1, [18, 16, 17], []), (10, [16, 13, 9], []), (9, [13, 0], [142]), (100, [10, 15, 1], []), (1, [15, 12, 14], []), (10, [14, 13, 9], []), (3, [12, 11, 9], []), (9, [10, 0], [141]), (12, [9, 2], [4]), (16, [9, 2, 8], [0]), (100, [6, 1, 2], []), (9, [6, 0], [140]), (7, [7, 2], [4]), (10, [7, 6, 1], []), (20, [0, 3, 4], [60, 2, 4, 495, 146, 147, 143, 140, 141, 142]), (20, [0, 3, 4, 1, 2], [60, 2, 2, 498, 146, 147, 143, 140]), (20, [0, 5, 4], [60, 0, 1, 497, 140])], [(18, (0, 1, 24001, []))], [], [], [], [(18, 16, 1, 1), (15, 14, 0, 72030), (15, 12, 0, 24009), (7, 2, 1, 4294967296)])
theorem oo_Mo_reached_at_gb_0 {kA : Nat → ClassId} : or_ok PRD kA GG o_Mo_reached_at_gb_0 := by
  refine or_mk fun A ta ws vs hD hth hl => ?_
  intro t0 r0 t1 k1 t2 k2 t3 k3 t4 k4 t5 k5 t6 r6 t7 k7 t8 k8 t9 k9 t10 r10 t11 k11 t12 k12 t13 r13 t14 k14 t15 k15 t16 k16 t17 k17 t18 k18 d0 d1 d2 d3 f0 f1 f2 ta1 w1 le1 s1 f4 f5 f6 f7 f8 f9 ta2 w2 le2 s2 f11 f12 f13 f14 f15 f16
  replace f1 := shm_106 f1
  replace f2 := shm_688 f2
  have s1 : (∀ b j, w_el ws b j = if b = v_ad (n_v vs 10) ∧ j = (v_iv (n_v vs 15)).toNat then v_iv (n_v vs 1) else w_el w1 b j) ∧ ∀ b k, w_fd ws b k = w_fd w1 b k := s1.2
  replace f5 := shm_106 f5
  replace f6 := shm_38 f6
  rw [show v_iv (n_v vs 11) = 24010 from by omega] at f6
  replace f7 := shm_689 f7
  have s2 : (∀ b j, w_el w1 b j = if b = v_ad (n_v vs 6) ∧ j = (v_iv (n_v vs 1)).toNat then v_iv (n_v vs 2) else w_el w2 b j) ∧ ∀ b k, w_fd w1 b k = w_fd w2 b k := s2.2
  replace f11 := shm_690 f11
  replace f13 := shm_106 f13
  replace f14 := shm_691 f14
  replace f15 := shm_692 f15
  replace f16 := shm_693 f16
  have ar_0_140_1 : w_ar w1 (n_v vs 0) 140 = w_ar ws (n_v vs 0) 140 := congrArg v_ad (s1.2 _ _).symm
  have ar_0_140_2 : w_ar w2 (n_v vs 0) 140 = w_ar ws (n_v vs 0) 140 := by rw [← ar_0_140_1]; show v_ad (w_fd w2 _ _) = v_ad (w_fd w1 _ _); rw [s2.2]
  have cr_0_140 := fdq_174 hD hth r0
  have ar_0_141_1 : w_ar w1 (n_v vs 0) 141 = w_ar ws (n_v vs 0) 141 := congrArg v_ad (s1.2 _ _).symm
  have ar_0_141_2 : w_ar w2 (n_v vs 0) 141 = w_ar ws (n_v vs 0) 141 := by rw [← ar_0_141_1]; show v_ad (w_fd w2 _ _) = v_ad (w_fd w1 _ _); rw [s2.2]
  have cr_0_141 := fdq_175 hD hth r0
  have ar_0_142_1 : w_ar w1 (n_v vs 0) 142 = w_ar ws (n_v vs 0) 142 := congrArg v_ad (s1.2 _ _).symm
  have ar_0_142_2 : w_ar w2 (n_v vs 0) 142 = w_ar ws (n_v vs 0) 142 := by rw [← ar_0_142_1]; show v_ad (w_fd w2 _ _) = v_ad (w_fd w1 _ _); rw [s2.2]
  have cr_0_142 := fdq_176 hD hth r0
  have ar_0_143_1 : w_ar w1 (n_v vs 0) 143 = w_ar ws (n_v vs 0) 143 := congrArg v_ad (s1.2 _ _).symm
  have ar_0_143_2 : w_ar w2 (n_v vs 0) 143 = w_ar ws (n_v vs 0) 143 := by rw [← ar_0_143_1]; show v_ad (w_fd w2 _ _) = v_ad (w_fd w1 _ _); rw [s2.2]
  have cr_0_143 := fdq_177 hD hth r0
  have ad_13 : v_ad (n_v vs 13) = w_ar ws (n_v vs 0) 142 := congrArg v_ad f2
  have ad_10 : v_ad (n_v vs 10) = w_ar ws (n_v vs 0) 141 := (congrArg v_ad f7).trans ar_0_141_1
  have ad_6 : v_ad (n_v vs 6) = w_ar ws (n_v vs 0) 140 := (congrArg v_ad f11).trans ar_0_140_2
  simp only [ad_13] at f1
  have h1 : v_iv (n_v vs 16) = w_ei ws (w_ar ws (n_v vs 0) 142) (v_iv (n_v vs 9)) := f1
  simp only [ad_13] at f5
  have h5 : v_iv (n_v vs 14) = w_ei w1 (w_ar ws (n_v vs 0) 142) (v_iv (n_v vs 9)) := f5
  simp only [ad_6] at f13
  have h13 : v_iv (n_v vs 7) = w_ei w2 (w_ar ws (n_v vs 0) 140) (v_iv (n_v vs 1)) := f13
  simp only [ar_0_140_2, ar_0_141_2, ar_0_142_2, ar_0_143_2] at f14 f15 f16
  have fe_0_146_1 : w_fi ws (n_v vs 0) 146 = w_fi w1 (n_v vs 0) 146 := congrArg v_iv (s1.2 _ _)
  have fe_0_147_1 : w_fi ws (n_v vs 0) 147 = w_fi w1 (n_v vs 0) 147 := congrArg v_iv (s1.2 _ _)
  have fe_0_146_2 : w_fi w1 (n_v vs 0) 146 = w_fi w2 (n_v vs 0) 146 := congrArg v_iv (s2.2 _ _)
  have fe_0_147_2 : w_fi w1 (n_v vs 0) 147 = w_fi w2 (n_v vs 0) 147 := congrArg v_iv (s2.2 _ _)
  have hE_0_140_1 : ∀ j : Int, w_ei ws (w_ar ws (n_v vs 0) 140) j = w_ei w1 (w_ar ws (n_v vs 0) 140) j := el_kp s1.1 r10 cr_0_140 (by decide)
  have hE_0_140_2 : ∀ j : Int, 0 ≤ j → (j = v_iv (n_v vs 1) → w_ei w1 (w_ar ws (n_v vs 0) 140) j = v_iv (n_v vs 2)) ∧ (j ≠ v_iv (n_v vs 1) → w_ei w1 (w_ar ws (n_v vs 0) 140) j = w_ei w2 (w_ar ws (n_v vs 0) 140) j) := fun j hj => ⟨fun h => by unfold w_ei; rw [s2.1, if_pos ⟨ad_6.symm, by rw [h]⟩], fun h => by unfold w_ei; rw [s2.1, if_neg (fun e => h (by have := e.2; omega))]⟩
  have hK_0_140 := elq_101 hD hth cr_0_140
  have hE_0_141_1 : ∀ j : Int, 0 ≤ j → (j = v_iv (n_v vs 15) → w_ei ws (w_ar ws (n_v vs 0) 141) j = v_iv (n_v vs 1)) ∧ (j ≠ v_iv (n_v vs 15) → w_ei ws (w_ar ws (n_v vs 0) 141) j = w_ei w1 (w_ar ws (n_v vs 0) 141) j) := fun j hj => ⟨fun h => by unfold w_ei; rw [s1.1, if_pos ⟨ad_10.symm, by rw [h]⟩], fun h => by unfold w_ei; rw [s1.1, if_neg (fun e => h (by have := e.2; omega))]⟩
  have hE_0_141_2 : ∀ j : Int, w_ei w1 (w_ar ws (n_v vs 0) 141) j = w_ei w2 (w_ar ws (n_v vs 0) 141) j := el_kp s2.1 r6 cr_0_141 (by decide)
  have hK_0_141 := elq_102 hD hth cr_0_141
  have hE_0_142_1 : ∀ j : Int, w_ei ws (w_ar ws (n_v vs 0) 142) j = w_ei w1 (w_ar ws (n_v vs 0) 142) j := el_kp s1.1 r10 cr_0_142 (by decide)
  have hE_0_142_2 : ∀ j : Int, w_ei w1 (w_ar ws (n_v vs 0) 142) j = w_ei w2 (w_ar ws (n_v vs 0) 142) j := el_kp s2.1 r6 cr_0_142 (by decide)
  have hK_0_142 := elq_103 hD hth cr_0_142
  have hE_0_143_1 : ∀ j : Int, w_ei ws (w_ar ws (n_v vs 0) 143) j = w_ei w1 (w_ar ws (n_v vs 0) 143) j := el_kp s1.1 r10 cr_0_143 (by decide)
  have hE_0_143_2 : ∀ j : Int, w_ei w1 (w_ar ws (n_v vs 0) 143) j = w_ei w2 (w_ar ws (n_v vs 0) 143) j := el_kp s2.1 r6 cr_0_143 (by decide)
  have hK_0_143 := elq_104 hD hth cr_0_143
  have kz_0_146 := fdq_178 hD hth r0
  have kz_0_147 := fdq_179 hD hth r0
  have hrf0 : 1 ≤ v_iv (n_v vs 18) ∧ v_iv (n_v vs 18) ≤ 24001 := vc_Mo_reached_at_gb_0_r0 (v_iv (n_v vs 1)) (v_iv (n_v vs 2)) (v_iv (n_v vs 3)) (v_iv (n_v vs 4)) (v_iv (n_v vs 5)) (v_iv (n_v vs 7)) (v_iv (n_v vs 8)) (v_iv (n_v vs 9)) (v_iv (n_v vs 11)) (v_iv (n_v vs 12)) (v_iv (n_v vs 14)) (v_iv (n_v vs 15)) (v_iv (n_v vs 16)) (v_iv (n_v vs 17)) (v_iv (n_v vs 18)) (w_ei ws (w_ar ws (n_v vs 0) 142)) (w_ei w1 (w_ar ws (n_v vs 0) 142)) (w_ei w2 (w_ar ws (n_v vs 0) 140)) (w_ei w2 (w_ar ws (n_v vs 0) 143)) (w_ei w2 (w_ar ws (n_v vs 0) 141)) (w_ei w2 (w_ar ws (n_v vs 0) 142)) (w_fi w2 (n_v vs 0) 146) (w_fi w2 (n_v vs 0) 147) (w_fi ws (n_v vs 0) 146) (w_fi w1 (n_v vs 0) 146) (w_fi ws (n_v vs 0) 147) (w_fi w1 (n_v vs 0) 147) (w_ei ws (w_ar ws (n_v vs 0) 140)) (w_ei w1 (w_ar ws (n_v vs 0) 140)) (w_ei ws (w_ar ws (n_v vs 0) 141)) (w_ei w1 (w_ar ws (n_v vs 0) 141)) (w_ei ws (w_ar ws (n_v vs 0) 143)) (w_ei w1 (w_ar ws (n_v vs 0) 143)) k1 k2 k3 k4 k5 k7 k8 k9 k11 k12 k14 k15 k16 k17 k18 d0 d1 d2 d3 (shm_12 f0) h1 (shm_12 f4) h5 f6 (shm_561 f8) (shm_11 f9) (shm_21 f12) h13 f14 f15 f16 fe_0_146_1 fe_0_147_1 fe_0_146_2 fe_0_147_2 hE_0_140_1 hE_0_140_2 hK_0_140 hE_0_141_1 hE_0_141_2 hK_0_141 hE_0_142_1 hE_0_142_2 hK_0_142 hE_0_143_1 hE_0_143_2 hK_0_143 kz_0_146 kz_0_147
  have rf18 : tv_ok ta (0, 1, 24001, []) (n_v vs 18) := tv_in t18 (by first | omega | grind) (by first | omega | grind)
  refine ⟨List.forall_mem_cons.mpr ⟨rf18, (fun _ h => (by cases h))⟩, [], trivial, ?_, (fun _ h => (by cases h))⟩
  rw [List.append_nil]
  exact (fun _ h => (by cases h))
set_option maxHeartbeats 4000000 in
theorem vc_Mo_reached_at_gb_1_0 (x1 : Int) (x2 : Int) (x3 : Int) (x4 : Int) (x5 : Int) (x7 : Int) (x8 : Int) (x9 : Int) (x11 : Int) (x12 : Int) (x14 : Int) (x15 : Int) (x16 : Int) (x17 : Int) (x18 : Int) (bucketMany_1 : Int → Int) (bucketMany_2 : Int → Int) (costOf_3 : Int → Int) (barredPoint_3 : Int → Int) (bucket_3 : Int → Int) (bucketMany_3 : Int → Int) (wide_3 : Int) (tall_3 : Int) (wide_0 : Int) (wide_1 : Int) (tall_0 : Int) (tall_1 : Int) (wide_2 : Int) (tall_2 : Int) (costOf_0 : Int → Int) (costOf_1 : Int → Int) (costOf_2 : Int → Int) (bucket_0 : Int → Int) (bucket_1 : Int → Int) (bucket_2 : Int → Int) (bucketMany_0 : Int → Int) (barredPoint_0 : Int → Int) (barredPoint_1 : Int → Int) (barredPoint_2 : Int → Int) (k1 : 0 ≤ x1 ∧ x1 ≤ 23999) (k2 : 1 ≤ x2 ∧ x2 ≤ 999999) (k3 : 0 ≤ x3 ∧ x3 ≤ 5999) (k4 : 0 ≤ x4 ∧ x4 ≤ 1000008) (k5 : 0 ≤ x5 ∧ x5 ≤ 23999) (k7 : 2 ≤ x7 ∧ x7 ≤ 1000000) (k8 : 3 ≤ x8 ∧ x8 ≤ 3) (k9 : 0 ≤ x9 ∧ x9 ≤ 3) (k11 : 24010 ≤ x11 ∧ x11 ≤ 24010) (k12 : 0 ≤ x12 ∧ x12 ≤ 72030) (k14 : 0 ≤ x14 ∧ x14 ≤ 24009) (k15 : 0 ≤ x15 ∧ x15 ≤ 96039) (k16 : 0 ≤ x16 ∧ x16 ≤ 24009) (k17 : 1 ≤ x17 ∧ x17 ≤ 1) (k18 : 1 ≤ x18 ∧ x18 ≤ 24001) (d0 : x16 + 1 ≤ x18 ∧ x18 ≤ x16 + 1) (d1 : x14 + 0 ≤ x15 ∧ x15 ≤ x14 + 72030) (d2 : x12 + 0 ≤ x15 ∧ x15 ≤ x12 + 24009) (d3 : x2 + 1 ≤ x7 ∧ x7 ≤ x2 + 4294967296) (f1 : x18 = x16 + x17) (h2 : x16 = bucketMany_1 (x9)) (f5 : x15 = x12 + x14) (h6 : x14 = bucketMany_2 (x9)) (f7 : x12 = 24010 * x9) (f9 : x9 = x2 % 4) (f10 : bvp (x9) = bvp (x2) &&& bvp (x8)) (f13 : x2 < x7) (h14 : x7 = costOf_3 (x1)) (f15 : RTQ (wide_3) (tall_3) (barredPoint_3) (costOf_3) (bucket_3) (bucketMany_3) (x3) (x4)) (f16 : RJB (wide_3) (tall_3) (barredPoint_3) (costOf_3) (x3) (x4) (x1) (x2)) (f17 : PIV (costOf_3) (x5) (x4)) (fe_0_146_1 : wide_0 = wide_1) (fe_0_147_1 : tall_0 = tall_1) (fe_0_146_2 : wide_1 = wide_2) (fe_0_147_2 : tall_1 = tall_2) (fe_0_146_3 : wide_2 = wide_3) (fe_0_147_3 : tall_2 = tall_3) (hE_0_140_1 : ∀ j : Int, costOf_0 j = costOf_1 j) (hE_0_140_2 : ∀ j : Int, costOf_1 j = costOf_2 j) (hE_0_140_3 : ∀ j : Int, 0 ≤ j → (j = x1 → costOf_2 j = x2) ∧ (j ≠ x1 → costOf_2 j = costOf_3 j)) (hK_0_140 : ∀ j : Int, 0 ≤ j → j < 24000 → 0 ≤ costOf_0 j ∧ costOf_0 j ≤ 1000000) (hE_0_141_1 : ∀ j : Int, bucket_0 j = bucket_1 j) (hE_0_141_2 : ∀ j : Int, 0 ≤ j → (j = x15 → bucket_1 j = x1) ∧ (j ≠ x15 → bucket_1 j = bucket_2 j)) (hE_0_141_3 : ∀ j : Int, bucket_2 j = bucket_3 j) (hK_0_141 : ∀ j : Int, 0 ≤ j → j < 96040 → 0 ≤ bucket_0 j ∧ bucket_0 j ≤ 23999) (hE_0_142_1 : ∀ j : Int, 0 ≤ j → (j = x9 → bucketMany_0 j = x18) ∧ (j ≠ x9 → bucketMany_0 j = bucketMany_1 j)) (hE_0_142_2 : ∀ j : Int, bucketMany_1 j = bucketMany_2 j) (hE_0_142_3 : ∀ j : Int, bucketMany_2 j = bucketMany_3 j) (hK_0_142 : ∀ j : Int, 0 ≤ j → j < 4 → 0 ≤ bucketMany_0 j ∧ bucketMany_0 j ≤ 24009) (hE_0_143_1 : ∀ j : Int, barredPoint_0 j = barredPoint_1 j) (hE_0_143_2 : ∀ j : Int, barredPoint_1 j = barredPoint_2 j) (hE_0_143_3 : ∀ j : Int, barredPoint_2 j = barredPoint_3 j) (hK_0_143 : ∀ j : Int, 0 ≤ j → j < 6000 → 0 ≤ barredPoint_0 j ∧ barredPoint_0 j ≤ 1) (kz_0_146 : (-3999999) ≤ wide_0 ∧ wide_0 ≤ 600000023) (kz_0_147 : (-3999999) ≤ tall_0 ∧ tall_0 ≤ 600000007) : RTQ (wide_0) (tall_0) (barredPoint_0) (costOf_0) (bucket_0) (bucketMany_0) (x3) (x4) := by
  subst fe_0_146_1
  subst fe_0_147_1
  subst fe_0_146_2
  subst fe_0_147_2
  subst fe_0_146_3
  subst fe_0_147_3
  have e_hE_0_140_1 := funext hE_0_140_1; subst e_hE_0_140_1
  have e_hE_0_140_2 := funext hE_0_140_2; subst e_hE_0_140_2
  have e_hE_0_141_1 := funext hE_0_141_1; subst e_hE_0_141_1
  have e_hE_0_141_3 := funext hE_0_141_3; subst e_hE_0_141_3
  have e_hE_0_142_2 := funext hE_0_142_2; subst e_hE_0_142_2
  have e_hE_0_142_3 := funext hE_0_142_3; subst e_hE_0_142_3
  have e_hE_0_143_1 := funext hE_0_143_1; subst e_hE_0_143_1
  have e_hE_0_143_2 := funext hE_0_143_2; subst e_hE_0_143_2
  have e_hE_0_143_3 := funext hE_0_143_3; subst e_hE_0_143_3
  first
    | assumption
    | exact reach_b (b := x9) (m := x14) (p := x15) (q := x16) (o := x18) (s := x1) (v := x2) ‹RTQ _ _ _ _ _ _ _ _› ‹RJB _ _ _ _ _ _ _ _› (by omega) (by assumption) (by omega) (by assumption) (by omega) (by assumption) (by assumption) (by omega) (by assumption)
