
set_option maxHeartbeats 4000000 in
theorem vc_Mo_up_34_r0 (x6 : Int) (x11 : Int) (x12 : Int) (goes_0 : Int → Int) (pointMany_0 : Int) (flow_0 : Int → Int) (spot_0 : Int → Int) (costA_0 : Int → Int) (costB_0 : Int → Int) (costW_0 : Int → Int) (costPlain_0 : Int → Int) (apartA_0 : Int → Int) (apartB_0 : Int → Int) (apart_0 : Int → Int) (costMany_0 : Int) (apartMany_0 : Int) (cameBy_0 : Int → Int) (cameBy_1 : Int → Int) (pointMany_1 : Int) (flow_1 : Int → Int) (spot_1 : Int → Int) (costA_1 : Int → Int) (costB_1 : Int → Int) (costW_1 : Int → Int) (costPlain_1 : Int → Int) (apartA_1 : Int → Int) (apartB_1 : Int → Int) (apart_1 : Int → Int) (costMany_1 : Int) (apartMany_1 : Int) (goes_1 : Int → Int) (k6 : 0 ≤ x6 ∧ x6 ≤ 75) (k11 : 1 ≤ x11 ∧ x11 ≤ 1) (k12 : (-14400) ≤ x12 ∧ x12 ≤ 14400) (h0 : x12 = goes_0 (x6)) (fe_0_79_1 : pointMany_0 = pointMany_1) (fe_0_80_1 : costMany_0 = costMany_1) (fe_0_81_1 : apartMany_0 = apartMany_1) (hE_0_82_1 : ∀ j : Int, spot_0 j = spot_1 j) (hE_0_83_1 : ∀ j : Int, costA_0 j = costA_1 j) (hE_0_84_1 : ∀ j : Int, costB_0 j = costB_1 j) (hE_0_85_1 : ∀ j : Int, costW_0 j = costW_1 j) (hE_0_86_1 : ∀ j : Int, costPlain_0 j = costPlain_1 j) (hE_0_87_1 : ∀ j : Int, apartA_0 j = apartA_1 j) (hE_0_88_1 : ∀ j : Int, apartB_0 j = apartB_1 j) (hE_0_89_1 : ∀ j : Int, apart_0 j = apart_1 j) (hE_0_90_1 : ∀ j : Int, flow_0 j = flow_1 j) (hE_0_91_1 : ∀ j : Int, cameBy_0 j = cameBy_1 j) (hE_0_93_1 : ∀ j : Int, 0 ≤ j → (j = x6 → goes_0 j = x11) ∧ (j ≠ x6 → goes_0 j = goes_1 j)) (kz_0_79 : 0 ≤ pointMany_0 ∧ pointMany_0 ≤ 76) (kz_0_80 : 0 ≤ costMany_0 ∧ costMany_0 ≤ 200) (kz_0_81 : 0 ≤ apartMany_0 ∧ apartMany_0 ≤ 200) : 0 ≤ x12 ∧ x12 ≤ 1 := by
  subst fe_0_79_1
  subst fe_0_80_1
  subst fe_0_81_1
  have e_hE_0_82_1 := funext hE_0_82_1; subst e_hE_0_82_1
  have e_hE_0_83_1 := funext hE_0_83_1; subst e_hE_0_83_1
  have e_hE_0_84_1 := funext hE_0_84_1; subst e_hE_0_84_1
  have e_hE_0_85_1 := funext hE_0_85_1; subst e_hE_0_85_1
  have e_hE_0_86_1 := funext hE_0_86_1; subst e_hE_0_86_1
  have e_hE_0_87_1 := funext hE_0_87_1; subst e_hE_0_87_1
  have e_hE_0_88_1 := funext hE_0_88_1; subst e_hE_0_88_1
  have e_hE_0_89_1 := funext hE_0_89_1; subst e_hE_0_89_1
  have e_hE_0_90_1 := funext hE_0_90_1; subst e_hE_0_90_1
  have e_hE_0_91_1 := funext hE_0_91_1; subst e_hE_0_91_1
  first
    | omega
    | (have h := ‹UPE _ _ _ _›; have h2 := h.2.1; omega)
    | (have h := (hE_0_93_1 x6 (by omega)).1 rfl; omega)
def o_Mo_up_34 : or_T := (498, 13, [(0, (2, 0, 0, [165])), (1, (2, 0, 0, [165])), (2, (0, 2, 78, [])), (3, (0, 0, 76, [])), (4, (0, 1, 77, [])), (5, (0, 0, 75, [])), (6, (0, 0, 75, [])), (7, (0, 1, 76, [])), (8, (2, 0, 0, [230])), (9, (2, 0, 0, [228])), (10, (0, 0, 77, [])), (11, (0, 1, 1, [])), (12, (0, -14400, 14400, []))], [(10, [12, 8, 6], []), (9, [8, 1], [93]), (20, [2, 1], [50, 1, 0, 1079, 1, 2, 1, 0, 4, 3, 2, 1, 79, 0, 2]), (20, [3, 1], [50, 1, 0, 1079, 1, 2, 1, 0, 2, 1, 79]), (20, [4, 1], [50, 1, 0, 1079, 1, 2, 1, 0, 4, 3, 2, 1, 79, 0, 1]), (20, [1], [60, 3, 9, 397, 79, 80, 81, 90, 82, 83, 84, 85, 86, 87, 88, 89]), (20, [1, 2, 3, 4], [60, 0, 2, 406, 90, 91]), (20, [6, 1], [50, 1, 0, 1079, 0, 2, 1, 0, 2, 1, 79]), (24, [0, 1], []), (100, [8, 6, 11], []), (8, [10], [3]), (10, [10, 9, 6], []), (9, [9, 1], [91]), (7, [6, 7], [2]), (9, [7, 1], [79]), (20, [2, 1], [50, 1, 0, 1079, 1, 2, 1, 0, 4, 3, 2, 1, 79, 0, 2]), (20, [3, 1], [50, 1, 0, 1079, 1, 2, 1, 0, 2, 1, 79]), (20, [4, 1], [50, 1, 0, 1079, 1, 2, 1, 0, 4, 3, 2, 1, 79, 0, 1]), (20, [1], [60, 3, 9, 397, 79, 80, 81, 90, 82, 83, 84, 85, 86, 87, 88, 89]), (20, [1, 2, 3, 4], [60, 0, 2, 406, 90, 91]), (20, [1, 6, 5], [60, 0, 2, 416, 93, 91]), (20, [6, 1], [50, 1, 0, 1079, 0, 2, 1, 0, 2, 1, 79])], [(12, (0, 0, 1, []))], [], [], [], [(6, 7, -4294967296, -1), (2, 3, -4294967296, 2), (2, 4, -4294967296, 1), (3, 2, -4294967296, -2), (3, 4, -4294967296, -1), (4, 2, -4294967296, -1), (4, 3, -4294967296, 1), (5, 6, -4294967296, 0)])
theorem oo_Mo_up_34 {kA : Nat → ClassId} : or_ok PRD kA GG o_Mo_up_34 := by
  refine or_mk fun A ta ws vs hD hth hl => ?_
  intro t0 r0 t1 r1 t2 k2 t3 k3 t4 k4 t5 k5 t6 k6 t7 k7 t8 r8 t9 r9 t10 k10 t11 k11 t12 k12 d0 d1 d2 d3 d4 d5 d6 d7 f0 f1 f2 f3 f4 f5 f6 f7 f8 ta1 w1 le1 s1 f10 f11 f12 f13 f14 f15 f16 f17 f18 f19 f20 f21
  replace f0 := shm_107 f0
  replace f1 := shm_1162 f1
  replace f8 := shm_5 f8
  have s1 : (∀ b j, w_el ws b j = if b = v_ad (n_v vs 8) ∧ j = (v_iv (n_v vs 6)).toNat then v_iv (n_v vs 11) else w_el w1 b j) ∧ ∀ b k, w_fd ws b k = w_fd w1 b k := s1.2
  have q1 : n_v vs 1 = n_v vs 0 := f8.symm
  simp only [q1] at f1
  have cr_0_82 := fdq_230 hD hth r0
  have cr_0_83 := fdq_126 hD hth r0
  have cr_0_84 := fdq_127 hD hth r0
  have cr_0_85 := fdq_128 hD hth r0
  have cr_0_86 := fdq_129 hD hth r0
  have cr_0_87 := fdq_119 hD hth r0
  have cr_0_88 := fdq_120 hD hth r0
  have cr_0_89 := fdq_121 hD hth r0
  have cr_0_90 := fdq_231 hD hth r0
  have cr_0_91 := fdq_232 hD hth r0
  have ad_8 : v_ad (n_v vs 8) = w_ar ws (n_v vs 0) 93 := congrArg v_ad f1
  simp only [ad_8] at f0
  have h0 : v_iv (n_v vs 12) = w_ei ws (w_ar ws (n_v vs 0) 93) (v_iv (n_v vs 6)) := f0
  have fe_0_79_1 : w_fi ws (n_v vs 0) 79 = w_fi w1 (n_v vs 0) 79 := congrArg v_iv (s1.2 _ _)
  have fe_0_80_1 : w_fi ws (n_v vs 0) 80 = w_fi w1 (n_v vs 0) 80 := congrArg v_iv (s1.2 _ _)
  have fe_0_81_1 : w_fi ws (n_v vs 0) 81 = w_fi w1 (n_v vs 0) 81 := congrArg v_iv (s1.2 _ _)
  have hE_0_82_1 : ∀ j : Int, w_ei ws (w_ar ws (n_v vs 0) 82) j = w_ei w1 (w_ar ws (n_v vs 0) 82) j := el_kp s1.1 r8 cr_0_82 (by decide)
  have hE_0_83_1 : ∀ j : Int, w_ei ws (w_ar ws (n_v vs 0) 83) j = w_ei w1 (w_ar ws (n_v vs 0) 83) j := el_kp s1.1 r8 cr_0_83 (by decide)
  have hE_0_84_1 : ∀ j : Int, w_ei ws (w_ar ws (n_v vs 0) 84) j = w_ei w1 (w_ar ws (n_v vs 0) 84) j := el_kp s1.1 r8 cr_0_84 (by decide)
  have hE_0_85_1 : ∀ j : Int, w_ei ws (w_ar ws (n_v vs 0) 85) j = w_ei w1 (w_ar ws (n_v vs 0) 85) j := el_kp s1.1 r8 cr_0_85 (by decide)
  have hE_0_86_1 : ∀ j : Int, w_ei ws (w_ar ws (n_v vs 0) 86) j = w_ei w1 (w_ar ws (n_v vs 0) 86) j := el_kp s1.1 r8 cr_0_86 (by decide)
  have hE_0_87_1 : ∀ j : Int, w_ei ws (w_ar ws (n_v vs 0) 87) j = w_ei w1 (w_ar ws (n_v vs 0) 87) j := el_kp s1.1 r8 cr_0_87 (by decide)
  have hE_0_88_1 : ∀ j : Int, w_ei ws (w_ar ws (n_v vs 0) 88) j = w_ei w1 (w_ar ws (n_v vs 0) 88) j := el_kp s1.1 r8 cr_0_88 (by decide)
  have hE_0_89_1 : ∀ j : Int, w_ei ws (w_ar ws (n_v vs 0) 89) j = w_ei w1 (w_ar ws (n_v vs 0) 89) j := el_kp s1.1 r8 cr_0_89 (by decide)
  have hE_0_90_1 : ∀ j : Int, w_ei ws (w_ar ws (n_v vs 0) 90) j = w_ei w1 (w_ar ws (n_v vs 0) 90) j := el_kp s1.1 r8 cr_0_90 (by decide)
  have hE_0_91_1 : ∀ j : Int, w_ei ws (w_ar ws (n_v vs 0) 91) j = w_ei w1 (w_ar ws (n_v vs 0) 91) j := el_kp s1.1 r8 cr_0_91 (by decide)
  have hE_0_93_1 : ∀ j : Int, 0 ≤ j → (j = v_iv (n_v vs 6) → w_ei ws (w_ar ws (n_v vs 0) 93) j = v_iv (n_v vs 11)) ∧ (j ≠ v_iv (n_v vs 6) → w_ei ws (w_ar ws (n_v vs 0) 93) j = w_ei w1 (w_ar ws (n_v vs 0) 93) j) := fun j hj => ⟨fun h => by unfold w_ei; rw [s1.1, if_pos ⟨ad_8.symm, by rw [h]⟩], fun h => by unfold w_ei; rw [s1.1, if_neg (fun e => h (by have := e.2; omega))]⟩
  have kz_0_79 := fdq_147 hD hth r0
  have kz_0_80 := fdq_131 hD hth r0
  have kz_0_81 := fdq_124 hD hth r0
  have hrf0 : 0 ≤ v_iv (n_v vs 12) ∧ v_iv (n_v vs 12) ≤ 1 := vc_Mo_up_34_r0 (v_iv (n_v vs 6)) (v_iv (n_v vs 11)) (v_iv (n_v vs 12)) (w_ei ws (w_ar ws (n_v vs 0) 93)) (w_fi ws (n_v vs 0) 79) (w_ei ws (w_ar ws (n_v vs 0) 90)) (w_ei ws (w_ar ws (n_v vs 0) 82)) (w_ei ws (w_ar ws (n_v vs 0) 83)) (w_ei ws (w_ar ws (n_v vs 0) 84)) (w_ei ws (w_ar ws (n_v vs 0) 85)) (w_ei ws (w_ar ws (n_v vs 0) 86)) (w_ei ws (w_ar ws (n_v vs 0) 87)) (w_ei ws (w_ar ws (n_v vs 0) 88)) (w_ei ws (w_ar ws (n_v vs 0) 89)) (w_fi ws (n_v vs 0) 80) (w_fi ws (n_v vs 0) 81) (w_ei ws (w_ar ws (n_v vs 0) 91)) (w_ei w1 (w_ar ws (n_v vs 0) 91)) (w_fi w1 (n_v vs 0) 79) (w_ei w1 (w_ar ws (n_v vs 0) 90)) (w_ei w1 (w_ar ws (n_v vs 0) 82)) (w_ei w1 (w_ar ws (n_v vs 0) 83)) (w_ei w1 (w_ar ws (n_v vs 0) 84)) (w_ei w1 (w_ar ws (n_v vs 0) 85)) (w_ei w1 (w_ar ws (n_v vs 0) 86)) (w_ei w1 (w_ar ws (n_v vs 0) 87)) (w_ei w1 (w_ar ws (n_v vs 0) 88)) (w_ei w1 (w_ar ws (n_v vs 0) 89)) (w_fi w1 (n_v vs 0) 80) (w_fi w1 (n_v vs 0) 81) (w_ei w1 (w_ar ws (n_v vs 0) 93)) k6 k11 k12 h0 fe_0_79_1 fe_0_80_1 fe_0_81_1 hE_0_82_1 hE_0_83_1 hE_0_84_1 hE_0_85_1 hE_0_86_1 hE_0_87_1 hE_0_88_1 hE_0_89_1 hE_0_90_1 hE_0_91_1 hE_0_93_1 kz_0_79 kz_0_80 kz_0_81
  have rf12 : tv_ok ta (0, 0, 1, []) (n_v vs 12) := tv_in t12 (by first | omega | grind) (by first | omega | grind)
  refine ⟨List.forall_mem_cons.mpr ⟨rf12, (fun _ h => (by cases h))⟩, [], trivial, ?_, (fun _ h => (by cases h))⟩
  rw [List.append_nil]
  exact (fun _ h => (by cases h))
set_option maxHeartbeats 4000000 in
theorem vc_Mo_up_35_0 (x5 : Int) (x6 : Int) (x10 : Int) (x11 : Int) (x12 : Int) (x13 : Int) (x14 : Int) (goes_0 : Int → Int) (pointMany_0 : Int) (flow_0 : Int → Int) (spot_0 : Int → Int) (costA_0 : Int → Int) (costB_0 : Int → Int) (costW_0 : Int → Int) (costPlain_0 : Int → Int) (apartA_0 : Int → Int) (apartB_0 : Int → Int) (apart_0 : Int → Int) (costMany_0 : Int) (apartMany_0 : Int) (cameBy_0 : Int → Int) (cameBy_1 : Int → Int) (pointMany_1 : Int) (flow_1 : Int → Int) (spot_1 : Int → Int) (costA_1 : Int → Int) (costB_1 : Int → Int) (costW_1 : Int → Int) (costPlain_1 : Int → Int) (apartA_1 : Int → Int) (apartB_1 : Int → Int) (apart_1 : Int → Int) (costMany_1 : Int) (apartMany_1 : Int) (goes_1 : Int → Int) (k5 : 0 ≤ x5 ∧ x5 ≤ 75) (k6 : 0 ≤ x6 ∧ x6 ≤ 75) (k10 : 0 ≤ x10 ∧ x10 ≤ 77) (k11 : 1 ≤ x11 ∧ x11 ≤ 1) (k12 : 0 ≤ x12 ∧ x12 ≤ 1) (k13 : 0 ≤ x13 ∧ x13 ≤ 76) (k14 : 1 ≤ x14 ∧ x14 ≤ 76) (d0 : x6 + 1 ≤ x14 ∧ x14 ≤ x6 + 1) (f0 : x14 = x6 + 1) (f1 : x13 = x5 + x12) (h2 : x12 = goes_0 (x6)) (h13 : x10 = cameBy_1 (x6)) (f22 : UPE (goes_1) (cameBy_1) (x6) (x5)) (fe_0_79_1 : pointMany_0 = pointMany_1) (fe_0_80_1 : costMany_0 = costMany_1) (fe_0_81_1 : apartMany_0 = apartMany_1) (hE_0_82_1 : ∀ j : Int, spot_0 j = spot_1 j) (hE_0_83_1 : ∀ j : Int, costA_0 j = costA_1 j) (hE_0_84_1 : ∀ j : Int, costB_0 j = costB_1 j) (hE_0_85_1 : ∀ j : Int, costW_0 j = costW_1 j) (hE_0_86_1 : ∀ j : Int, costPlain_0 j = costPlain_1 j) (hE_0_87_1 : ∀ j : Int, apartA_0 j = apartA_1 j) (hE_0_88_1 : ∀ j : Int, apartB_0 j = apartB_1 j) (hE_0_89_1 : ∀ j : Int, apart_0 j = apart_1 j) (hE_0_90_1 : ∀ j : Int, flow_0 j = flow_1 j) (hE_0_91_1 : ∀ j : Int, cameBy_0 j = cameBy_1 j) (hE_0_93_1 : ∀ j : Int, 0 ≤ j → (j = x6 → goes_0 j = x11) ∧ (j ≠ x6 → goes_0 j = goes_1 j)) (kz_0_79 : 0 ≤ pointMany_0 ∧ pointMany_0 ≤ 76) (kz_0_80 : 0 ≤ costMany_0 ∧ costMany_0 ≤ 200) (kz_0_81 : 0 ≤ apartMany_0 ∧ apartMany_0 ≤ 200) : UPE (goes_0) (cameBy_0) (x14) (x13) := by
  subst fe_0_79_1
  subst fe_0_80_1
  subst fe_0_81_1
  have e_hE_0_82_1 := funext hE_0_82_1; subst e_hE_0_82_1
  have e_hE_0_83_1 := funext hE_0_83_1; subst e_hE_0_83_1
  have e_hE_0_84_1 := funext hE_0_84_1; subst e_hE_0_84_1
  have e_hE_0_85_1 := funext hE_0_85_1; subst e_hE_0_85_1
  have e_hE_0_86_1 := funext hE_0_86_1; subst e_hE_0_86_1
  have e_hE_0_87_1 := funext hE_0_87_1; subst e_hE_0_87_1
  have e_hE_0_88_1 := funext hE_0_88_1; subst e_hE_0_88_1
  have e_hE_0_89_1 := funext hE_0_89_1; subst e_hE_0_89_1
  have e_hE_0_90_1 := funext hE_0_90_1; subst e_hE_0_90_1
  have e_hE_0_91_1 := funext hE_0_91_1; subst e_hE_0_91_1
  first
    | exact upe_zero (by omega) (by omega)
    | exact upe_step ‹UPE _ _ _ _› (by omega) (by assumption) (by assumption) rfl (by first | (left; constructor <;> omega) | (right; constructor <;> omega)) (by assumption) (by assumption)
  

set_option maxHeartbeats 4000000 in
theorem vc_Mo_up_35_1 (x6 : Int) (x7 : Int) (x14 : Int) (pointMany_0 : Int) (flow_0 : Int → Int) (spot_0 : Int → Int) (costA_0 : Int → Int) (costB_0 : Int → Int) (costW_0 : Int → Int) (costPlain_0 : Int → Int) (apartA_0 : Int → Int) (apartB_0 : Int → Int) (apart_0 : Int → Int) (costMany_0 : Int) (apartMany_0 : Int) (cameBy_0 : Int → Int) (cameBy_1 : Int → Int) (pointMany_1 : Int) (flow_1 : Int → Int) (spot_1 : Int → Int) (costA_1 : Int → Int) (costB_1 : Int → Int) (costW_1 : Int → Int) (costPlain_1 : Int → Int) (apartA_1 : Int → Int) (apartB_1 : Int → Int) (apart_1 : Int → Int) (costMany_1 : Int) (apartMany_1 : Int) (k6 : 0 ≤ x6 ∧ x6 ≤ 75) (k7 : 1 ≤ x7 ∧ x7 ≤ 76) (k14 : 1 ≤ x14 ∧ x14 ≤ 76) (d0 : x6 + 1 ≤ x14 ∧ x14 ≤ x6 + 1) (d1 : x7 + (-4294967296) ≤ x14 ∧ x14 ≤ x7 + 0) (d5 : x7 + (-4294967296) ≤ x6 ∧ x6 ≤ x7 + (-1)) (g16 : x7 = pointMany_1) (fe_0_79_1 : pointMany_0 = pointMany_1) (fe_0_80_1 : costMany_0 = costMany_1) (fe_0_81_1 : apartMany_0 = apartMany_1) (hE_0_82_1 : ∀ j : Int, spot_0 j = spot_1 j) (hE_0_83_1 : ∀ j : Int, costA_0 j = costA_1 j) (hE_0_84_1 : ∀ j : Int, costB_0 j = costB_1 j) (hE_0_85_1 : ∀ j : Int, costW_0 j = costW_1 j) (hE_0_86_1 : ∀ j : Int, costPlain_0 j = costPlain_1 j) (hE_0_87_1 : ∀ j : Int, apartA_0 j = apartA_1 j) (hE_0_88_1 : ∀ j : Int, apartB_0 j = apartB_1 j) (hE_0_89_1 : ∀ j : Int, apart_0 j = apart_1 j) (hE_0_90_1 : ∀ j : Int, flow_0 j = flow_1 j) (hE_0_91_1 : ∀ j : Int, cameBy_0 j = cameBy_1 j) (kz_0_79 : 0 ≤ pointMany_0 ∧ pointMany_0 ≤ 76) (kz_0_80 : 0 ≤ costMany_0 ∧ costMany_0 ≤ 200) (kz_0_81 : 0 ≤ apartMany_0 ∧ apartMany_0 ≤ 200) : x14 ≤ pointMany_0 := by
  subst fe_0_79_1
  subst fe_0_80_1
  subst fe_0_81_1
  have e_hE_0_82_1 := funext hE_0_82_1; subst e_hE_0_82_1
  have e_hE_0_83_1 := funext hE_0_83_1; subst e_hE_0_83_1
  have e_hE_0_84_1 := funext hE_0_84_1; subst e_hE_0_84_1
  have e_hE_0_85_1 := funext hE_0_85_1; subst e_hE_0_85_1
  have e_hE_0_86_1 := funext hE_0_86_1; subst e_hE_0_86_1
  have e_hE_0_87_1 := funext hE_0_87_1; subst e_hE_0_87_1
  have e_hE_0_88_1 := funext hE_0_88_1; subst e_hE_0_88_1
  have e_hE_0_89_1 := funext hE_0_89_1; subst e_hE_0_89_1
  have e_hE_0_90_1 := funext hE_0_90_1; subst e_hE_0_90_1
  have e_hE_0_91_1 := funext hE_0_91_1; subst e_hE_0_91_1
  omega
def o_Mo_up_35 : or_T := (458, 15, [(0, (2, 0, 0, [165])), (1, (2, 0, 0, [165])), (2, (0, 2, 78, [])), (3, (0, 0, 76, [])), (4, (0, 1, 77, [])), (5, (0, 0, 75, [])), (6, (0, 0, 75, [])), (7, (0, 1, 76, [])), (8, (2, 0, 0, [230])), (9, (2, 0, 0, [228])), (10, (0, 0, 77, [])), (11, (0, 1, 1, [])), (12, (0, 0, 1, [])), (13, (0, 0, 76, [])), (14, (0, 1, 76, []))], [(6, [14, 6], [1]), (1, [13, 5, 12], []), (10, [12, 8, 6], []), (9, [8, 1], [93]), (20, [2, 1], [50, 1, 0, 1079, 1, 2, 1, 0, 4, 3, 2, 1, 79, 0, 2]), (20, [3, 1], [50, 1, 0, 1079, 1, 2, 1, 0, 2, 1, 79]), (20, [4, 1], [50, 1, 0, 1079, 1, 2, 1, 0, 4, 3, 2, 1, 79, 0, 1]), (20, [1], [60, 3, 9, 397, 79, 80, 81, 90, 82, 83, 84, 85, 86, 87, 88, 89]), (20, [1, 2, 3, 4], [60, 0, 2, 406, 90, 91]), (20, [6, 1], [50, 1, 0, 1079, 0, 2, 1, 0, 2, 1, 79]), (24, [0, 1], []), (100, [8, 6, 11], []), (8, [10], [3]), (10, [10, 9, 6], []), (9, [9, 1], [91]), (7, [6, 7], [2]), (9, [7, 1], [79]), (20, [2, 1], [50, 1, 0, 1079, 1, 2, 1, 0, 4, 3, 2, 1, 79, 0, 2]), (20, [3, 1], [50, 1, 0, 1079, 1, 2, 1, 0, 2, 1, 79]), (20, [4, 1], [50, 1, 0, 1079, 1, 2, 1, 0, 4, 3, 2, 1, 79, 0, 1]), (20, [1], [60, 3, 9, 397, 79, 80, 81, 90, 82, 83, 84, 85, 86, 87, 88, 89]), (20, [1, 2, 3, 4], [60, 0, 2, 406, 90, 91]), (20, [1, 6, 5], [60, 0, 2, 416, 93, 91]), (20, [6, 1], [50, 1, 0, 1079, 0, 2, 1, 0, 2, 1, 79])], [], [], [(20, [1, 14, 13], [60, 0, 2, 416, 93, 91]), (20, [14, 1], [50, 1, 0, 1079, 0, 2, 1, 0, 2, 1, 79])], [], [(14, 6, 1, 1), (14, 7, -4294967296, 0), (13, 12, 0, 75), (13, 5, 0, 1), (13, 6, -4294967296, 1), (6, 7, -4294967296, -1), (2, 3, -4294967296, 2), (2, 4, -4294967296, 1), (3, 2, -4294967296, -2), (3, 4, -4294967296, -1), (4, 2, -4294967296, -1), (4, 3, -4294967296, 1), (5, 6, -4294967296, 0)])
theorem oo_Mo_up_35 {kA : Nat → ClassId} : or_ok PRD kA GG o_Mo_up_35 := by
  refine or_mk fun A ta ws vs hD hth hl => ?_
  intro t0 r0 t1 r1 t2 k2 t3 k3 t4 k4 t5 k5 t6 k6 t7 k7 t8 r8 t9 r9 t10 k10 t11 k11 t12 k12 t13 k13 t14 k14 d0 d1 d2 d3 d4 d5 d6 d7 d8 d9 d10 d11 d12 f0 f1 f2 f3 f4 f5 f6 f7 f8 f9 f10 ta1 w1 le1 s1 f12 f13 f14 f15 f16 f17 f18 f19 f20 f21 f22 f23
  replace f0 := shm_4 f0
  replace f1 := shm_12 f1
  replace f2 := shm_107 f2
  replace f3 := shm_1162 f3
  replace f10 := shm_5 f10
  have s1 : (∀ b j, w_el ws b j = if b = v_ad (n_v vs 8) ∧ j = (v_iv (n_v vs 6)).toNat then v_iv (n_v vs 11) else w_el w1 b j) ∧ ∀ b k, w_fd ws b k = w_fd w1 b k := s1.2
  replace f13 := shm_107 f13
  replace f14 := shm_949 f14
  replace f16 := shm_1155 f16
  replace f22 := shm_1169 f22
  have q1 : n_v vs 1 = n_v vs 0 := f10.symm
  simp only [q1] at f3 f14 f16 f22
  have ar_0_82_1 : w_ar w1 (n_v vs 0) 82 = w_ar ws (n_v vs 0) 82 := congrArg v_ad (s1.2 _ _).symm
  have cr_0_82 := fdq_230 hD hth r0
  have ar_0_83_1 : w_ar w1 (n_v vs 0) 83 = w_ar ws (n_v vs 0) 83 := congrArg v_ad (s1.2 _ _).symm
  have cr_0_83 := fdq_126 hD hth r0
  have ar_0_84_1 : w_ar w1 (n_v vs 0) 84 = w_ar ws (n_v vs 0) 84 := congrArg v_ad (s1.2 _ _).symm
  have cr_0_84 := fdq_127 hD hth r0
  have ar_0_85_1 : w_ar w1 (n_v vs 0) 85 = w_ar ws (n_v vs 0) 85 := congrArg v_ad (s1.2 _ _).symm
  have cr_0_85 := fdq_128 hD hth r0
  have ar_0_86_1 : w_ar w1 (n_v vs 0) 86 = w_ar ws (n_v vs 0) 86 := congrArg v_ad (s1.2 _ _).symm
  have cr_0_86 := fdq_129 hD hth r0
  have ar_0_87_1 : w_ar w1 (n_v vs 0) 87 = w_ar ws (n_v vs 0) 87 := congrArg v_ad (s1.2 _ _).symm
  have cr_0_87 := fdq_119 hD hth r0
  have ar_0_88_1 : w_ar w1 (n_v vs 0) 88 = w_ar ws (n_v vs 0) 88 := congrArg v_ad (s1.2 _ _).symm
  have cr_0_88 := fdq_120 hD hth r0
  have ar_0_89_1 : w_ar w1 (n_v vs 0) 89 = w_ar ws (n_v vs 0) 89 := congrArg v_ad (s1.2 _ _).symm
  have cr_0_89 := fdq_121 hD hth r0
  have ar_0_90_1 : w_ar w1 (n_v vs 0) 90 = w_ar ws (n_v vs 0) 90 := congrArg v_ad (s1.2 _ _).symm
  have cr_0_90 := fdq_231 hD hth r0
  have ar_0_91_1 : w_ar w1 (n_v vs 0) 91 = w_ar ws (n_v vs 0) 91 := congrArg v_ad (s1.2 _ _).symm
  have cr_0_91 := fdq_232 hD hth r0
  have ar_0_93_1 : w_ar w1 (n_v vs 0) 93 = w_ar ws (n_v vs 0) 93 := congrArg v_ad (s1.2 _ _).symm
  have ad_8 : v_ad (n_v vs 8) = w_ar ws (n_v vs 0) 93 := congrArg v_ad f3
  have ad_9 : v_ad (n_v vs 9) = w_ar ws (n_v vs 0) 91 := (congrArg v_ad f14).trans ar_0_91_1
  simp only [ad_8] at f2
  have h2 : v_iv (n_v vs 12) = w_ei ws (w_ar ws (n_v vs 0) 93) (v_iv (n_v vs 6)) := f2
  simp only [ad_9] at f13
  have h13 : v_iv (n_v vs 10) = w_ei w1 (w_ar ws (n_v vs 0) 91) (v_iv (n_v vs 6)) := f13
  have g16 : v_iv (n_v vs 7) = w_fi w1 (n_v vs 0) 79 := congrArg v_iv f16
  simp only [ar_0_82_1, ar_0_83_1, ar_0_84_1, ar_0_85_1, ar_0_86_1, ar_0_87_1, ar_0_88_1, ar_0_89_1, ar_0_90_1, ar_0_91_1, ar_0_93_1] at f22
  have fe_0_79_1 : w_fi ws (n_v vs 0) 79 = w_fi w1 (n_v vs 0) 79 := congrArg v_iv (s1.2 _ _)
  have fe_0_80_1 : w_fi ws (n_v vs 0) 80 = w_fi w1 (n_v vs 0) 80 := congrArg v_iv (s1.2 _ _)
  have fe_0_81_1 : w_fi ws (n_v vs 0) 81 = w_fi w1 (n_v vs 0) 81 := congrArg v_iv (s1.2 _ _)
  have hE_0_82_1 : ∀ j : Int, w_ei ws (w_ar ws (n_v vs 0) 82) j = w_ei w1 (w_ar ws (n_v vs 0) 82) j := el_kp s1.1 r8 cr_0_82 (by decide)
  have hE_0_83_1 : ∀ j : Int, w_ei ws (w_ar ws (n_v vs 0) 83) j = w_ei w1 (w_ar ws (n_v vs 0) 83) j := el_kp s1.1 r8 cr_0_83 (by decide)
  have hE_0_84_1 : ∀ j : Int, w_ei ws (w_ar ws (n_v vs 0) 84) j = w_ei w1 (w_ar ws (n_v vs 0) 84) j := el_kp s1.1 r8 cr_0_84 (by decide)
  have hE_0_85_1 : ∀ j : Int, w_ei ws (w_ar ws (n_v vs 0) 85) j = w_ei w1 (w_ar ws (n_v vs 0) 85) j := el_kp s1.1 r8 cr_0_85 (by decide)
  have hE_0_86_1 : ∀ j : Int, w_ei ws (w_ar ws (n_v vs 0) 86) j = w_ei w1 (w_ar ws (n_v vs 0) 86) j := el_kp s1.1 r8 cr_0_86 (by decide)
  have hE_0_87_1 : ∀ j : Int, w_ei ws (w_ar ws (n_v vs 0) 87) j = w_ei w1 (w_ar ws (n_v vs 0) 87) j := el_kp s1.1 r8 cr_0_87 (by decide)
  have hE_0_88_1 : ∀ j : Int, w_ei ws (w_ar ws (n_v vs 0) 88) j = w_ei w1 (w_ar ws (n_v vs 0) 88) j := el_kp s1.1 r8 cr_0_88 (by decide)
  have hE_0_89_1 : ∀ j : Int, w_ei ws (w_ar ws (n_v vs 0) 89) j = w_ei w1 (w_ar ws (n_v vs 0) 89) j := el_kp s1.1 r8 cr_0_89 (by decide)
  have hE_0_90_1 : ∀ j : Int, w_ei ws (w_ar ws (n_v vs 0) 90) j = w_ei w1 (w_ar ws (n_v vs 0) 90) j := el_kp s1.1 r8 cr_0_90 (by decide)
  have hE_0_91_1 : ∀ j : Int, w_ei ws (w_ar ws (n_v vs 0) 91) j = w_ei w1 (w_ar ws (n_v vs 0) 91) j := el_kp s1.1 r8 cr_0_91 (by decide)
  have hE_0_93_1 : ∀ j : Int, 0 ≤ j → (j = v_iv (n_v vs 6) → w_ei ws (w_ar ws (n_v vs 0) 93) j = v_iv (n_v vs 11)) ∧ (j ≠ v_iv (n_v vs 6) → w_ei ws (w_ar ws (n_v vs 0) 93) j = w_ei w1 (w_ar ws (n_v vs 0) 93) j) := fun j hj => ⟨fun h => by unfold w_ei; rw [s1.1, if_pos ⟨ad_8.symm, by rw [h]⟩], fun h => by unfold w_ei; rw [s1.1, if_neg (fun e => h (by have := e.2; omega))]⟩
  have kz_0_79 := fdq_147 hD hth r0
  have kz_0_80 := fdq_131 hD hth r0
  have kz_0_81 := fdq_124 hD hth r0
  have nf0 : fc_1 PRD (20, [1, 14, 13], [60, 0, 2, 416, 93, 91]) ws (vs) := by
    refine ⟨nf_in hl rfl, sgq_1169 ?_⟩
    · show UPE (w_ei ws (w_ar ws (n_v vs 1) 93)) (w_ei ws (w_ar ws (n_v vs 1) 91)) (v_iv (n_v vs 14)) (v_iv (n_v vs 13))
      rw [q1]
      exact vc_Mo_up_35_0 (v_iv (n_v vs 5)) (v_iv (n_v vs 6)) (v_iv (n_v vs 10)) (v_iv (n_v vs 11)) (v_iv (n_v vs 12)) (v_iv (n_v vs 13)) (v_iv (n_v vs 14)) (w_ei ws (w_ar ws (n_v vs 0) 93)) (w_fi ws (n_v vs 0) 79) (w_ei ws (w_ar ws (n_v vs 0) 90)) (w_ei ws (w_ar ws (n_v vs 0) 82)) (w_ei ws (w_ar ws (n_v vs 0) 83)) (w_ei ws (w_ar ws (n_v vs 0) 84)) (w_ei ws (w_ar ws (n_v vs 0) 85)) (w_ei ws (w_ar ws (n_v vs 0) 86)) (w_ei ws (w_ar ws (n_v vs 0) 87)) (w_ei ws (w_ar ws (n_v vs 0) 88)) (w_ei ws (w_ar ws (n_v vs 0) 89)) (w_fi ws (n_v vs 0) 80) (w_fi ws (n_v vs 0) 81) (w_ei ws (w_ar ws (n_v vs 0) 91)) (w_ei w1 (w_ar ws (n_v vs 0) 91)) (w_fi w1 (n_v vs 0) 79) (w_ei w1 (w_ar ws (n_v vs 0) 90)) (w_ei w1 (w_ar ws (n_v vs 0) 82)) (w_ei w1 (w_ar ws (n_v vs 0) 83)) (w_ei w1 (w_ar ws (n_v vs 0) 84)) (w_ei w1 (w_ar ws (n_v vs 0) 85)) (w_ei w1 (w_ar ws (n_v vs 0) 86)) (w_ei w1 (w_ar ws (n_v vs 0) 87)) (w_ei w1 (w_ar ws (n_v vs 0) 88)) (w_ei w1 (w_ar ws (n_v vs 0) 89)) (w_fi w1 (n_v vs 0) 80) (w_fi w1 (n_v vs 0) 81) (w_ei w1 (w_ar ws (n_v vs 0) 93)) k5 k6 k10 k11 k12 k13 k14 d0 f0 f1 h2 h13 f22 fe_0_79_1 fe_0_80_1 fe_0_81_1 hE_0_82_1 hE_0_83_1 hE_0_84_1 hE_0_85_1 hE_0_86_1 hE_0_87_1 hE_0_88_1 hE_0_89_1 hE_0_90_1 hE_0_91_1 hE_0_93_1 kz_0_79 kz_0_80 kz_0_81
  have nf1 : fc_1 PRD (20, [14, 1], [50, 1, 0, 1079, 0, 2, 1, 0, 2, 1, 79]) ws (vs) := by
    refine ⟨nf_in hl rfl, sgq_1164 ?_⟩
    · show v_iv (n_v vs 14) ≤ w_fi ws (n_v vs 1) 79
      rw [q1]
      exact vc_Mo_up_35_1 (v_iv (n_v vs 6)) (v_iv (n_v vs 7)) (v_iv (n_v vs 14)) (w_fi ws (n_v vs 0) 79) (w_ei ws (w_ar ws (n_v vs 0) 90)) (w_ei ws (w_ar ws (n_v vs 0) 82)) (w_ei ws (w_ar ws (n_v vs 0) 83)) (w_ei ws (w_ar ws (n_v vs 0) 84)) (w_ei ws (w_ar ws (n_v vs 0) 85)) (w_ei ws (w_ar ws (n_v vs 0) 86)) (w_ei ws (w_ar ws (n_v vs 0) 87)) (w_ei ws (w_ar ws (n_v vs 0) 88)) (w_ei ws (w_ar ws (n_v vs 0) 89)) (w_fi ws (n_v vs 0) 80) (w_fi ws (n_v vs 0) 81) (w_ei ws (w_ar ws (n_v vs 0) 91)) (w_ei w1 (w_ar ws (n_v vs 0) 91)) (w_fi w1 (n_v vs 0) 79) (w_ei w1 (w_ar ws (n_v vs 0) 90)) (w_ei w1 (w_ar ws (n_v vs 0) 82)) (w_ei w1 (w_ar ws (n_v vs 0) 83)) (w_ei w1 (w_ar ws (n_v vs 0) 84)) (w_ei w1 (w_ar ws (n_v vs 0) 85)) (w_ei w1 (w_ar ws (n_v vs 0) 86)) (w_ei w1 (w_ar ws (n_v vs 0) 87)) (w_ei w1 (w_ar ws (n_v vs 0) 88)) (w_ei w1 (w_ar ws (n_v vs 0) 89)) (w_fi w1 (n_v vs 0) 80) (w_fi w1 (n_v vs 0) 81) k6 k7 k14 d0 d1 d5 g16 fe_0_79_1 fe_0_80_1 fe_0_81_1 hE_0_82_1 hE_0_83_1 hE_0_84_1 hE_0_85_1 hE_0_86_1 hE_0_87_1 hE_0_88_1 hE_0_89_1 hE_0_90_1 hE_0_91_1 kz_0_79 kz_0_80 kz_0_81
  refine ⟨(fun _ h => (by cases h)), [], trivial, ?_, (fun _ h => (by cases h))⟩
  rw [List.append_nil]
  exact List.forall_mem_cons.mpr ⟨⟨show (20 : Nat) < 100 from by decide, nf0⟩, List.forall_mem_cons.mpr ⟨⟨show (20 : Nat) < 100 from by decide, nf1⟩, (fun _ h => (by cases h))⟩⟩
def n_Mo_up_an : List an_T := [(22, [(0, (2, 0, 0, [165])), (1, (0, 2, 78, [])), (2, (0, 0, 76, [])), (3, (0, 1, 77, [])), (4, (0, 0, 6084, []))], [], (0, 0), [(0, 0, 99978), (1, 5, 6084), (0, 0, 100000)], [(2, 3, (Int.negSucc 999999999999), 2), (2, 4, (Int.negSucc 999999999999), 1), (3, 2, (Int.negSucc 999999999999), (Int.negSucc 1)), (3, 4, (Int.negSucc 999999999999), (Int.negSucc 0)), (4, 2, (Int.negSucc 999999999999), (Int.negSucc 0)), (4, 3, (Int.negSucc 999999999999), 1)], [], [(2, 0, 0, [165])], 0, [], [(20, [2, 1], [50, 1, 0, 1079, 1, 2, 1, 0, 4, 3, 2, 1, 79, 0, 2]), (20, [3, 1], [50, 1, 0, 1079, 1, 2, 1, 0, 2, 1, 79]), (20, [4, 1], [50, 1, 0, 1079, 1, 2, 1, 0, 4, 3, 2, 1, 79, 0, 1]), (20, [1], [60, 3, 7, 395, 79, 80, 81, 83, 84, 85, 86, 87, 88, 89]), (20, [1, 5], [60, 0, 1, 409, 90]), (24, [0, 1], [])]), (47, [(0, (2, 0, 0, [165])), (1, (0, 2, 78, [])), (2, (0, 0, 76, [])), (3, (0, 1, 77, [])), (4, (0, 0, 76, []))], [], (0, 0), [(0, 0, 99953), (1, 5, 76), (0, 0, 100000)], [(2, 3, (Int.negSucc 999999999999), 2), (2, 4, (Int.negSucc 999999999999), 1), (3, 2, (Int.negSucc 999999999999), (Int.negSucc 1)), (3, 4, (Int.negSucc 999999999999), (Int.negSucc 0)), (4, 2, (Int.negSucc 999999999999), (Int.negSucc 0)), (4, 3, (Int.negSucc 999999999999), 1)], [], [(2, 0, 0, [165])], 0, [], [(20, [2, 1], [50, 1, 0, 1079, 1, 2, 1, 0, 4, 3, 2, 1, 79, 0, 2]), (20, [3, 1], [50, 1, 0, 1079, 1, 2, 1, 0, 2, 1, 79]), (20, [4, 1], [50, 1, 0, 1079, 1, 2, 1, 0, 4, 3, 2, 1, 79, 0, 1]), (20, [1], [60, 3, 7, 395, 79, 80, 81, 83, 84, 85, 86, 87, 88, 89]), (20, [1], [60, 1, 1, 410, 79, 90]), (20, [1, 5], [60, 0, 1, 411, 93]), (24, [0, 1], [])]), (73, [(0, (2, 0, 0, [165])), (1, (0, 2, 78, [])), (2, (0, 0, 76, [])), (3, (0, 1, 77, [])), (4, (0, 0, 200, []))], [], (0, 0), [(0, 0, 99927), (1, 5, 200), (0, 0, 100000)], [(2, 3, (Int.negSucc 999999999999), 2), (2, 4, (Int.negSucc 999999999999), 1), (3, 2, (Int.negSucc 999999999999), (Int.negSucc 1)), (3, 4, (Int.negSucc 999999999999), (Int.negSucc 0)), (4, 2, (Int.negSucc 999999999999), (Int.negSucc 0)), (4, 3, (Int.negSucc 999999999999), 1)], [], [(2, 0, 0, [165])], 0, [], [(20, [2, 1], [50, 1, 0, 1079, 1, 2, 1, 0, 4, 3, 2, 1, 79, 0, 2]), (20, [3, 1], [50, 1, 0, 1079, 1, 2, 1, 0, 2, 1, 79]), (20, [4, 1], [50, 1, 0, 1079, 1, 2, 1, 0, 4, 3, 2, 1, 79, 0, 1]), (20, [1, 5], [60, 3, 10, 413, 79, 80, 81, 90, 93, 82, 83, 84, 85, 86, 87, 88, 89]), (20, [5, 1], [50, 1, 0, 1080, 0, 2, 1, 0, 2, 1, 80]), (24, [0, 1], [])]), (283, [(0, (2, 0, 0, [165])), (1, (0, 2, 78, [])), (2, (0, 0, 76, [])), (3, (0, 1, 77, [])), (4, (0, 0, 76, []))], [], (0, 0), [(0, 0, 99717), (1, 5, 76), (0, 0, 100000)], [(2, 3, (Int.negSucc 999999999999), 2), (2, 4, (Int.negSucc 999999999999), 1), (3, 2, (Int.negSucc 999999999999), (Int.negSucc 1)), (3, 4, (Int.negSucc 999999999999), (Int.negSucc 0)), (4, 2, (Int.negSucc 999999999999), (Int.negSucc 0)), (4, 3, (Int.negSucc 999999999999), 1)], [], [(2, 0, 0, [165])], 0, [], [(20, [2, 1], [50, 1, 0, 1079, 1, 2, 1, 0, 4, 3, 2, 1, 79, 0, 2]), (20, [3, 1], [50, 1, 0, 1079, 1, 2, 1, 0, 2, 1, 79]), (20, [4, 1], [50, 1, 0, 1079, 1, 2, 1, 0, 4, 3, 2, 1, 79, 0, 1]), (20, [1, 5], [60, 3, 10, 414, 79, 80, 81, 90, 93, 82, 83, 84, 85, 86, 87, 88, 89]), (20, [5, 1], [50, 1, 0, 1079, 0, 2, 1, 0, 2, 1, 79]), (24, [0, 1], [])]), (351, [(0, (2, 0, 0, [165])), (1, (0, 2, 78, [])), (2, (0, 0, 76, [])), (3, (0, 1, 77, [])), (4, (0, 0, 200, []))], [], (0, 0), [(0, 0, 99649), (1, 5, 200), (0, 0, 100000)], [(2, 3, (Int.negSucc 999999999999), 2), (2, 4, (Int.negSucc 999999999999), 1), (3, 2, (Int.negSucc 999999999999), (Int.negSucc 1)), (3, 4, (Int.negSucc 999999999999), (Int.negSucc 0)), (4, 2, (Int.negSucc 999999999999), (Int.negSucc 0)), (4, 3, (Int.negSucc 999999999999), 1)], [], [(2, 0, 0, [165])], 0, [], [(20, [2, 1], [50, 1, 0, 1079, 1, 2, 1, 0, 4, 3, 2, 1, 79, 0, 2]), (20, [3, 1], [50, 1, 0, 1079, 1, 2, 1, 0, 2, 1, 79]), (20, [4, 1], [50, 1, 0, 1079, 1, 2, 1, 0, 4, 3, 2, 1, 79, 0, 1]), (20, [1, 5], [60, 3, 9, 415, 79, 80, 81, 90, 82, 83, 84, 85, 86, 87, 88, 89]), (20, [5, 1], [50, 1, 0, 1081, 0, 2, 1, 0, 2, 1, 81]), (24, [0, 1], [])]), (429, [(0, (2, 0, 0, [165])), (1, (0, 2, 78, [])), (2, (0, 0, 76, [])), (3, (0, 1, 77, [])), (4, (0, 0, 255, []))], [], (0, 0), [(0, 0, 99571), (2, 7, (Int.negSucc 1)), (0, 0, 100000)], [(2, 3, (Int.negSucc 999999999999), 2), (2, 4, (Int.negSucc 999999999999), 1), (3, 2, (Int.negSucc 999999999999), (Int.negSucc 1)), (3, 4, (Int.negSucc 999999999999), (Int.negSucc 0)), (4, 2, (Int.negSucc 999999999999), (Int.negSucc 0)), (4, 3, (Int.negSucc 999999999999), 1)], [((0, 94), (0, (Int.negSucc 2147483647), 2147483647, []))], [(2, 0, 0, [165])], 0, [(0, (Int.negSucc 1), 180000001, [])], [(20, [2, 1], [50, 1, 0, 1079, 1, 2, 1, 0, 4, 3, 2, 1, 79, 0, 2]), (20, [3, 1], [50, 1, 0, 1079, 1, 2, 1, 0, 2, 1, 79]), (20, [4, 1], [50, 1, 0, 1079, 1, 2, 1, 0, 4, 3, 2, 1, 79, 0, 1]), (20, [1], [60, 3, 9, 397, 79, 80, 81, 90, 82, 83, 84, 85, 86, 87, 88, 89]), (20, [1, 7], [60, 1, 1, 398, 79, 90]), (24, [0, 1], [])]), (449, [(0, (2, 0, 0, [165])), (1, (0, 2, 78, [])), (2, (0, 0, 76, [])), (3, (0, 1, 77, [])), (4, (0, 0, 255, []))], [], (0, 0), [(0, 0, 99571), (2, 7, (Int.negSucc 1)), (0, 0, 99551)], [(2, 3, (Int.negSucc 999999999999), 2), (2, 4, (Int.negSucc 999999999999), 1), (3, 2, (Int.negSucc 999999999999), (Int.negSucc 1)), (3, 4, (Int.negSucc 999999999999), (Int.negSucc 0)), (4, 2, (Int.negSucc 999999999999), (Int.negSucc 0)), (4, 3, (Int.negSucc 999999999999), 1)], [((0, 94), (0, (Int.negSucc 2147483647), 2147483647, []))], [(2, 0, 0, [165])], 0, [(0, (Int.negSucc 1), 180000001, [])], [(20, [2, 1], [50, 1, 0, 1079, 1, 2, 1, 0, 4, 3, 2, 1, 79, 0, 2]), (20, [3, 1], [50, 1, 0, 1079, 1, 2, 1, 0, 2, 1, 79]), (20, [4, 1], [50, 1, 0, 1079, 1, 2, 1, 0, 4, 3, 2, 1, 79, 0, 1]), (20, [1], [60, 3, 9, 397, 79, 80, 81, 90, 82, 83, 84, 85, 86, 87, 88, 89]), (20, [1, 7], [60, 1, 1, 399, 79, 90]), (23, [7], [(Int.negSucc 0), (Int.negSucc 0)]), (24, [0, 1], [])]), (458, [(0, (2, 0, 0, [165])), (1, (0, 2, 78, [])), (2, (0, 0, 76, [])), (3, (0, 1, 77, [])), (4, (0, 0, 76, [])), (5, (0, 0, 76, []))], [], (0, 0), [(0, 0, 99542), (1, 6, 76), (0, 0, 100000)], [(2, 3, (Int.negSucc 999999999999), 2), (2, 4, (Int.negSucc 999999999999), 1), (3, 2, (Int.negSucc 999999999999), (Int.negSucc 1)), (3, 4, (Int.negSucc 999999999999), (Int.negSucc 0)), (4, 2, (Int.negSucc 999999999999), (Int.negSucc 0)), (4, 3, (Int.negSucc 999999999999), 1), (5, 6, (Int.negSucc 999999999999), 0)], [], [(2, 0, 0, [165])], 0, [], [(20, [2, 1], [50, 1, 0, 1079, 1, 2, 1, 0, 4, 3, 2, 1, 79, 0, 2]), (20, [3, 1], [50, 1, 0, 1079, 1, 2, 1, 0, 2, 1, 79]), (20, [4, 1], [50, 1, 0, 1079, 1, 2, 1, 0, 4, 3, 2, 1, 79, 0, 1]), (20, [1], [60, 3, 9, 397, 79, 80, 81, 90, 82, 83, 84, 85, 86, 87, 88, 89]), (20, [1, 2, 3, 4], [60, 0, 2, 406, 90, 91]), (20, [1, 6, 5], [60, 0, 2, 416, 93, 91]), (20, [6, 1], [50, 1, 0, 1079, 0, 2, 1, 0, 2, 1, 79]), (24, [0, 1], [])])]
def t_Mo_up_ct : ct_L := [(1, 789, e_Mo_augment)]
set_option maxRecDepth 100000 in
theorem c_Mo_up {l : Launch} {D : va_G} {kA : Nat → ClassId} (h_Mo_augment : ct_ok PRD l D kA GG y_Mo_augment z_Mo_augment e_Mo_augment) : ct_ok PRD l D kA GG y_Mo_up z_Mo_up e_Mo_up := chk_all_ok (FT := [(174, 13, 82), (177, 13, 83), (180, 13, 84), (183, 13, 85), (186, 13, 86), (189, 13, 87), (192, 13, 88), (195, 13, 89), (198, 13, 90), (201, 13, 91), (207, 13, 93), (777, 13, 80), (780, 13, 81), (783, 13, 79), (792, 13, 94)]) (PT := [(792, 13, 94, .int)]) (CT := t_Mo_up_ct) (KT := [(1, 546, .int (1000000), (0, 1000000, 1000000, []))]) (NT := []) (AN := n_Mo_up_an) (OT := [o_Mo_up_0, o_Mo_up_1, o_Mo_up_2, o_Mo_up_3, o_Mo_up_4, o_Mo_up_5, o_Mo_up_6, o_Mo_up_7, o_Mo_up_8, o_Mo_up_9, o_Mo_up_10, o_Mo_up_11, o_Mo_up_12, o_Mo_up_13, o_Mo_up_14, o_Mo_up_15, o_Mo_up_16, o_Mo_up_17, o_Mo_up_18, o_Mo_up_19, o_Mo_up_20, o_Mo_up_21, o_Mo_up_22, o_Mo_up_23, o_Mo_up_24, o_Mo_up_25, o_Mo_up_26, o_Mo_up_27, o_Mo_up_28, o_Mo_up_29, o_Mo_up_30, o_Mo_up_31, o_Mo_up_32, o_Mo_up_33, o_Mo_up_34, o_Mo_up_35]) 3 1372 (List.forall_mem_cons.mpr ⟨oo_Mo_up_0, List.forall_mem_cons.mpr ⟨oo_Mo_up_1, List.forall_mem_cons.mpr ⟨oo_Mo_up_2, List.forall_mem_cons.mpr ⟨oo_Mo_up_3, List.forall_mem_cons.mpr ⟨oo_Mo_up_4, List.forall_mem_cons.mpr ⟨oo_Mo_up_5, List.forall_mem_cons.mpr ⟨oo_Mo_up_6, List.forall_mem_cons.mpr ⟨oo_Mo_up_7, List.forall_mem_cons.mpr ⟨oo_Mo_up_8, List.forall_mem_cons.mpr ⟨oo_Mo_up_9, List.forall_mem_cons.mpr ⟨oo_Mo_up_10, List.forall_mem_cons.mpr ⟨oo_Mo_up_11, List.forall_mem_cons.mpr ⟨oo_Mo_up_12, List.forall_mem_cons.mpr ⟨oo_Mo_up_13, List.forall_mem_cons.mpr ⟨oo_Mo_up_14, List.forall_mem_cons.mpr ⟨oo_Mo_up_15, List.forall_mem_cons.mpr ⟨oo_Mo_up_16, List.forall_mem_cons.mpr ⟨oo_Mo_up_17, List.forall_mem_cons.mpr ⟨oo_Mo_up_18, List.forall_mem_cons.mpr ⟨oo_Mo_up_19, List.forall_mem_cons.mpr ⟨oo_Mo_up_20, List.forall_mem_cons.mpr ⟨oo_Mo_up_21, List.forall_mem_cons.mpr ⟨oo_Mo_up_22, List.forall_mem_cons.mpr ⟨oo_Mo_up_23, List.forall_mem_cons.mpr ⟨oo_Mo_up_24, List.forall_mem_cons.mpr ⟨oo_Mo_up_25, List.forall_mem_cons.mpr ⟨oo_Mo_up_26, List.forall_mem_cons.mpr ⟨oo_Mo_up_27, List.forall_mem_cons.mpr ⟨oo_Mo_up_28, List.forall_mem_cons.mpr ⟨oo_Mo_up_29, List.forall_mem_cons.mpr ⟨oo_Mo_up_30, List.forall_mem_cons.mpr ⟨oo_Mo_up_31, List.forall_mem_cons.mpr ⟨oo_Mo_up_32, List.forall_mem_cons.mpr ⟨oo_Mo_up_33, List.forall_mem_cons.mpr ⟨oo_Mo_up_34, List.forall_mem_cons.mpr ⟨oo_Mo_up_35, List.forall_mem_nil _⟩⟩⟩⟩⟩⟩⟩⟩⟩⟩⟩⟩⟩⟩⟩⟩⟩⟩⟩⟩⟩⟩⟩⟩⟩⟩⟩⟩⟩⟩⟩⟩⟩⟩⟩⟩) (by decide +kernel) ⟨List.forall_mem_cons.mpr ⟨gf_Mo_174, List.forall_mem_cons.mpr ⟨gf_Mo_177, List.forall_mem_cons.mpr ⟨gf_Mo_180, List.forall_mem_cons.mpr ⟨gf_Mo_183, List.forall_mem_cons.mpr ⟨gf_Mo_186, List.forall_mem_cons.mpr ⟨gf_Mo_189, List.forall_mem_cons.mpr ⟨gf_Mo_192, List.forall_mem_cons.mpr ⟨gf_Mo_195, List.forall_mem_cons.mpr ⟨gf_Mo_198, List.forall_mem_cons.mpr ⟨gf_Mo_201, List.forall_mem_cons.mpr ⟨gf_Mo_207, List.forall_mem_cons.mpr ⟨gf_Mo_777, List.forall_mem_cons.mpr ⟨gf_Mo_780, List.forall_mem_cons.mpr ⟨gf_Mo_783, List.forall_mem_cons.mpr ⟨gf_Mo_792, List.forall_mem_nil _⟩⟩⟩⟩⟩⟩⟩⟩⟩⟩⟩⟩⟩⟩⟩, List.forall_mem_cons.mpr ⟨pf_Mo_792, List.forall_mem_nil _⟩, List.forall_mem_cons.mpr ⟨cl_virtual (y := y_Mo_augment) (ci := 13) rfl rfl ⟨_, _, rfl⟩ (by decide +kernel) h_Mo_augment wm_3419 wm_9 wm_3416 wm_3418 wv_18_7 ⟨by decide, by decide, by decide +kernel⟩ (by decide), List.forall_mem_nil _⟩, List.forall_mem_cons.mpr ⟨kx_Mo_1_546, List.forall_mem_nil _⟩, List.forall_mem_nil _, GG_pl⟩ (by decide +kernel)
def o_Ho_forget_0 : or_T := (10, 5, [(0, (2, 0, 0, [12])), (1, (0, 0, 3, [])), (2, (2, 0, 0, [132])), (3, (2, 0, 0, [2])), (4, (0, 0, 0, []))], [(101, [3, 4], [0]), (14, [3, 2, 1], []), (9, [2, 0], [1]), (20, [0, 1], [62, 1])], [], [], [(20, [0, 1], [62, 9])], [], [])
theorem oo_Ho_forget_0 {kA : Nat → ClassId} : or_ok PRD kA GG o_Ho_forget_0 := by
  refine or_mk fun A ta ws vs hD hth hl => ?_
  intro t0 r0 t1 k1 t2 r2 t3 r3 t4 k4 ta1 w1 le1 s1 f1 f2 f3
  have s1 : (∀ b j, w_el ws b j = w_el w1 b j) ∧ ∀ b j, w_fd ws b j = if b = v_ad (n_v vs 3) ∧ j = 0 then n_v vs 4 else w_fd w1 b j := s1.2
  replace f1 := shm_793 f1
  replace f2 := shm_215 f2
  replace f3 := shm_1172 f3
  have nf0 : fc_1 PRD (20, [0, 1], [62, 9]) ws (vs) := by
    refine ⟨nf_in hl rfl, sgq_1173 ?_⟩
    · show WQF 9 [n_v vs 0, n_v vs 1] ws
      exact wq_known hD hth (by decide +kernel) r0 r3 f3 f2 f1 (show v_iv (n_v vs 4) = 0 by omega) s1
  refine ⟨(fun _ h => (by cases h)), [], trivial, ?_, (fun _ h => (by cases h))⟩
  rw [List.append_nil]
  exact List.forall_mem_cons.mpr ⟨⟨show (20 : Nat) < 100 from by decide, nf0⟩, (fun _ h => (by cases h))⟩
set_option maxHeartbeats 4000000 in
theorem vc_Ho_forget_1_1 (x1 : Int) (nets_0 : Int → Int) (nets_1 : Int → Int) (gy : Int) (k1 : 0 ≤ x1 ∧ x1 ≤ 3) (hE_0_2_1 : ∀ j : Int, nets_0 j = nets_1 j) (ey2 : gy = x1) : 1 * gy + ((-1) * x1 + 0) ≤ 0 := by
  have e_hE_0_2_1 := funext hE_0_2_1; subst e_hE_0_2_1
  first
    | omega
  
set_option maxHeartbeats 4000000 in
theorem vc_Ho_forget_1_2 (x1 : Int) (nets_0 : Int → Int) (nets_1 : Int → Int) (gy : Int) (k1 : 0 ≤ x1 ∧ x1 ≤ 3) (hE_0_2_1 : ∀ j : Int, nets_0 j = nets_1 j) (ey2 : gy = x1) : (-1) * gy + (1 * x1 + 0) ≤ 0 := by
  have e_hE_0_2_1 := funext hE_0_2_1; subst e_hE_0_2_1
  first
    | omega
  
def o_Ho_forget_1 : or_T := (16, 7, [(0, (2, 0, 0, [12])), (1, (0, 0, 3, []))], [(14, [6, 5, 1], []), (9, [5, 0], [2]), (20, [0, 1], [62, 9]), (101, [3, 4], [0])], [], [(2, 0, 0, [12]), (0, 0, 3, [])], [(24, [0, 7], []), (23, [8, 1], [0, 1, -1]), (23, [8, 1], [0, -1, 1]), (20, [7, 8, 6], [62, 201])], [], [])
theorem oo_Ho_forget_1 {kA : Nat → ClassId} : or_ok PRD kA GG o_Ho_forget_1 := by
  refine or_mk fun A ta ws vs hD hth hl => ?_
  intro t0 r0 t1 k1 f0 f1 f2 ta1 w1 le1 s1
  replace f0 := shm_793 f0
  replace f1 := shm_120 f1
  replace f2 := shm_1173 f2
  have s1 : (∀ b j, w_el ws b j = w_el w1 b j) ∧ ∀ b j, w_fd ws b j = if b = v_ad (n_v vs 3) ∧ j = 0 then n_v vs 4 else w_fd w1 b j := s1.2
  have hE_0_2_1 : ∀ j : Int, w_ei ws (w_ar ws (n_v vs 0) 2) j = w_ei w1 (w_ar ws (n_v vs 0) 2) j := fun j => s1.1 _ _
  obtain ⟨y, ey, hy⟩ := iv_ex (ta := ta) (lo := 0) (hi := 3) (z := v_iv (n_v vs 1)) (by omega) (by omega) (by omega) (by omega)
  have ey2 : v_iv (Value.int y) = v_iv (n_v vs 1) := ey
  have ey3 : 0 ≤ v_iv (Value.int y) ∧ v_iv (Value.int y) ≤ 3 := tv_rng hy
  have e_0 : n_v (vs ++ [n_v vs 0, Value.int y]) 0 = n_v vs 0 := n_v_old (by rw [hl]; decide)
  have e_1 : n_v (vs ++ [n_v vs 0, Value.int y]) 1 = n_v vs 1 := n_v_old (by rw [hl]; decide)
  have e_6 : n_v (vs ++ [n_v vs 0, Value.int y]) 6 = n_v vs 6 := n_v_old (by rw [hl]; decide)
  have e_7 : n_v (vs ++ [n_v vs 0, Value.int y]) 7 = n_v vs 0 := n_v_new0 hl
  have e_8 : n_v (vs ++ [n_v vs 0, Value.int y]) 8 = Value.int y := n_v_new1 hl
  have nf0 : fc_1 PRD (24, [0, 7], []) ws (vs ++ [n_v vs 0, Value.int y]) := by
    refine ⟨nf_inA hl rfl, sgq_5 ?_⟩
    · show n_v (vs ++ [n_v vs 0, Value.int y]) 0 = n_v (vs ++ [n_v vs 0, Value.int y]) 7
      first | rfl | simp only [e_0, e_7]
  have nf1 : fc_1 PRD (23, [8, 1], [0, 1, -1]) ws (vs ++ [n_v vs 0, Value.int y]) := by
    refine ⟨nf_inA hl rfl, sgq_7 ?_⟩
    · show 1 * v_iv (n_v (vs ++ [n_v vs 0, Value.int y]) 8) + ((-1) * v_iv (n_v (vs ++ [n_v vs 0, Value.int y]) 1) + 0) ≤ 0
      simp only [e_1, e_8]
      exact vc_Ho_forget_1_1 (v_iv (n_v vs 1)) (w_ei ws (w_ar ws (n_v vs 0) 2)) (w_ei w1 (w_ar ws (n_v vs 0) 2)) (v_iv (Value.int y)) k1 hE_0_2_1 ey2
  have nf2 : fc_1 PRD (23, [8, 1], [0, -1, 1]) ws (vs ++ [n_v vs 0, Value.int y]) := by
    refine ⟨nf_inA hl rfl, sgq_22 ?_⟩
    · show (-1) * v_iv (n_v (vs ++ [n_v vs 0, Value.int y]) 8) + (1 * v_iv (n_v (vs ++ [n_v vs 0, Value.int y]) 1) + 0) ≤ 0
      simp only [e_1, e_8]
      exact vc_Ho_forget_1_2 (v_iv (n_v vs 1)) (w_ei ws (w_ar ws (n_v vs 0) 2)) (w_ei w1 (w_ar ws (n_v vs 0) 2)) (v_iv (Value.int y)) k1 hE_0_2_1 ey2
  have nf3 : fc_1 PRD (20, [7, 8, 6], [62, 201]) ws (vs ++ [n_v vs 0, Value.int y]) := by
    refine ⟨nf_inA hl rfl, sgq_1175 ?_⟩
    · show WQF 201 [n_v (vs ++ [n_v vs 0, Value.int y]) 7, n_v (vs ++ [n_v vs 0, Value.int y]) 8, n_v (vs ++ [n_v vs 0, Value.int y]) 6] ws
      simp only [e_6, e_7, e_8]
      have zw := f2
      exact WQF_int (wq_link (zw) (by decide) ⟨Or.inr (pO_of f1 f0), trivial⟩) ey2
  exact ⟨(fun _ h => (by cases h)), [n_v vs 0, Value.int y], ag_two t0 hy, List.forall_mem_cons.mpr ⟨⟨show (24 : Nat) < 100 from by decide, nf0⟩, List.forall_mem_cons.mpr ⟨⟨show (23 : Nat) < 100 from by decide, nf1⟩, List.forall_mem_cons.mpr ⟨⟨show (23 : Nat) < 100 from by decide, nf2⟩, List.forall_mem_cons.mpr ⟨⟨show (20 : Nat) < 100 from by decide, nf3⟩, (fun _ h => (by cases h))⟩⟩⟩⟩, (fun _ h => (by cases h))⟩
def o_Ho_forget_2 : or_T := (28, 11, [], [(24, [0, 7], []), (20, [7], [62, 0])], [], [], [(20, [0], [62, 0])], [], [])
theorem oo_Ho_forget_2 {kA : Nat → ClassId} : or_ok PRD kA GG o_Ho_forget_2 := by
  refine or_mk fun A ta ws vs hD hth hl => ?_
  intro f0 f4
  replace f0 := shm_5 f0
  replace f4 := shm_1176 f4
  have q7 : n_v vs 7 = n_v vs 0 := f0.symm
  simp only [q7] at f4
  have nf0 : fc_1 PRD (20, [0], [62, 0]) ws (vs) := by
    refine ⟨nf_in hl rfl, sgq_1176 ?_⟩
    · show WQF 0 [n_v vs 0] ws
      have zw := f4
      first | rw [show n_v vs 7 = n_v vs 0 from (by first | exact f0 | exact f0.symm)] at zw | skip
      exact zw
  refine ⟨(fun _ h => (by cases h)), [], trivial, ?_, (fun _ h => (by cases h))⟩
  rw [List.append_nil]
  exact List.forall_mem_cons.mpr ⟨⟨show (20 : Nat) < 100 from by decide, nf0⟩, (fun _ h => (by cases h))⟩
def n_Ho_forget_an : List an_T := []
def t_Ho_forget_ct : ct_L := [(1, 413, e_Dr_wipe), (52, 411, e_Ne_forget_f)]
set_option maxRecDepth 100000 in
theorem c_Ho_forget {l : Launch} {D : va_G} {kA : Nat → ClassId} (h_Dr_wipe : ct_ok PRD l D kA GG y_Dr_wipe z_Dr_wipe e_Dr_wipe) (h_Ne_forget : ct_ok PRD l D kA GG y_Ne_forget z_Ne_forget e_Ne_forget) : ct_ok PRD l D kA GG y_Ho_forget z_Ho_forget e_Ho_forget := chk_all_ok (FT := [(19, 12, 1), (25, 12, 2), (31, 12, 3)]) (PT := [(407, 2, 0, .boolean)]) (CT := t_Ho_forget_ct) (KT := []) (NT := []) (AN := n_Ho_forget_an) (OT := [o_Ho_forget_0, o_Ho_forget_1, o_Ho_forget_2]) 0 200 (List.forall_mem_cons.mpr ⟨oo_Ho_forget_0, List.forall_mem_cons.mpr ⟨oo_Ho_forget_1, List.forall_mem_cons.mpr ⟨oo_Ho_forget_2, List.forall_mem_nil _⟩⟩⟩) (by decide +kernel) ⟨List.forall_mem_cons.mpr ⟨gf_Ho_19, List.forall_mem_cons.mpr ⟨gf_Ho_25, List.forall_mem_cons.mpr ⟨gf_Ho_31, List.forall_mem_nil _⟩⟩⟩, List.forall_mem_cons.mpr ⟨pf_Ho_407, List.forall_mem_nil _⟩, List.forall_mem_cons.mpr ⟨cl_virtual (y := y_Dr_wipe) (ci := 0) rfl rfl ⟨_, _, rfl⟩ (by decide +kernel) h_Dr_wipe wm_797 wm_8 wm_794 wm_795 wm_796 ⟨by decide, by decide, by decide +kernel⟩ (by decide), List.forall_mem_cons.mpr ⟨cl_virtual (y := y_Ne_forget) (ci := 5) rfl rfl ⟨_, _, rfl⟩ (by decide +kernel) (cf_Ne_forget h_Ne_forget) wm_793 wm_6 wm_790 wm_791 wm_792 ⟨by decide, by decide, by decide +kernel⟩ (by decide), List.forall_mem_nil _⟩⟩, List.forall_mem_nil _, List.forall_mem_nil _, GG_pl⟩ (by decide +kernel)
set_option maxHeartbeats 4000000 in
theorem vc_Em_loadKept_0_0 (x3 : Int) (nodes_0o1 : Int) (k3 : 0 ≤ x3 ∧ x3 ≤ 24) (g0 : x3 = nodes_0o1) (kz_1_0 : 0 ≤ nodes_0o1 ∧ nodes_0o1 ≤ 24) : x3 = nodes_0o1 := by
  first
    | omega
    | (have q := (‹GKE _ _ _ _›) x4 (by omega) (by omega); omega)
    | (have q := (‹GKE _ _ _ _›) x5 (by omega) (by omega); omega)
    | (have q := (‹GKE _ _ _ _›) x6 (by omega) (by omega); omega)
def o_Em_loadKept_0 : or_T := (8, 4, [(1, (2, 0, 0, [3])), (3, (0, 0, 24, []))], [(9, [3, 1], [0])], [], [], [(20, [3, 1], [50, 1, 0, 1000, 1, 2, 1, 0, 2, 1, 0])], [], [])
theorem oo_Em_loadKept_0 {kA : Nat → ClassId} : or_ok PRD kA GG o_Em_loadKept_0 := by
  refine or_mk fun A ta ws vs hD hth hl => ?_
  intro t1 r1 t3 k3 f0
  replace f0 := shm_163 f0
  have g0 : v_iv (n_v vs 3) = w_fi ws (n_v vs 1) 0 := congrArg v_iv f0
  have kz_1_0 := fdq_21 hD hth r1
  have nf0 : fc_1 PRD (20, [3, 1], [50, 1, 0, 1000, 1, 2, 1, 0, 2, 1, 0]) ws (vs) := ⟨nf_in hl rfl, sgq_836 (vc_Em_loadKept_0_0 (v_iv (n_v vs 3)) (w_fi ws (n_v vs 1) 0) k3 g0 kz_1_0)⟩
  refine ⟨(fun _ h => (by cases h)), [], trivial, ?_, (fun _ h => (by cases h))⟩
  rw [List.append_nil]
  exact List.forall_mem_cons.mpr ⟨⟨show (20 : Nat) < 100 from by decide, nf0⟩, (fun _ h => (by cases h))⟩
set_option maxHeartbeats 4000000 in
theorem vc_Em_loadKept_1_0 (x3 : Int) (nodes_0o1 : Int) (nodes_0o2 : Int) (k3 : 0 ≤ x3 ∧ x3 ≤ 24) (f0 : x3 = nodes_0o1) (f3 : nodes_0o2 = x3) (kz_1_0 : 0 ≤ nodes_0o1 ∧ nodes_0o1 ≤ 24) (kz_2_5 : 0 ≤ nodes_0o2 ∧ nodes_0o2 ≤ 25) : nodes_0o2 = nodes_0o1 := by
  first
    | omega
    | (have q := (‹GKE _ _ _ _›) x4 (by omega) (by omega); omega)
    | (have q := (‹GKE _ _ _ _›) x5 (by omega) (by omega); omega)
    | (have q := (‹GKE _ _ _ _›) x6 (by omega) (by omega); omega)
def o_Em_loadKept_1 : or_T := (13, 5, [(1, (2, 0, 0, [3])), (2, (2, 0, 0, [149])), (3, (0, 0, 24, []))], [(20, [3, 1], [50, 1, 0, 1000, 1, 2, 1, 0, 2, 1, 0]), (20, [2, 3], [50, 1, 0, 5, 1, 3, 2, 0, 5, 1, 1])], [], [], [(20, [2, 1], [50, 2, 0, 5, 1000, 1, 3, 2, 0, 5, 2, 1, 0]), (24, [2, 2], []), (24, [1, 1], []), (24, [0, 0], []), (24, [1, 1], [])], [], [])
theorem oo_Em_loadKept_1 {kA : Nat → ClassId} : or_ok PRD kA GG o_Em_loadKept_1 := by
  refine or_mk fun A ta ws vs hD hth hl => ?_
  intro t1 r1 t2 r2 t3 k3 f0 f3
  have kz_1_0 := fdq_21 hD hth r1
  have kz_2_5 := fdq_85 hD hth r2
  have nf0 : fc_1 PRD (20, [2, 1], [50, 2, 0, 5, 1000, 1, 3, 2, 0, 5, 2, 1, 0]) ws (vs) := ⟨nf_in hl rfl, sgq_1177 (vc_Em_loadKept_1_0 (v_iv (n_v vs 3)) (w_fi ws (n_v vs 1) 0) (w_fi ws (n_v vs 2) 5) k3 (shm_836 f0) (shm_881 f3) kz_1_0 kz_2_5)⟩
  have nf1 : fc_1 PRD (24, [2, 2], []) ws (vs) := by
    refine ⟨nf_in hl rfl, sgq_1 ?_⟩
    · show n_v vs 2 = n_v vs 2
      first | rfl | simp only [true_and]
  have nf2 : fc_1 PRD (24, [1, 1], []) ws (vs) := by
    refine ⟨nf_in hl rfl, sgq_1 ?_⟩
    · show n_v vs 1 = n_v vs 1
      first | rfl | simp only [true_and]
  have nf3 : fc_1 PRD (24, [0, 0], []) ws (vs) := by
    refine ⟨nf_in hl rfl, sgq_1 ?_⟩
    · show n_v vs 0 = n_v vs 0
      first | rfl | simp only [true_and]
  have nf4 : fc_1 PRD (24, [1, 1], []) ws (vs) := by
    refine ⟨nf_in hl rfl, sgq_1 ?_⟩
    · show n_v vs 1 = n_v vs 1
      first | rfl | simp only [true_and]
  refine ⟨(fun _ h => (by cases h)), [], trivial, ?_, (fun _ h => (by cases h))⟩
  rw [List.append_nil]
  exact List.forall_mem_cons.mpr ⟨⟨show (20 : Nat) < 100 from by decide, nf0⟩, List.forall_mem_cons.mpr ⟨⟨show (24 : Nat) < 100 from by decide, nf1⟩, List.forall_mem_cons.mpr ⟨⟨show (24 : Nat) < 100 from by decide, nf2⟩, List.forall_mem_cons.mpr ⟨⟨show (24 : Nat) < 100 from by decide, nf3⟩, List.forall_mem_cons.mpr ⟨⟨show (24 : Nat) < 100 from by decide, nf4⟩, (fun _ h => (by cases h))⟩⟩⟩⟩⟩
set_option maxHeartbeats 4000000 in
theorem vc_Em_loadKept_2_0 (tail_0o2 : Int → Int) (head_0o2 : Int → Int) (near_0o2 : Int → Int) (nodes_0o2 : Int) (edges_0o2 : Int) (f2 : NOK (nodes_0o2) (edges_0o2) (tail_0o2) (head_0o2) (near_0o2)) (kz_2_5 : 0 ≤ nodes_0o2 ∧ nodes_0o2 ≤ 25) (kz_2_6 : 0 ≤ edges_0o2 ∧ edges_0o2 ≤ 72) : NOK (nodes_0o2) (edges_0o2) (tail_0o2) (head_0o2) (near_0o2) := by
  first
    | assumption
  
def o_Em_loadKept_2 : or_T := (56, 8, [(2, (2, 0, 0, [149]))], [(20, [6], [60, 2, 3, 595, 5, 6, 7, 8, 9]), (24, [2, 6], [])], [], [], [(20, [2], [60, 2, 3, 595, 5, 6, 7, 8, 9])], [], [])
theorem oo_Em_loadKept_2 {kA : Nat → ClassId} : or_ok PRD kA GG o_Em_loadKept_2 := by
  refine or_mk fun A ta ws vs hD hth hl => ?_
  intro t2 r2 f2 f5
  replace f2 := shm_408 f2
  replace f5 := shm_5 f5
  have q6 : n_v vs 6 = n_v vs 2 := f5.symm
  simp only [q6] at f2
  have kz_2_5 := fdq_85 hD hth r2
  have kz_2_6 := fdq_62 hD hth r2
  have nf0 : fc_1 PRD (20, [2], [60, 2, 3, 595, 5, 6, 7, 8, 9]) ws (vs) := ⟨nf_in hl rfl, sgq_408 (vc_Em_loadKept_2_0 (w_ei ws (w_ar ws (n_v vs 2) 7)) (w_ei ws (w_ar ws (n_v vs 2) 8)) (w_ei ws (w_ar ws (n_v vs 2) 9)) (w_fi ws (n_v vs 2) 5) (w_fi ws (n_v vs 2) 6) f2 kz_2_5 kz_2_6)⟩
  refine ⟨(fun _ h => (by cases h)), [], trivial, ?_, (fun _ h => (by cases h))⟩
  rw [List.append_nil]
  exact List.forall_mem_cons.mpr ⟨⟨show (20 : Nat) < 100 from by decide, nf0⟩, (fun _ h => (by cases h))⟩
set_option maxHeartbeats 4000000 in
theorem vc_Em_loadKept_3_0 (tail_0o2 : Int → Int) (head_0o2 : Int → Int) (near_0o2 : Int → Int) (nodes_0o2 : Int) (edges_0o2 : Int) (f6 : NOK (nodes_0o2) (edges_0o2) (tail_0o2) (head_0o2) (near_0o2)) (kz_2_5 : 0 ≤ nodes_0o2 ∧ nodes_0o2 ≤ 25) (kz_2_6 : 0 ≤ edges_0o2 ∧ edges_0o2 ≤ 72) : NOK (nodes_0o2) (edges_0o2) (tail_0o2) (head_0o2) (near_0o2) := by
  first
    | assumption
  
set_option maxHeartbeats 4000000 in
theorem vc_Em_loadKept_3_1 (x5 : Int) (x7 : Int) (x11 : Int) (head_0o1 : Int → Int) (tail_0o1 : Int → Int) (edges_0o1 : Int) (nodes_0o2 : Int) (nodes_0o1 : Int) (k5 : 0 ≤ x5 ∧ x5 ≤ 47) (k7 : 1 ≤ x7 ∧ x7 ≤ 48) (k11 : 0 ≤ x11 ∧ x11 ≤ 23) (d0 : x7 + (-4294967296) ≤ x5 ∧ x5 ≤ x7 + (-1)) (h2 : x11 = tail_0o1 (x5)) (g5 : x7 = edges_0o1) (f7 : GKE (nodes_0o1) (edges_0o1) (tail_0o1) (head_0o1)) (f8 : nodes_0o2 = nodes_0o1) (kz_1_0 : 0 ≤ nodes_0o1 ∧ nodes_0o1 ≤ 24) (kz_1_1 : 0 ≤ edges_0o1 ∧ edges_0o1 ≤ 48) (kz_2_5 : 0 ≤ nodes_0o2 ∧ nodes_0o2 ≤ 25) : (0 ≤ x11) ∧ ((x11 + 1) ≤ nodes_0o2) := by
  first
    | omega
    | (have q := (‹GKE _ _ _ _›) x4 (by omega) (by omega); omega)
    | (have q := (‹GKE _ _ _ _›) x5 (by omega) (by omega); omega)
    | (have q := (‹GKE _ _ _ _›) x6 (by omega) (by omega); omega)
set_option maxHeartbeats 4000000 in
theorem vc_Em_loadKept_3_2 (x5 : Int) (x7 : Int) (x13 : Int) (head_0o1 : Int → Int) (tail_0o1 : Int → Int) (edges_0o1 : Int) (nodes_0o2 : Int) (nodes_0o1 : Int) (k5 : 0 ≤ x5 ∧ x5 ≤ 47) (k7 : 1 ≤ x7 ∧ x7 ≤ 48) (k13 : 0 ≤ x13 ∧ x13 ≤ 23) (d0 : x7 + (-4294967296) ≤ x5 ∧ x5 ≤ x7 + (-1)) (h0 : x13 = head_0o1 (x5)) (g5 : x7 = edges_0o1) (f7 : GKE (nodes_0o1) (edges_0o1) (tail_0o1) (head_0o1)) (f8 : nodes_0o2 = nodes_0o1) (kz_1_0 : 0 ≤ nodes_0o1 ∧ nodes_0o1 ≤ 24) (kz_1_1 : 0 ≤ edges_0o1 ∧ edges_0o1 ≤ 48) (kz_2_5 : 0 ≤ nodes_0o2 ∧ nodes_0o2 ≤ 25) : (0 ≤ x13) ∧ ((x13 + 1) ≤ nodes_0o2) := by
  first
    | omega
    | (have q := (‹GKE _ _ _ _›) x4 (by omega) (by omega); omega)
    | (have q := (‹GKE _ _ _ _›) x5 (by omega) (by omega); omega)
    | (have q := (‹GKE _ _ _ _›) x6 (by omega) (by omega); omega)
set_option maxHeartbeats 4000000 in
theorem vc_Em_loadKept_3_3 (x5 : Int) (x7 : Int) (x11 : Int) (x13 : Int) (head_0o1 : Int → Int) (tail_0o1 : Int → Int) (edges_0o1 : Int) (nodes_0o1 : Int) (k5 : 0 ≤ x5 ∧ x5 ≤ 47) (k7 : 1 ≤ x7 ∧ x7 ≤ 48) (k11 : 0 ≤ x11 ∧ x11 ≤ 23) (k13 : 0 ≤ x13 ∧ x13 ≤ 23) (d0 : x7 + (-4294967296) ≤ x5 ∧ x5 ≤ x7 + (-1)) (h0 : x13 = head_0o1 (x5)) (h2 : x11 = tail_0o1 (x5)) (g5 : x7 = edges_0o1) (f7 : GKE (nodes_0o1) (edges_0o1) (tail_0o1) (head_0o1)) (kz_1_0 : 0 ≤ nodes_0o1 ∧ nodes_0o1 ≤ 24) (kz_1_1 : 0 ≤ edges_0o1 ∧ edges_0o1 ≤ 48) : x11 ≠ x13 := by
  first
    | omega
    | (have q := (‹GKE _ _ _ _›) x4 (by omega) (by omega); omega)
    | (have q := (‹GKE _ _ _ _›) x5 (by omega) (by omega); omega)
    | (have q := (‹GKE _ _ _ _›) x6 (by omega) (by omega); omega)
set_option maxHeartbeats 4000000 in
theorem vc_Em_loadKept_3_4 (x5 : Int) (edges_0o2 : Int) (gx : Int) (kz_2_6 : 0 ≤ edges_0o2 ∧ edges_0o2 ≤ 72) (ex2 : gx = edges_0o2) : edges_0o2 = gx := by
  first
    | omega
    | (have q := (‹GKE _ _ _ _›) x4 (by omega) (by omega); omega)
    | (have q := (‹GKE _ _ _ _›) x5 (by omega) (by omega); omega)
    | (have q := (‹GKE _ _ _ _›) x6 (by omega) (by omega); omega)
def o_Em_loadKept_3 : or_T := (46, 14, [(1, (2, 0, 0, [3])), (2, (2, 0, 0, [149])), (5, (0, 0, 47, [])), (7, (0, 1, 48, [])), (11, (0, 0, 23, [])), (13, (0, 0, 23, []))], [(10, [13, 12, 5], []), (9, [12, 4], [8]), (10, [11, 10, 5], []), (9, [10, 4], [7]), (9, [7, 4], [1]), (20, [6], [60, 2, 3, 595, 5, 6, 7, 8, 9]), (20, [4], [60, 2, 2, 596, 0, 1, 7, 8]), (20, [6, 4], [50, 2, 0, 5, 1000, 1, 3, 2, 0, 5, 2, 1, 0]), (24, [2, 6], []), (24, [1, 4], [])], [], [(0, 0, 72, [])], [(20, [6], [60, 2, 3, 595, 5, 6, 7, 8, 9]), (20, [11, 6], [50, 1, 0, 1005, 2, 6, 0, 2, 0, 0, 1, 0, 0, 6, 4, 2, 1, 0, 0, 1, 2, 1, 5]), (20, [13, 6], [50, 1, 0, 1005, 2, 6, 0, 2, 0, 0, 1, 0, 0, 6, 4, 2, 1, 0, 0, 1, 2, 1, 5]), (20, [11, 13], [50, 0, 0, 7, 2, 1, 0, 1, 1]), (20, [6, 14], [50, 1, 0, 6, 1, 3, 2, 0, 6, 1, 1])], [], [(5, 7, -4294967296, -1)])
theorem oo_Em_loadKept_3 {kA : Nat → ClassId} : or_ok PRD kA GG o_Em_loadKept_3 := by
  refine or_mk fun A ta ws vs hD hth hl => ?_
  intro t1 r1 t2 r2 t5 k5 t7 k7 t11 k11 t13 k13 d0 f0 f1 f2 f3 f5 f6 f7 f8 f9 f10
  replace f0 := shm_107 f0
  replace f1 := shm_293 f1
  replace f2 := shm_107 f2
  replace f3 := shm_198 f3
  replace f5 := shm_215 f5
  replace f6 := shm_408 f6
  replace f7 := shm_386 f7
  replace f8 := shm_1177 f8
  replace f9 := shm_5 f9
  replace f10 := shm_5 f10
  have q6 : n_v vs 6 = n_v vs 2 := f9.symm
  have q4 : n_v vs 4 = n_v vs 1 := f10.symm
  simp only [q4, q6] at f1 f3 f5 f6 f7 f8
  have ad_12 : v_ad (n_v vs 12) = w_ar ws (n_v vs 1) 8 := congrArg v_ad f1
  have ad_10 : v_ad (n_v vs 10) = w_ar ws (n_v vs 1) 7 := congrArg v_ad f3
  simp only [ad_12] at f0
  have h0 : v_iv (n_v vs 13) = w_ei ws (w_ar ws (n_v vs 1) 8) (v_iv (n_v vs 5)) := f0
  simp only [ad_10] at f2
  have h2 : v_iv (n_v vs 11) = w_ei ws (w_ar ws (n_v vs 1) 7) (v_iv (n_v vs 5)) := f2
  have g5 : v_iv (n_v vs 7) = w_fi ws (n_v vs 1) 1 := congrArg v_iv f5
  have kz_1_0 := fdq_21 hD hth r1
  have kz_1_1 := fdq_30 hD hth r1
  have kz_2_5 := fdq_85 hD hth r2
  have kz_2_6 := fdq_62 hD hth r2
  obtain ⟨x, ex, hx⟩ := iv_ex (ta := ta) (lo := 0) (hi := 72) (z := w_fi ws (n_v vs 2) 6) (by omega) (by omega) (by omega) (by omega)
  have ex2 : v_iv (Value.int x) = w_fi ws (n_v vs 2) 6 := ex
  have ex3 : 0 ≤ v_iv (Value.int x) ∧ v_iv (Value.int x) ≤ 72 := tv_rng hx
  have e_6 : n_v (vs ++ [Value.int x]) 6 = n_v vs 6 := n_v_old (by rw [hl]; decide)
  have e_11 : n_v (vs ++ [Value.int x]) 11 = n_v vs 11 := n_v_old (by rw [hl]; decide)
  have e_13 : n_v (vs ++ [Value.int x]) 13 = n_v vs 13 := n_v_old (by rw [hl]; decide)
  have e_14 : n_v (vs ++ [Value.int x]) 14 = Value.int x := n_v_new hl
  have nf0 : fc_1 PRD (20, [6], [60, 2, 3, 595, 5, 6, 7, 8, 9]) ws (vs ++ [Value.int x]) := by
    refine ⟨nf_inA hl rfl, sgq_408 ?_⟩
    · show NOK (w_fi ws (n_v (vs ++ [Value.int x]) 6) 5) (w_fi ws (n_v (vs ++ [Value.int x]) 6) 6) (w_ei ws (w_ar ws (n_v (vs ++ [Value.int x]) 6) 7)) (w_ei ws (w_ar ws (n_v (vs ++ [Value.int x]) 6) 8)) (w_ei ws (w_ar ws (n_v (vs ++ [Value.int x]) 6) 9))
      simp only [e_6, q6]
      exact vc_Em_loadKept_3_0 (w_ei ws (w_ar ws (n_v vs 2) 7)) (w_ei ws (w_ar ws (n_v vs 2) 8)) (w_ei ws (w_ar ws (n_v vs 2) 9)) (w_fi ws (n_v vs 2) 5) (w_fi ws (n_v vs 2) 6) f6 kz_2_5 kz_2_6
  have nf1 : fc_1 PRD (20, [11, 6], [50, 1, 0, 1005, 2, 6, 0, 2, 0, 0, 1, 0, 0, 6, 4, 2, 1, 0, 0, 1, 2, 1, 5]) ws (vs ++ [Value.int x]) := by
    refine ⟨nf_inA hl rfl, sgq_405 ?_⟩
    · show (0 ≤ v_iv (n_v (vs ++ [Value.int x]) 11)) ∧ ((v_iv (n_v (vs ++ [Value.int x]) 11) + 1) ≤ w_fi ws (n_v (vs ++ [Value.int x]) 6) 5)
      simp only [e_6, e_11, q6]
      exact vc_Em_loadKept_3_1 (v_iv (n_v vs 5)) (v_iv (n_v vs 7)) (v_iv (n_v vs 11)) (w_ei ws (w_ar ws (n_v vs 1) 8)) (w_ei ws (w_ar ws (n_v vs 1) 7)) (w_fi ws (n_v vs 1) 1) (w_fi ws (n_v vs 2) 5) (w_fi ws (n_v vs 1) 0) k5 k7 k11 d0 h2 g5 f7 f8 kz_1_0 kz_1_1 kz_2_5
  have nf2 : fc_1 PRD (20, [13, 6], [50, 1, 0, 1005, 2, 6, 0, 2, 0, 0, 1, 0, 0, 6, 4, 2, 1, 0, 0, 1, 2, 1, 5]) ws (vs ++ [Value.int x]) := by
    refine ⟨nf_inA hl rfl, sgq_405 ?_⟩
    · show (0 ≤ v_iv (n_v (vs ++ [Value.int x]) 13)) ∧ ((v_iv (n_v (vs ++ [Value.int x]) 13) + 1) ≤ w_fi ws (n_v (vs ++ [Value.int x]) 6) 5)
      simp only [e_6, e_13, q6]
      exact vc_Em_loadKept_3_2 (v_iv (n_v vs 5)) (v_iv (n_v vs 7)) (v_iv (n_v vs 13)) (w_ei ws (w_ar ws (n_v vs 1) 8)) (w_ei ws (w_ar ws (n_v vs 1) 7)) (w_fi ws (n_v vs 1) 1) (w_fi ws (n_v vs 2) 5) (w_fi ws (n_v vs 1) 0) k5 k7 k13 d0 h0 g5 f7 f8 kz_1_0 kz_1_1 kz_2_5
  have nf3 : fc_1 PRD (20, [11, 13], [50, 0, 0, 7, 2, 1, 0, 1, 1]) ws (vs ++ [Value.int x]) := by
    refine ⟨nf_inA hl rfl, sgq_406 ?_⟩
    · show v_iv (n_v (vs ++ [Value.int x]) 11) ≠ v_iv (n_v (vs ++ [Value.int x]) 13)
      simp only [e_11, e_13]
      exact vc_Em_loadKept_3_3 (v_iv (n_v vs 5)) (v_iv (n_v vs 7)) (v_iv (n_v vs 11)) (v_iv (n_v vs 13)) (w_ei ws (w_ar ws (n_v vs 1) 8)) (w_ei ws (w_ar ws (n_v vs 1) 7)) (w_fi ws (n_v vs 1) 1) (w_fi ws (n_v vs 1) 0) k5 k7 k11 k13 d0 h0 h2 g5 f7 kz_1_0 kz_1_1
  have nf4 : fc_1 PRD (20, [6, 14], [50, 1, 0, 6, 1, 3, 2, 0, 6, 1, 1]) ws (vs ++ [Value.int x]) := by
    refine ⟨nf_inA hl rfl, sgq_407 ?_⟩
    · show w_fi ws (n_v (vs ++ [Value.int x]) 6) 6 = v_iv (n_v (vs ++ [Value.int x]) 14)
      simp only [e_6, e_14, q6]
      exact vc_Em_loadKept_3_4 (v_iv (n_v vs 5)) (w_fi ws (n_v vs 2) 6) (v_iv (Value.int x)) kz_2_6 ex2
  exact ⟨(fun _ h => (by cases h)), [Value.int x], ag_one hx, List.forall_mem_cons.mpr ⟨⟨show (20 : Nat) < 100 from by decide, nf0⟩, List.forall_mem_cons.mpr ⟨⟨show (20 : Nat) < 100 from by decide, nf1⟩, List.forall_mem_cons.mpr ⟨⟨show (20 : Nat) < 100 from by decide, nf2⟩, List.forall_mem_cons.mpr ⟨⟨show (20 : Nat) < 100 from by decide, nf3⟩, List.forall_mem_cons.mpr ⟨⟨show (20 : Nat) < 100 from by decide, nf4⟩, (fun _ h => (by cases h))⟩⟩⟩⟩⟩, (fun _ h => (by cases h))⟩
def n_Em_loadKept_an : List an_T := [(13, [(0, (2, 0, 0, [1])), (1, (2, 0, 0, [3])), (2, (0, 0, 48, []))], [], (0, 0), [(0, 0, 99987), (1, 5, 48), (0, 0, 100000)], [], [((0, 1), (2, 0, 0, [149]))], [(2, 0, 0, [1]), (2, 0, 0, [3]), (2, 0, 0, [149])], 0, [], [(20, [6], [60, 2, 3, 595, 5, 6, 7, 8, 9]), (20, [4], [60, 2, 2, 596, 0, 1, 7, 8]), (20, [6, 4], [50, 2, 0, 5, 1000, 1, 3, 2, 0, 5, 2, 1, 0]), (24, [2, 6], []), (24, [1, 4], []), (24, [0, 3], []), (24, [1, 4], [])])]
def t_Em_loadKept_ct : ct_L := [(28, 123, e_Ne_begin_at_Np), (142, 91, e_Ne_join_at_Np_gk)]
set_option maxRecDepth 100000 in
theorem c_Em_loadKept {l : Launch} {D : va_G} {kA : Nat → ClassId} (h_Ne_begin_at_Np : ct_ok PRD l D kA GG y_Ne_begin_at_Np z_Ne_begin_at_Np e_Ne_begin_at_Np) (h_Ne_join_at_Np_gk : ct_ok PRD l D kA GG y_Ne_join_at_Np_gk z_Ne_join_at_Np_gk e_Ne_join_at_Np_gk) : ct_ok PRD l D kA GG y_Em_loadKept z_Em_loadKept e_Em_loadKept := chk_all_ok (FT := [(18, 1, 1), (29, 1, 4), (88, 3, 0), (99, 3, 1), (127, 3, 7), (130, 3, 8)]) (PT := []) (CT := t_Em_loadKept_ct) (KT := []) (NT := []) (AN := n_Em_loadKept_an) (OT := [o_Em_loadKept_0, o_Em_loadKept_1, o_Em_loadKept_2, o_Em_loadKept_3]) 3 200 (List.forall_mem_cons.mpr ⟨oo_Em_loadKept_0, List.forall_mem_cons.mpr ⟨oo_Em_loadKept_1, List.forall_mem_cons.mpr ⟨oo_Em_loadKept_2, List.forall_mem_cons.mpr ⟨oo_Em_loadKept_3, List.forall_mem_nil _⟩⟩⟩⟩) (by decide +kernel) ⟨List.forall_mem_cons.mpr ⟨gf_Em_18, List.forall_mem_cons.mpr ⟨gf_Em_29, List.forall_mem_cons.mpr ⟨gf_Em_88, List.forall_mem_cons.mpr ⟨gf_Em_99, List.forall_mem_cons.mpr ⟨gf_Em_127, List.forall_mem_cons.mpr ⟨gf_Em_130, List.forall_mem_nil _⟩⟩⟩⟩⟩⟩, List.forall_mem_nil _, List.forall_mem_cons.mpr ⟨cl_virtual (y := y_Ne_begin_at_Np) (ci := 5) rfl rfl ⟨_, _, rfl⟩ (by decide +kernel) h_Ne_begin_at_Np wm_1060 wm_6 wm_1160 wm_1058 wm_1059 ⟨by decide, by decide, by decide +kernel⟩ (by decide), List.forall_mem_cons.mpr ⟨cl_virtual (y := y_Ne_join_at_Np_gk) (ci := 5) rfl rfl ⟨_, _, rfl⟩ (by decide +kernel) h_Ne_join_at_Np_gk wm_1065 wm_6 wm_1161 wm_1063 wm_1064 ⟨by decide, by decide, by decide +kernel⟩ (by decide), List.forall_mem_nil _⟩⟩, List.forall_mem_nil _, List.forall_mem_nil _, GG_pl⟩ (by decide +kernel)
set_option maxHeartbeats 4000000 in
theorem vc_Fa_learnParts_0_0 (x2 : Int) (x3 : Int) (x4 : Int) (parts_0 : Int) (near_0o1 : Int → Int) (tail_0o1 : Int → Int) (head_0o1 : Int → Int) (nodes_0o1 : Int) (edges_0o1 : Int) (near_1o1 : Int → Int) (tail_1o1 : Int → Int) (head_1o1 : Int → Int) (nodes_1o1 : Int) (edges_1o1 : Int) (part_0 : Int → Int) (part_1 : Int → Int) (k2 : 0 ≤ x2 ∧ x2 ≤ 0) (k3 : 0 ≤ x3 ∧ x3 ≤ 0) (k4 : 0 ≤ x4 ∧ x4 ≤ 0) (g0 : x2 = parts_0) (fe_1_0_1 : nodes_0o1 = nodes_1o1) (fe_1_1_1 : edges_0o1 = edges_1o1) (hE_0_4_1 : ∀ j : Int, part_0 j = part_1 j) (hE_1_7_1 : ∀ j : Int, tail_0o1 j = tail_1o1 j) (hE_1_8_1 : ∀ j : Int, head_0o1 j = head_1o1 j) (hE_1_14_1 : ∀ j : Int, near_0o1 j = near_1o1 j) (kz_0_1 : 0 ≤ parts_0 ∧ parts_0 ≤ 24) (kz_1_0 : 0 ≤ nodes_0o1 ∧ nodes_0o1 ≤ 24) (kz_1_1 : 0 ≤ edges_0o1 ∧ edges_0o1 ≤ 48) : LPJ (parts_0) (nodes_0o1) (part_0) (near_0o1) (x3) (x4) := by
  subst fe_1_0_1
  subst fe_1_1_1
  have e_hE_0_4_1 := funext hE_0_4_1; subst e_hE_0_4_1
  have e_hE_1_7_1 := funext hE_1_7_1; subst e_hE_1_7_1
  have e_hE_1_8_1 := funext hE_1_8_1; subst e_hE_1_8_1
  have e_hE_1_14_1 := funext hE_1_14_1; subst e_hE_1_14_1
  first
    | exact lpi_start (by omega) (by omega) (by omega)
set_option maxHeartbeats 4000000 in
theorem vc_Fa_learnParts_0_1 (x4 : Int) (near_0o1 : Int → Int) (tail_0o1 : Int → Int) (head_0o1 : Int → Int) (nodes_0o1 : Int) (edges_0o1 : Int) (near_1o1 : Int → Int) (tail_1o1 : Int → Int) (head_1o1 : Int → Int) (nodes_1o1 : Int) (edges_1o1 : Int) (part_0 : Int → Int) (part_1 : Int → Int) (k4 : 0 ≤ x4 ∧ x4 ≤ 0) (fe_1_0_1 : nodes_0o1 = nodes_1o1) (fe_1_1_1 : edges_0o1 = edges_1o1) (hE_0_4_1 : ∀ j : Int, part_0 j = part_1 j) (hE_1_7_1 : ∀ j : Int, tail_0o1 j = tail_1o1 j) (hE_1_8_1 : ∀ j : Int, head_0o1 j = head_1o1 j) (hE_1_14_1 : ∀ j : Int, near_0o1 j = near_1o1 j) (kz_1_0 : 0 ≤ nodes_0o1 ∧ nodes_0o1 ≤ 24) (kz_1_1 : 0 ≤ edges_0o1 ∧ edges_0o1 ≤ 48) : x4 ≤ nodes_0o1 := by
  subst fe_1_0_1
  subst fe_1_1_1
  have e_hE_0_4_1 := funext hE_0_4_1; subst e_hE_0_4_1
  have e_hE_1_7_1 := funext hE_1_7_1; subst e_hE_1_7_1
  have e_hE_1_8_1 := funext hE_1_8_1; subst e_hE_1_8_1
  have e_hE_1_14_1 := funext hE_1_14_1; subst e_hE_1_14_1
  first
    | omega
  
def o_Fa_learnParts_0 : or_T := (9, 5, [(0, (2, 0, 0, [2])), (1, (2, 0, 0, [3])), (2, (0, 0, 0, [])), (3, (0, 0, 0, [])), (4, (0, 0, 0, []))], [(9, [2, 0], [1]), (101, [0, 2], [1])], [], [], [(20, [0, 1, 3, 4], [60, 2, 2, 674, 1, 1000, 4, 1014]), (20, [4, 1], [50, 1, 0, 1000, 0, 2, 1, 0, 2, 1, 0]), (24, [0, 0], []), (24, [1, 1], [])], [], [])
theorem oo_Fa_learnParts_0 {kA : Nat → ClassId} : or_ok PRD kA GG o_Fa_learnParts_0 := by
  refine or_mk fun A ta ws vs hD hth hl => ?_
  intro t0 r0 t1 r1 t2 k2 t3 k3 t4 k4 f0 ta1 w1 le1 s1
  replace f0 := shm_215 f0
  have s1 : (∀ b j, w_el ws b j = w_el w1 b j) ∧ ∀ b j, w_fd ws b j = if b = v_ad (n_v vs 0) ∧ j = 1 then n_v vs 2 else w_fd w1 b j := s1.2
  have g0 : v_iv (n_v vs 2) = w_fi ws (n_v vs 0) 1 := congrArg v_iv f0
  have fe_1_0_1 : w_fi ws (n_v vs 1) 0 = w_fi w1 (n_v vs 1) 0 := by show v_iv (w_fd _ _ _) = v_iv (w_fd _ _ _); rw [s1.2, if_neg (fun e => absurd e.2 (by decide))]
  have fe_1_1_1 : w_fi ws (n_v vs 1) 1 = w_fi w1 (n_v vs 1) 1 := by show v_iv (w_fd _ _ _) = v_iv (w_fd _ _ _); rw [s1.2, if_neg (fun e => by have e1 := e.1; have e2 := r1; rw [e1, r0] at e2; exact absurd (Option.some.inj e2) (by decide))]
  have hE_0_4_1 : ∀ j : Int, w_ei ws (w_ar ws (n_v vs 0) 4) j = w_ei w1 (w_ar ws (n_v vs 0) 4) j := fun j => s1.1 _ _
  have hE_1_7_1 : ∀ j : Int, w_ei ws (w_ar ws (n_v vs 1) 7) j = w_ei w1 (w_ar ws (n_v vs 1) 7) j := fun j => s1.1 _ _
  have hE_1_8_1 : ∀ j : Int, w_ei ws (w_ar ws (n_v vs 1) 8) j = w_ei w1 (w_ar ws (n_v vs 1) 8) j := fun j => s1.1 _ _
  have hE_1_14_1 : ∀ j : Int, w_ei ws (w_ar ws (n_v vs 1) 14) j = w_ei w1 (w_ar ws (n_v vs 1) 14) j := fun j => s1.1 _ _
  have kz_0_1 := fdq_278 hD hth r0
  have kz_1_0 := fdq_21 hD hth r1
  have kz_1_1 := fdq_30 hD hth r1
  have nf0 : fc_1 PRD (20, [0, 1, 3, 4], [60, 2, 2, 674, 1, 1000, 4, 1014]) ws (vs) := ⟨nf_in hl rfl, sgq_1178 (vc_Fa_learnParts_0_0 (v_iv (n_v vs 2)) (v_iv (n_v vs 3)) (v_iv (n_v vs 4)) (w_fi ws (n_v vs 0) 1) (w_ei ws (w_ar ws (n_v vs 1) 14)) (w_ei ws (w_ar ws (n_v vs 1) 7)) (w_ei ws (w_ar ws (n_v vs 1) 8)) (w_fi ws (n_v vs 1) 0) (w_fi ws (n_v vs 1) 1) (w_ei w1 (w_ar ws (n_v vs 1) 14)) (w_ei w1 (w_ar ws (n_v vs 1) 7)) (w_ei w1 (w_ar ws (n_v vs 1) 8)) (w_fi w1 (n_v vs 1) 0) (w_fi w1 (n_v vs 1) 1) (w_ei ws (w_ar ws (n_v vs 0) 4)) (w_ei w1 (w_ar ws (n_v vs 0) 4)) k2 k3 k4 g0 fe_1_0_1 fe_1_1_1 hE_0_4_1 hE_1_7_1 hE_1_8_1 hE_1_14_1 kz_0_1 kz_1_0 kz_1_1)⟩
  have nf1 : fc_1 PRD (20, [4, 1], [50, 1, 0, 1000, 0, 2, 1, 0, 2, 1, 0]) ws (vs) := ⟨nf_in hl rfl, sgq_411 (vc_Fa_learnParts_0_1 (v_iv (n_v vs 4)) (w_ei ws (w_ar ws (n_v vs 1) 14)) (w_ei ws (w_ar ws (n_v vs 1) 7)) (w_ei ws (w_ar ws (n_v vs 1) 8)) (w_fi ws (n_v vs 1) 0) (w_fi ws (n_v vs 1) 1) (w_ei w1 (w_ar ws (n_v vs 1) 14)) (w_ei w1 (w_ar ws (n_v vs 1) 7)) (w_ei w1 (w_ar ws (n_v vs 1) 8)) (w_fi w1 (n_v vs 1) 0) (w_fi w1 (n_v vs 1) 1) (w_ei ws (w_ar ws (n_v vs 0) 4)) (w_ei w1 (w_ar ws (n_v vs 0) 4)) k4 fe_1_0_1 fe_1_1_1 hE_0_4_1 hE_1_7_1 hE_1_8_1 hE_1_14_1 kz_1_0 kz_1_1)⟩
  have nf2 : fc_1 PRD (24, [0, 0], []) ws (vs) := by
    refine ⟨nf_in hl rfl, sgq_1 ?_⟩
    · show n_v vs 0 = n_v vs 0
      first | rfl | simp only [true_and]
  have nf3 : fc_1 PRD (24, [1, 1], []) ws (vs) := by
    refine ⟨nf_in hl rfl, sgq_1 ?_⟩
    · show n_v vs 1 = n_v vs 1
      first | rfl | simp only [true_and]
  refine ⟨(fun _ h => (by cases h)), [], trivial, ?_, (fun _ h => (by cases h))⟩
  rw [List.append_nil]
  exact List.forall_mem_cons.mpr ⟨⟨show (20 : Nat) < 100 from by decide, nf0⟩, List.forall_mem_cons.mpr ⟨⟨show (20 : Nat) < 100 from by decide, nf1⟩, List.forall_mem_cons.mpr ⟨⟨show (24 : Nat) < 100 from by decide, nf2⟩, List.forall_mem_cons.mpr ⟨⟨show (24 : Nat) < 100 from by decide, nf3⟩, (fun _ h => (by cases h))⟩⟩⟩⟩
set_option maxHeartbeats 4000000 in
theorem vc_Fa_learnParts_1_0 (x4 : Int) (x5 : Int) (x7 : Int) (parts_0 : Int) (nodes_0o1 : Int) (part_0 : Int → Int) (near_0o1 : Int → Int) (k4 : 0 ≤ x4 ∧ x4 ≤ 16777215) (k5 : 0 ≤ x5 ∧ x5 ≤ 24) (k7 : 0 ≤ x7 ∧ x7 ≤ 24) (d0 : x7 + 0 ≤ x5 ∧ x5 ≤ x7 + 4294967296) (g2 : x7 = nodes_0o1) (f3 : LPJ (parts_0) (nodes_0o1) (part_0) (near_0o1) (x4) (x5)) (f5 : x5 ≤ nodes_0o1) (kz_0_1 : 0 ≤ parts_0 ∧ parts_0 ≤ 24) (kz_1_0 : 0 ≤ nodes_0o1 ∧ nodes_0o1 ≤ 24) : PNC (nodes_0o1) (near_0o1) (part_0) := by
  first
    | exact pnc_of ‹LPJ _ _ _ _ _ _› (by omega) (by omega)
  
set_option maxHeartbeats 4000000 in
theorem vc_Fa_learnParts_1_1 (x4 : Int) (x5 : Int) (x7 : Int) (parts_0 : Int) (nodes_0o1 : Int) (part_0 : Int → Int) (near_0o1 : Int → Int) (k4 : 0 ≤ x4 ∧ x4 ≤ 16777215) (k5 : 0 ≤ x5 ∧ x5 ≤ 24) (k7 : 0 ≤ x7 ∧ x7 ≤ 24) (d0 : x7 + 0 ≤ x5 ∧ x5 ≤ x7 + 4294967296) (g2 : x7 = nodes_0o1) (f3 : LPJ (parts_0) (nodes_0o1) (part_0) (near_0o1) (x4) (x5)) (f5 : x5 ≤ nodes_0o1) (kz_0_1 : 0 ≤ parts_0 ∧ parts_0 ≤ 24) (kz_1_0 : 0 ≤ nodes_0o1 ∧ nodes_0o1 ≤ 24) : FPA (nodes_0o1) (parts_0) (part_0) := by
  first
    | exact fpa_of ‹LPJ _ _ _ _ _ _› (by omega)
  
def o_Fa_learnParts_1 : or_T := (80, 8, [(0, (2, 0, 0, [2])), (1, (2, 0, 0, [3])), (4, (0, 0, 16777215, [])), (5, (0, 0, 24, [])), (7, (0, 0, 24, []))], [(9, [7, 3], [0]), (20, [2, 3, 4, 5], [60, 2, 2, 674, 1, 1000, 4, 1014]), (20, [5, 3], [50, 1, 0, 1000, 0, 2, 1, 0, 2, 1, 0]), (24, [0, 2], []), (24, [1, 3], [])], [], [], [(20, [1, 0], [60, 1, 2, 671, 0, 14, 1004]), (20, [1, 0], [60, 2, 1, 672, 0, 1001, 1004])], [], [(5, 7, 0, 4294967296)])
theorem oo_Fa_learnParts_1 {kA : Nat → ClassId} : or_ok PRD kA GG o_Fa_learnParts_1 := by
  refine or_mk fun A ta ws vs hD hth hl => ?_
  intro t0 r0 t1 r1 t4 k4 t5 k5 t7 k7 d0 f2 f3 f5 f6 f7
  replace f2 := shm_163 f2
  replace f3 := shm_1178 f3
  replace f5 := shm_411 f5
  replace f6 := shm_5 f6
  replace f7 := shm_5 f7
  have q2 : n_v vs 2 = n_v vs 0 := f6.symm
  have q3 : n_v vs 3 = n_v vs 1 := f7.symm
  simp only [q2, q3] at f2 f3 f5
  have g2 : v_iv (n_v vs 7) = w_fi ws (n_v vs 1) 0 := congrArg v_iv f2
  have kz_0_1 := fdq_278 hD hth r0
  have kz_1_0 := fdq_21 hD hth r1
  have nf0 : fc_1 PRD (20, [1, 0], [60, 1, 2, 671, 0, 14, 1004]) ws (vs) := ⟨nf_in hl rfl, sgq_419 (vc_Fa_learnParts_1_0 (v_iv (n_v vs 4)) (v_iv (n_v vs 5)) (v_iv (n_v vs 7)) (w_fi ws (n_v vs 0) 1) (w_fi ws (n_v vs 1) 0) (w_ei ws (w_ar ws (n_v vs 0) 4)) (w_ei ws (w_ar ws (n_v vs 1) 14)) k4 k5 k7 d0 g2 f3 f5 kz_0_1 kz_1_0)⟩
  have nf1 : fc_1 PRD (20, [1, 0], [60, 2, 1, 672, 0, 1001, 1004]) ws (vs) := ⟨nf_in hl rfl, sgq_1179 (vc_Fa_learnParts_1_1 (v_iv (n_v vs 4)) (v_iv (n_v vs 5)) (v_iv (n_v vs 7)) (w_fi ws (n_v vs 0) 1) (w_fi ws (n_v vs 1) 0) (w_ei ws (w_ar ws (n_v vs 0) 4)) (w_ei ws (w_ar ws (n_v vs 1) 14)) k4 k5 k7 d0 g2 f3 f5 kz_0_1 kz_1_0)⟩
  refine ⟨(fun _ h => (by cases h)), [], trivial, ?_, (fun _ h => (by cases h))⟩
  rw [List.append_nil]
  exact List.forall_mem_cons.mpr ⟨⟨show (20 : Nat) < 100 from by decide, nf0⟩, List.forall_mem_cons.mpr ⟨⟨show (20 : Nat) < 100 from by decide, nf1⟩, (fun _ h => (by cases h))⟩⟩
set_option maxHeartbeats 4000000 in
theorem vc_Fa_learnParts_2_0 (x4 : Int) (x5 : Int) (x7 : Int) (x8 : Int) (x9 : Int) (x10 : Int) (x11 : Int) (parts_0 : Int) (nodes_0o1 : Int) (part_0 : Int → Int) (near_0o1 : Int → Int) (k4 : 0 ≤ x4 ∧ x4 ≤ 16777215) (k5 : 0 ≤ x5 ∧ x5 ≤ 23) (k8 : 0 ≤ x8 ∧ x8 ≤ 16777215) (k9 : 1 ≤ x9 ∧ x9 ≤ 1) (k10 : 1 ≤ x10 ∧ x10 ≤ 1) (k11 : 1 ≤ x11 ∧ x11 ≤ 24) (d0 : x5 + 1 ≤ x11 ∧ x11 ≤ x5 + 1) (f1 : x11 = x5 + 1) (f4 : bvp (x10) = bvp (x8) &&& bvp (x9)) (f5 : bvp (x8) = bvp (x4) >>> (x5).toNat) (f8 : LPJ (parts_0) (nodes_0o1) (part_0) (near_0o1) (x4) (x5)) (kz_0_1 : 0 ≤ parts_0 ∧ parts_0 ≤ 24) (kz_1_0 : 0 ≤ nodes_0o1 ∧ nodes_0o1 ≤ 24) : LPJ (parts_0) (nodes_0o1) (part_0) (near_0o1) (x4) (x11) := by
  first
    | (have q := bit_one (s := x4) (t := x8) (c := x10) (v := x5) (one := x9) (by assumption) (by assumption) (by omega) (by omega) (by omega) (by omega); exact lpi_skip ‹LPJ _ _ _ _ _ _› (q.mpr (by omega)) (by omega))
set_option maxHeartbeats 4000000 in
theorem vc_Fa_learnParts_2_1 (x5 : Int) (x7 : Int) (x11 : Int) (nodes_0o1 : Int) (k5 : 0 ≤ x5 ∧ x5 ≤ 23) (k7 : 1 ≤ x7 ∧ x7 ≤ 24) (k11 : 1 ≤ x11 ∧ x11 ≤ 24) (d0 : x5 + 1 ≤ x11 ∧ x11 ≤ x5 + 1) (d1 : x7 + (-4294967296) ≤ x11 ∧ x11 ≤ x7 + 0) (d2 : x7 + (-4294967296) ≤ x5 ∧ x5 ≤ x7 + (-1)) (g7 : x7 = nodes_0o1) (kz_1_0 : 0 ≤ nodes_0o1 ∧ nodes_0o1 ≤ 24) : x11 ≤ nodes_0o1 := by
  first
    | omega
  
def o_Fa_learnParts_2 : or_T := (9, 12, [(0, (2, 0, 0, [2])), (1, (2, 0, 0, [3])), (4, (0, 0, 16777215, [])), (5, (0, 0, 23, [])), (7, (0, 1, 24, [])), (8, (0, 0, 16777215, [])), (9, (0, 1, 1, [])), (10, (0, 1, 1, [])), (11, (0, 1, 24, []))], [(6, [11, 5], [1]), (16, [10, 8, 9], [0]), (16, [8, 4, 5], [4]), (9, [7, 3], [0]), (20, [2, 3, 4, 5], [60, 2, 2, 674, 1, 1000, 4, 1014]), (24, [0, 2], []), (24, [1, 3], [])], [], [], [(20, [2, 3, 4, 11], [60, 2, 2, 674, 1, 1000, 4, 1014]), (20, [11, 3], [50, 1, 0, 1000, 0, 2, 1, 0, 2, 1, 0])], [], [(11, 5, 1, 1), (11, 7, -4294967296, 0), (5, 7, -4294967296, -1)])
theorem oo_Fa_learnParts_2 {kA : Nat → ClassId} : or_ok PRD kA GG o_Fa_learnParts_2 := by
  refine or_mk fun A ta ws vs hD hth hl => ?_
  intro t0 r0 t1 r1 t4 k4 t5 k5 t7 k7 t8 k8 t9 k9 t10 k10 t11 k11 d0 d1 d2 f1 f4 f5 f7 f8 f11 f12
  replace f1 := shm_4 f1
  replace f4 := shm_11 f4
  replace f5 := shm_13 f5
  replace f7 := shm_163 f7
  replace f8 := shm_1178 f8
  replace f11 := shm_5 f11
  replace f12 := shm_5 f12
  have q2 : n_v vs 2 = n_v vs 0 := f11.symm
  have q3 : n_v vs 3 = n_v vs 1 := f12.symm
  simp only [q2, q3] at f7 f8
  have g7 : v_iv (n_v vs 7) = w_fi ws (n_v vs 1) 0 := congrArg v_iv f7
  have kz_0_1 := fdq_278 hD hth r0
  have kz_1_0 := fdq_21 hD hth r1
  have nf0 : fc_1 PRD (20, [2, 3, 4, 11], [60, 2, 2, 674, 1, 1000, 4, 1014]) ws (vs) := by
    refine ⟨nf_in hl rfl, sgq_1178 ?_⟩
    · show LPJ (w_fi ws (n_v vs 2) 1) (w_fi ws (n_v vs 3) 0) (w_ei ws (w_ar ws (n_v vs 2) 4)) (w_ei ws (w_ar ws (n_v vs 3) 14)) (v_iv (n_v vs 4)) (v_iv (n_v vs 11))
      simp only [q2, q3]
      exact vc_Fa_learnParts_2_0 (v_iv (n_v vs 4)) (v_iv (n_v vs 5)) (v_iv (n_v vs 7)) (v_iv (n_v vs 8)) (v_iv (n_v vs 9)) (v_iv (n_v vs 10)) (v_iv (n_v vs 11)) (w_fi ws (n_v vs 0) 1) (w_fi ws (n_v vs 1) 0) (w_ei ws (w_ar ws (n_v vs 0) 4)) (w_ei ws (w_ar ws (n_v vs 1) 14)) k4 k5 k8 k9 k10 k11 d0 f1 f4 f5 f8 kz_0_1 kz_1_0
  have nf1 : fc_1 PRD (20, [11, 3], [50, 1, 0, 1000, 0, 2, 1, 0, 2, 1, 0]) ws (vs) := by
    refine ⟨nf_in hl rfl, sgq_411 ?_⟩
    · show v_iv (n_v vs 11) ≤ w_fi ws (n_v vs 3) 0
      rw [q3]
      exact vc_Fa_learnParts_2_1 (v_iv (n_v vs 5)) (v_iv (n_v vs 7)) (v_iv (n_v vs 11)) (w_fi ws (n_v vs 1) 0) k5 k7 k11 d0 d1 d2 g7 kz_1_0
  refine ⟨(fun _ h => (by cases h)), [], trivial, ?_, (fun _ h => (by cases h))⟩
  rw [List.append_nil]
  exact List.forall_mem_cons.mpr ⟨⟨show (20 : Nat) < 100 from by decide, nf0⟩, List.forall_mem_cons.mpr ⟨⟨show (20 : Nat) < 100 from by decide, nf1⟩, (fun _ h => (by cases h))⟩⟩
set_option maxHeartbeats 4000000 in
theorem vc_Fa_learnParts_3_0 (x6 : Int) (parts_0 : Int) (k6 : 0 ≤ x6 ∧ x6 ≤ 23) (g0 : x6 = parts_0) (kz_0_1 : 0 ≤ parts_0 ∧ parts_0 ≤ 24) : x6 = parts_0 := by
  first
    | omega
  
set_option maxHeartbeats 4000000 in
theorem vc_Fa_learnParts_3_1 (x7 : Int) (nodes_0o1 : Int) (k7 : 1 ≤ x7 ∧ x7 ≤ 24) (g1 : x7 = nodes_0o1) (kz_1_0 : 0 ≤ nodes_0o1 ∧ nodes_0o1 ≤ 24) : x7 = nodes_0o1 := by
  first
    | omega
  
set_option maxHeartbeats 4000000 in
theorem vc_Fa_learnParts_3_3 (x16 : Int) (gy : Int) (k16 : 0 ≤ x16 ∧ x16 ≤ 16777215) (ey2 : gy = x16) : 1 * gy + ((-1) * x16 + 0) ≤ 0 := by
  first
    | omega
  
set_option maxHeartbeats 4000000 in
theorem vc_Fa_learnParts_3_4 (x16 : Int) (gy : Int) (k16 : 0 ≤ x16 ∧ x16 ≤ 16777215) (ey2 : gy = x16) : (-1) * gy + (1 * x16 + 0) ≤ 0 := by
  first
    | omega
  
set_option maxHeartbeats 4000000 in
theorem vc_Fa_learnParts_3_5 (x5 : Int) (gu : Int) (k5 : 0 ≤ x5 ∧ x5 ≤ 23) (eu2 : gu = x5) : 1 * gu + ((-1) * x5 + 0) ≤ 0 := by
  first
    | omega
  
set_option maxHeartbeats 4000000 in
theorem vc_Fa_learnParts_3_6 (x5 : Int) (gu : Int) (k5 : 0 ≤ x5 ∧ x5 ≤ 23) (eu2 : gu = x5) : (-1) * gu + (1 * x5 + 0) ≤ 0 := by
  first
    | omega
  
set_option maxHeartbeats 4000000 in
theorem vc_Fa_learnParts_3_7 (x4 : Int) (x5 : Int) (x6 : Int) (x7 : Int) (x8 : Int) (x9 : Int) (x10 : Int) (x12 : Int) (x13 : Int) (x14 : Int) (x15 : Int) (x16 : Int) (parts_0 : Int) (nodes_0o1 : Int) (near_0o1 : Int → Int) (part_0 : Int → Int) (tail_0o1 : Int → Int) (head_0o1 : Int → Int) (edges_0o1 : Int) (gy : Int) (gu : Int) (k4 : 0 ≤ x4 ∧ x4 ≤ 16777215) (k5 : 0 ≤ x5 ∧ x5 ≤ 23) (k6 : 0 ≤ x6 ∧ x6 ≤ 23) (k7 : 1 ≤ x7 ∧ x7 ≤ 24) (k8 : 0 ≤ x8 ∧ x8 ≤ 16777215) (k9 : 1 ≤ x9 ∧ x9 ≤ 1) (k10 : 0 ≤ x10 ∧ x10 ≤ 0) (k12 : 1 ≤ x12 ∧ x12 ≤ 1) (k13 : 1 ≤ x13 ∧ x13 ≤ 8388608) (k14 : (-1) ≤ x14 ∧ x14 ≤ (-1)) (k15 : 0 ≤ x15 ∧ x15 ≤ 16777215) (k16 : 0 ≤ x16 ∧ x16 ≤ 16777215) (g0 : x6 = parts_0) (g1 : x7 = nodes_0o1) (f4 : bvp (x16) = bvp (x4) ||| bvp (x15)) (f5 : SPZ (near_0o1) (x7) (x13) (x14) (x15)) (f6 : bvp (x13) = bvp (x12) <<< (x5).toNat) (f10 : bvp (x10) = bvp (x8) &&& bvp (x9)) (f11 : bvp (x8) = bvp (x4) >>> (x5).toNat) (f12 : x5 < x7) (f13 : LPJ (parts_0) (nodes_0o1) (part_0) (near_0o1) (x4) (x5)) (f14 : GNB (nodes_0o1) (edges_0o1) (near_0o1) (tail_0o1) (head_0o1)) (kz_0_1 : 0 ≤ parts_0 ∧ parts_0 ≤ 24) (kz_1_0 : 0 ≤ nodes_0o1 ∧ nodes_0o1 ≤ 24) (kz_1_1 : 0 ≤ edges_0o1 ∧ edges_0o1 ≤ 48) (ey2 : gy = x16) (eu2 : gu = x5) : SAQ (part_0) (near_0o1) (x7) (x15) (x6) (gy) (gu) := by
  first
    | (have q := bit_one (s := x4) (t := x8) (c := x10) (v := x5) (one := x9) (by assumption) (by assumption) (by omega) (by omega) (by omega) (by omega)
       have o1 : x12 = 1 := by omega
       have e1 : nodes_0o1 = x7 := by omega
       have e2 : parts_0 = x6 := by omega
       subst o1 e1 e2
       rw [show gy = x16 by omega, show gu = x5 by omega]
       exact saq_of (sap_of (q := x13) (al := x14) ‹LPJ _ _ _ _ _ _› (‹GNB _ _ _ _ _›).1 (by omega) (by omega) (fun z => by have := q.mp z; omega) (by assumption) (by omega) ‹SPZ _ _ _ _ _›) (by assumption))
  
set_option maxHeartbeats 4000000 in
theorem vc_Fa_learnParts_3_8 (x16 : Int) (gy : Int) (k16 : 0 ≤ x16 ∧ x16 ≤ 16777215) (ey2 : gy = x16) : gy = x16 := by
  first
    | omega
  
set_option maxHeartbeats 4000000 in
theorem vc_Fa_learnParts_3_9 (x5 : Int) (gu : Int) (k5 : 0 ≤ x5 ∧ x5 ≤ 23) (eu2 : gu = x5) : gu = x5 := by
  first
    | omega
  
set_option maxHeartbeats 4000000 in
theorem vc_Fa_learnParts_3_10 (nodes_0o1 : Int) (near_0o1 : Int → Int) (tail_0o1 : Int → Int) (head_0o1 : Int → Int) (edges_0o1 : Int) (f14 : GNB (nodes_0o1) (edges_0o1) (near_0o1) (tail_0o1) (head_0o1)) (kz_1_0 : 0 ≤ nodes_0o1 ∧ nodes_0o1 ≤ 24) (kz_1_1 : 0 ≤ edges_0o1 ∧ edges_0o1 ≤ 48) : GNB (nodes_0o1) (edges_0o1) (near_0o1) (tail_0o1) (head_0o1) := by
  assumption
def o_Fa_learnParts_3 : or_T := (61, 18, [(0, (2, 0, 0, [2])), (1, (2, 0, 0, [3])), (4, (0, 0, 16777215, [])), (5, (0, 0, 23, [])), (6, (0, 0, 23, [])), (7, (0, 1, 24, [])), (8, (0, 0, 16777215, [])), (9, (0, 1, 1, [])), (10, (0, 0, 0, [])), (11, (2, 0, 0, [59])), (12, (0, 1, 1, [])), (13, (0, 1, 8388608, [])), (14, (0, -1, -1, [])), (15, (0, 0, 16777215, [])), (16, (0, 0, 16777215, []))], [(9, [6, 2], [1]), (9, [7, 3], [0]), (9, [17, 2], [4]), (16, [16, 4, 15], [1]), (20, [11, 7, 13, 14, 15], [61, 1, 579]), (16, [13, 12, 5], [3]), (9, [11, 3], [14]), (16, [10, 8, 9], [0]), (16, [8, 4, 5], [4]), (7, [5, 7], [2]), (20, [2, 3, 4, 5], [60, 2, 2, 674, 1, 1000, 4, 1014]), (20, [3], [60, 2, 3, 670, 0, 1, 14, 7, 8]), (24, [0, 2], []), (24, [1, 3], [])], [], [(2, 0, 0, [59]), (0, -2147483648, 2147483647, []), (0, 0, 23, [])], [(20, [6, 2], [50, 1, 0, 1001, 1, 2, 1, 0, 2, 1, 1]), (20, [7, 3], [50, 1, 0, 1000, 1, 2, 1, 0, 2, 1, 0]), (24, [11, 18], []), (23, [19, 16], [0, 1, -1]), (23, [19, 16], [0, -1, 1]), (23, [20, 5], [0, 1, -1]), (23, [20, 5], [0, -1, 1]), (20, [17, 18, 7, 15, 6, 19, 20], [61, 2, 675]), (20, [19, 16], [50, 0, 0, 1, 2, 1, 0, 1, 1]), (20, [20, 5], [50, 0, 0, 1, 2, 1, 0, 1, 1]), (20, [3], [60, 2, 3, 670, 0, 1, 14, 7, 8])], [], [(5, 7, -4294967296, -1), (4, 5, -4294967296, 16777214), (6, 5, -4294967296, 0)])
theorem oo_Fa_learnParts_3 {kA : Nat → ClassId} : or_ok PRD kA GG o_Fa_learnParts_3 := by
  refine or_mk fun A ta ws vs hD hth hl => ?_
  intro t0 r0 t1 r1 t4 k4 t5 k5 t6 k6 t7 k7 t8 k8 t9 k9 t10 k10 t11 r11 t12 k12 t13 k13 t14 k14 t15 k15 t16 k16 d0 d1 d3 f0 f1 f2 f4 f5 f6 f7 f10 f11 f12 f13 f14 f16 f17
  replace f0 := shm_215 f0
  replace f1 := shm_163 f1
  replace f2 := shm_108 f2
  replace f4 := shm_354 f4
  replace f5 := shm_822 f5
  replace f6 := shm_349 f6
  replace f7 := shm_115 f7
  replace f10 := shm_11 f10
  replace f11 := shm_13 f11
  replace f12 := shm_6 f12
  replace f13 := shm_1178 f13
  replace f14 := shm_825 f14
  replace f16 := shm_5 f16
  replace f17 := shm_5 f17
  have q2 : n_v vs 2 = n_v vs 0 := f16.symm
  have q3 : n_v vs 3 = n_v vs 1 := f17.symm
  simp only [q2, q3] at f0 f1 f2 f7 f13 f14
  have ad_17 : v_ad (n_v vs 17) = w_ar ws (n_v vs 0) 4 := congrArg v_ad f2
  have ad_11 : v_ad (n_v vs 11) = w_ar ws (n_v vs 1) 14 := congrArg v_ad f7
  have g0 : v_iv (n_v vs 6) = w_fi ws (n_v vs 0) 1 := congrArg v_iv f0
  have g1 : v_iv (n_v vs 7) = w_fi ws (n_v vs 1) 0 := congrArg v_iv f1
  simp only [ad_11] at f5
  have kz_0_1 := fdq_278 hD hth r0
  have kz_1_0 := fdq_21 hD hth r1
  have kz_1_1 := fdq_30 hD hth r1
  obtain ⟨y, ey, hy⟩ := iv_ex (ta := ta) (lo := (-2147483648)) (hi := 2147483647) (z := v_iv (n_v vs 16)) (by omega) (by omega) (by omega) (by omega)
  have ey2 : v_iv (Value.int y) = v_iv (n_v vs 16) := ey
  have ey3 : (-2147483648) ≤ v_iv (Value.int y) ∧ v_iv (Value.int y) ≤ 2147483647 := tv_rng hy
  obtain ⟨u, eu, hu⟩ := iv_ex (ta := ta) (lo := 0) (hi := 23) (z := v_iv (n_v vs 5)) (by omega) (by omega) (by omega) (by omega)
  have eu2 : v_iv (Value.int u) = v_iv (n_v vs 5) := eu
  have eu3 : 0 ≤ v_iv (Value.int u) ∧ v_iv (Value.int u) ≤ 23 := tv_rng hu
  have e_2 : n_v (vs ++ [n_v vs 11, Value.int y, Value.int u]) 2 = n_v vs 2 := n_v_old (by rw [hl]; decide)
  have e_3 : n_v (vs ++ [n_v vs 11, Value.int y, Value.int u]) 3 = n_v vs 3 := n_v_old (by rw [hl]; decide)
  have e_5 : n_v (vs ++ [n_v vs 11, Value.int y, Value.int u]) 5 = n_v vs 5 := n_v_old (by rw [hl]; decide)
  have e_6 : n_v (vs ++ [n_v vs 11, Value.int y, Value.int u]) 6 = n_v vs 6 := n_v_old (by rw [hl]; decide)
  have e_7 : n_v (vs ++ [n_v vs 11, Value.int y, Value.int u]) 7 = n_v vs 7 := n_v_old (by rw [hl]; decide)
  have e_11 : n_v (vs ++ [n_v vs 11, Value.int y, Value.int u]) 11 = n_v vs 11 := n_v_old (by rw [hl]; decide)
  have e_15 : n_v (vs ++ [n_v vs 11, Value.int y, Value.int u]) 15 = n_v vs 15 := n_v_old (by rw [hl]; decide)
  have e_16 : n_v (vs ++ [n_v vs 11, Value.int y, Value.int u]) 16 = n_v vs 16 := n_v_old (by rw [hl]; decide)
  have e_17 : n_v (vs ++ [n_v vs 11, Value.int y, Value.int u]) 17 = n_v vs 17 := n_v_old (by rw [hl]; decide)
  have e_18 : n_v (vs ++ [n_v vs 11, Value.int y, Value.int u]) 18 = n_v vs 11 := n_v_newk (k := 0) hl rfl
  have e_19 : n_v (vs ++ [n_v vs 11, Value.int y, Value.int u]) 19 = Value.int y := n_v_newk (k := 1) hl rfl
  have e_20 : n_v (vs ++ [n_v vs 11, Value.int y, Value.int u]) 20 = Value.int u := n_v_newk (k := 2) hl rfl
  have nf0 : fc_1 PRD (20, [6, 2], [50, 1, 0, 1001, 1, 2, 1, 0, 2, 1, 1]) ws (vs ++ [n_v vs 11, Value.int y, Value.int u]) := by
    refine ⟨nf_inA hl rfl, sgq_859 ?_⟩
    · show v_iv (n_v (vs ++ [n_v vs 11, Value.int y, Value.int u]) 6) = w_fi ws (n_v (vs ++ [n_v vs 11, Value.int y, Value.int u]) 2) 1
      simp only [e_2, e_6, q2]
      exact vc_Fa_learnParts_3_0 (v_iv (n_v vs 6)) (w_fi ws (n_v vs 0) 1) k6 g0 kz_0_1
  have nf1 : fc_1 PRD (20, [7, 3], [50, 1, 0, 1000, 1, 2, 1, 0, 2, 1, 0]) ws (vs ++ [n_v vs 11, Value.int y, Value.int u]) := by
    refine ⟨nf_inA hl rfl, sgq_836 ?_⟩
    · show v_iv (n_v (vs ++ [n_v vs 11, Value.int y, Value.int u]) 7) = w_fi ws (n_v (vs ++ [n_v vs 11, Value.int y, Value.int u]) 3) 0
      simp only [e_3, e_7, q3]
      exact vc_Fa_learnParts_3_1 (v_iv (n_v vs 7)) (w_fi ws (n_v vs 1) 0) k7 g1 kz_1_0
  have nf2 : fc_1 PRD (24, [11, 18], []) ws (vs ++ [n_v vs 11, Value.int y, Value.int u]) := by
    refine ⟨nf_inA hl rfl, sgq_5 ?_⟩
    · show n_v (vs ++ [n_v vs 11, Value.int y, Value.int u]) 11 = n_v (vs ++ [n_v vs 11, Value.int y, Value.int u]) 18
      first | rfl | simp only [e_11, e_18, q2, q3]
  have nf3 : fc_1 PRD (23, [19, 16], [0, 1, -1]) ws (vs ++ [n_v vs 11, Value.int y, Value.int u]) := by
    refine ⟨nf_inA hl rfl, sgq_7 ?_⟩
    · show 1 * v_iv (n_v (vs ++ [n_v vs 11, Value.int y, Value.int u]) 19) + ((-1) * v_iv (n_v (vs ++ [n_v vs 11, Value.int y, Value.int u]) 16) + 0) ≤ 0
      simp only [e_16, e_19]
      exact vc_Fa_learnParts_3_3 (v_iv (n_v vs 16)) (v_iv (Value.int y)) k16 ey2
  have nf4 : fc_1 PRD (23, [19, 16], [0, -1, 1]) ws (vs ++ [n_v vs 11, Value.int y, Value.int u]) := by
    refine ⟨nf_inA hl rfl, sgq_22 ?_⟩
    · show (-1) * v_iv (n_v (vs ++ [n_v vs 11, Value.int y, Value.int u]) 19) + (1 * v_iv (n_v (vs ++ [n_v vs 11, Value.int y, Value.int u]) 16) + 0) ≤ 0
      simp only [e_16, e_19]
      exact vc_Fa_learnParts_3_4 (v_iv (n_v vs 16)) (v_iv (Value.int y)) k16 ey2
  have nf5 : fc_1 PRD (23, [20, 5], [0, 1, -1]) ws (vs ++ [n_v vs 11, Value.int y, Value.int u]) := by
    refine ⟨nf_inA hl rfl, sgq_7 ?_⟩
    · show 1 * v_iv (n_v (vs ++ [n_v vs 11, Value.int y, Value.int u]) 20) + ((-1) * v_iv (n_v (vs ++ [n_v vs 11, Value.int y, Value.int u]) 5) + 0) ≤ 0
      simp only [e_5, e_20]
      exact vc_Fa_learnParts_3_5 (v_iv (n_v vs 5)) (v_iv (Value.int u)) k5 eu2
  have nf6 : fc_1 PRD (23, [20, 5], [0, -1, 1]) ws (vs ++ [n_v vs 11, Value.int y, Value.int u]) := by
    refine ⟨nf_inA hl rfl, sgq_22 ?_⟩
    · show (-1) * v_iv (n_v (vs ++ [n_v vs 11, Value.int y, Value.int u]) 20) + (1 * v_iv (n_v (vs ++ [n_v vs 11, Value.int y, Value.int u]) 5) + 0) ≤ 0
      simp only [e_5, e_20]
      exact vc_Fa_learnParts_3_6 (v_iv (n_v vs 5)) (v_iv (Value.int u)) k5 eu2
  have nf7 : fc_1 PRD (20, [17, 18, 7, 15, 6, 19, 20], [61, 2, 675]) ws (vs ++ [n_v vs 11, Value.int y, Value.int u]) := by
    refine ⟨nf_inA hl rfl, sgq_373 ?_⟩
    · show SAQ (w_ei ws (v_ad (n_v (vs ++ [n_v vs 11, Value.int y, Value.int u]) 17))) (w_ei ws (v_ad (n_v (vs ++ [n_v vs 11, Value.int y, Value.int u]) 18))) (v_iv (n_v (vs ++ [n_v vs 11, Value.int y, Value.int u]) 7)) (v_iv (n_v (vs ++ [n_v vs 11, Value.int y, Value.int u]) 15)) (v_iv (n_v (vs ++ [n_v vs 11, Value.int y, Value.int u]) 6)) (v_iv (n_v (vs ++ [n_v vs 11, Value.int y, Value.int u]) 19)) (v_iv (n_v (vs ++ [n_v vs 11, Value.int y, Value.int u]) 20))
      simp only [e_6, e_7, e_15, e_17, e_18, e_19, e_20, ad_11, ad_17]
      exact vc_Fa_learnParts_3_7 (v_iv (n_v vs 4)) (v_iv (n_v vs 5)) (v_iv (n_v vs 6)) (v_iv (n_v vs 7)) (v_iv (n_v vs 8)) (v_iv (n_v vs 9)) (v_iv (n_v vs 10)) (v_iv (n_v vs 12)) (v_iv (n_v vs 13)) (v_iv (n_v vs 14)) (v_iv (n_v vs 15)) (v_iv (n_v vs 16)) (w_fi ws (n_v vs 0) 1) (w_fi ws (n_v vs 1) 0) (w_ei ws (w_ar ws (n_v vs 1) 14)) (w_ei ws (w_ar ws (n_v vs 0) 4)) (w_ei ws (w_ar ws (n_v vs 1) 7)) (w_ei ws (w_ar ws (n_v vs 1) 8)) (w_fi ws (n_v vs 1) 1) (v_iv (Value.int y)) (v_iv (Value.int u)) k4 k5 k6 k7 k8 k9 k10 k12 k13 k14 k15 k16 g0 g1 f4 f5 f6 f10 f11 f12 f13 f14 kz_0_1 kz_1_0 kz_1_1 ey2 eu2
  have nf8 : fc_1 PRD (20, [19, 16], [50, 0, 0, 1, 2, 1, 0, 1, 1]) ws (vs ++ [n_v vs 11, Value.int y, Value.int u]) := by
    refine ⟨nf_inA hl rfl, sgq_48 ?_⟩
    · show v_iv (n_v (vs ++ [n_v vs 11, Value.int y, Value.int u]) 19) = v_iv (n_v (vs ++ [n_v vs 11, Value.int y, Value.int u]) 16)
      simp only [e_16, e_19]
      exact vc_Fa_learnParts_3_8 (v_iv (n_v vs 16)) (v_iv (Value.int y)) k16 ey2
  have nf9 : fc_1 PRD (20, [20, 5], [50, 0, 0, 1, 2, 1, 0, 1, 1]) ws (vs ++ [n_v vs 11, Value.int y, Value.int u]) := by
    refine ⟨nf_inA hl rfl, sgq_48 ?_⟩
    · show v_iv (n_v (vs ++ [n_v vs 11, Value.int y, Value.int u]) 20) = v_iv (n_v (vs ++ [n_v vs 11, Value.int y, Value.int u]) 5)
      simp only [e_5, e_20]
      exact vc_Fa_learnParts_3_9 (v_iv (n_v vs 5)) (v_iv (Value.int u)) k5 eu2
  have nf10 : fc_1 PRD (20, [3], [60, 2, 3, 670, 0, 1, 14, 7, 8]) ws (vs ++ [n_v vs 11, Value.int y, Value.int u]) := by
    refine ⟨nf_inA hl rfl, sgq_825 ?_⟩
    · show GNB (w_fi ws (n_v (vs ++ [n_v vs 11, Value.int y, Value.int u]) 3) 0) (w_fi ws (n_v (vs ++ [n_v vs 11, Value.int y, Value.int u]) 3) 1) (w_ei ws (w_ar ws (n_v (vs ++ [n_v vs 11, Value.int y, Value.int u]) 3) 14)) (w_ei ws (w_ar ws (n_v (vs ++ [n_v vs 11, Value.int y, Value.int u]) 3) 7)) (w_ei ws (w_ar ws (n_v (vs ++ [n_v vs 11, Value.int y, Value.int u]) 3) 8))
      simp only [e_3, q3]
      exact vc_Fa_learnParts_3_10 (w_fi ws (n_v vs 1) 0) (w_ei ws (w_ar ws (n_v vs 1) 14)) (w_ei ws (w_ar ws (n_v vs 1) 7)) (w_ei ws (w_ar ws (n_v vs 1) 8)) (w_fi ws (n_v vs 1) 1) f14 kz_1_0 kz_1_1
  exact ⟨(fun _ h => (by cases h)), [n_v vs 11, Value.int y, Value.int u], ag_three t11 hy hu, List.forall_mem_cons.mpr ⟨⟨show (20 : Nat) < 100 from by decide, nf0⟩, List.forall_mem_cons.mpr ⟨⟨show (20 : Nat) < 100 from by decide, nf1⟩, List.forall_mem_cons.mpr ⟨⟨show (24 : Nat) < 100 from by decide, nf2⟩, List.forall_mem_cons.mpr ⟨⟨show (23 : Nat) < 100 from by decide, nf3⟩, List.forall_mem_cons.mpr ⟨⟨show (23 : Nat) < 100 from by decide, nf4⟩, List.forall_mem_cons.mpr ⟨⟨show (23 : Nat) < 100 from by decide, nf5⟩, List.forall_mem_cons.mpr ⟨⟨show (23 : Nat) < 100 from by decide, nf6⟩, List.forall_mem_cons.mpr ⟨⟨show (20 : Nat) < 100 from by decide, nf7⟩, List.forall_mem_cons.mpr ⟨⟨show (20 : Nat) < 100 from by decide, nf8⟩, List.forall_mem_cons.mpr ⟨⟨show (20 : Nat) < 100 from by decide, nf9⟩, List.forall_mem_cons.mpr ⟨⟨show (20 : Nat) < 100 from by decide, nf10⟩, (fun _ h => (by cases h))⟩⟩⟩⟩⟩⟩⟩⟩⟩⟩⟩, (fun _ h => (by cases h))⟩
set_option maxHeartbeats 4000000 in
theorem vc_Fa_learnParts_4_0 (x4 : Int) (x5 : Int) (x6 : Int) (x7 : Int) (x15 : Int) (x16 : Int) (x19 : Int) (x20 : Int) (x22 : Int) (x23 : Int) (parts_0 : Int) (nodes_0o1 : Int) (near_0o1 : Int → Int) (tail_0o1 : Int → Int) (head_0o1 : Int → Int) (edges_0o1 : Int) (part_0 : Int → Int) (nodes_1o1 : Int) (near_1o1 : Int → Int) (tail_1o1 : Int → Int) (head_1o1 : Int → Int) (edges_1o1 : Int) (part_1 : Int → Int) (k5 : 0 ≤ x5 ∧ x5 ≤ 23) (k6 : 0 ≤ x6 ∧ x6 ≤ 23) (k7 : 1 ≤ x7 ∧ x7 ≤ 24) (k15 : 0 ≤ x15 ∧ x15 ≤ 16777215) (k16 : 0 ≤ x16 ∧ x16 ≤ 16777215) (k19 : (-2147483648) ≤ x19 ∧ x19 ≤ 2147483647) (k20 : 0 ≤ x20 ∧ x20 ≤ 23) (k22 : 1 ≤ x22 ∧ x22 ≤ 24) (k23 : 1 ≤ x23 ∧ x23 ≤ 24) (d2 : x6 + 1 ≤ x22 ∧ x22 ≤ x6 + 1) (g0 : x22 = parts_0) (g3 : x7 = nodes_0o1) (f4 : x23 = x5 + 1) (f29 : x19 = x16) (f30 : x20 = x5) (f35 : SAO (part_1) (near_1o1) (x7) (x15) (x6) (x19) (x20)) (fe_1_0_1 : nodes_0o1 = nodes_1o1) (fe_1_1_1 : edges_0o1 = edges_1o1) (hE_0_4_1 : ∀ j : Int, part_0 j = part_1 j) (hE_1_7_1 : ∀ j : Int, tail_0o1 j = tail_1o1 j) (hE_1_8_1 : ∀ j : Int, head_0o1 j = head_1o1 j) (hE_1_14_1 : ∀ j : Int, near_0o1 j = near_1o1 j) (kz_0_1 : 0 ≤ parts_0 ∧ parts_0 ≤ 24) (kz_1_0 : 0 ≤ nodes_0o1 ∧ nodes_0o1 ≤ 24) (kz_1_1 : 0 ≤ edges_0o1 ∧ edges_0o1 ≤ 48) : LPJ (parts_0) (nodes_0o1) (part_0) (near_0o1) (x16) (x23) := by
  subst fe_1_0_1
  subst fe_1_1_1
  have e_hE_0_4_1 := funext hE_0_4_1; subst e_hE_0_4_1
  have e_hE_1_7_1 := funext hE_1_7_1; subst e_hE_1_7_1
  have e_hE_1_8_1 := funext hE_1_8_1; subst e_hE_1_8_1
  have e_hE_1_14_1 := funext hE_1_14_1; subst e_hE_1_14_1
  first
    | (have h := (‹SAO _ _ _ _ _ _ _›); rw [show x19 = x16 by omega, show x20 = x5 by omega] at h; rw [show nodes_0o1 = x7 by omega]; exact lpi_step (sn := 0) h (by omega) (by omega) rfl)
set_option maxHeartbeats 4000000 in
theorem vc_Fa_learnParts_4_1 (x5 : Int) (x7 : Int) (x23 : Int) (nodes_0o1 : Int) (near_0o1 : Int → Int) (tail_0o1 : Int → Int) (head_0o1 : Int → Int) (edges_0o1 : Int) (part_0 : Int → Int) (nodes_1o1 : Int) (near_1o1 : Int → Int) (tail_1o1 : Int → Int) (head_1o1 : Int → Int) (edges_1o1 : Int) (part_1 : Int → Int) (k5 : 0 ≤ x5 ∧ x5 ≤ 23) (k7 : 1 ≤ x7 ∧ x7 ≤ 24) (k23 : 1 ≤ x23 ∧ x23 ≤ 24) (d0 : x5 + 1 ≤ x23 ∧ x23 ≤ x5 + 1) (d1 : x7 + (-4294967296) ≤ x23 ∧ x23 ≤ x7 + 0) (d4 : x7 + (-4294967296) ≤ x5 ∧ x5 ≤ x7 + (-1)) (g3 : x7 = nodes_0o1) (fe_1_0_1 : nodes_0o1 = nodes_1o1) (fe_1_1_1 : edges_0o1 = edges_1o1) (hE_0_4_1 : ∀ j : Int, part_0 j = part_1 j) (hE_1_7_1 : ∀ j : Int, tail_0o1 j = tail_1o1 j) (hE_1_8_1 : ∀ j : Int, head_0o1 j = head_1o1 j) (hE_1_14_1 : ∀ j : Int, near_0o1 j = near_1o1 j) (kz_1_0 : 0 ≤ nodes_0o1 ∧ nodes_0o1 ≤ 24) (kz_1_1 : 0 ≤ edges_0o1 ∧ edges_0o1 ≤ 48) : x23 ≤ nodes_0o1 := by
  subst fe_1_0_1
  subst fe_1_1_1
  have e_hE_0_4_1 := funext hE_0_4_1; subst e_hE_0_4_1
  have e_hE_1_7_1 := funext hE_1_7_1; subst e_hE_1_7_1
  have e_hE_1_8_1 := funext hE_1_8_1; subst e_hE_1_8_1
  have e_hE_1_14_1 := funext hE_1_14_1; subst e_hE_1_14_1
  first
    | omega
  
def o_Fa_learnParts_4 : or_T := (9, 24, [(0, (2, 0, 0, [2])), (1, (2, 0, 0, [3])), (5, (0, 0, 23, [])), (6, (0, 0, 23, [])), (7, (0, 1, 24, [])), (15, (0, 0, 16777215, [])), (16, (0, 0, 16777215, [])), (19, (0, -2147483648, 2147483647, [])), (20, (0, 0, 23, [])), (22, (0, 1, 24, [])), (23, (0, 1, 24, []))], [(9, [22, 2], [1]), (9, [17, 2], [4]), (9, [11, 3], [14]), (9, [7, 3], [0]), (6, [23, 5], [1]), (24, [11, 18], []), (24, [0, 2], []), (24, [1, 3], []), (101, [2, 22], [1]), (20, [19, 16], [50, 0, 0, 1, 2, 1, 0, 1, 1]), (20, [20, 5], [50, 0, 0, 1, 2, 1, 0, 1, 1]), (20, [17, 18, 7, 15, 6, 19, 20], [61, 2, 677])], [], [], [(20, [2, 3, 16, 23], [60, 2, 2, 674, 1, 1000, 4, 1014]), (20, [23, 3], [50, 1, 0, 1000, 0, 2, 1, 0, 2, 1, 0])], [], [(23, 5, 1, 1), (23, 7, -4294967296, 0), (22, 6, 1, 1), (5, 7, -4294967296, -1)])
theorem oo_Fa_learnParts_4 {kA : Nat → ClassId} : or_ok PRD kA GG o_Fa_learnParts_4 := by
  refine or_mk fun A ta ws vs hD hth hl => ?_
  intro t0 r0 t1 r1 t5 k5 t6 k6 t7 k7 t15 k15 t16 k16 t19 k19 t20 k20 t22 k22 t23 k23 d0 d1 d2 d4 f0 f1 f2 f3 f4 f6 f17 f18 ta1 w1 le1 s1 f29 f30 f35
  replace f0 := shm_215 f0
  replace f1 := shm_108 f1
  replace f2 := shm_115 f2
  replace f3 := shm_163 f3
  replace f4 := shm_4 f4
  replace f6 := shm_5 f6
  replace f17 := shm_5 f17
  replace f18 := shm_5 f18
  have s1 : (∀ b j, w_el ws b j = w_el w1 b j) ∧ ∀ b j, w_fd ws b j = if b = v_ad (n_v vs 2) ∧ j = 1 then n_v vs 22 else w_fd w1 b j := s1.2
  replace f29 := shm_48 f29
  replace f30 := shm_48 f30
  replace f35 := shm_375 f35
  have q18 : n_v vs 18 = n_v vs 11 := f6.symm
  have q2 : n_v vs 2 = n_v vs 0 := f17.symm
  have q3 : n_v vs 3 = n_v vs 1 := f18.symm
  simp only [q2, q3] at f0 f1 f2 f3
  rw [q2] at s1
  simp only [q18] at f35
  have ar_1_7_1 : w_ar w1 (n_v vs 1) 7 = w_ar ws (n_v vs 1) 7 := by show v_ad (w_fd w1 _ _) = v_ad (w_fd ws _ _); rw [s1.2, if_neg (fun e => absurd e.2 (by decide))]
  have ar_1_8_1 : w_ar w1 (n_v vs 1) 8 = w_ar ws (n_v vs 1) 8 := by show v_ad (w_fd w1 _ _) = v_ad (w_fd ws _ _); rw [s1.2, if_neg (fun e => absurd e.2 (by decide))]
  have ar_1_14_1 : w_ar w1 (n_v vs 1) 14 = w_ar ws (n_v vs 1) 14 := by show v_ad (w_fd w1 _ _) = v_ad (w_fd ws _ _); rw [s1.2, if_neg (fun e => absurd e.2 (by decide))]
  have ad_17 : v_ad (n_v vs 17) = w_ar ws (n_v vs 0) 4 := congrArg v_ad f1
  have ad_11 : v_ad (n_v vs 11) = w_ar ws (n_v vs 1) 14 := congrArg v_ad f2
  have g0 : v_iv (n_v vs 22) = w_fi ws (n_v vs 0) 1 := congrArg v_iv f0
  have g3 : v_iv (n_v vs 7) = w_fi ws (n_v vs 1) 0 := congrArg v_iv f3
  simp only [ar_1_7_1, ar_1_8_1, ar_1_14_1, ad_11, ad_17] at f35
  have fe_1_0_1 : w_fi ws (n_v vs 1) 0 = w_fi w1 (n_v vs 1) 0 := by show v_iv (w_fd _ _ _) = v_iv (w_fd _ _ _); rw [s1.2, if_neg (fun e => absurd e.2 (by decide))]
  have fe_1_1_1 : w_fi ws (n_v vs 1) 1 = w_fi w1 (n_v vs 1) 1 := by show v_iv (w_fd _ _ _) = v_iv (w_fd _ _ _); rw [s1.2, if_neg (fun e => by have e1 := e.1; have e2 := r1; rw [e1, r0] at e2; exact absurd (Option.some.inj e2) (by decide))]
  have hE_0_4_1 : ∀ j : Int, w_ei ws (w_ar ws (n_v vs 0) 4) j = w_ei w1 (w_ar ws (n_v vs 0) 4) j := fun j => s1.1 _ _
  have hE_1_7_1 : ∀ j : Int, w_ei ws (w_ar ws (n_v vs 1) 7) j = w_ei w1 (w_ar ws (n_v vs 1) 7) j := fun j => s1.1 _ _
  have hE_1_8_1 : ∀ j : Int, w_ei ws (w_ar ws (n_v vs 1) 8) j = w_ei w1 (w_ar ws (n_v vs 1) 8) j := fun j => s1.1 _ _
  have hE_1_14_1 : ∀ j : Int, w_ei ws (w_ar ws (n_v vs 1) 14) j = w_ei w1 (w_ar ws (n_v vs 1) 14) j := fun j => s1.1 _ _
  have kz_0_1 := fdq_278 hD hth r0
  have kz_1_0 := fdq_21 hD hth r1
  have kz_1_1 := fdq_30 hD hth r1
  have nf0 : fc_1 PRD (20, [2, 3, 16, 23], [60, 2, 2, 674, 1, 1000, 4, 1014]) ws (vs) := by
    refine ⟨nf_in hl rfl, sgq_1178 ?_⟩
    · show LPJ (w_fi ws (n_v vs 2) 1) (w_fi ws (n_v vs 3) 0) (w_ei ws (w_ar ws (n_v vs 2) 4)) (w_ei ws (w_ar ws (n_v vs 3) 14)) (v_iv (n_v vs 16)) (v_iv (n_v vs 23))
      simp only [q2, q3]
      exact vc_Fa_learnParts_4_0 (v_iv (n_v vs 4)) (v_iv (n_v vs 5)) (v_iv (n_v vs 6)) (v_iv (n_v vs 7)) (v_iv (n_v vs 15)) (v_iv (n_v vs 16)) (v_iv (n_v vs 19)) (v_iv (n_v vs 20)) (v_iv (n_v vs 22)) (v_iv (n_v vs 23)) (w_fi ws (n_v vs 0) 1) (w_fi ws (n_v vs 1) 0) (w_ei ws (w_ar ws (n_v vs 1) 14)) (w_ei ws (w_ar ws (n_v vs 1) 7)) (w_ei ws (w_ar ws (n_v vs 1) 8)) (w_fi ws (n_v vs 1) 1) (w_ei ws (w_ar ws (n_v vs 0) 4)) (w_fi w1 (n_v vs 1) 0) (w_ei w1 (w_ar ws (n_v vs 1) 14)) (w_ei w1 (w_ar ws (n_v vs 1) 7)) (w_ei w1 (w_ar ws (n_v vs 1) 8)) (w_fi w1 (n_v vs 1) 1) (w_ei w1 (w_ar ws (n_v vs 0) 4)) k5 k6 k7 k15 k16 k19 k20 k22 k23 d2 g0 g3 f4 f29 f30 f35 fe_1_0_1 fe_1_1_1 hE_0_4_1 hE_1_7_1 hE_1_8_1 hE_1_14_1 kz_0_1 kz_1_0 kz_1_1
  have nf1 : fc_1 PRD (20, [23, 3], [50, 1, 0, 1000, 0, 2, 1, 0, 2, 1, 0]) ws (vs) := by
    refine ⟨nf_in hl rfl, sgq_411 ?_⟩
    · show v_iv (n_v vs 23) ≤ w_fi ws (n_v vs 3) 0
      rw [q3]
      exact vc_Fa_learnParts_4_1 (v_iv (n_v vs 5)) (v_iv (n_v vs 7)) (v_iv (n_v vs 23)) (w_fi ws (n_v vs 1) 0) (w_ei ws (w_ar ws (n_v vs 1) 14)) (w_ei ws (w_ar ws (n_v vs 1) 7)) (w_ei ws (w_ar ws (n_v vs 1) 8)) (w_fi ws (n_v vs 1) 1) (w_ei ws (w_ar ws (n_v vs 0) 4)) (w_fi w1 (n_v vs 1) 0) (w_ei w1 (w_ar ws (n_v vs 1) 14)) (w_ei w1 (w_ar ws (n_v vs 1) 7)) (w_ei w1 (w_ar ws (n_v vs 1) 8)) (w_fi w1 (n_v vs 1) 1) (w_ei w1 (w_ar ws (n_v vs 0) 4)) k5 k7 k23 d0 d1 d4 g3 fe_1_0_1 fe_1_1_1 hE_0_4_1 hE_1_7_1 hE_1_8_1 hE_1_14_1 kz_1_0 kz_1_1
  refine ⟨(fun _ h => (by cases h)), [], trivial, ?_, (fun _ h => (by cases h))⟩
  rw [List.append_nil]
  exact List.forall_mem_cons.mpr ⟨⟨show (20 : Nat) < 100 from by decide, nf0⟩, List.forall_mem_cons.mpr ⟨⟨show (20 : Nat) < 100 from by decide, nf1⟩, (fun _ h => (by cases h))⟩⟩
def n_Fa_learnParts_an : List an_T := [(9, [(0, (2, 0, 0, [2])), (1, (2, 0, 0, [3])), (2, (0, 0, 16777215, [])), (3, (0, 0, 24, []))], [], (0, 0), [(0, 0, 99991), (1, 5, 24), (0, 0, 100000)], [(4, 5, (Int.negSucc 999999999999), 16777214), (4, 6, (Int.negSucc 999999999999), 16777214), (6, 5, (Int.negSucc 999999999999), 0)], [((0, 1), (0, 0, 24, []))], [(2, 0, 0, [2]), (2, 0, 0, [3])], 0, [], [(20, [2, 3, 4, 5], [60, 2, 2, 674, 1, 1000, 4, 1014]), (20, [3], [60, 2, 3, 670, 0, 1, 14, 7, 8]), (20, [5, 3], [50, 1, 0, 1000, 0, 2, 1, 0, 2, 1, 0]), (24, [0, 2], []), (24, [1, 3], [])])]
def t_Fa_learnParts_ct : ct_L := [(0, 131, e_Fa_setAll), (114, 110, e_Fa_spread_at_Grnear)]
set_option maxRecDepth 100000 in
theorem c_Fa_learnParts {l : Launch} {D : va_G} {kA : Nat → ClassId} (h_Fa_setAll : ct_ok PRD l D kA GG y_Fa_setAll z_Fa_setAll e_Fa_setAll) (h_Fa_spread_at_Grnear : ct_ok PRD l D kA GG y_Fa_spread_at_Grnear z_Fa_spread_at_Grnear e_Fa_spread_at_Grnear) : ct_ok PRD l D kA GG y_Fa_learnParts z_Fa_learnParts e_Fa_learnParts := chk_all_ok (FT := [(15, 2, 1), (25, 2, 4), (64, 3, 0), (78, 3, 14)]) (PT := [(15, 2, 1, .int)]) (CT := t_Fa_learnParts_ct) (KT := []) (NT := []) (AN := n_Fa_learnParts_an) (OT := [o_Fa_learnParts_0, o_Fa_learnParts_1, o_Fa_learnParts_2, o_Fa_learnParts_3, o_Fa_learnParts_4]) 3 200 (List.forall_mem_cons.mpr ⟨oo_Fa_learnParts_0, List.forall_mem_cons.mpr ⟨oo_Fa_learnParts_1, List.forall_mem_cons.mpr ⟨oo_Fa_learnParts_2, List.forall_mem_cons.mpr ⟨oo_Fa_learnParts_3, List.forall_mem_cons.mpr ⟨oo_Fa_learnParts_4, List.forall_mem_nil _⟩⟩⟩⟩⟩) (by decide +kernel) ⟨List.forall_mem_cons.mpr ⟨gf_Fa_15, List.forall_mem_cons.mpr ⟨gf_Fa_25, List.forall_mem_cons.mpr ⟨gf_Fa_64, List.forall_mem_cons.mpr ⟨gf_Fa_78, List.forall_mem_nil _⟩⟩⟩⟩, List.forall_mem_cons.mpr ⟨pf_Fa_15, List.forall_mem_nil _⟩, List.forall_mem_cons.mpr ⟨cl_static (y := y_Fa_setAll) h_Fa_setAll wm_827 wm_7 wm_825 wm_826 ⟨by decide, by decide, by decide +kernel⟩ (by decide), List.forall_mem_cons.mpr ⟨cl_static (y := y_Fa_spread_at_Grnear) h_Fa_spread_at_Grnear wm_821 wm_7 wm_819 wm_820 ⟨by decide, by decide, by decide +kernel⟩ (by decide), List.forall_mem_nil _⟩⟩, List.forall_mem_nil _, List.forall_mem_nil _, GG_pl⟩ (by decide +kernel)
def o_Fa_pickFirst_0 : or_T := (13, 7, [], [], [], [], [(24, [2, 2], []), (24, [0, 0], [])], [], [])
theorem oo_Fa_pickFirst_0 {kA : Nat → ClassId} : or_ok PRD kA GG o_Fa_pickFirst_0 := by
  refine or_mk fun A ta ws vs hD hth hl => ?_
  have nf0 : fc_1 PRD (24, [2, 2], []) ws (vs) := by
    refine ⟨nf_in hl rfl, sgq_1 ?_⟩
    · show n_v vs 2 = n_v vs 2
      first | rfl | simp only [true_and]
  have nf1 : fc_1 PRD (24, [0, 0], []) ws (vs) := by
    refine ⟨nf_in hl rfl, sgq_1 ?_⟩
    · show n_v vs 0 = n_v vs 0
      first | rfl | simp only [true_and]
  refine ⟨(fun _ h => (by cases h)), [], trivial, ?_, (fun _ h => (by cases h))⟩
  rw [List.append_nil]
  exact List.forall_mem_cons.mpr ⟨⟨show (24 : Nat) < 100 from by decide, nf0⟩, List.forall_mem_cons.mpr ⟨⟨show (24 : Nat) < 100 from by decide, nf1⟩, (fun _ h => (by cases h))⟩⟩
set_option maxHeartbeats 4000000 in
theorem vc_Fa_pickFirst_1_0 (x2 : Int) (x8 : Int) (k2 : 0 ≤ x2 ∧ x2 ≤ 16777215) (k8 : 0 ≤ x8 ∧ x8 ≤ 63) (f0 : LOW (x2) (x8)) : LOW (x2) (x8) := by
  first
    | assumption
def o_Fa_pickFirst_1 : or_T := (94, 11, [(2, (0, 0, 16777215, [])), (8, (0, 0, 63, []))], [(20, [6, 8], [61, 0, 555]), (24, [2, 6], [])], [], [], [(20, [2, 8], [61, 0, 555])], [], [])
theorem oo_Fa_pickFirst_1 {kA : Nat → ClassId} : or_ok PRD kA GG o_Fa_pickFirst_1 := by
  refine or_mk fun A ta ws vs hD hth hl => ?_
  intro t2 k2 t8 k8 f0 f1
  replace f0 := shm_810 f0
  replace f1 := shm_5 f1
  have q6 : n_v vs 6 = n_v vs 2 := f1.symm
  simp only [q6] at f0
  have nf0 : fc_1 PRD (20, [2, 8], [61, 0, 555]) ws (vs) := ⟨nf_in hl rfl, sgq_810 (vc_Fa_pickFirst_1_0 (v_iv (n_v vs 2)) (v_iv (n_v vs 8)) k2 k8 f0)⟩
  refine ⟨(fun _ h => (by cases h)), [], trivial, ?_, (fun _ h => (by cases h))⟩
  rw [List.append_nil]
  exact List.forall_mem_cons.mpr ⟨⟨show (20 : Nat) < 100 from by decide, nf0⟩, (fun _ h => (by cases h))⟩
set_option maxHeartbeats 4000000 in
theorem vc_Fa_pickFirst_2_0 (x2 : Int) (x8 : Int) (x10 : Int) (x12 : Int) (x13 : Int) (x14 : Int) (x15 : Int) (member_0 : Int → Int) (k2 : 0 ≤ x2 ∧ x2 ≤ 16777215) (k10 : 0 ≤ x10 ∧ x10 ≤ 23) (k12 : 0 ≤ x12 ∧ x12 ≤ 23) (k13 : 0 ≤ x13 ∧ x13 ≤ 16777215) (k14 : 1 ≤ x14 ∧ x14 ≤ 1) (k15 : 1 ≤ x15 ∧ x15 ≤ 1) (f3 : bvp (x15) = bvp (x13) &&& bvp (x14)) (f4 : bvp (x13) = bvp (x2) >>> (x12).toNat) (h5 : x12 = member_0 (x10)) : LOW (x2) (x12) := by
  first
    | exact low_take (b := x8) ((bit_one (s := x2) (t := x13) (c := x15) ‹bvp x13 = _› ‹bvp x15 = _› (by omega) (by omega) (by omega) (by omega)).mpr (by omega)) (by omega) (by omega)
def o_Fa_pickFirst_2 : or_T := (13, 22, [(2, (0, 0, 16777215, [])), (10, (0, 0, 23, [])), (12, (0, 0, 23, [])), (13, (0, 0, 16777215, [])), (14, (0, 1, 1, [])), (15, (0, 1, 1, []))], [(16, [15, 13, 14], [0]), (16, [13, 6, 12], [4]), (10, [12, 11, 10], []), (9, [11, 4], [13]), (24, [2, 6], []), (24, [0, 4], [])], [], [], [(20, [6, 12], [61, 0, 555])], [], [])
theorem oo_Fa_pickFirst_2 {kA : Nat → ClassId} : or_ok PRD kA GG o_Fa_pickFirst_2 := by
  refine or_mk fun A ta ws vs hD hth hl => ?_
  intro t2 k2 t10 k10 t12 k12 t13 k13 t14 k14 t15 k15 f3 f4 f5 f6 f9 f10
  replace f3 := shm_11 f3
  replace f4 := shm_13 f4
  replace f5 := shm_107 f5
  replace f6 := shm_361 f6
  replace f9 := shm_5 f9
  replace f10 := shm_5 f10
  have q6 : n_v vs 6 = n_v vs 2 := f9.symm
  have q4 : n_v vs 4 = n_v vs 0 := f10.symm
  simp only [q6, q4] at f4 f6
  have ad_11 : v_ad (n_v vs 11) = w_ar ws (n_v vs 0) 13 := congrArg v_ad f6
  simp only [ad_11] at f5
  have h5 : v_iv (n_v vs 12) = w_ei ws (w_ar ws (n_v vs 0) 13) (v_iv (n_v vs 10)) := f5
  have nf0 : fc_1 PRD (20, [6, 12], [61, 0, 555]) ws (vs) := by
    refine ⟨nf_in hl rfl, sgq_810 ?_⟩
    · show LOW (v_iv (n_v vs 6)) (v_iv (n_v vs 12))
      rw [q6]
      exact vc_Fa_pickFirst_2_0 (v_iv (n_v vs 2)) (v_iv (n_v vs 8)) (v_iv (n_v vs 10)) (v_iv (n_v vs 12)) (v_iv (n_v vs 13)) (v_iv (n_v vs 14)) (v_iv (n_v vs 15)) (w_ei ws (w_ar ws (n_v vs 0) 13)) k2 k10 k12 k13 k14 k15 f3 f4 h5
  refine ⟨(fun _ h => (by cases h)), [], trivial, ?_, (fun _ h => (by cases h))⟩
  rw [List.append_nil]
  exact List.forall_mem_cons.mpr ⟨⟨show (20 : Nat) < 100 from by decide, nf0⟩, (fun _ h => (by cases h))⟩
set_option maxHeartbeats 4000000 in
theorem vc_Fa_pickFirst_3_0 (x2 : Int) (x8 : Int) (x10 : Int) (x12 : Int) (x13 : Int) (x14 : Int) (x15 : Int) (member_0 : Int → Int) (k2 : 0 ≤ x2 ∧ x2 ≤ 16777215) (k10 : 0 ≤ x10 ∧ x10 ≤ 23) (k12 : 0 ≤ x12 ∧ x12 ≤ 23) (k13 : 0 ≤ x13 ∧ x13 ≤ 16777215) (k14 : 1 ≤ x14 ∧ x14 ≤ 1) (k15 : 1 ≤ x15 ∧ x15 ≤ 1) (f2 : bvp (x15) = bvp (x13) &&& bvp (x14)) (f3 : bvp (x13) = bvp (x2) >>> (x12).toNat) (h4 : x12 = member_0 (x10)) : LOW (x2) (x12) := by
  first
    | exact low_take (b := x8) ((bit_one (s := x2) (t := x13) (c := x15) ‹bvp x13 = _› ‹bvp x15 = _› (by omega) (by omega) (by omega) (by omega)).mpr (by omega)) (by omega) (by omega)
def o_Fa_pickFirst_3 : or_T := (57, 18, [(2, (0, 0, 16777215, [])), (10, (0, 0, 23, [])), (12, (0, 0, 23, [])), (13, (0, 0, 16777215, [])), (14, (0, 1, 1, [])), (15, (0, 1, 1, []))], [(16, [15, 13, 14], [0]), (16, [13, 6, 12], [4]), (10, [12, 11, 10], []), (9, [11, 4], [13]), (24, [2, 6], []), (24, [0, 4], [])], [], [], [(20, [2, 12], [61, 0, 555])], [], [])
theorem oo_Fa_pickFirst_3 {kA : Nat → ClassId} : or_ok PRD kA GG o_Fa_pickFirst_3 := by
  refine or_mk fun A ta ws vs hD hth hl => ?_
  intro t2 k2 t10 k10 t12 k12 t13 k13 t14 k14 t15 k15 f2 f3 f4 f5 f8 f9
  replace f3 := shm_13 f3
  replace f4 := shm_107 f4
  replace f5 := shm_361 f5
  replace f8 := shm_5 f8
  replace f9 := shm_5 f9
  have q6 : n_v vs 6 = n_v vs 2 := f8.symm
  have q4 : n_v vs 4 = n_v vs 0 := f9.symm
  simp only [q6, q4] at f3 f5
  have ad_11 : v_ad (n_v vs 11) = w_ar ws (n_v vs 0) 13 := congrArg v_ad f5
  simp only [ad_11] at f4
  have h4 : v_iv (n_v vs 12) = w_ei ws (w_ar ws (n_v vs 0) 13) (v_iv (n_v vs 10)) := f4
  have nf0 : fc_1 PRD (20, [2, 12], [61, 0, 555]) ws (vs) := ⟨nf_in hl rfl, sgq_810 (vc_Fa_pickFirst_3_0 (v_iv (n_v vs 2)) (v_iv (n_v vs 8)) (v_iv (n_v vs 10)) (v_iv (n_v vs 12)) (v_iv (n_v vs 13)) (v_iv (n_v vs 14)) (v_iv (n_v vs 15)) (w_ei ws (w_ar ws (n_v vs 0) 13)) k2 k10 k12 k13 k14 k15 (shm_11 f2) f3 h4)⟩
  refine ⟨(fun _ h => (by cases h)), [], trivial, ?_, (fun _ h => (by cases h))⟩
  rw [List.append_nil]
  exact List.forall_mem_cons.mpr ⟨⟨show (20 : Nat) < 100 from by decide, nf0⟩, (fun _ h => (by cases h))⟩
def n_Fa_pickFirst_an : List an_T := [(13, [(0, (2, 0, 0, [2])), (1, (2, 0, 0, [3])), (2, (0, 0, 16777215, [])), (3, (0, 8, 24, [])), (4, (0, 0, 63, [])), (5, (0, (Int.negSucc 999999), 2147483647, [])), (6, (0, 0, 24, []))], [], (0, 0), [(0, 0, 99987), (1, 10, 24), (0, 0, 100000)], [(2, 6, (Int.negSucc 999999999999), 0), (3, 7, (Int.negSucc 999999999999), 0), (6, 2, (Int.negSucc 999999999999), 0), (7, 3, (Int.negSucc 999999999999), 0), (9, 10, (Int.negSucc 999999999999), 2147483646)], [], [(2, 0, 0, [2]), (2, 0, 0, [3]), (0, 0, 16777215, []), (0, 8, 24, [])], 0, [], [(20, [6, 8], [61, 0, 555]), (24, [2, 6], []), (24, [0, 4], [])])]
def t_Fa_pickFirst_ct : ct_L := [(0, 107, e_Fa_lowest), (0, 186, e_Fa_weights)]
set_option maxRecDepth 100000 in
theorem c_Fa_pickFirst {l : Launch} {D : va_G} {kA : Nat → ClassId} (h_Fa_lowest : ct_ok PRD l D kA GG y_Fa_lowest z_Fa_lowest e_Fa_lowest) (h_Fa_weights : ct_ok PRD l D kA GG y_Fa_weights z_Fa_weights e_Fa_weights) : ct_ok PRD l D kA GG y_Fa_pickFirst z_Fa_pickFirst e_Fa_pickFirst := chk_all_ok (FT := [(54, 2, 13)]) (PT := []) (CT := t_Fa_pickFirst_ct) (KT := [(0, 190, .int (Int32.ofInt (-1000000)), (0, -1000000, -1000000, []))]) (NT := []) (AN := n_Fa_pickFirst_an) (OT := [o_Fa_pickFirst_0, o_Fa_pickFirst_1, o_Fa_pickFirst_2, o_Fa_pickFirst_3]) 3 220 (List.forall_mem_cons.mpr ⟨oo_Fa_pickFirst_0, List.forall_mem_cons.mpr ⟨oo_Fa_pickFirst_1, List.forall_mem_cons.mpr ⟨oo_Fa_pickFirst_2, List.forall_mem_cons.mpr ⟨oo_Fa_pickFirst_3, List.forall_mem_nil _⟩⟩⟩⟩) (by decide +kernel) ⟨List.forall_mem_cons.mpr ⟨gf_Fa_54, List.forall_mem_nil _⟩, List.forall_mem_nil _, List.forall_mem_cons.mpr ⟨cl_static (y := y_Fa_lowest) h_Fa_lowest wm_899 wm_7 wm_897 wm_898 ⟨by decide, by decide, by decide +kernel⟩ (by decide), List.forall_mem_cons.mpr ⟨cl_static (y := y_Fa_weights) h_Fa_weights wm_892 wm_7 wm_890 wm_891 ⟨by decide, by decide, by decide +kernel⟩ (by decide), List.forall_mem_nil _⟩⟩, List.forall_mem_cons.mpr ⟨kx_Fa_0_190, List.forall_mem_nil _⟩, List.forall_mem_nil _, GG_pl⟩ (by decide +kernel)

set_option maxHeartbeats 4000000 in
theorem vc_Fa_shortestWay_at_Grnear_Pnlevel_Pnway_0_0 (x1 : Int) (x2 : Int) (x3 : Int) (x4 : Int) (x7 : Int) (x8 : Int) (x9 : Int) (a0_0 : Int → Int) (a0_1 : Int → Int) (a5_0 : Int → Int) (a5_1 : Int → Int) (k1 : 1 ≤ x1 ∧ x1 ≤ 24) (k2 : 0 ≤ x2 ∧ x2 ≤ 23) (k3 : 0 ≤ x3 ∧ x3 ≤ 16777215) (k4 : 0 ≤ x4 ∧ x4 ≤ 16777215) (k7 : 0 ≤ x7 ∧ x7 ≤ 0) (k8 : 0 ≤ x8 ∧ x8 ≤ 0) (k9 : 1 ≤ x9 ∧ x9 ≤ 1) (hE_0_999_1 : ∀ j : Int, a0_0 j = a0_1 j) (hE_5_999_1 : ∀ j : Int, 0 ≤ j → (j = x7 → a5_0 j = x3) ∧ (j ≠ x7 → a5_0 j = a5_1 j)) : LV1 (a0_0) (a5_0) (x1) (x2) (x3) (x4) (x4) (x8) (x9) := by
  have e_hE_0_999_1 := funext hE_0_999_1; subst e_hE_0_999_1
  first
    | exact lv1_start (by assumption) (by omega) (by omega) rfl (by omega) (by omega)
set_option maxHeartbeats 4000000 in
theorem vc_Fa_shortestWay_at_Grnear_Pnlevel_Pnway_0_8 (x1 : Int) (x2 : Int) (x3 : Int) (x4 : Int) (x7 : Int) (x8 : Int) (x9 : Int) (a0_0 : Int → Int) (a0_1 : Int → Int) (a5_0 : Int → Int) (a5_1 : Int → Int) (k1 : 1 ≤ x1 ∧ x1 ≤ 24) (k2 : 0 ≤ x2 ∧ x2 ≤ 23) (k3 : 0 ≤ x3 ∧ x3 ≤ 16777215) (k4 : 0 ≤ x4 ∧ x4 ≤ 16777215) (k7 : 0 ≤ x7 ∧ x7 ≤ 0) (k8 : 0 ≤ x8 ∧ x8 ≤ 0) (k9 : 1 ≤ x9 ∧ x9 ≤ 1) (hE_0_999_1 : ∀ j : Int, a0_0 j = a0_1 j) (hE_5_999_1 : ∀ j : Int, 0 ≤ j → (j = x7 → a5_0 j = x3) ∧ (j ≠ x7 → a5_0 j = a5_1 j)) : LV3 (a0_0) (a5_0) (x1) (x2) (x3) (x4) (x4) (x8) (x9) := by
  have e_hE_0_999_1 := funext hE_0_999_1; subst e_hE_0_999_1
  first
    | exact lv3_start (by assumption) (by omega) (by omega) rfl (by omega)
def o_Fa_shortestWay_at_Grnear_Pnlevel_Pnway_0 : or_T := (15, 10, [(0, (2, 0, 0, [59])), (1, (0, 1, 24, [])), (2, (0, 0, 23, [])), (3, (0, 0, 16777215, [])), (4, (0, 0, 16777215, [])), (5, (2, 0, 0, [105])), (7, (0, 0, 0, [])), (8, (0, 0, 0, [])), (9, (0, 1, 1, []))], [(100, [5, 7, 3], [])], [], [], [(20, [0, 5, 1, 2, 3, 4, 4, 8, 9], [61, 2, 562]), (24, [0, 0], []), (24, [1, 1], []), (24, [2, 2], []), (24, [3, 3], []), (24, [4, 4], []), (24, [5, 5], []), (24, [6, 6], []), (20, [0, 5, 1, 2, 3, 4, 4, 8, 9], [61, 2, 898])], [], [])
theorem oo_Fa_shortestWay_at_Grnear_Pnlevel_Pnway_0 {kA : Nat → ClassId} : or_ok PRD kA GG o_Fa_shortestWay_at_Grnear_Pnlevel_Pnway_0 := by
  refine or_mk fun A ta ws vs hD hth hl => ?_
  intro t0 r0 t1 k1 t2 k2 t3 k3 t4 k4 t5 r5 t7 k7 t8 k8 t9 k9 ta1 w1 le1 s1
  have s1 : (∀ b j, w_el ws b j = if b = v_ad (n_v vs 5) ∧ j = (v_iv (n_v vs 7)).toNat then v_iv (n_v vs 3) else w_el w1 b j) ∧ ∀ b k, w_fd ws b k = w_fd w1 b k := s1.2
  have cr_0_999 : ta (v_ad (n_v vs 0)) = some 59 := r0
  have ad_5 : v_ad (n_v vs 5) = v_ad (n_v vs 5) := rfl
  have hE_0_999_1 : ∀ j : Int, w_ei ws (v_ad (n_v vs 0)) j = w_ei w1 (v_ad (n_v vs 0)) j := el_kp s1.1 r5 cr_0_999 (by decide)
  have hE_5_999_1 : ∀ j : Int, 0 ≤ j → (j = v_iv (n_v vs 7) → w_ei ws (v_ad (n_v vs 5)) j = v_iv (n_v vs 3)) ∧ (j ≠ v_iv (n_v vs 7) → w_ei ws (v_ad (n_v vs 5)) j = w_ei w1 (v_ad (n_v vs 5)) j) := fun j hj => ⟨fun h => by unfold w_ei; rw [s1.1, if_pos ⟨ad_5.symm, by rw [h]⟩], fun h => by unfold w_ei; rw [s1.1, if_neg (fun e => h (by have := e.2; omega))]⟩
  have nf0 : fc_1 PRD (20, [0, 5, 1, 2, 3, 4, 4, 8, 9], [61, 2, 562]) ws (vs) := ⟨nf_in hl rfl, sgq_1182 (vc_Fa_shortestWay_at_Grnear_Pnlevel_Pnway_0_0 (v_iv (n_v vs 1)) (v_iv (n_v vs 2)) (v_iv (n_v vs 3)) (v_iv (n_v vs 4)) (v_iv (n_v vs 7)) (v_iv (n_v vs 8)) (v_iv (n_v vs 9)) (w_ei ws (v_ad (n_v vs 0))) (w_ei w1 (v_ad (n_v vs 0))) (w_ei ws (v_ad (n_v vs 5))) (w_ei w1 (v_ad (n_v vs 5))) k1 k2 k3 k4 k7 k8 k9 hE_0_999_1 hE_5_999_1)⟩
  have nf1 : fc_1 PRD (24, [0, 0], []) ws (vs) := by
    refine ⟨nf_in hl rfl, sgq_1 ?_⟩
    · show n_v vs 0 = n_v vs 0
      first | rfl | simp only [true_and]
  have nf2 : fc_1 PRD (24, [1, 1], []) ws (vs) := by
    refine ⟨nf_in hl rfl, sgq_1 ?_⟩
    · show n_v vs 1 = n_v vs 1
      first | rfl | simp only [true_and]
  have nf3 : fc_1 PRD (24, [2, 2], []) ws (vs) := by
    refine ⟨nf_in hl rfl, sgq_1 ?_⟩
    · show n_v vs 2 = n_v vs 2
      first | rfl | simp only [true_and]
  have nf4 : fc_1 PRD (24, [3, 3], []) ws (vs) := by
    refine ⟨nf_in hl rfl, sgq_1 ?_⟩
    · show n_v vs 3 = n_v vs 3
      first | rfl | simp only [true_and]
  have nf5 : fc_1 PRD (24, [4, 4], []) ws (vs) := by
    refine ⟨nf_in hl rfl, sgq_1 ?_⟩
    · show n_v vs 4 = n_v vs 4
      first | rfl | simp only [true_and]
  have nf6 : fc_1 PRD (24, [5, 5], []) ws (vs) := by
    refine ⟨nf_in hl rfl, sgq_1 ?_⟩
    · show n_v vs 5 = n_v vs 5
      first | rfl | simp only [true_and]
  have nf7 : fc_1 PRD (24, [6, 6], []) ws (vs) := by
    refine ⟨nf_in hl rfl, sgq_1 ?_⟩
    · show n_v vs 6 = n_v vs 6
      first | rfl | simp only [true_and]
  have nf8 : fc_1 PRD (20, [0, 5, 1, 2, 3, 4, 4, 8, 9], [61, 2, 898]) ws (vs) := ⟨nf_in hl rfl, sgq_1183 (vc_Fa_shortestWay_at_Grnear_Pnlevel_Pnway_0_8 (v_iv (n_v vs 1)) (v_iv (n_v vs 2)) (v_iv (n_v vs 3)) (v_iv (n_v vs 4)) (v_iv (n_v vs 7)) (v_iv (n_v vs 8)) (v_iv (n_v vs 9)) (w_ei ws (v_ad (n_v vs 0))) (w_ei w1 (v_ad (n_v vs 0))) (w_ei ws (v_ad (n_v vs 5))) (w_ei w1 (v_ad (n_v vs 5))) k1 k2 k3 k4 k7 k8 k9 hE_0_999_1 hE_5_999_1)⟩
  refine ⟨(fun _ h => (by cases h)), [], trivial, ?_, (fun _ h => (by cases h))⟩
  rw [List.append_nil]
  exact List.forall_mem_cons.mpr ⟨⟨show (20 : Nat) < 100 from by decide, nf0⟩, List.forall_mem_cons.mpr ⟨⟨show (24 : Nat) < 100 from by decide, nf1⟩, List.forall_mem_cons.mpr ⟨⟨show (24 : Nat) < 100 from by decide, nf2⟩, List.forall_mem_cons.mpr ⟨⟨show (24 : Nat) < 100 from by decide, nf3⟩, List.forall_mem_cons.mpr ⟨⟨show (24 : Nat) < 100 from by decide, nf4⟩, List.forall_mem_cons.mpr ⟨⟨show (24 : Nat) < 100 from by decide, nf5⟩, List.forall_mem_cons.mpr ⟨⟨show (24 : Nat) < 100 from by decide, nf6⟩, List.forall_mem_cons.mpr ⟨⟨show (24 : Nat) < 100 from by decide, nf7⟩, List.forall_mem_cons.mpr ⟨⟨show (20 : Nat) < 100 from by decide, nf8⟩, (fun _ h => (by cases h))⟩⟩⟩⟩⟩⟩⟩⟩⟩
set_option maxHeartbeats 4000000 in
theorem vc_Fa_shortestWay_at_Grnear_Pnlevel_Pnway_1_0 (x1 : Int) (x2 : Int) (x3 : Int) (x4 : Int) (x14 : Int) (x15 : Int) (x16 : Int) (x17 : Int) (a0_0 : Int → Int) (a5_0 : Int → Int) (a0_1 : Int → Int) (a5_1 : Int → Int) (a6_0 : Int → Int) (a6_1 : Int → Int) (k1 : 2 ≤ x1 ∧ x1 ≤ 24) (k2 : 0 ≤ x2 ∧ x2 ≤ 23) (k3 : 0 ≤ x3 ∧ x3 ≤ 16777215) (k4 : 0 ≤ x4 ∧ x4 ≤ 16777215) (k14 : 0 ≤ x14 ∧ x14 ≤ 16777215) (k15 : 1 ≤ x15 ∧ x15 ≤ 23) (k16 : 2 ≤ x16 ∧ x16 ≤ 24) (k17 : 0 ≤ x17 ∧ x17 ≤ 0) (f12 : x15 ≠ 0) (f14 : LV1 (a0_1) (a5_1) (x1) (x2) (x3) (x4) (x14) (x15) (x16)) (hE_0_999_1 : ∀ j : Int, a0_0 j = a0_1 j) (hE_5_999_1 : ∀ j : Int, a5_0 j = a5_1 j) (hE_6_999_1 : ∀ j : Int, 0 ≤ j → (j = x17 → a6_0 j = x2) ∧ (j ≠ x17 → a6_0 j = a6_1 j)) : LV2 (a0_0) (a5_0) (a6_0) (x1) (x2) (x3) (x4) (x15) (x15) := by
  have e_hE_0_999_1 := funext hE_0_999_1; subst e_hE_0_999_1
  have e_hE_5_999_1 := funext hE_5_999_1; subst e_hE_5_999_1
  first
    | exact lv2_start ‹LV1 _ _ _ _ _ _ _ _ _› (by omega) (by assumption) (by omega) (by omega) rfl
def o_Fa_shortestWay_at_Grnear_Pnlevel_Pnway_1 : or_T := (106, 18, [(0, (2, 0, 0, [59])), (1, (0, 2, 24, [])), (2, (0, 0, 23, [])), (3, (0, 0, 16777215, [])), (4, (0, 0, 16777215, [])), (5, (2, 0, 0, [105])), (6, (2, 0, 0, [106])), (7, (2, 0, 0, [59])), (8, (0, 2, 24, [])), (9, (0, 0, 23, [])), (10, (0, 0, 16777215, [])), (11, (0, 0, 16777215, [])), (12, (2, 0, 0, [105])), (13, (2, 0, 0, [106])), (14, (0, 0, 16777215, [])), (15, (0, 1, 23, [])), (16, (0, 2, 24, [])), (17, (0, 0, 0, []))], [(20, [7, 12, 8, 9, 10, 11, 14, 15, 16], [61, 2, 562]), (20, [7, 8], [61, 1, 560]), (20, [8, 11], [61, 0, 561]), (24, [0, 7], []), (24, [1, 8], []), (24, [2, 9], []), (24, [3, 10], []), (24, [4, 11], []), (24, [5, 12], []), (24, [6, 13], []), (20, [7, 12, 8, 9, 10, 11, 14, 15, 16], [61, 2, 898]), (100, [13, 17, 9], []), (8, [15], [1]), (7, [16, 8], [3]), (20, [7, 12, 8, 9, 10, 11, 14, 15, 16], [61, 2, 562]), (20, [7, 8], [61, 1, 560]), (20, [8, 11], [61, 0, 561]), (20, [7, 12, 8, 9, 10, 11, 14, 15, 16], [61, 2, 898])], [], [], [(20, [7, 12, 13, 8, 9, 10, 11, 15, 15], [61, 3, 563])], [], [(16, 8, 0, 4294967296), (1, 8, -4294967296, 0), (2, 9, -4294967296, 0), (3, 10, -4294967296, 0), (4, 11, -4294967296, 0), (8, 1, -4294967296, 0), (9, 2, -4294967296, 0), (10, 3, -4294967296, 0), (11, 4, -4294967296, 0), (15, 1, -4294967296, -1), (15, 8, -4294967296, -1), (15, 16, -4294967296, -1), (16, 1, -4294967296, 0), (16, 8, -4294967296, 0)])
theorem oo_Fa_shortestWay_at_Grnear_Pnlevel_Pnway_1 {kA : Nat → ClassId} : or_ok PRD kA GG o_Fa_shortestWay_at_Grnear_Pnlevel_Pnway_1 := by
  refine or_mk fun A ta ws vs hD hth hl => ?_
  intro t0 r0 t1 k1 t2 k2 t3 k3 t4 k4 t5 r5 t6 r6 t7 r7 t8 k8 t9 k9 t10 k10 t11 k11 t12 r12 t13 r13 t14 k14 t15 k15 t16 k16 t17 k17 d0 d1 d2 d3 d4 d5 d6 d7 d8 d9 d10 d11 d12 d13 f0 f1 f2 f3 f4 f5 f6 f7 f8 f9 f10 ta1 w1 le1 s1 f12 f13 f14 f15 f16 f17
  replace f3 := shm_5 f3
  replace f4 := shm_5 f4
  replace f5 := shm_5 f5
  replace f6 := shm_5 f6
  replace f7 := shm_5 f7
  replace f8 := shm_5 f8
  replace f9 := shm_5 f9
  have s1 : (∀ b j, w_el ws b j = if b = v_ad (n_v vs 13) ∧ j = (v_iv (n_v vs 17)).toNat then v_iv (n_v vs 9) else w_el w1 b j) ∧ ∀ b k, w_fd ws b k = w_fd w1 b k := s1.2
  replace f12 := shm_142 f12
  replace f14 := shm_1184 f14
  have q7 : n_v vs 7 = n_v vs 0 := f3.symm
  have q8 : n_v vs 8 = n_v vs 1 := f4.symm
  have q9 : n_v vs 9 = n_v vs 2 := f5.symm
  have q10 : n_v vs 10 = n_v vs 3 := f6.symm
  have q11 : n_v vs 11 = n_v vs 4 := f7.symm
  have q12 : n_v vs 12 = n_v vs 5 := f8.symm
  have q13 : n_v vs 13 = n_v vs 6 := f9.symm
  rw [q9] at s1
  rw [q13] at s1
  simp only [q8, q7, q9, q10, q11, q12] at f14
  have cr_0_999 : ta (v_ad (n_v vs 0)) = some 59 := r0
  have cr_5_999 : ta (v_ad (n_v vs 5)) = some 105 := r5
  have ad_6 : v_ad (n_v vs 6) = v_ad (n_v vs 6) := rfl
  have hE_0_999_1 : ∀ j : Int, w_ei ws (v_ad (n_v vs 0)) j = w_ei w1 (v_ad (n_v vs 0)) j := el_kp s1.1 r6 cr_0_999 (by decide)
  have hE_5_999_1 : ∀ j : Int, w_ei ws (v_ad (n_v vs 5)) j = w_ei w1 (v_ad (n_v vs 5)) j := el_kp s1.1 r6 cr_5_999 (by decide)
  have hE_6_999_1 : ∀ j : Int, 0 ≤ j → (j = v_iv (n_v vs 17) → w_ei ws (v_ad (n_v vs 6)) j = v_iv (n_v vs 2)) ∧ (j ≠ v_iv (n_v vs 17) → w_ei ws (v_ad (n_v vs 6)) j = w_ei w1 (v_ad (n_v vs 6)) j) := fun j hj => ⟨fun h => by unfold w_ei; rw [s1.1, if_pos ⟨ad_6.symm, by rw [h]⟩], fun h => by unfold w_ei; rw [s1.1, if_neg (fun e => h (by have := e.2; omega))]⟩
  have nf0 : fc_1 PRD (20, [7, 12, 13, 8, 9, 10, 11, 15, 15], [61, 3, 563]) ws (vs) := by
    refine ⟨nf_in hl rfl, sgq_1186 ?_⟩
    · show LV2 (w_ei ws (v_ad (n_v vs 7))) (w_ei ws (v_ad (n_v vs 12))) (w_ei ws (v_ad (n_v vs 13))) (v_iv (n_v vs 8)) (v_iv (n_v vs 9)) (v_iv (n_v vs 10)) (v_iv (n_v vs 11)) (v_iv (n_v vs 15)) (v_iv (n_v vs 15))
      simp only [q7, q8, q9, q10, q11, q12, q13]
      exact vc_Fa_shortestWay_at_Grnear_Pnlevel_Pnway_1_0 (v_iv (n_v vs 1)) (v_iv (n_v vs 2)) (v_iv (n_v vs 3)) (v_iv (n_v vs 4)) (v_iv (n_v vs 14)) (v_iv (n_v vs 15)) (v_iv (n_v vs 16)) (v_iv (n_v vs 17)) (w_ei ws (v_ad (n_v vs 0))) (w_ei ws (v_ad (n_v vs 5))) (w_ei w1 (v_ad (n_v vs 0))) (w_ei w1 (v_ad (n_v vs 5))) (w_ei ws (v_ad (n_v vs 6))) (w_ei w1 (v_ad (n_v vs 6))) k1 k2 k3 k4 k14 k15 k16 k17 f12 f14 hE_0_999_1 hE_5_999_1 hE_6_999_1
  refine ⟨(fun _ h => (by cases h)), [], trivial, ?_, (fun _ h => (by cases h))⟩
  rw [List.append_nil]
  exact List.forall_mem_cons.mpr ⟨⟨show (20 : Nat) < 100 from by decide, nf0⟩, (fun _ h => (by cases h))⟩
set_option maxHeartbeats 4000000 in
theorem vc_Fa_shortestWay_at_Grnear_Pnlevel_Pnway_2_0 (x2 : Int) (x3 : Int) (x4 : Int) (x17 : Int) (a6_0 : Int → Int) (k2 : 0 ≤ x2 ∧ x2 ≤ 23) (k3 : 0 ≤ x3 ∧ x3 ≤ 16777215) (k4 : 0 ≤ x4 ∧ x4 ≤ 16777215) (k17 : 0 ≤ x17 ∧ x17 ≤ 0) : SHW (a6_0) (x2) (x3) (x4) (x17) := by
  first
    | exact shw_zero (by omega)
set_option maxHeartbeats 4000000 in
theorem vc_Fa_shortestWay_at_Grnear_Pnlevel_Pnway_2_1 (x1 : Int) (x2 : Int) (x3 : Int) (x4 : Int) (x14 : Int) (x15 : Int) (x16 : Int) (x17 : Int) (a0_0 : Int → Int) (a5_0 : Int → Int) (k1 : 1 ≤ x1 ∧ x1 ≤ 24) (k2 : 0 ≤ x2 ∧ x2 ≤ 23) (k3 : 0 ≤ x3 ∧ x3 ≤ 16777215) (k4 : 0 ≤ x4 ∧ x4 ≤ 16777215) (k14 : 0 ≤ x14 ∧ x14 ≤ 16777215) (k15 : 0 ≤ x15 ∧ x15 ≤ 0) (k16 : 1 ≤ x16 ∧ x16 ≤ 24) (k17 : 0 ≤ x17 ∧ x17 ≤ 0) (f0 : x15 = 0) (f1 : x1 ≤ x16) (f2 : LV1 (a0_0) (a5_0) (x1) (x2) (x3) (x4) (x14) (x15) (x16)) (f4 : FRN (x1) (x4)) (f12 : LV3 (a0_0) (a5_0) (x1) (x2) (x3) (x4) (x14) (x15) (x16)) : SHZ (a0_0) (x1) (x2) (x3) (x4) (x17) := by
  first
    | exact shz_b ‹LV3 _ _ _ _ _ _ _ _ _› ‹LV1 _ _ _ _ _ _ _ _ _› ‹FRN _ _› (by omega) (by omega)
def o_Fa_shortestWay_at_Grnear_Pnlevel_Pnway_2 : or_T := (96, 18, [(1, (0, 1, 24, [])), (2, (0, 0, 23, [])), (3, (0, 0, 16777215, [])), (4, (0, 0, 16777215, [])), (14, (0, 0, 16777215, [])), (15, (0, 0, 0, [])), (16, (0, 1, 24, [])), (17, (0, 0, 0, []))], [(8, [15], [0]), (7, [16, 8], [3]), (20, [7, 12, 8, 9, 10, 11, 14, 15, 16], [61, 2, 562]), (20, [8, 11], [61, 0, 561]), (24, [0, 7], []), (24, [1, 8], []), (24, [2, 9], []), (24, [3, 10], []), (24, [4, 11], []), (24, [5, 12], []), (20, [7, 12, 8, 9, 10, 11, 14, 15, 16], [61, 2, 898])], [], [], [(20, [6, 2, 3, 4, 17], [61, 1, 564]), (20, [0, 1, 2, 3, 4, 17], [61, 1, 899])], [], [])
theorem oo_Fa_shortestWay_at_Grnear_Pnlevel_Pnway_2 {kA : Nat → ClassId} : or_ok PRD kA GG o_Fa_shortestWay_at_Grnear_Pnlevel_Pnway_2 := by
  refine or_mk fun A ta ws vs hD hth hl => ?_
  intro t1 k1 t2 k2 t3 k3 t4 k4 t14 k14 t15 k15 t16 k16 t17 k17 f0 f1 f2 f4 f5 f6 f7 f8 f9 f10 f12
  replace f1 := shm_2 f1
  replace f2 := shm_1184 f2
  replace f4 := shm_1181 f4
  replace f5 := shm_5 f5
  replace f6 := shm_5 f6
  replace f7 := shm_5 f7
  replace f8 := shm_5 f8
  replace f9 := shm_5 f9
  replace f10 := shm_5 f10
  replace f12 := shm_1185 f12
  have q7 : n_v vs 7 = n_v vs 0 := f5.symm
  have q8 : n_v vs 8 = n_v vs 1 := f6.symm
  have q9 : n_v vs 9 = n_v vs 2 := f7.symm
  have q10 : n_v vs 10 = n_v vs 3 := f8.symm
  have q11 : n_v vs 11 = n_v vs 4 := f9.symm
  have q12 : n_v vs 12 = n_v vs 5 := f10.symm
  simp only [q8, q7, q9, q10, q11, q12] at f1 f2 f4 f12
  have nf0 : fc_1 PRD (20, [6, 2, 3, 4, 17], [61, 1, 564]) ws (vs) := ⟨nf_in hl rfl, sgq_1187 (vc_Fa_shortestWay_at_Grnear_Pnlevel_Pnway_2_0 (v_iv (n_v vs 2)) (v_iv (n_v vs 3)) (v_iv (n_v vs 4)) (v_iv (n_v vs 17)) (w_ei ws (v_ad (n_v vs 6))) k2 k3 k4 k17)⟩
  have nf1 : fc_1 PRD (20, [0, 1, 2, 3, 4, 17], [61, 1, 899]) ws (vs) := ⟨nf_in hl rfl, sgq_1188 (vc_Fa_shortestWay_at_Grnear_Pnlevel_Pnway_2_1 (v_iv (n_v vs 1)) (v_iv (n_v vs 2)) (v_iv (n_v vs 3)) (v_iv (n_v vs 4)) (v_iv (n_v vs 14)) (v_iv (n_v vs 15)) (v_iv (n_v vs 16)) (v_iv (n_v vs 17)) (w_ei ws (v_ad (n_v vs 0))) (w_ei ws (v_ad (n_v vs 5))) k1 k2 k3 k4 k14 k15 k16 k17 (shm_192 f0) f1 f2 f4 f12)⟩
  refine ⟨(fun _ h => (by cases h)), [], trivial, ?_, (fun _ h => (by cases h))⟩
  rw [List.append_nil]
  exact List.forall_mem_cons.mpr ⟨⟨show (20 : Nat) < 100 from by decide, nf0⟩, List.forall_mem_cons.mpr ⟨⟨show (20 : Nat) < 100 from by decide, nf1⟩, (fun _ h => (by cases h))⟩⟩
set_option maxHeartbeats 4000000 in
theorem vc_Fa_shortestWay_at_Grnear_Pnlevel_Pnway_3_0 (x1 : Int) (x2 : Int) (x3 : Int) (x4 : Int) (x14 : Int) (x15 : Int) (x16 : Int) (x17 : Int) (a0_0 : Int → Int) (a5_0 : Int → Int) (a0_1 : Int → Int) (a5_1 : Int → Int) (a6_0 : Int → Int) (a6_1 : Int → Int) (k1 : 2 ≤ x1 ∧ x1 ≤ 24) (k2 : 0 ≤ x2 ∧ x2 ≤ 23) (k3 : 0 ≤ x3 ∧ x3 ≤ 16777215) (k4 : 0 ≤ x4 ∧ x4 ≤ 16777215) (k14 : 0 ≤ x14 ∧ x14 ≤ 16777215) (k15 : 1 ≤ x15 ∧ x15 ≤ 22) (k16 : 2 ≤ x16 ∧ x16 ≤ 23) (k17 : 0 ≤ x17 ∧ x17 ≤ 0) (f13 : x15 ≠ 0) (f15 : LV1 (a0_1) (a5_1) (x1) (x2) (x3) (x4) (x14) (x15) (x16)) (hE_0_999_1 : ∀ j : Int, a0_0 j = a0_1 j) (hE_5_999_1 : ∀ j : Int, a5_0 j = a5_1 j) (hE_6_999_1 : ∀ j : Int, 0 ≤ j → (j = x17 → a6_0 j = x2) ∧ (j ≠ x17 → a6_0 j = a6_1 j)) : LV2 (a0_0) (a5_0) (a6_0) (x1) (x2) (x3) (x4) (x15) (x15) := by
  have e_hE_0_999_1 := funext hE_0_999_1; subst e_hE_0_999_1
  have e_hE_5_999_1 := funext hE_5_999_1; subst e_hE_5_999_1
  first
    | exact lv2_start ‹LV1 _ _ _ _ _ _ _ _ _› (by omega) (by assumption) (by omega) (by omega) rfl
def o_Fa_shortestWay_at_Grnear_Pnlevel_Pnway_3 : or_T := (106, 18, [(0, (2, 0, 0, [59])), (1, (0, 2, 24, [])), (2, (0, 0, 23, [])), (3, (0, 0, 16777215, [])), (4, (0, 0, 16777215, [])), (5, (2, 0, 0, [105])), (6, (2, 0, 0, [106])), (7, (2, 0, 0, [59])), (8, (0, 2, 24, [])), (9, (0, 0, 23, [])), (10, (0, 0, 16777215, [])), (11, (0, 0, 16777215, [])), (12, (2, 0, 0, [105])), (13, (2, 0, 0, [106])), (14, (0, 0, 16777215, [])), (15, (0, 1, 22, [])), (16, (0, 2, 23, [])), (17, (0, 0, 0, []))], [(20, [7, 12, 8, 9, 10, 11, 14, 15, 16], [61, 2, 562]), (20, [7, 8], [61, 1, 560]), (20, [8, 11], [61, 0, 561]), (24, [0, 7], []), (24, [1, 8], []), (24, [2, 9], []), (24, [3, 10], []), (24, [4, 11], []), (24, [5, 12], []), (24, [6, 13], []), (20, [7, 12, 8, 9, 10, 11, 14, 15, 16], [61, 2, 898]), (100, [13, 17, 9], []), (8, [15], [1]), (8, [15], [1]), (7, [16, 8], [2]), (20, [7, 12, 8, 9, 10, 11, 14, 15, 16], [61, 2, 562]), (20, [7, 8], [61, 1, 560]), (20, [8, 11], [61, 0, 561]), (20, [7, 12, 8, 9, 10, 11, 14, 15, 16], [61, 2, 898])], [], [], [(20, [7, 12, 13, 8, 9, 10, 11, 15, 15], [61, 3, 563])], [], [(16, 8, -4294967296, -1), (1, 8, -4294967296, 0), (2, 9, -4294967296, 0), (3, 10, -4294967296, 0), (4, 11, -4294967296, 0), (8, 1, -4294967296, 0), (9, 2, -4294967296, 0), (10, 3, -4294967296, 0), (11, 4, -4294967296, 0), (15, 1, -4294967296, -1), (15, 8, -4294967296, -1), (15, 16, -4294967296, -1), (16, 1, -4294967296, 0), (16, 8, -4294967296, 0)])
theorem oo_Fa_shortestWay_at_Grnear_Pnlevel_Pnway_3 {kA : Nat → ClassId} : or_ok PRD kA GG o_Fa_shortestWay_at_Grnear_Pnlevel_Pnway_3 := by
  refine or_mk fun A ta ws vs hD hth hl => ?_
  intro t0 r0 t1 k1 t2 k2 t3 k3 t4 k4 t5 r5 t6 r6 t7 r7 t8 k8 t9 k9 t10 k10 t11 k11 t12 r12 t13 r13 t14 k14 t15 k15 t16 k16 t17 k17 d0 d1 d2 d3 d4 d5 d6 d7 d8 d9 d10 d11 d12 d13 f0 f1 f2 f3 f4 f5 f6 f7 f8 f9 f10 ta1 w1 le1 s1 f12 f13 f14 f15 f16 f17 f18
  replace f3 := shm_5 f3
  replace f4 := shm_5 f4
  replace f5 := shm_5 f5
  replace f6 := shm_5 f6
  replace f7 := shm_5 f7
  replace f8 := shm_5 f8
  replace f9 := shm_5 f9
  have s1 : (∀ b j, w_el ws b j = if b = v_ad (n_v vs 13) ∧ j = (v_iv (n_v vs 17)).toNat then v_iv (n_v vs 9) else w_el w1 b j) ∧ ∀ b k, w_fd ws b k = w_fd w1 b k := s1.2
  replace f13 := shm_142 f13
  replace f15 := shm_1184 f15
  have q7 : n_v vs 7 = n_v vs 0 := f3.symm
  have q8 : n_v vs 8 = n_v vs 1 := f4.symm
  have q9 : n_v vs 9 = n_v vs 2 := f5.symm
  have q10 : n_v vs 10 = n_v vs 3 := f6.symm
  have q11 : n_v vs 11 = n_v vs 4 := f7.symm
  have q12 : n_v vs 12 = n_v vs 5 := f8.symm
  have q13 : n_v vs 13 = n_v vs 6 := f9.symm
  rw [q9] at s1
  rw [q13] at s1
  simp only [q8, q7, q9, q10, q11, q12] at f15
  have cr_0_999 : ta (v_ad (n_v vs 0)) = some 59 := r0
  have cr_5_999 : ta (v_ad (n_v vs 5)) = some 105 := r5
  have ad_6 : v_ad (n_v vs 6) = v_ad (n_v vs 6) := rfl
  have hE_0_999_1 : ∀ j : Int, w_ei ws (v_ad (n_v vs 0)) j = w_ei w1 (v_ad (n_v vs 0)) j := el_kp s1.1 r6 cr_0_999 (by decide)
  have hE_5_999_1 : ∀ j : Int, w_ei ws (v_ad (n_v vs 5)) j = w_ei w1 (v_ad (n_v vs 5)) j := el_kp s1.1 r6 cr_5_999 (by decide)
  have hE_6_999_1 : ∀ j : Int, 0 ≤ j → (j = v_iv (n_v vs 17) → w_ei ws (v_ad (n_v vs 6)) j = v_iv (n_v vs 2)) ∧ (j ≠ v_iv (n_v vs 17) → w_ei ws (v_ad (n_v vs 6)) j = w_ei w1 (v_ad (n_v vs 6)) j) := fun j hj => ⟨fun h => by unfold w_ei; rw [s1.1, if_pos ⟨ad_6.symm, by rw [h]⟩], fun h => by unfold w_ei; rw [s1.1, if_neg (fun e => h (by have := e.2; omega))]⟩
  have nf0 : fc_1 PRD (20, [7, 12, 13, 8, 9, 10, 11, 15, 15], [61, 3, 563]) ws (vs) := by
    refine ⟨nf_in hl rfl, sgq_1186 ?_⟩
    · show LV2 (w_ei ws (v_ad (n_v vs 7))) (w_ei ws (v_ad (n_v vs 12))) (w_ei ws (v_ad (n_v vs 13))) (v_iv (n_v vs 8)) (v_iv (n_v vs 9)) (v_iv (n_v vs 10)) (v_iv (n_v vs 11)) (v_iv (n_v vs 15)) (v_iv (n_v vs 15))
      simp only [q7, q8, q9, q10, q11, q12, q13]
      exact vc_Fa_shortestWay_at_Grnear_Pnlevel_Pnway_3_0 (v_iv (n_v vs 1)) (v_iv (n_v vs 2)) (v_iv (n_v vs 3)) (v_iv (n_v vs 4)) (v_iv (n_v vs 14)) (v_iv (n_v vs 15)) (v_iv (n_v vs 16)) (v_iv (n_v vs 17)) (w_ei ws (v_ad (n_v vs 0))) (w_ei ws (v_ad (n_v vs 5))) (w_ei w1 (v_ad (n_v vs 0))) (w_ei w1 (v_ad (n_v vs 5))) (w_ei ws (v_ad (n_v vs 6))) (w_ei w1 (v_ad (n_v vs 6))) k1 k2 k3 k4 k14 k15 k16 k17 f13 f15 hE_0_999_1 hE_5_999_1 hE_6_999_1
  refine ⟨(fun _ h => (by cases h)), [], trivial, ?_, (fun _ h => (by cases h))⟩
  rw [List.append_nil]
  exact List.forall_mem_cons.mpr ⟨⟨show (20 : Nat) < 100 from by decide, nf0⟩, (fun _ h => (by cases h))⟩
set_option maxHeartbeats 4000000 in
theorem vc_Fa_shortestWay_at_Grnear_Pnlevel_Pnway_4_0 (x1 : Int) (x2 : Int) (x3 : Int) (x4 : Int) (x8 : Int) (x14 : Int) (x15 : Int) (x16 : Int) (x18 : Int) (x19 : Int) (x20 : Int) (x21 : Int) (x22 : Int) (x23 : Int) (x24 : Int) (x25 : Int) (x27 : Int) (x28 : Int) (x29 : Int) (x30 : Int) (a5_0 : Int → Int) (a0_0 : Int → Int) (a0_1 : Int → Int) (a5_1 : Int → Int) (k1 : 2 ≤ x1 ∧ x1 ≤ 24) (k2 : 0 ≤ x2 ∧ x2 ≤ 23) (k3 : 0 ≤ x3 ∧ x3 ≤ 16777215) (k4 : 0 ≤ x4 ∧ x4 ≤ 16777215) (k8 : 2 ≤ x8 ∧ x8 ≤ 24) (k14 : 0 ≤ x14 ∧ x14 ≤ 16777215) (k15 : 0 ≤ x15 ∧ x15 ≤ 0) (k16 : 1 ≤ x16 ∧ x16 ≤ 23) (k18 : 0 ≤ x18 ∧ x18 ≤ 22) (k19 : 0 ≤ x19 ∧ x19 ≤ 16777215) (k20 : 0 ≤ x20 ∧ x20 ≤ 16777215) (k21 : 0 ≤ x21 ∧ x21 ≤ 16777215) (k22 : 0 ≤ x22 ∧ x22 ≤ 16777215) (k23 : (-1) ≤ x23 ∧ x23 ≤ (-1)) (k24 : (-2147483648) ≤ x24 ∧ x24 ≤ 2147483647) (k25 : 0 ≤ x25 ∧ x25 ≤ 16777215) (k30 : 2 ≤ x30 ∧ x30 ≤ 24) (d0 : x16 + 1 ≤ x30 ∧ x30 ≤ x16 + 1) (d4 : x16 + (-1) ≤ x18 ∧ x18 ≤ x16 + (-1)) (d9 : x8 + (-4294967296) ≤ x1 ∧ x1 ≤ x8 + 0) (d13 : x1 + (-4294967296) ≤ x8 ∧ x8 ≤ x1 + 0) (f0 : x30 = x16 + 1) (f7 : bvp (x25) = bvp (x14) &&& bvp (x24)) (f8 : bvp (x24) = bvp (x22) ^^^ bvp (x23)) (h9 : x22 = a5_0 (x16)) (f21 : bvp (x21) = bvp (x20) &&& bvp (x14)) (f22 : NEF (a0_1) (x1) (x19) (x20)) (h23 : x19 = a5_1 (x18)) (f25 : x15 = 0) (f27 : LV1 (a0_1) (a5_1) (x1) (x2) (x3) (x4) (x14) (x15) (x16)) (hE_0_999_1 : ∀ j : Int, a0_0 j = a0_1 j) (hE_5_999_1 : ∀ j : Int, 0 ≤ j → (j = x16 → a5_0 j = x21) ∧ (j ≠ x16 → a5_0 j = a5_1 j)) : LV1 (a0_0) (a5_0) (x1) (x2) (x3) (x4) (x25) (x15) (x30) := by
  have e_hE_0_999_1 := funext hE_0_999_1; subst e_hE_0_999_1
  first
    | (have e21 : a5_0 x16 = x21 := (hE_5_999_1 x16 (by omega)).1 rfl
       have e19 : x19 = a5_1 (x16 - 1) := by rw [show x16 - 1 = x18 by omega]; assumption
       have e24 : bvp x24 = bvp x21 ^^^ bvp (-1) := by rw [← e21, ← ‹x22 = a5_0 x16›, show (-1 : Int) = x23 by omega]; assumption
       have q := (lv1_new (r := x24) ‹LV1 _ _ _ _ _ _ _ _ _› (by omega) e19 ‹NEF _ _ _ _› ‹bvp x21 = _› hE_5_999_1 rfl e24 ‹bvp x25 = _› (by omega)).2
       rw [show x15 = 0 by omega, show x30 = x16 + 1 by omega]
       exact q)
    | (have e21 : a5_0 x16 = x21 := (hE_5_999_1 x16 (by omega)).1 rfl
       have e19 : x19 = a5_1 (x16 - 1) := by rw [show x16 - 1 = x18 by omega]; assumption
       have e24 : bvp x24 = bvp x21 ^^^ bvp (-1) := by rw [← e21, ← ‹x22 = a5_0 x16›, show (-1 : Int) = x23 by omega]; assumption
       obtain ⟨w, w0, w1, w2⟩ := bit_ex (x := x29) (by omega) (by omega)
       have w3 := (bit_and ‹bvp x29 = _› w).mp w2
       have w5 : bit x21 w := by rw [← e21, ← (by assumption : x28 = a5_0 x16)]; exact w3.2
       have q := (lv1_new (r := x24) ‹LV1 _ _ _ _ _ _ _ _ _› (by omega) e19 ‹NEF _ _ _ _› ‹bvp x21 = _› hE_5_999_1 rfl e24 ‹bvp x25 = _› (by omega)).1 w ⟨w0, w1, by first | (rw [← (by assumption : x27 = a0_0 x2)]; exact w3.1) | (rw [← (by assumption : x27 = a0_1 x2)]; exact w3.1), w5⟩
       rw [show x30 = x16 + 1 by omega]
       exact q)
set_option maxHeartbeats 4000000 in
theorem vc_Fa_shortestWay_at_Grnear_Pnlevel_Pnway_4_1 (x1 : Int) (x2 : Int) (x3 : Int) (x4 : Int) (x14 : Int) (x15 : Int) (x16 : Int) (x18 : Int) (x19 : Int) (x20 : Int) (x21 : Int) (x22 : Int) (x23 : Int) (x24 : Int) (x25 : Int) (x26 : Int) (x27 : Int) (x28 : Int) (x29 : Int) (x30 : Int) (a5_0 : Int → Int) (a0_0 : Int → Int) (a0_1 : Int → Int) (a5_1 : Int → Int) (k1 : 2 ≤ x1 ∧ x1 ≤ 24) (k2 : 0 ≤ x2 ∧ x2 ≤ 23) (k3 : 0 ≤ x3 ∧ x3 ≤ 16777215) (k4 : 0 ≤ x4 ∧ x4 ≤ 16777215) (k14 : 0 ≤ x14 ∧ x14 ≤ 16777215) (k15 : 0 ≤ x15 ∧ x15 ≤ 0) (k16 : 1 ≤ x16 ∧ x16 ≤ 23) (k18 : 0 ≤ x18 ∧ x18 ≤ 22) (k19 : 0 ≤ x19 ∧ x19 ≤ 16777215) (k20 : 0 ≤ x20 ∧ x20 ≤ 16777215) (k21 : 0 ≤ x21 ∧ x21 ≤ 16777215) (k22 : 0 ≤ x22 ∧ x22 ≤ 16777215) (k23 : (-1) ≤ x23 ∧ x23 ≤ (-1)) (k24 : (-2147483648) ≤ x24 ∧ x24 ≤ 2147483647) (k25 : 0 ≤ x25 ∧ x25 ≤ 16777215) (k26 : 1 ≤ x26 ∧ x26 ≤ 16777215) (k27 : 0 ≤ x27 ∧ x27 ≤ 16777215) (k28 : 0 ≤ x28 ∧ x28 ≤ 16777215) (k29 : 0 ≤ x29 ∧ x29 ≤ 0) (k30 : 2 ≤ x30 ∧ x30 ≤ 24) (d0 : x16 + 1 ≤ x30 ∧ x30 ≤ x16 + 1) (d4 : x16 + (-1) ≤ x18 ∧ x18 ≤ x16 + (-1)) (f0 : x30 = x16 + 1) (f1 : x29 = 0) (f2 : bvp (x29) = bvp (x27) &&& bvp (x28)) (h3 : x28 = a5_0 (x16)) (h4 : x27 = a0_0 (x2)) (h6 : x26 = a5_0 (x16)) (f7 : bvp (x25) = bvp (x14) &&& bvp (x24)) (f8 : bvp (x24) = bvp (x22) ^^^ bvp (x23)) (h9 : x22 = a5_0 (x16)) (f21 : bvp (x21) = bvp (x20) &&& bvp (x14)) (f22 : NEF (a0_1) (x1) (x19) (x20)) (h23 : x19 = a5_1 (x18)) (f25 : x15 = 0) (f27 : LV1 (a0_1) (a5_1) (x1) (x2) (x3) (x4) (x14) (x15) (x16)) (f29 : FRN (x1) (x4)) (f30 : LV3 (a0_1) (a5_1) (x1) (x2) (x3) (x4) (x14) (x15) (x16)) (hE_0_999_1 : ∀ j : Int, a0_0 j = a0_1 j) (hE_5_999_1 : ∀ j : Int, 0 ≤ j → (j = x16 → a5_0 j = x21) ∧ (j ≠ x16 → a5_0 j = a5_1 j)) : LV3 (a0_0) (a5_0) (x1) (x2) (x3) (x4) (x25) (x15) (x30) := by
  have e_hE_0_999_1 := funext hE_0_999_1; subst e_hE_0_999_1
  first
    | (have e21 : a5_0 x16 = x21 := (hE_5_999_1 x16 (by omega)).1 rfl
       have e19 : x19 = a5_1 (x16 - 1) := by rw [show x16 - 1 = x18 by omega]; assumption
       have e24 : bvp x24 = bvp x21 ^^^ bvp (-1) := by rw [← e21, ← ‹x22 = a5_0 x16›, show (-1 : Int) = x23 by omega]; assumption
       have x0 : ∃ w, 0 ≤ w ∧ w < 32 ∧ bit x21 w := bit_ex (by omega) (by omega)
       first
         | exact lv3_new (r := x24) ‹LV3 _ _ _ _ _ _ _ _ _› (fun w a b z => (‹LV1 _ _ _ _ _ _ _ _ _›).2.2.2.1 w a b z) ‹FRN _ _› e19 ‹NEF _ _ _ _› ‹bvp x21 = _› hE_5_999_1 rfl e24 ‹bvp x25 = _› (by omega) x0 (Or.inr (fun w a b z y => by
             have w5 : bit x29 w := (bit_and ‹bvp x29 = _› w).mpr ⟨by first | (rw [(by assumption : x27 = a0_0 x2)]; exact z) | (rw [(by assumption : x27 = a0_1 x2)]; exact z), by rw [(by assumption : x28 = a5_0 x16), e21]; exact y⟩
             rw [show x29 = 0 by omega] at w5
             exact bit_zero w w5)) (by omega)
         | exact lv3_new (r := x24) ‹LV3 _ _ _ _ _ _ _ _ _› (fun w a b z => (‹LV1 _ _ _ _ _ _ _ _ _›).2.2.2.1 w a b z) ‹FRN _ _› e19 ‹NEF _ _ _ _› ‹bvp x21 = _› hE_5_999_1 rfl e24 ‹bvp x25 = _› (by omega) x0 (Or.inl (by omega)) (by omega))
def o_Fa_shortestWay_at_Grnear_Pnlevel_Pnway_4 : or_T := (15, 31, [(0, (2, 0, 0, [59])), (1, (0, 2, 24, [])), (2, (0, 0, 23, [])), (3, (0, 0, 16777215, [])), (4, (0, 0, 16777215, [])), (5, (2, 0, 0, [105])), (6, (2, 0, 0, [106])), (7, (2, 0, 0, [59])), (8, (0, 2, 24, [])), (9, (0, 0, 23, [])), (10, (0, 0, 16777215, [])), (11, (0, 0, 16777215, [])), (12, (2, 0, 0, [105])), (13, (2, 0, 0, [106])), (14, (0, 0, 16777215, [])), (15, (0, 0, 0, [])), (16, (0, 1, 23, [])), (17, (0, 1, 1, [])), (18, (0, 0, 22, [])), (19, (0, 0, 16777215, [])), (20, (0, 0, 16777215, [])), (21, (0, 0, 16777215, [])), (22, (0, 0, 16777215, [])), (23, (0, -1, -1, [])), (24, (0, -2147483648, 2147483647, [])), (25, (0, 0, 16777215, [])), (26, (0, 1, 16777215, [])), (27, (0, 0, 16777215, [])), (28, (0, 0, 16777215, [])), (29, (0, 0, 0, [])), (30, (0, 2, 24, []))], [(6, [30, 16], [1]), (8, [29], [0]), (16, [29, 27, 28], [0]), (10, [28, 12, 16], []), (10, [27, 7, 9], []), (8, [26], [1]), (10, [26, 12, 16], []), (16, [25, 14, 24], [0]), (16, [24, 22, 23], [2]), (10, [22, 12, 16], []), (20, [7, 8, 19, 20], [61, 1, 557]), (20, [7, 8], [61, 1, 560]), (20, [8, 11], [61, 0, 561]), (24, [0, 7], []), (24, [1, 8], []), (24, [2, 9], []), (24, [3, 10], []), (24, [4, 11], []), (24, [5, 12], []), (24, [6, 13], []), (100, [12, 16, 21], []), (16, [21, 20, 14], [0]), (20, [7, 8, 19, 20], [61, 1, 557]), (10, [19, 12, 18], []), (2, [18, 16, 17], []), (8, [15], [0]), (7, [16, 8], [2]), (20, [7, 12, 8, 9, 10, 11, 14, 15, 16], [61, 2, 562]), (20, [7, 8], [61, 1, 560]), (20, [8, 11], [61, 0, 561]), (20, [7, 12, 8, 9, 10, 11, 14, 15, 16], [61, 2, 898])], [], [], [(20, [7, 12, 8, 9, 10, 11, 25, 15, 30], [61, 2, 562]), (20, [7, 12, 8, 9, 10, 11, 25, 15, 30], [61, 2, 898])], [], [(30, 16, 1, 1), (30, 8, -4294967296, 0), (30, 1, -4294967296, 1), (30, 8, -4294967296, 1), (18, 16, -1, -1), (18, 8, -4294967296, -2), (18, 1, -4294967296, -1), (18, 8, -4294967296, -1), (16, 8, -4294967296, -1), (1, 8, -4294967296, 0), (2, 9, -4294967296, 0), (3, 10, -4294967296, 0), (4, 11, -4294967296, 0), (8, 1, -4294967296, 0), (9, 2, -4294967296, 0), (10, 3, -4294967296, 0), (11, 4, -4294967296, 0), (16, 1, -4294967296, 0), (16, 8, -4294967296, 0)])
theorem oo_Fa_shortestWay_at_Grnear_Pnlevel_Pnway_4 {kA : Nat → ClassId} : or_ok PRD kA GG o_Fa_shortestWay_at_Grnear_Pnlevel_Pnway_4 := by
  refine or_mk fun A ta ws vs hD hth hl => ?_
  intro t0 r0 t1 k1 t2 k2 t3 k3 t4 k4 t5 r5 t6 r6 t7 r7 t8 k8 t9 k9 t10 k10 t11 k11 t12 r12 t13 r13 t14 k14 t15 k15 t16 k16 t17 k17 t18 k18 t19 k19 t20 k20 t21 k21 t22 k22 t23 k23 t24 k24 t25 k25 t26 k26 t27 k27 t28 k28 t29 k29 t30 k30 d0 d1 d2 d3 d4 d5 d6 d7 d8 d9 d10 d11 d12 d13 d14 d15 d16 d17 d18 f0 f1 f2 f3 f4 f5 f6 f7 f8 f9 f10 f11 f12 f13 f14 f15 f16 f17 f18 f19 ta1 w1 le1 s1 f21 f22 f23 f24 f25 f26 f27 f28 f29 f30
  replace f0 := shm_4 f0
  replace f1 := shm_192 f1
  replace f2 := shm_11 f2
  replace f3 := shm_107 f3
  replace f4 := shm_107 f4
  replace f6 := shm_107 f6
  replace f7 := shm_11 f7
  replace f8 := shm_33 f8
  replace f9 := shm_107 f9
  replace f13 := shm_5 f13
  replace f14 := shm_5 f14
  replace f15 := shm_5 f15
  replace f16 := shm_5 f16
  replace f17 := shm_5 f17
  replace f18 := shm_5 f18
  have s1 : (∀ b j, w_el ws b j = if b = v_ad (n_v vs 12) ∧ j = (v_iv (n_v vs 16)).toNat then v_iv (n_v vs 21) else w_el w1 b j) ∧ ∀ b k, w_fd ws b k = w_fd w1 b k := s1.2
  replace f21 := shm_11 f21
  replace f22 := shm_363 f22
  replace f23 := shm_107 f23
  replace f25 := shm_192 f25
  replace f27 := shm_1184 f27
  replace f29 := shm_1181 f29
  replace f30 := shm_1185 f30
  have q7 : n_v vs 7 = n_v vs 0 := f13.symm
  have q8 : n_v vs 8 = n_v vs 1 := f14.symm
  have q9 : n_v vs 9 = n_v vs 2 := f15.symm
  have q10 : n_v vs 10 = n_v vs 3 := f16.symm
  have q11 : n_v vs 11 = n_v vs 4 := f17.symm
  have q12 : n_v vs 12 = n_v vs 5 := f18.symm
  simp only [q12, q7, q9] at f3 f4 f6 f9
  rw [q12] at s1
  simp only [q7, q8, q12, q9, q10, q11] at f22 f23 f27 f29 f30
  have cr_0_999 : ta (v_ad (n_v vs 0)) = some 59 := r0
  have ad_5 : v_ad (n_v vs 5) = v_ad (n_v vs 5) := rfl
  have h3 : v_iv (n_v vs 28) = w_ei ws (v_ad (n_v vs 5)) (v_iv (n_v vs 16)) := f3
  have h4 : v_iv (n_v vs 27) = w_ei ws (v_ad (n_v vs 0)) (v_iv (n_v vs 2)) := f4
  have h6 : v_iv (n_v vs 26) = w_ei ws (v_ad (n_v vs 5)) (v_iv (n_v vs 16)) := f6
  have h9 : v_iv (n_v vs 22) = w_ei ws (v_ad (n_v vs 5)) (v_iv (n_v vs 16)) := f9
  have h23 : v_iv (n_v vs 19) = w_ei w1 (v_ad (n_v vs 5)) (v_iv (n_v vs 18)) := f23
  have hE_0_999_1 : ∀ j : Int, w_ei ws (v_ad (n_v vs 0)) j = w_ei w1 (v_ad (n_v vs 0)) j := el_kp s1.1 r5 cr_0_999 (by decide)
  have hE_5_999_1 : ∀ j : Int, 0 ≤ j → (j = v_iv (n_v vs 16) → w_ei ws (v_ad (n_v vs 5)) j = v_iv (n_v vs 21)) ∧ (j ≠ v_iv (n_v vs 16) → w_ei ws (v_ad (n_v vs 5)) j = w_ei w1 (v_ad (n_v vs 5)) j) := fun j hj => ⟨fun h => by unfold w_ei; rw [s1.1, if_pos ⟨ad_5.symm, by rw [h]⟩], fun h => by unfold w_ei; rw [s1.1, if_neg (fun e => h (by have := e.2; omega))]⟩
  have nf0 : fc_1 PRD (20, [7, 12, 8, 9, 10, 11, 25, 15, 30], [61, 2, 562]) ws (vs) := by
    refine ⟨nf_in hl rfl, sgq_1184 ?_⟩
    · show LV1 (w_ei ws (v_ad (n_v vs 7))) (w_ei ws (v_ad (n_v vs 12))) (v_iv (n_v vs 8)) (v_iv (n_v vs 9)) (v_iv (n_v vs 10)) (v_iv (n_v vs 11)) (v_iv (n_v vs 25)) (v_iv (n_v vs 15)) (v_iv (n_v vs 30))
      simp only [q7, q8, q9, q10, q11, q12]
      exact vc_Fa_shortestWay_at_Grnear_Pnlevel_Pnway_4_0 (v_iv (n_v vs 1)) (v_iv (n_v vs 2)) (v_iv (n_v vs 3)) (v_iv (n_v vs 4)) (v_iv (n_v vs 8)) (v_iv (n_v vs 14)) (v_iv (n_v vs 15)) (v_iv (n_v vs 16)) (v_iv (n_v vs 18)) (v_iv (n_v vs 19)) (v_iv (n_v vs 20)) (v_iv (n_v vs 21)) (v_iv (n_v vs 22)) (v_iv (n_v vs 23)) (v_iv (n_v vs 24)) (v_iv (n_v vs 25)) (v_iv (n_v vs 27)) (v_iv (n_v vs 28)) (v_iv (n_v vs 29)) (v_iv (n_v vs 30)) (w_ei ws (v_ad (n_v vs 5))) (w_ei ws (v_ad (n_v vs 0))) (w_ei w1 (v_ad (n_v vs 0))) (w_ei w1 (v_ad (n_v vs 5))) k1 k2 k3 k4 k8 k14 k15 k16 k18 k19 k20 k21 k22 k23 k24 k25 k30 d0 d4 d9 d13 f0 f7 f8 h9 f21 f22 h23 f25 f27 hE_0_999_1 hE_5_999_1
  have nf1 : fc_1 PRD (20, [7, 12, 8, 9, 10, 11, 25, 15, 30], [61, 2, 898]) ws (vs) := by
    refine ⟨nf_in hl rfl, sgq_1185 ?_⟩
    · show LV3 (w_ei ws (v_ad (n_v vs 7))) (w_ei ws (v_ad (n_v vs 12))) (v_iv (n_v vs 8)) (v_iv (n_v vs 9)) (v_iv (n_v vs 10)) (v_iv (n_v vs 11)) (v_iv (n_v vs 25)) (v_iv (n_v vs 15)) (v_iv (n_v vs 30))
      simp only [q7, q8, q9, q10, q11, q12]
      exact vc_Fa_shortestWay_at_Grnear_Pnlevel_Pnway_4_1 (v_iv (n_v vs 1)) (v_iv (n_v vs 2)) (v_iv (n_v vs 3)) (v_iv (n_v vs 4)) (v_iv (n_v vs 14)) (v_iv (n_v vs 15)) (v_iv (n_v vs 16)) (v_iv (n_v vs 18)) (v_iv (n_v vs 19)) (v_iv (n_v vs 20)) (v_iv (n_v vs 21)) (v_iv (n_v vs 22)) (v_iv (n_v vs 23)) (v_iv (n_v vs 24)) (v_iv (n_v vs 25)) (v_iv (n_v vs 26)) (v_iv (n_v vs 27)) (v_iv (n_v vs 28)) (v_iv (n_v vs 29)) (v_iv (n_v vs 30)) (w_ei ws (v_ad (n_v vs 5))) (w_ei ws (v_ad (n_v vs 0))) (w_ei w1 (v_ad (n_v vs 0))) (w_ei w1 (v_ad (n_v vs 5))) k1 k2 k3 k4 k14 k15 k16 k18 k19 k20 k21 k22 k23 k24 k25 k26 k27 k28 k29 k30 d0 d4 f0 f1 f2 h3 h4 h6 f7 f8 h9 f21 f22 h23 f25 f27 f29 f30 hE_0_999_1 hE_5_999_1
  refine ⟨(fun _ h => (by cases h)), [], trivial, ?_, (fun _ h => (by cases h))⟩
  rw [List.append_nil]
  exact List.forall_mem_cons.mpr ⟨⟨show (20 : Nat) < 100 from by decide, nf0⟩, List.forall_mem_cons.mpr ⟨⟨show (20 : Nat) < 100 from by decide, nf1⟩, (fun _ h => (by cases h))⟩⟩
set_option maxHeartbeats 4000000 in
theorem vc_Fa_shortestWay_at_Grnear_Pnlevel_Pnway_5_0 (x1 : Int) (x2 : Int) (x3 : Int) (x4 : Int) (x8 : Int) (x14 : Int) (x15 : Int) (x16 : Int) (x18 : Int) (x19 : Int) (x20 : Int) (x21 : Int) (x22 : Int) (x23 : Int) (x24 : Int) (x25 : Int) (x27 : Int) (x28 : Int) (x29 : Int) (x30 : Int) (a5_0 : Int → Int) (a0_0 : Int → Int) (a0_1 : Int → Int) (a5_1 : Int → Int) (k1 : 2 ≤ x1 ∧ x1 ≤ 24) (k2 : 0 ≤ x2 ∧ x2 ≤ 23) (k3 : 0 ≤ x3 ∧ x3 ≤ 16777215) (k4 : 0 ≤ x4 ∧ x4 ≤ 16777215) (k8 : 2 ≤ x8 ∧ x8 ≤ 24) (k14 : 0 ≤ x14 ∧ x14 ≤ 16777215) (k15 : 0 ≤ x15 ∧ x15 ≤ 0) (k16 : 1 ≤ x16 ∧ x16 ≤ 23) (k18 : 0 ≤ x18 ∧ x18 ≤ 22) (k19 : 0 ≤ x19 ∧ x19 ≤ 16777215) (k20 : 0 ≤ x20 ∧ x20 ≤ 16777215) (k21 : 0 ≤ x21 ∧ x21 ≤ 16777215) (k22 : 0 ≤ x22 ∧ x22 ≤ 16777215) (k23 : (-1) ≤ x23 ∧ x23 ≤ (-1)) (k24 : (-2147483648) ≤ x24 ∧ x24 ≤ 2147483647) (k25 : 0 ≤ x25 ∧ x25 ≤ 16777215) (k27 : 0 ≤ x27 ∧ x27 ≤ 16777215) (k28 : 0 ≤ x28 ∧ x28 ≤ 16777215) (k29 : 1 ≤ x29 ∧ x29 ≤ 16777215) (k30 : 2 ≤ x30 ∧ x30 ≤ 24) (d0 : x16 + 1 ≤ x30 ∧ x30 ≤ x16 + 1) (d4 : x16 + (-1) ≤ x18 ∧ x18 ≤ x16 + (-1)) (d9 : x8 + (-4294967296) ≤ x1 ∧ x1 ≤ x8 + 0) (d13 : x1 + (-4294967296) ≤ x8 ∧ x8 ≤ x1 + 0) (f0 : x30 = x16 + 1) (f2 : bvp (x29) = bvp (x27) &&& bvp (x28)) (h3 : x28 = a5_0 (x16)) (h4 : x27 = a0_0 (x2)) (f7 : bvp (x25) = bvp (x14) &&& bvp (x24)) (f8 : bvp (x24) = bvp (x22) ^^^ bvp (x23)) (h9 : x22 = a5_0 (x16)) (f21 : bvp (x21) = bvp (x20) &&& bvp (x14)) (f22 : NEF (a0_1) (x1) (x19) (x20)) (h23 : x19 = a5_1 (x18)) (f25 : x15 = 0) (f27 : LV1 (a0_1) (a5_1) (x1) (x2) (x3) (x4) (x14) (x15) (x16)) (hE_0_999_1 : ∀ j : Int, a0_0 j = a0_1 j) (hE_5_999_1 : ∀ j : Int, 0 ≤ j → (j = x16 → a5_0 j = x21) ∧ (j ≠ x16 → a5_0 j = a5_1 j)) : LV1 (a0_0) (a5_0) (x1) (x2) (x3) (x4) (x25) (x16) (x30) := by
  have e_hE_0_999_1 := funext hE_0_999_1; subst e_hE_0_999_1
  first
    | (have e21 : a5_0 x16 = x21 := (hE_5_999_1 x16 (by omega)).1 rfl
       have e19 : x19 = a5_1 (x16 - 1) := by rw [show x16 - 1 = x18 by omega]; assumption
       have e24 : bvp x24 = bvp x21 ^^^ bvp (-1) := by rw [← e21, ← ‹x22 = a5_0 x16›, show (-1 : Int) = x23 by omega]; assumption
       have q := (lv1_new (r := x24) ‹LV1 _ _ _ _ _ _ _ _ _› (by omega) e19 ‹NEF _ _ _ _› ‹bvp x21 = _› hE_5_999_1 rfl e24 ‹bvp x25 = _› (by omega)).2
       rw [show x15 = 0 by omega, show x30 = x16 + 1 by omega]
       exact q)
    | (have e21 : a5_0 x16 = x21 := (hE_5_999_1 x16 (by omega)).1 rfl
       have e19 : x19 = a5_1 (x16 - 1) := by rw [show x16 - 1 = x18 by omega]; assumption
       have e24 : bvp x24 = bvp x21 ^^^ bvp (-1) := by rw [← e21, ← ‹x22 = a5_0 x16›, show (-1 : Int) = x23 by omega]; assumption
       obtain ⟨w, w0, w1, w2⟩ := bit_ex (x := x29) (by omega) (by omega)
       have w3 := (bit_and ‹bvp x29 = _› w).mp w2
       have w5 : bit x21 w := by rw [← e21, ← (by assumption : x28 = a5_0 x16)]; exact w3.2
       have q := (lv1_new (r := x24) ‹LV1 _ _ _ _ _ _ _ _ _› (by omega) e19 ‹NEF _ _ _ _› ‹bvp x21 = _› hE_5_999_1 rfl e24 ‹bvp x25 = _› (by omega)).1 w ⟨w0, w1, by first | (rw [← (by assumption : x27 = a0_0 x2)]; exact w3.1) | (rw [← (by assumption : x27 = a0_1 x2)]; exact w3.1), w5⟩
       rw [show x30 = x16 + 1 by omega]
       exact q)
set_option maxHeartbeats 4000000 in
theorem vc_Fa_shortestWay_at_Grnear_Pnlevel_Pnway_5_1 (x1 : Int) (x2 : Int) (x3 : Int) (x4 : Int) (x14 : Int) (x15 : Int) (x16 : Int) (x18 : Int) (x19 : Int) (x20 : Int) (x21 : Int) (x22 : Int) (x23 : Int) (x24 : Int) (x25 : Int) (x26 : Int) (x27 : Int) (x28 : Int) (x29 : Int) (x30 : Int) (a5_0 : Int → Int) (a0_0 : Int → Int) (a0_1 : Int → Int) (a5_1 : Int → Int) (k1 : 2 ≤ x1 ∧ x1 ≤ 24) (k2 : 0 ≤ x2 ∧ x2 ≤ 23) (k3 : 0 ≤ x3 ∧ x3 ≤ 16777215) (k4 : 0 ≤ x4 ∧ x4 ≤ 16777215) (k14 : 0 ≤ x14 ∧ x14 ≤ 16777215) (k15 : 0 ≤ x15 ∧ x15 ≤ 0) (k16 : 1 ≤ x16 ∧ x16 ≤ 23) (k18 : 0 ≤ x18 ∧ x18 ≤ 22) (k19 : 0 ≤ x19 ∧ x19 ≤ 16777215) (k20 : 0 ≤ x20 ∧ x20 ≤ 16777215) (k21 : 0 ≤ x21 ∧ x21 ≤ 16777215) (k22 : 0 ≤ x22 ∧ x22 ≤ 16777215) (k23 : (-1) ≤ x23 ∧ x23 ≤ (-1)) (k24 : (-2147483648) ≤ x24 ∧ x24 ≤ 2147483647) (k25 : 0 ≤ x25 ∧ x25 ≤ 16777215) (k26 : 1 ≤ x26 ∧ x26 ≤ 16777215) (k30 : 2 ≤ x30 ∧ x30 ≤ 24) (d0 : x16 + 1 ≤ x30 ∧ x30 ≤ x16 + 1) (d4 : x16 + (-1) ≤ x18 ∧ x18 ≤ x16 + (-1)) (f0 : x30 = x16 + 1) (h6 : x26 = a5_0 (x16)) (f7 : bvp (x25) = bvp (x14) &&& bvp (x24)) (f8 : bvp (x24) = bvp (x22) ^^^ bvp (x23)) (h9 : x22 = a5_0 (x16)) (f21 : bvp (x21) = bvp (x20) &&& bvp (x14)) (f22 : NEF (a0_1) (x1) (x19) (x20)) (h23 : x19 = a5_1 (x18)) (f25 : x15 = 0) (f27 : LV1 (a0_1) (a5_1) (x1) (x2) (x3) (x4) (x14) (x15) (x16)) (f29 : FRN (x1) (x4)) (f30 : LV3 (a0_1) (a5_1) (x1) (x2) (x3) (x4) (x14) (x15) (x16)) (hE_0_999_1 : ∀ j : Int, a0_0 j = a0_1 j) (hE_5_999_1 : ∀ j : Int, 0 ≤ j → (j = x16 → a5_0 j = x21) ∧ (j ≠ x16 → a5_0 j = a5_1 j)) : LV3 (a0_0) (a5_0) (x1) (x2) (x3) (x4) (x25) (x16) (x30) := by
  have e_hE_0_999_1 := funext hE_0_999_1; subst e_hE_0_999_1
  first
    | (have e21 : a5_0 x16 = x21 := (hE_5_999_1 x16 (by omega)).1 rfl
       have e19 : x19 = a5_1 (x16 - 1) := by rw [show x16 - 1 = x18 by omega]; assumption
       have e24 : bvp x24 = bvp x21 ^^^ bvp (-1) := by rw [← e21, ← ‹x22 = a5_0 x16›, show (-1 : Int) = x23 by omega]; assumption
       have x0 : ∃ w, 0 ≤ w ∧ w < 32 ∧ bit x21 w := bit_ex (by omega) (by omega)
       first
         | exact lv3_new (r := x24) ‹LV3 _ _ _ _ _ _ _ _ _› (fun w a b z => (‹LV1 _ _ _ _ _ _ _ _ _›).2.2.2.1 w a b z) ‹FRN _ _› e19 ‹NEF _ _ _ _› ‹bvp x21 = _› hE_5_999_1 rfl e24 ‹bvp x25 = _› (by omega) x0 (Or.inr (fun w a b z y => by
             have w5 : bit x29 w := (bit_and ‹bvp x29 = _› w).mpr ⟨by first | (rw [(by assumption : x27 = a0_0 x2)]; exact z) | (rw [(by assumption : x27 = a0_1 x2)]; exact z), by rw [(by assumption : x28 = a5_0 x16), e21]; exact y⟩
             rw [show x29 = 0 by omega] at w5
             exact bit_zero w w5)) (by omega)
         | exact lv3_new (r := x24) ‹LV3 _ _ _ _ _ _ _ _ _› (fun w a b z => (‹LV1 _ _ _ _ _ _ _ _ _›).2.2.2.1 w a b z) ‹FRN _ _› e19 ‹NEF _ _ _ _› ‹bvp x21 = _› hE_5_999_1 rfl e24 ‹bvp x25 = _› (by omega) x0 (Or.inl (by omega)) (by omega))
def o_Fa_shortestWay_at_Grnear_Pnlevel_Pnway_5 : or_T := (15, 31, [(0, (2, 0, 0, [59])), (1, (0, 2, 24, [])), (2, (0, 0, 23, [])), (3, (0, 0, 16777215, [])), (4, (0, 0, 16777215, [])), (5, (2, 0, 0, [105])), (6, (2, 0, 0, [106])), (7, (2, 0, 0, [59])), (8, (0, 2, 24, [])), (9, (0, 0, 23, [])), (10, (0, 0, 16777215, [])), (11, (0, 0, 16777215, [])), (12, (2, 0, 0, [105])), (13, (2, 0, 0, [106])), (14, (0, 0, 16777215, [])), (15, (0, 0, 0, [])), (16, (0, 1, 23, [])), (17, (0, 1, 1, [])), (18, (0, 0, 22, [])), (19, (0, 0, 16777215, [])), (20, (0, 0, 16777215, [])), (21, (0, 0, 16777215, [])), (22, (0, 0, 16777215, [])), (23, (0, -1, -1, [])), (24, (0, -2147483648, 2147483647, [])), (25, (0, 0, 16777215, [])), (26, (0, 1, 16777215, [])), (27, (0, 0, 16777215, [])), (28, (0, 0, 16777215, [])), (29, (0, 1, 16777215, [])), (30, (0, 2, 24, []))], [(6, [30, 16], [1]), (8, [29], [1]), (16, [29, 27, 28], [0]), (10, [28, 12, 16], []), (10, [27, 7, 9], []), (8, [26], [1]), (10, [26, 12, 16], []), (16, [25, 14, 24], [0]), (16, [24, 22, 23], [2]), (10, [22, 12, 16], []), (20, [7, 8, 19, 20], [61, 1, 557]), (20, [7, 8], [61, 1, 560]), (20, [8, 11], [61, 0, 561]), (24, [0, 7], []), (24, [1, 8], []), (24, [2, 9], []), (24, [3, 10], []), (24, [4, 11], []), (24, [5, 12], []), (24, [6, 13], []), (100, [12, 16, 21], []), (16, [21, 20, 14], [0]), (20, [7, 8, 19, 20], [61, 1, 557]), (10, [19, 12, 18], []), (2, [18, 16, 17], []), (8, [15], [0]), (7, [16, 8], [2]), (20, [7, 12, 8, 9, 10, 11, 14, 15, 16], [61, 2, 562]), (20, [7, 8], [61, 1, 560]), (20, [8, 11], [61, 0, 561]), (20, [7, 12, 8, 9, 10, 11, 14, 15, 16], [61, 2, 898])], [], [], [(20, [7, 12, 8, 9, 10, 11, 25, 16, 30], [61, 2, 562]), (20, [7, 12, 8, 9, 10, 11, 25, 16, 30], [61, 2, 898])], [], [(30, 16, 1, 1), (30, 8, -4294967296, 0), (30, 1, -4294967296, 1), (30, 8, -4294967296, 1), (18, 16, -1, -1), (18, 8, -4294967296, -2), (18, 1, -4294967296, -1), (18, 8, -4294967296, -1), (16, 8, -4294967296, -1), (1, 8, -4294967296, 0), (2, 9, -4294967296, 0), (3, 10, -4294967296, 0), (4, 11, -4294967296, 0), (8, 1, -4294967296, 0), (9, 2, -4294967296, 0), (10, 3, -4294967296, 0), (11, 4, -4294967296, 0), (16, 1, -4294967296, 0), (16, 8, -4294967296, 0)])
theorem oo_Fa_shortestWay_at_Grnear_Pnlevel_Pnway_5 {kA : Nat → ClassId} : or_ok PRD kA GG o_Fa_shortestWay_at_Grnear_Pnlevel_Pnway_5 := by
  refine or_mk fun A ta ws vs hD hth hl => ?_
  intro t0 r0 t1 k1 t2 k2 t3 k3 t4 k4 t5 r5 t6 r6 t7 r7 t8 k8 t9 k9 t10 k10 t11 k11 t12 r12 t13 r13 t14 k14 t15 k15 t16 k16 t17 k17 t18 k18 t19 k19 t20 k20 t21 k21 t22 k22 t23 k23 t24 k24 t25 k25 t26 k26 t27 k27 t28 k28 t29 k29 t30 k30 d0 d1 d2 d3 d4 d5 d6 d7 d8 d9 d10 d11 d12 d13 d14 d15 d16 d17 d18 f0 f1 f2 f3 f4 f5 f6 f7 f8 f9 f10 f11 f12 f13 f14 f15 f16 f17 f18 f19 ta1 w1 le1 s1 f21 f22 f23 f24 f25 f26 f27 f28 f29 f30
  replace f0 := shm_4 f0
  replace f2 := shm_11 f2
  replace f3 := shm_107 f3
  replace f4 := shm_107 f4
  replace f6 := shm_107 f6
  replace f7 := shm_11 f7
  replace f8 := shm_33 f8
  replace f9 := shm_107 f9
  replace f13 := shm_5 f13
  replace f14 := shm_5 f14
  replace f15 := shm_5 f15
  replace f16 := shm_5 f16
  replace f17 := shm_5 f17
  replace f18 := shm_5 f18
  have s1 : (∀ b j, w_el ws b j = if b = v_ad (n_v vs 12) ∧ j = (v_iv (n_v vs 16)).toNat then v_iv (n_v vs 21) else w_el w1 b j) ∧ ∀ b k, w_fd ws b k = w_fd w1 b k := s1.2
  replace f21 := shm_11 f21
  replace f22 := shm_363 f22
  replace f23 := shm_107 f23
  replace f25 := shm_192 f25
  replace f27 := shm_1184 f27
  replace f29 := shm_1181 f29
  replace f30 := shm_1185 f30
  have q7 : n_v vs 7 = n_v vs 0 := f13.symm
  have q8 : n_v vs 8 = n_v vs 1 := f14.symm
  have q9 : n_v vs 9 = n_v vs 2 := f15.symm
  have q10 : n_v vs 10 = n_v vs 3 := f16.symm
  have q11 : n_v vs 11 = n_v vs 4 := f17.symm
  have q12 : n_v vs 12 = n_v vs 5 := f18.symm
  simp only [q12, q7, q9] at f3 f4 f6 f9
  rw [q12] at s1
  simp only [q7, q8, q12, q9, q10, q11] at f22 f23 f27 f29 f30
  have cr_0_999 : ta (v_ad (n_v vs 0)) = some 59 := r0
  have ad_5 : v_ad (n_v vs 5) = v_ad (n_v vs 5) := rfl
  have h3 : v_iv (n_v vs 28) = w_ei ws (v_ad (n_v vs 5)) (v_iv (n_v vs 16)) := f3
  have h4 : v_iv (n_v vs 27) = w_ei ws (v_ad (n_v vs 0)) (v_iv (n_v vs 2)) := f4
  have h6 : v_iv (n_v vs 26) = w_ei ws (v_ad (n_v vs 5)) (v_iv (n_v vs 16)) := f6
  have h9 : v_iv (n_v vs 22) = w_ei ws (v_ad (n_v vs 5)) (v_iv (n_v vs 16)) := f9
  have h23 : v_iv (n_v vs 19) = w_ei w1 (v_ad (n_v vs 5)) (v_iv (n_v vs 18)) := f23
  have hE_0_999_1 : ∀ j : Int, w_ei ws (v_ad (n_v vs 0)) j = w_ei w1 (v_ad (n_v vs 0)) j := el_kp s1.1 r5 cr_0_999 (by decide)
  have hE_5_999_1 : ∀ j : Int, 0 ≤ j → (j = v_iv (n_v vs 16) → w_ei ws (v_ad (n_v vs 5)) j = v_iv (n_v vs 21)) ∧ (j ≠ v_iv (n_v vs 16) → w_ei ws (v_ad (n_v vs 5)) j = w_ei w1 (v_ad (n_v vs 5)) j) := fun j hj => ⟨fun h => by unfold w_ei; rw [s1.1, if_pos ⟨ad_5.symm, by rw [h]⟩], fun h => by unfold w_ei; rw [s1.1, if_neg (fun e => h (by have := e.2; omega))]⟩
  have nf0 : fc_1 PRD (20, [7, 12, 8, 9, 10, 11, 25, 16, 30], [61, 2, 562]) ws (vs) := by
    refine ⟨nf_in hl rfl, sgq_1184 ?_⟩
    · show LV1 (w_ei ws (v_ad (n_v vs 7))) (w_ei ws (v_ad (n_v vs 12))) (v_iv (n_v vs 8)) (v_iv (n_v vs 9)) (v_iv (n_v vs 10)) (v_iv (n_v vs 11)) (v_iv (n_v vs 25)) (v_iv (n_v vs 16)) (v_iv (n_v vs 30))
      simp only [q7, q8, q9, q10, q11, q12]
      exact vc_Fa_shortestWay_at_Grnear_Pnlevel_Pnway_5_0 (v_iv (n_v vs 1)) (v_iv (n_v vs 2)) (v_iv (n_v vs 3)) (v_iv (n_v vs 4)) (v_iv (n_v vs 8)) (v_iv (n_v vs 14)) (v_iv (n_v vs 15)) (v_iv (n_v vs 16)) (v_iv (n_v vs 18)) (v_iv (n_v vs 19)) (v_iv (n_v vs 20)) (v_iv (n_v vs 21)) (v_iv (n_v vs 22)) (v_iv (n_v vs 23)) (v_iv (n_v vs 24)) (v_iv (n_v vs 25)) (v_iv (n_v vs 27)) (v_iv (n_v vs 28)) (v_iv (n_v vs 29)) (v_iv (n_v vs 30)) (w_ei ws (v_ad (n_v vs 5))) (w_ei ws (v_ad (n_v vs 0))) (w_ei w1 (v_ad (n_v vs 0))) (w_ei w1 (v_ad (n_v vs 5))) k1 k2 k3 k4 k8 k14 k15 k16 k18 k19 k20 k21 k22 k23 k24 k25 k27 k28 k29 k30 d0 d4 d9 d13 f0 f2 h3 h4 f7 f8 h9 f21 f22 h23 f25 f27 hE_0_999_1 hE_5_999_1
  have nf1 : fc_1 PRD (20, [7, 12, 8, 9, 10, 11, 25, 16, 30], [61, 2, 898]) ws (vs) := by
    refine ⟨nf_in hl rfl, sgq_1185 ?_⟩
    · show LV3 (w_ei ws (v_ad (n_v vs 7))) (w_ei ws (v_ad (n_v vs 12))) (v_iv (n_v vs 8)) (v_iv (n_v vs 9)) (v_iv (n_v vs 10)) (v_iv (n_v vs 11)) (v_iv (n_v vs 25)) (v_iv (n_v vs 16)) (v_iv (n_v vs 30))
      simp only [q7, q8, q9, q10, q11, q12]
      exact vc_Fa_shortestWay_at_Grnear_Pnlevel_Pnway_5_1 (v_iv (n_v vs 1)) (v_iv (n_v vs 2)) (v_iv (n_v vs 3)) (v_iv (n_v vs 4)) (v_iv (n_v vs 14)) (v_iv (n_v vs 15)) (v_iv (n_v vs 16)) (v_iv (n_v vs 18)) (v_iv (n_v vs 19)) (v_iv (n_v vs 20)) (v_iv (n_v vs 21)) (v_iv (n_v vs 22)) (v_iv (n_v vs 23)) (v_iv (n_v vs 24)) (v_iv (n_v vs 25)) (v_iv (n_v vs 26)) (v_iv (n_v vs 27)) (v_iv (n_v vs 28)) (v_iv (n_v vs 29)) (v_iv (n_v vs 30)) (w_ei ws (v_ad (n_v vs 5))) (w_ei ws (v_ad (n_v vs 0))) (w_ei w1 (v_ad (n_v vs 0))) (w_ei w1 (v_ad (n_v vs 5))) k1 k2 k3 k4 k14 k15 k16 k18 k19 k20 k21 k22 k23 k24 k25 k26 k30 d0 d4 f0 h6 f7 f8 h9 f21 f22 h23 f25 f27 f29 f30 hE_0_999_1 hE_5_999_1
  refine ⟨(fun _ h => (by cases h)), [], trivial, ?_, (fun _ h => (by cases h))⟩
  rw [List.append_nil]
  exact List.forall_mem_cons.mpr ⟨⟨show (20 : Nat) < 100 from by decide, nf0⟩, List.forall_mem_cons.mpr ⟨⟨show (20 : Nat) < 100 from by decide, nf1⟩, (fun _ h => (by cases h))⟩⟩
set_option maxHeartbeats 4000000 in
theorem vc_Fa_shortestWay_at_Grnear_Pnlevel_Pnway_6_0 (x2 : Int) (x3 : Int) (x4 : Int) (x27 : Int) (a0_0 : Int → Int) (a0_1 : Int → Int) (a6_0 : Int → Int) (a6_1 : Int → Int) (k2 : 0 ≤ x2 ∧ x2 ≤ 23) (k3 : 0 ≤ x3 ∧ x3 ≤ 16777215) (k4 : 0 ≤ x4 ∧ x4 ≤ 16777215) (k27 : 0 ≤ x27 ∧ x27 ≤ 0) (hE_0_999_1 : ∀ j : Int, a0_0 j = a0_1 j) (hE_6_999_1 : ∀ j : Int, a6_0 j = a6_1 j) : SHW (a6_0) (x2) (x3) (x4) (x27) := by
  have e_hE_0_999_1 := funext hE_0_999_1; subst e_hE_0_999_1
  have e_hE_6_999_1 := funext hE_6_999_1; subst e_hE_6_999_1
  first
    | exact shw_zero (by omega)
set_option maxHeartbeats 4000000 in
theorem vc_Fa_shortestWay_at_Grnear_Pnlevel_Pnway_6_1 (x1 : Int) (x2 : Int) (x3 : Int) (x4 : Int) (x14 : Int) (x15 : Int) (x16 : Int) (x18 : Int) (x19 : Int) (x20 : Int) (x21 : Int) (x26 : Int) (x27 : Int) (a5_0 : Int → Int) (a0_0 : Int → Int) (a0_1 : Int → Int) (a5_1 : Int → Int) (a6_0 : Int → Int) (a6_1 : Int → Int) (k1 : 2 ≤ x1 ∧ x1 ≤ 24) (k2 : 0 ≤ x2 ∧ x2 ≤ 23) (k3 : 0 ≤ x3 ∧ x3 ≤ 16777215) (k4 : 0 ≤ x4 ∧ x4 ≤ 16777215) (k14 : 0 ≤ x14 ∧ x14 ≤ 16777215) (k15 : 0 ≤ x15 ∧ x15 ≤ 0) (k16 : 1 ≤ x16 ∧ x16 ≤ 23) (k18 : 0 ≤ x18 ∧ x18 ≤ 22) (k19 : 0 ≤ x19 ∧ x19 ≤ 16777215) (k20 : 0 ≤ x20 ∧ x20 ≤ 16777215) (k21 : 0 ≤ x21 ∧ x21 ≤ 16777215) (k26 : 0 ≤ x26 ∧ x26 ≤ 0) (k27 : 0 ≤ x27 ∧ x27 ≤ 0) (d0 : x16 + (-1) ≤ x18 ∧ x18 ≤ x16 + (-1)) (h1 : x26 = a5_0 (x16)) (f16 : bvp (x21) = bvp (x20) &&& bvp (x14)) (f17 : NEF (a0_1) (x1) (x19) (x20)) (h18 : x19 = a5_1 (x18)) (f20 : x15 = 0) (f22 : LV1 (a0_1) (a5_1) (x1) (x2) (x3) (x4) (x14) (x15) (x16)) (f25 : LV3 (a0_1) (a5_1) (x1) (x2) (x3) (x4) (x14) (x15) (x16)) (hE_0_999_1 : ∀ j : Int, a0_0 j = a0_1 j) (hE_5_999_1 : ∀ j : Int, 0 ≤ j → (j = x16 → a5_0 j = x21) ∧ (j ≠ x16 → a5_0 j = a5_1 j)) (hE_6_999_1 : ∀ j : Int, a6_0 j = a6_1 j) : SHZ (a0_0) (x1) (x2) (x3) (x4) (x27) := by
  have e_hE_0_999_1 := funext hE_0_999_1; subst e_hE_0_999_1
  have e_hE_6_999_1 := funext hE_6_999_1; subst e_hE_6_999_1
  first
    | (have e21 : a5_0 x16 = x21 := (hE_5_999_1 x16 (by omega)).1 rfl
       have e19 : x19 = a5_1 (x16 - 1) := by rw [show x16 - 1 = x18 by omega]; assumption
       exact shz_a (x := x21) ‹LV3 _ _ _ _ _ _ _ _ _› ‹LV1 _ _ _ _ _ _ _ _ _› (by omega) e19 ‹NEF _ _ _ _› ‹bvp x21 = _› (by omega))
def o_Fa_shortestWay_at_Grnear_Pnlevel_Pnway_6 : or_T := (67, 28, [(0, (2, 0, 0, [59])), (1, (0, 2, 24, [])), (2, (0, 0, 23, [])), (3, (0, 0, 16777215, [])), (4, (0, 0, 16777215, [])), (5, (2, 0, 0, [105])), (6, (2, 0, 0, [106])), (14, (0, 0, 16777215, [])), (15, (0, 0, 0, [])), (16, (0, 1, 23, [])), (18, (0, 0, 22, [])), (19, (0, 0, 16777215, [])), (20, (0, 0, 16777215, [])), (21, (0, 0, 16777215, [])), (26, (0, 0, 0, [])), (27, (0, 0, 0, []))], [(10, [26, 12, 16], []), (24, [0, 7], []), (24, [1, 8], []), (24, [2, 9], []), (24, [3, 10], []), (24, [4, 11], []), (24, [5, 12], []), (100, [12, 16, 21], []), (16, [21, 20, 14], [0]), (20, [7, 8, 19, 20], [61, 1, 557]), (10, [19, 12, 18], []), (8, [15], [0]), (20, [7, 12, 8, 9, 10, 11, 14, 15, 16], [61, 2, 562]), (20, [7, 12, 8, 9, 10, 11, 14, 15, 16], [61, 2, 898])], [], [], [(20, [6, 2, 3, 4, 27], [61, 1, 564]), (20, [0, 1, 2, 3, 4, 27], [61, 1, 899])], [], [(18, 16, -1, -1), (16, 8, -4294967296, -1), (16, 1, -4294967296, 0), (16, 8, -4294967296, 0)])
theorem oo_Fa_shortestWay_at_Grnear_Pnlevel_Pnway_6 {kA : Nat → ClassId} : or_ok PRD kA GG o_Fa_shortestWay_at_Grnear_Pnlevel_Pnway_6 := by
  refine or_mk fun A ta ws vs hD hth hl => ?_
  intro t0 r0 t1 k1 t2 k2 t3 k3 t4 k4 t5 r5 t6 r6 t14 k14 t15 k15 t16 k16 t18 k18 t19 k19 t20 k20 t21 k21 t26 k26 t27 k27 d0 d4 d13 d14 f1 f8 f9 f10 f11 f12 f13 ta1 w1 le1 s1 f16 f17 f18 f20 f22 f25
  replace f1 := shm_107 f1
  replace f8 := shm_5 f8
  replace f9 := shm_5 f9
  replace f10 := shm_5 f10
  replace f11 := shm_5 f11
  replace f12 := shm_5 f12
  replace f13 := shm_5 f13
  have s1 : (∀ b j, w_el ws b j = if b = v_ad (n_v vs 12) ∧ j = (v_iv (n_v vs 16)).toNat then v_iv (n_v vs 21) else w_el w1 b j) ∧ ∀ b k, w_fd ws b k = w_fd w1 b k := s1.2
  replace f17 := shm_363 f17
  replace f18 := shm_107 f18
  replace f22 := shm_1184 f22
  replace f25 := shm_1185 f25
  have q7 : n_v vs 7 = n_v vs 0 := f8.symm
  have q8 : n_v vs 8 = n_v vs 1 := f9.symm
  have q9 : n_v vs 9 = n_v vs 2 := f10.symm
  have q10 : n_v vs 10 = n_v vs 3 := f11.symm
  have q11 : n_v vs 11 = n_v vs 4 := f12.symm
  have q12 : n_v vs 12 = n_v vs 5 := f13.symm
  simp only [q12] at f1
  rw [q12] at s1
  simp only [q7, q8, q12, q9, q10, q11] at f17 f18 f22 f25
  have cr_0_999 : ta (v_ad (n_v vs 0)) = some 59 := r0
  have cr_6_999 : ta (v_ad (n_v vs 6)) = some 106 := r6
  have ad_5 : v_ad (n_v vs 5) = v_ad (n_v vs 5) := rfl
  have h1 : v_iv (n_v vs 26) = w_ei ws (v_ad (n_v vs 5)) (v_iv (n_v vs 16)) := f1
  have h18 : v_iv (n_v vs 19) = w_ei w1 (v_ad (n_v vs 5)) (v_iv (n_v vs 18)) := f18
  have hE_0_999_1 : ∀ j : Int, w_ei ws (v_ad (n_v vs 0)) j = w_ei w1 (v_ad (n_v vs 0)) j := el_kp s1.1 r5 cr_0_999 (by decide)
  have hE_5_999_1 : ∀ j : Int, 0 ≤ j → (j = v_iv (n_v vs 16) → w_ei ws (v_ad (n_v vs 5)) j = v_iv (n_v vs 21)) ∧ (j ≠ v_iv (n_v vs 16) → w_ei ws (v_ad (n_v vs 5)) j = w_ei w1 (v_ad (n_v vs 5)) j) := fun j hj => ⟨fun h => by unfold w_ei; rw [s1.1, if_pos ⟨ad_5.symm, by rw [h]⟩], fun h => by unfold w_ei; rw [s1.1, if_neg (fun e => h (by have := e.2; omega))]⟩
  have hE_6_999_1 : ∀ j : Int, w_ei ws (v_ad (n_v vs 6)) j = w_ei w1 (v_ad (n_v vs 6)) j := el_kp s1.1 r5 cr_6_999 (by decide)
  have nf0 : fc_1 PRD (20, [6, 2, 3, 4, 27], [61, 1, 564]) ws (vs) := ⟨nf_in hl rfl, sgq_1187 (vc_Fa_shortestWay_at_Grnear_Pnlevel_Pnway_6_0 (v_iv (n_v vs 2)) (v_iv (n_v vs 3)) (v_iv (n_v vs 4)) (v_iv (n_v vs 27)) (w_ei ws (v_ad (n_v vs 0))) (w_ei w1 (v_ad (n_v vs 0))) (w_ei ws (v_ad (n_v vs 6))) (w_ei w1 (v_ad (n_v vs 6))) k2 k3 k4 k27 hE_0_999_1 hE_6_999_1)⟩
  have nf1 : fc_1 PRD (20, [0, 1, 2, 3, 4, 27], [61, 1, 899]) ws (vs) := ⟨nf_in hl rfl, sgq_1188 (vc_Fa_shortestWay_at_Grnear_Pnlevel_Pnway_6_1 (v_iv (n_v vs 1)) (v_iv (n_v vs 2)) (v_iv (n_v vs 3)) (v_iv (n_v vs 4)) (v_iv (n_v vs 14)) (v_iv (n_v vs 15)) (v_iv (n_v vs 16)) (v_iv (n_v vs 18)) (v_iv (n_v vs 19)) (v_iv (n_v vs 20)) (v_iv (n_v vs 21)) (v_iv (n_v vs 26)) (v_iv (n_v vs 27)) (w_ei ws (v_ad (n_v vs 5))) (w_ei ws (v_ad (n_v vs 0))) (w_ei w1 (v_ad (n_v vs 0))) (w_ei w1 (v_ad (n_v vs 5))) (w_ei ws (v_ad (n_v vs 6))) (w_ei w1 (v_ad (n_v vs 6))) k1 k2 k3 k4 k14 k15 k16 k18 k19 k20 k21 k26 k27 d0 h1 (shm_11 f16) f17 h18 (shm_192 f20) f22 f25 hE_0_999_1 hE_5_999_1 hE_6_999_1)⟩
  refine ⟨(fun _ h => (by cases h)), [], trivial, ?_, (fun _ h => (by cases h))⟩
  rw [List.append_nil]
  exact List.forall_mem_cons.mpr ⟨⟨show (20 : Nat) < 100 from by decide, nf0⟩, List.forall_mem_cons.mpr ⟨⟨show (20 : Nat) < 100 from by decide, nf1⟩, (fun _ h => (by cases h))⟩⟩
set_option maxHeartbeats 4000000 in
theorem vc_Fa_shortestWay_at_Grnear_Pnlevel_Pnway_7_0 (x1 : Int) (x2 : Int) (x3 : Int) (x4 : Int) (x15 : Int) (x16 : Int) (x18 : Int) (a0_0 : Int → Int) (a5_0 : Int → Int) (a6_0 : Int → Int) (k1 : 1 ≤ x1 ∧ x1 ≤ 24) (k2 : 0 ≤ x2 ∧ x2 ≤ 23) (k3 : 0 ≤ x3 ∧ x3 ≤ 16777215) (k4 : 0 ≤ x4 ∧ x4 ≤ 16777215) (k15 : 1 ≤ x15 ∧ x15 ≤ 23) (k16 : (-1) ≤ x16 ∧ x16 ≤ (-1)) (k18 : 3 ≤ x18 ∧ x18 ≤ 25) (d0 : x15 + 2 ≤ x18 ∧ x18 ≤ x15 + 2) (f1 : x16 < 0) (f2 : LV2 (a0_0) (a5_0) (a6_0) (x1) (x2) (x3) (x4) (x15) (x16)) : SHW (a6_0) (x2) (x3) (x4) (x18) := by
  first
    | exact shw_of ‹LV2 _ _ _ _ _ _ _ _ _› (by omega) (by omega)
set_option maxHeartbeats 4000000 in
theorem vc_Fa_shortestWay_at_Grnear_Pnlevel_Pnway_7_1 (x1 : Int) (x2 : Int) (x3 : Int) (x4 : Int) (x16 : Int) (x18 : Int) (a0_0 : Int → Int) (a5_0 : Int → Int) (k1 : 1 ≤ x1 ∧ x1 ≤ 24) (k2 : 0 ≤ x2 ∧ x2 ≤ 23) (k3 : 0 ≤ x3 ∧ x3 ≤ 16777215) (k4 : 0 ≤ x4 ∧ x4 ≤ 16777215) (k18 : 3 ≤ x18 ∧ x18 ≤ 25) : SHZ (a0_0) (x1) (x2) (x3) (x4) (x18) := by
  first
    | exact shz_no (by omega)
def o_Fa_shortestWay_at_Grnear_Pnlevel_Pnway_7 : or_T := (150, 19, [(1, (0, 1, 24, [])), (2, (0, 0, 23, [])), (3, (0, 0, 16777215, [])), (4, (0, 0, 16777215, [])), (15, (0, 1, 23, [])), (16, (0, -1, -1, [])), (18, (0, 3, 25, []))], [(8, [16], [2]), (20, [7, 12, 13, 8, 9, 10, 11, 15, 16], [61, 3, 563]), (24, [0, 7], []), (24, [1, 8], []), (24, [2, 9], []), (24, [3, 10], []), (24, [4, 11], []), (24, [5, 12], []), (24, [6, 13], [])], [], [], [(20, [6, 2, 3, 4, 18], [61, 1, 564]), (20, [0, 1, 2, 3, 4, 18], [61, 1, 899])], [], [(18, 15, 2, 2)])
theorem oo_Fa_shortestWay_at_Grnear_Pnlevel_Pnway_7 {kA : Nat → ClassId} : or_ok PRD kA GG o_Fa_shortestWay_at_Grnear_Pnlevel_Pnway_7 := by
  refine or_mk fun A ta ws vs hD hth hl => ?_
  intro t1 k1 t2 k2 t3 k3 t4 k4 t15 k15 t16 k16 t18 k18 d0 f1 f2 f5 f6 f7 f8 f9 f10 f11
  replace f2 := shm_1189 f2
  replace f5 := shm_5 f5
  replace f6 := shm_5 f6
  replace f7 := shm_5 f7
  replace f8 := shm_5 f8
  replace f9 := shm_5 f9
  replace f10 := shm_5 f10
  replace f11 := shm_5 f11
  have q7 : n_v vs 7 = n_v vs 0 := f5.symm
  have q8 : n_v vs 8 = n_v vs 1 := f6.symm
  have q9 : n_v vs 9 = n_v vs 2 := f7.symm
  have q10 : n_v vs 10 = n_v vs 3 := f8.symm
  have q11 : n_v vs 11 = n_v vs 4 := f9.symm
  have q12 : n_v vs 12 = n_v vs 5 := f10.symm
  have q13 : n_v vs 13 = n_v vs 6 := f11.symm
  simp only [q7, q8, q9, q10, q11, q12, q13] at f2
  have nf0 : fc_1 PRD (20, [6, 2, 3, 4, 18], [61, 1, 564]) ws (vs) := ⟨nf_in hl rfl, sgq_1187 (vc_Fa_shortestWay_at_Grnear_Pnlevel_Pnway_7_0 (v_iv (n_v vs 1)) (v_iv (n_v vs 2)) (v_iv (n_v vs 3)) (v_iv (n_v vs 4)) (v_iv (n_v vs 15)) (v_iv (n_v vs 16)) (v_iv (n_v vs 18)) (w_ei ws (v_ad (n_v vs 0))) (w_ei ws (v_ad (n_v vs 5))) (w_ei ws (v_ad (n_v vs 6))) k1 k2 k3 k4 k15 k16 k18 d0 (shm_39 f1) f2)⟩
  have nf1 : fc_1 PRD (20, [0, 1, 2, 3, 4, 18], [61, 1, 899]) ws (vs) := ⟨nf_in hl rfl, sgq_1188 (vc_Fa_shortestWay_at_Grnear_Pnlevel_Pnway_7_1 (v_iv (n_v vs 1)) (v_iv (n_v vs 2)) (v_iv (n_v vs 3)) (v_iv (n_v vs 4)) (v_iv (n_v vs 16)) (v_iv (n_v vs 18)) (w_ei ws (v_ad (n_v vs 0))) (w_ei ws (v_ad (n_v vs 5))) k1 k2 k3 k4 k18)⟩
  refine ⟨(fun _ h => (by cases h)), [], trivial, ?_, (fun _ h => (by cases h))⟩
  rw [List.append_nil]
  exact List.forall_mem_cons.mpr ⟨⟨show (20 : Nat) < 100 from by decide, nf0⟩, List.forall_mem_cons.mpr ⟨⟨show (20 : Nat) < 100 from by decide, nf1⟩, (fun _ h => (by cases h))⟩⟩
set_option maxHeartbeats 4000000 in
theorem vc_Fa_shortestWay_at_Grnear_Pnlevel_Pnway_8_r0 (x1 : Int) (x2 : Int) (x3 : Int) (x4 : Int) (x15 : Int) (x16 : Int) (x20 : Int) (x21 : Int) (x22 : Int) (x23 : Int) (x24 : Int) (x25 : Int) (a5_0 : Int → Int) (a0_0 : Int → Int) (a6_0 : Int → Int) (k1 : 1 ≤ x1 ∧ x1 ≤ 24) (k2 : 0 ≤ x2 ∧ x2 ≤ 23) (k3 : 0 ≤ x3 ∧ x3 ≤ 16777215) (k4 : 0 ≤ x4 ∧ x4 ≤ 16777215) (k15 : 1 ≤ x15 ∧ x15 ≤ 23) (k16 : 0 ≤ x16 ∧ x16 ≤ 23) (k20 : 0 ≤ x20 ∧ x20 ≤ 23) (k21 : 0 ≤ x21 ∧ x21 ≤ 23) (k22 : 0 ≤ x22 ∧ x22 ≤ 16777215) (k23 : 0 ≤ x23 ∧ x23 ≤ 16777215) (k24 : 0 ≤ x24 ∧ x24 ≤ 16777215) (k25 : 0 ≤ x25 ∧ x25 ≤ 63) (f0 : LOW (x24) (x25)) (f1 : bvp (x24) = bvp (x22) &&& bvp (x23)) (h2 : x23 = a5_0 (x16)) (h3 : x22 = a0_0 (x21)) (h4 : x21 = a6_0 (x20)) (f5 : x20 = x15 - x16) (f8 : 0 ≤ x16) (f9 : LV2 (a0_0) (a5_0) (a6_0) (x1) (x2) (x3) (x4) (x15) (x16)) : 0 ≤ x25 ∧ x25 ≤ 23 := by
  first
    | (skip; (first | subst h2 | skip); (first | subst h3 | skip); (first | subst h4 | skip); have q := lv2_low ‹LV2 _ _ _ _ _ _ _ _ _› (by omega) (by assumption) (by rw [show (x15 - x16 : Int) = x20 by omega]) (by omega) (by omega) (by omega) ‹LOW _ _›; omega)
    | (skip; (first | subst h2 | skip); (first | subst h3 | skip); (first | subst h4 | skip); have q := lv2_low ‹LV2 _ _ _ _ _ _ _ _ _› (by omega) (by assumption) (by rw [show (x15 - x16 : Int) = x20 by omega]) (by omega) (by omega) (by omega) ‹LOW _ _›; have q2 := bit_lt24 (by omega) (by omega) q.1 q.2.1 q.2.2; omega)
def o_Fa_shortestWay_at_Grnear_Pnlevel_Pnway_8 : or_T := (139, 26, [(0, (2, 0, 0, [59])), (1, (0, 1, 24, [])), (2, (0, 0, 23, [])), (3, (0, 0, 16777215, [])), (4, (0, 0, 16777215, [])), (5, (2, 0, 0, [105])), (6, (2, 0, 0, [106])), (7, (2, 0, 0, [59])), (8, (0, 2, 24, [])), (9, (0, 0, 23, [])), (10, (0, 0, 16777215, [])), (11, (0, 0, 16777215, [])), (12, (2, 0, 0, [105])), (13, (2, 0, 0, [106])), (15, (0, 1, 23, [])), (16, (0, 0, 23, [])), (17, (0, 0, 23, [])), (18, (0, 1, 1, [])), (19, (0, 1, 24, [])), (20, (0, 0, 23, [])), (21, (0, 0, 23, [])), (22, (0, 0, 16777215, [])), (23, (0, 0, 16777215, [])), (24, (0, 0, 16777215, [])), (25, (0, 0, 63, []))], [(20, [24, 25], [61, 0, 555]), (16, [24, 22, 23], [0]), (10, [23, 12, 16], []), (10, [22, 7, 21], []), (10, [21, 13, 20], []), (2, [20, 15, 16], []), (1, [19, 17, 18], []), (2, [17, 15, 16], []), (8, [16], [3]), (20, [7, 12, 13, 8, 9, 10, 11, 15, 16], [61, 3, 563]), (20, [7, 8], [61, 1, 560]), (20, [8, 11], [61, 0, 561]), (24, [0, 7], []), (24, [1, 8], []), (24, [2, 9], []), (24, [3, 10], []), (24, [4, 11], []), (24, [5, 12], []), (24, [6, 13], [])], [(25, (0, 0, 23, []))], [], [], [], [(20, 15, -23, 0), (20, 1, -4294967296, -1), (20, 8, -4294967296, -1), (19, 17, 1, 1), (19, 15, -22, 1), (19, 1, -4294967296, 0), (19, 8, -4294967296, 0), (17, 15, -23, 0), (17, 1, -4294967296, -1), (17, 8, -4294967296, -1), (1, 8, -4294967296, 0), (2, 1, -4294967296, 21), (2, 9, -4294967296, 0), (3, 10, -4294967296, 0), (4, 11, -4294967296, 0), (8, 1, -4294967296, 0), (9, 1, -4294967296, 21), (9, 2, -4294967296, 0), (10, 3, -4294967296, 0), (11, 4, -4294967296, 0), (15, 1, -4294967296, -1), (15, 8, -4294967296, -1), (16, 1, -4294967296, -1), (16, 8, -4294967296, -1), (16, 15, -4294967296, 0)])
theorem oo_Fa_shortestWay_at_Grnear_Pnlevel_Pnway_8 {kA : Nat → ClassId} : or_ok PRD kA GG o_Fa_shortestWay_at_Grnear_Pnlevel_Pnway_8 := by
  refine or_mk fun A ta ws vs hD hth hl => ?_
  intro t0 r0 t1 k1 t2 k2 t3 k3 t4 k4 t5 r5 t6 r6 t7 r7 t8 k8 t9 k9 t10 k10 t11 k11 t12 r12 t13 r13 t15 k15 t16 k16 t17 k17 t18 k18 t19 k19 t20 k20 t21 k21 t22 k22 t23 k23 t24 k24 t25 k25 d0 d1 d2 d3 d4 d5 d6 d7 d8 d9 d10 d11 d12 d13 d14 d15 d16 d17 d18 d19 d20 d21 d22 d23 d24 f0 f1 f2 f3 f4 f5 f6 f7 f8 f9 f10 f11 f12 f13 f14 f15 f16 f17 f18
  replace f2 := shm_107 f2
  replace f3 := shm_107 f3
  replace f4 := shm_107 f4
  replace f9 := shm_1189 f9
  replace f12 := shm_5 f12
  replace f13 := shm_5 f13
  replace f14 := shm_5 f14
  replace f15 := shm_5 f15
  replace f16 := shm_5 f16
  replace f17 := shm_5 f17
  replace f18 := shm_5 f18
  have q7 : n_v vs 7 = n_v vs 0 := f12.symm
  have q8 : n_v vs 8 = n_v vs 1 := f13.symm
  have q9 : n_v vs 9 = n_v vs 2 := f14.symm
  have q10 : n_v vs 10 = n_v vs 3 := f15.symm
  have q11 : n_v vs 11 = n_v vs 4 := f16.symm
  have q12 : n_v vs 12 = n_v vs 5 := f17.symm
  have q13 : n_v vs 13 = n_v vs 6 := f18.symm
  simp only [q12, q7, q13, q8, q9, q10, q11] at f2 f3 f4 f9
  have h2 : v_iv (n_v vs 23) = w_ei ws (v_ad (n_v vs 5)) (v_iv (n_v vs 16)) := f2
  have h3 : v_iv (n_v vs 22) = w_ei ws (v_ad (n_v vs 0)) (v_iv (n_v vs 21)) := f3
  have h4 : v_iv (n_v vs 21) = w_ei ws (v_ad (n_v vs 6)) (v_iv (n_v vs 20)) := f4
  have hrf0 : 0 ≤ v_iv (n_v vs 25) ∧ v_iv (n_v vs 25) ≤ 23 := vc_Fa_shortestWay_at_Grnear_Pnlevel_Pnway_8_r0 (v_iv (n_v vs 1)) (v_iv (n_v vs 2)) (v_iv (n_v vs 3)) (v_iv (n_v vs 4)) (v_iv (n_v vs 15)) (v_iv (n_v vs 16)) (v_iv (n_v vs 20)) (v_iv (n_v vs 21)) (v_iv (n_v vs 22)) (v_iv (n_v vs 23)) (v_iv (n_v vs 24)) (v_iv (n_v vs 25)) (w_ei ws (v_ad (n_v vs 5))) (w_ei ws (v_ad (n_v vs 0))) (w_ei ws (v_ad (n_v vs 6))) k1 k2 k3 k4 k15 k16 k20 k21 k22 k23 k24 k25 (shm_810 f0) (shm_11 f1) h2 h3 h4 (shm_14 f5) (shm_32 f8) f9
  have rf25 : tv_ok ta (0, 0, 23, []) (n_v vs 25) := tv_in t25 (by first | omega | grind) (by first | omega | grind)
  refine ⟨List.forall_mem_cons.mpr ⟨rf25, (fun _ h => (by cases h))⟩, [], trivial, ?_, (fun _ h => (by cases h))⟩
  rw [List.append_nil]
  exact (fun _ h => (by cases h))
set_option maxHeartbeats 4000000 in
theorem vc_Fa_shortestWay_at_Grnear_Pnlevel_Pnway_9_0 (x1 : Int) (x2 : Int) (x3 : Int) (x4 : Int) (x8 : Int) (x15 : Int) (x16 : Int) (x17 : Int) (x19 : Int) (x20 : Int) (x21 : Int) (x22 : Int) (x23 : Int) (x24 : Int) (x25 : Int) (x26 : Int) (a0_0 : Int → Int) (a5_1 : Int → Int) (a0_1 : Int → Int) (a6_1 : Int → Int) (a5_0 : Int → Int) (a6_0 : Int → Int) (k1 : 1 ≤ x1 ∧ x1 ≤ 24) (k2 : 0 ≤ x2 ∧ x2 ≤ 23) (k3 : 0 ≤ x3 ∧ x3 ≤ 16777215) (k4 : 0 ≤ x4 ∧ x4 ≤ 16777215) (k8 : 2 ≤ x8 ∧ x8 ≤ 24) (k15 : 1 ≤ x15 ∧ x15 ≤ 23) (k16 : 0 ≤ x16 ∧ x16 ≤ 23) (k17 : 0 ≤ x17 ∧ x17 ≤ 23) (k19 : 1 ≤ x19 ∧ x19 ≤ 24) (k20 : 0 ≤ x20 ∧ x20 ≤ 23) (k21 : 0 ≤ x21 ∧ x21 ≤ 23) (k22 : 0 ≤ x22 ∧ x22 ≤ 16777215) (k23 : 0 ≤ x23 ∧ x23 ≤ 16777215) (k24 : 0 ≤ x24 ∧ x24 ≤ 16777215) (k25 : 0 ≤ x25 ∧ x25 ≤ 23) (k26 : (-1) ≤ x26 ∧ x26 ≤ 22) (d0 : x16 + (-1) ≤ x26 ∧ x26 ≤ x16 + (-1)) (d7 : x17 + 1 ≤ x19 ∧ x19 ≤ x17 + 1) (d14 : x8 + (-4294967296) ≤ x1 ∧ x1 ≤ x8 + 0) (d19 : x1 + (-4294967296) ≤ x8 ∧ x8 ≤ x1 + 0) (f12 : LOW (x24) (x25)) (f13 : bvp (x24) = bvp (x22) &&& bvp (x23)) (h14 : x23 = a5_1 (x16)) (h15 : x22 = a0_1 (x21)) (h16 : x21 = a6_1 (x20)) (f17 : x20 = x15 - x16) (f19 : x17 = x15 - x16) (f20 : 0 ≤ x16) (f21 : LV2 (a0_1) (a5_1) (a6_1) (x1) (x2) (x3) (x4) (x15) (x16)) (f22 : SYMN (a0_1) (x1)) (f23 : FRN (x1) (x4)) (hE_0_999_1 : ∀ j : Int, a0_0 j = a0_1 j) (hE_5_999_1 : ∀ j : Int, a5_0 j = a5_1 j) (hE_6_999_1 : ∀ j : Int, 0 ≤ j → (j = x19 → a6_0 j = x25) ∧ (j ≠ x19 → a6_0 j = a6_1 j)) : LV2 (a0_0) (a5_0) (a6_0) (x1) (x2) (x3) (x4) (x15) (x26) := by
  have e_hE_0_999_1 := funext hE_0_999_1; subst e_hE_0_999_1
  have e_hE_5_999_1 := funext hE_5_999_1; subst e_hE_5_999_1
  first
    | (skip; (first | subst h14 | skip); (first | subst h15 | skip); (first | subst h16 | skip); exact lv2_step ‹LV2 _ _ _ _ _ _ _ _ _› (by omega) ‹SYMN _ _› ‹FRN _ _› (by omega) (by assumption) (by rw [show (x15 - x16 : Int) = x20 by omega]) (by omega) (by omega) (by omega) ‹LOW _ _› (by assumption) (by omega) (by omega))
def o_Fa_shortestWay_at_Grnear_Pnlevel_Pnway_9 : or_T := (106, 27, [(0, (2, 0, 0, [59])), (1, (0, 1, 24, [])), (2, (0, 0, 23, [])), (3, (0, 0, 16777215, [])), (4, (0, 0, 16777215, [])), (5, (2, 0, 0, [105])), (6, (2, 0, 0, [106])), (8, (0, 2, 24, [])), (15, (0, 1, 23, [])), (16, (0, 0, 23, [])), (17, (0, 0, 23, [])), (19, (0, 1, 24, [])), (20, (0, 0, 23, [])), (21, (0, 0, 23, [])), (22, (0, 0, 16777215, [])), (23, (0, 0, 16777215, [])), (24, (0, 0, 16777215, [])), (25, (0, 0, 23, [])), (26, (0, -1, 22, []))], [(24, [0, 7], []), (24, [1, 8], []), (24, [2, 9], []), (24, [3, 10], []), (24, [4, 11], []), (24, [5, 12], []), (24, [6, 13], []), (100, [13, 19, 25], []), (20, [24, 25], [61, 0, 555]), (16, [24, 22, 23], [0]), (10, [23, 12, 16], []), (10, [22, 7, 21], []), (10, [21, 13, 20], []), (2, [20, 15, 16], []), (2, [17, 15, 16], []), (8, [16], [3]), (20, [7, 12, 13, 8, 9, 10, 11, 15, 16], [61, 3, 563]), (20, [7, 8], [61, 1, 560]), (20, [8, 11], [61, 0, 561])], [], [], [(20, [7, 12, 13, 8, 9, 10, 11, 15, 26], [61, 3, 563])], [], [(26, 16, -1, -1), (19, 17, 1, 1), (19, 15, -22, 1), (19, 1, -4294967296, 0), (19, 8, -4294967296, 0), (1, 8, -4294967296, 0), (8, 1, -4294967296, 0)])
theorem oo_Fa_shortestWay_at_Grnear_Pnlevel_Pnway_9 {kA : Nat → ClassId} : or_ok PRD kA GG o_Fa_shortestWay_at_Grnear_Pnlevel_Pnway_9 := by
  refine or_mk fun A ta ws vs hD hth hl => ?_
  intro t0 r0 t1 k1 t2 k2 t3 k3 t4 k4 t5 r5 t6 r6 t8 k8 t15 k15 t16 k16 t17 k17 t19 k19 t20 k20 t21 k21 t22 k22 t23 k23 t24 k24 t25 k25 t26 k26 d0 d7 d8 d9 d10 d14 d19 f4 f5 f6 f7 f8 f9 f10 ta1 w1 le1 s1 f12 f13 f14 f15 f16 f17 f19 f20 f21 f22 f23
  replace f4 := shm_5 f4
  replace f5 := shm_5 f5
  replace f6 := shm_5 f6
  replace f7 := shm_5 f7
  replace f8 := shm_5 f8
  replace f9 := shm_5 f9
  replace f10 := shm_5 f10
  have s1 : (∀ b j, w_el ws b j = if b = v_ad (n_v vs 13) ∧ j = (v_iv (n_v vs 19)).toNat then v_iv (n_v vs 25) else w_el w1 b j) ∧ ∀ b k, w_fd ws b k = w_fd w1 b k := s1.2
  replace f12 := shm_810 f12
  replace f13 := shm_11 f13
  replace f14 := shm_107 f14
  replace f15 := shm_107 f15
  replace f16 := shm_107 f16
  replace f17 := shm_14 f17
  replace f19 := shm_14 f19
  replace f20 := shm_32 f20
  replace f21 := shm_1189 f21
  replace f22 := shm_1180 f22
  replace f23 := shm_1181 f23
  have q7 : n_v vs 7 = n_v vs 0 := f4.symm
  have q8 : n_v vs 8 = n_v vs 1 := f5.symm
  have q9 : n_v vs 9 = n_v vs 2 := f6.symm
  have q10 : n_v vs 10 = n_v vs 3 := f7.symm
  have q11 : n_v vs 11 = n_v vs 4 := f8.symm
  have q12 : n_v vs 12 = n_v vs 5 := f9.symm
  have q13 : n_v vs 13 = n_v vs 6 := f10.symm
  rw [q13] at s1
  simp only [q12, q7, q13, q8, q9, q10, q11] at f14 f15 f16 f21 f22 f23
  have cr_0_999 : ta (v_ad (n_v vs 0)) = some 59 := r0
  have cr_5_999 : ta (v_ad (n_v vs 5)) = some 105 := r5
  have ad_6 : v_ad (n_v vs 6) = v_ad (n_v vs 6) := rfl
  have h14 : v_iv (n_v vs 23) = w_ei w1 (v_ad (n_v vs 5)) (v_iv (n_v vs 16)) := f14
  have h15 : v_iv (n_v vs 22) = w_ei w1 (v_ad (n_v vs 0)) (v_iv (n_v vs 21)) := f15
  have h16 : v_iv (n_v vs 21) = w_ei w1 (v_ad (n_v vs 6)) (v_iv (n_v vs 20)) := f16
  have hE_0_999_1 : ∀ j : Int, w_ei ws (v_ad (n_v vs 0)) j = w_ei w1 (v_ad (n_v vs 0)) j := el_kp s1.1 r6 cr_0_999 (by decide)
  have hE_5_999_1 : ∀ j : Int, w_ei ws (v_ad (n_v vs 5)) j = w_ei w1 (v_ad (n_v vs 5)) j := el_kp s1.1 r6 cr_5_999 (by decide)
  have hE_6_999_1 : ∀ j : Int, 0 ≤ j → (j = v_iv (n_v vs 19) → w_ei ws (v_ad (n_v vs 6)) j = v_iv (n_v vs 25)) ∧ (j ≠ v_iv (n_v vs 19) → w_ei ws (v_ad (n_v vs 6)) j = w_ei w1 (v_ad (n_v vs 6)) j) := fun j hj => ⟨fun h => by unfold w_ei; rw [s1.1, if_pos ⟨ad_6.symm, by rw [h]⟩], fun h => by unfold w_ei; rw [s1.1, if_neg (fun e => h (by have := e.2; omega))]⟩
  have nf0 : fc_1 PRD (20, [7, 12, 13, 8, 9, 10, 11, 15, 26], [61, 3, 563]) ws (vs) := by
    refine ⟨nf_in hl rfl, sgq_1189 ?_⟩
    · show LV2 (w_ei ws (v_ad (n_v vs 7))) (w_ei ws (v_ad (n_v vs 12))) (w_ei ws (v_ad (n_v vs 13))) (v_iv (n_v vs 8)) (v_iv (n_v vs 9)) (v_iv (n_v vs 10)) (v_iv (n_v vs 11)) (v_iv (n_v vs 15)) (v_iv (n_v vs 26))
      simp only [q7, q8, q9, q10, q11, q12, q13]
      exact vc_Fa_shortestWay_at_Grnear_Pnlevel_Pnway_9_0 (v_iv (n_v vs 1)) (v_iv (n_v vs 2)) (v_iv (n_v vs 3)) (v_iv (n_v vs 4)) (v_iv (n_v vs 8)) (v_iv (n_v vs 15)) (v_iv (n_v vs 16)) (v_iv (n_v vs 17)) (v_iv (n_v vs 19)) (v_iv (n_v vs 20)) (v_iv (n_v vs 21)) (v_iv (n_v vs 22)) (v_iv (n_v vs 23)) (v_iv (n_v vs 24)) (v_iv (n_v vs 25)) (v_iv (n_v vs 26)) (w_ei ws (v_ad (n_v vs 0))) (w_ei w1 (v_ad (n_v vs 5))) (w_ei w1 (v_ad (n_v vs 0))) (w_ei w1 (v_ad (n_v vs 6))) (w_ei ws (v_ad (n_v vs 5))) (w_ei ws (v_ad (n_v vs 6))) k1 k2 k3 k4 k8 k15 k16 k17 k19 k20 k21 k22 k23 k24 k25 k26 d0 d7 d14 d19 f12 f13 h14 h15 h16 f17 f19 f20 f21 f22 f23 hE_0_999_1 hE_5_999_1 hE_6_999_1
  refine ⟨(fun _ h => (by cases h)), [], trivial, ?_, (fun _ h => (by cases h))⟩
  rw [List.append_nil]
  exact List.forall_mem_cons.mpr ⟨⟨show (20 : Nat) < 100 from by decide, nf0⟩, (fun _ h => (by cases h))⟩
def n_Fa_shortestWay_at_Grnear_Pnlevel_Pnway_an : List an_T := [(15, [(0, (2, 0, 0, [59])), (1, (0, 1, 24, [])), (2, (0, 0, 23, [])), (3, (0, 0, 16777215, [])), (4, (0, 0, 16777215, [])), (5, (2, 0, 0, [105])), (6, (2, 0, 0, [106])), (7, (0, 0, 16777215, [])), (8, (0, 0, 23, [])), (9, (0, 1, 24, []))], [], (0, 0), [(0, 0, 99985), (1, 16, 24), (0, 0, 100000)], [(1, 8, (Int.negSucc 999999999999), 0), (2, 9, (Int.negSucc 999999999999), 0), (3, 10, (Int.negSucc 999999999999), 0), (4, 11, (Int.negSucc 999999999999), 0), (8, 1, (Int.negSucc 999999999999), 0), (9, 2, (Int.negSucc 999999999999), 0), (10, 3, (Int.negSucc 999999999999), 0), (11, 4, (Int.negSucc 999999999999), 0), (15, 1, (Int.negSucc 999999999999), (Int.negSucc 0)), (15, 8, (Int.negSucc 999999999999), (Int.negSucc 0)), (15, 16, (Int.negSucc 999999999999), (Int.negSucc 0)), (16, 1, (Int.negSucc 999999999999), 0), (16, 8, (Int.negSucc 999999999999), 0)], [], [(2, 0, 0, [59]), (0, 1, 24, []), (0, 0, 23, []), (0, 0, 16777215, []), (0, 0, 16777215, []), (2, 0, 0, [105]), (2, 0, 0, [106])], 0, [], [(20, [7, 12, 8, 9, 10, 11, 14, 15, 16], [61, 2, 562]), (20, [7, 8], [61, 1, 560]), (20, [8, 11], [61, 0, 561]), (24, [0, 7], []), (24, [1, 8], []), (24, [2, 9], []), (24, [3, 10], []), (24, [4, 11], []), (24, [5, 12], []), (24, [6, 13], []), (20, [7, 12, 8, 9, 10, 11, 14, 15, 16], [61, 2, 898])]), (106, [(0, (2, 0, 0, [59])), (1, (0, 2, 24, [])), (2, (0, 0, 23, [])), (3, (0, 0, 16777215, [])), (4, (0, 0, 16777215, [])), (5, (2, 0, 0, [105])), (6, (2, 0, 0, [106])), (7, (0, 0, 16777215, [])), (8, (0, 1, 23, [])), (9, (0, (Int.negSucc 0), 23, []))], [], (0, 0), [(0, 0, 99894), (2, 16, (Int.negSucc 0)), (0, 0, 100000)], [(1, 8, (Int.negSucc 999999999999), 0), (2, 1, (Int.negSucc 999999999999), 21), (2, 9, (Int.negSucc 999999999999), 0), (3, 10, (Int.negSucc 999999999999), 0), (4, 11, (Int.negSucc 999999999999), 0), (8, 1, (Int.negSucc 999999999999), 0), (9, 1, (Int.negSucc 999999999999), 21), (9, 2, (Int.negSucc 999999999999), 0), (10, 3, (Int.negSucc 999999999999), 0), (11, 4, (Int.negSucc 999999999999), 0), (15, 1, (Int.negSucc 999999999999), (Int.negSucc 0)), (15, 8, (Int.negSucc 999999999999), (Int.negSucc 0)), (16, 1, (Int.negSucc 999999999999), (Int.negSucc 0)), (16, 8, (Int.negSucc 999999999999), (Int.negSucc 0)), (16, 15, (Int.negSucc 999999999999), 0)], [], [(2, 0, 0, [59]), (0, 1, 24, []), (0, 0, 23, []), (0, 0, 16777215, []), (0, 0, 16777215, []), (2, 0, 0, [105]), (2, 0, 0, [106])], 0, [], [(20, [7, 12, 13, 8, 9, 10, 11, 15, 16], [61, 3, 563]), (20, [7, 8], [61, 1, 560]), (20, [8, 11], [61, 0, 561]), (24, [0, 7], []), (24, [1, 8], []), (24, [2, 9], []), (24, [3, 10], []), (24, [4, 11], []), (24, [5, 12], []), (24, [6, 13], [])])]
def t_Fa_shortestWay_at_Grnear_Pnlevel_Pnway_ct : ct_L := [(0, 107, e_Fa_lowest), (120, 97, e_Fa_nearOf_at_Grnear)]
set_option maxRecDepth 100000 in
theorem c_Fa_shortestWay_at_Grnear_Pnlevel_Pnway {l : Launch} {D : va_G} {kA : Nat → ClassId} (h_Fa_lowest : ct_ok PRD l D kA GG y_Fa_lowest z_Fa_lowest e_Fa_lowest) (h_Fa_nearOf_at_Grnear : ct_ok PRD l D kA GG y_Fa_nearOf_at_Grnear z_Fa_nearOf_at_Grnear e_Fa_nearOf_at_Grnear) : ct_ok PRD l D kA GG y_Fa_shortestWay_at_Grnear_Pnlevel_Pnway z_Fa_shortestWay_at_Grnear_Pnlevel_Pnway e_Fa_shortestWay_at_Grnear_Pnlevel_Pnway := chk_all_ok (FT := []) (PT := []) (CT := t_Fa_shortestWay_at_Grnear_Pnlevel_Pnway_ct) (KT := []) (NT := []) (AN := n_Fa_shortestWay_at_Grnear_Pnlevel_Pnway_an) (OT := [o_Fa_shortestWay_at_Grnear_Pnlevel_Pnway_0, o_Fa_shortestWay_at_Grnear_Pnlevel_Pnway_1, o_Fa_shortestWay_at_Grnear_Pnlevel_Pnway_2, o_Fa_shortestWay_at_Grnear_Pnlevel_Pnway_3, o_Fa_shortestWay_at_Grnear_Pnlevel_Pnway_4, o_Fa_shortestWay_at_Grnear_Pnlevel_Pnway_5, o_Fa_shortestWay_at_Grnear_Pnlevel_Pnway_6, o_Fa_shortestWay_at_Grnear_Pnlevel_Pnway_7, o_Fa_shortestWay_at_Grnear_Pnlevel_Pnway_8, o_Fa_shortestWay_at_Grnear_Pnlevel_Pnway_9]) 3 404 (List.forall_mem_cons.mpr ⟨oo_Fa_shortestWay_at_Grnear_Pnlevel_Pnway_0, List.forall_mem_cons.mpr ⟨oo_Fa_shortestWay_at_Grnear_Pnlevel_Pnway_1, List.forall_mem_cons.mpr ⟨oo_Fa_shortestWay_at_Grnear_Pnlevel_Pnway_2, List.forall_mem_cons.mpr ⟨oo_Fa_shortestWay_at_Grnear_Pnlevel_Pnway_3, List.forall_mem_cons.mpr ⟨oo_Fa_shortestWay_at_Grnear_Pnlevel_Pnway_4, List.forall_mem_cons.mpr ⟨oo_Fa_shortestWay_at_Grnear_Pnlevel_Pnway_5, List.forall_mem_cons.mpr ⟨oo_Fa_shortestWay_at_Grnear_Pnlevel_Pnway_6, List.forall_mem_cons.mpr ⟨oo_Fa_shortestWay_at_Grnear_Pnlevel_Pnway_7, List.forall_mem_cons.mpr ⟨oo_Fa_shortestWay_at_Grnear_Pnlevel_Pnway_8, List.forall_mem_cons.mpr ⟨oo_Fa_shortestWay_at_Grnear_Pnlevel_Pnway_9, List.forall_mem_nil _⟩⟩⟩⟩⟩⟩⟩⟩⟩⟩) (by decide +kernel) ⟨List.forall_mem_nil _, List.forall_mem_nil _, List.forall_mem_cons.mpr ⟨cl_static (y := y_Fa_lowest) h_Fa_lowest wm_899 wm_7 wm_897 wm_898 ⟨by decide, by decide, by decide +kernel⟩ (by decide), List.forall_mem_cons.mpr ⟨cl_static (y := y_Fa_nearOf_at_Grnear) h_Fa_nearOf_at_Grnear wm_824 wm_7 wm_822 wm_823 ⟨by decide, by decide, by decide +kernel⟩ (by decide), List.forall_mem_nil _⟩⟩, List.forall_mem_nil _, List.forall_mem_nil _, GG_pl⟩ (by decide +kernel)

set_option maxHeartbeats 4000000 in
theorem vc_Fa_shortestWay_at_Nenear_Emlevel_Emway_0_0 (x1 : Int) (x2 : Int) (x3 : Int) (x4 : Int) (x7 : Int) (x8 : Int) (x9 : Int) (a0_0 : Int → Int) (a0_1 : Int → Int) (a5_0 : Int → Int) (a5_1 : Int → Int) (k1 : 0 ≤ x1 ∧ x1 ≤ 24) (k2 : 0 ≤ x2 ∧ x2 ≤ 24) (k3 : 0 ≤ x3 ∧ x3 ≤ 33554431) (k4 : 0 ≤ x4 ∧ x4 ≤ 33554431) (k7 : 0 ≤ x7 ∧ x7 ≤ 0) (k8 : 0 ≤ x8 ∧ x8 ≤ 0) (k9 : 1 ≤ x9 ∧ x9 ≤ 1) (hE_0_999_1 : ∀ j : Int, a0_0 j = a0_1 j) (hE_5_999_1 : ∀ j : Int, 0 ≤ j → (j = x7 → a5_0 j = x3) ∧ (j ≠ x7 → a5_0 j = a5_1 j)) : LV1 (a0_0) (a5_0) (x1) (x2) (x3) (x4) (x4) (x8) (x9) := by
  have e_hE_0_999_1 := funext hE_0_999_1; subst e_hE_0_999_1
  first
    | exact lv1_start (by assumption) (by omega) (by omega) rfl (by omega) (by omega)
set_option maxHeartbeats 4000000 in
theorem vc_Fa_shortestWay_at_Nenear_Emlevel_Emway_0_8 (x1 : Int) (x2 : Int) (x3 : Int) (x4 : Int) (x7 : Int) (x8 : Int) (x9 : Int) (a0_0 : Int → Int) (a0_1 : Int → Int) (a5_0 : Int → Int) (a5_1 : Int → Int) (k1 : 0 ≤ x1 ∧ x1 ≤ 24) (k2 : 0 ≤ x2 ∧ x2 ≤ 24) (k3 : 0 ≤ x3 ∧ x3 ≤ 33554431) (k4 : 0 ≤ x4 ∧ x4 ≤ 33554431) (k7 : 0 ≤ x7 ∧ x7 ≤ 0) (k8 : 0 ≤ x8 ∧ x8 ≤ 0) (k9 : 1 ≤ x9 ∧ x9 ≤ 1) (hE_0_999_1 : ∀ j : Int, a0_0 j = a0_1 j) (hE_5_999_1 : ∀ j : Int, 0 ≤ j → (j = x7 → a5_0 j = x3) ∧ (j ≠ x7 → a5_0 j = a5_1 j)) : LV3 (a0_0) (a5_0) (x1) (x2) (x3) (x4) (x4) (x8) (x9) := by
  have e_hE_0_999_1 := funext hE_0_999_1; subst e_hE_0_999_1
  first
    | exact lv3_start (by assumption) (by omega) (by omega) rfl (by omega)
def o_Fa_shortestWay_at_Nenear_Emlevel_Emway_0 : or_T := (15, 10, [(0, (2, 0, 0, [82])), (1, (0, 0, 24, [])), (2, (0, 0, 24, [])), (3, (0, 0, 33554431, [])), (4, (0, 0, 33554431, [])), (5, (2, 0, 0, [34])), (7, (0, 0, 0, [])), (8, (0, 0, 0, [])), (9, (0, 1, 1, []))], [(100, [5, 7, 3], [])], [], [], [(20, [0, 5, 1, 2, 3, 4, 4, 8, 9], [61, 2, 562]), (24, [0, 0], []), (24, [1, 1], []), (24, [2, 2], []), (24, [3, 3], []), (24, [4, 4], []), (24, [5, 5], []), (24, [6, 6], []), (20, [0, 5, 1, 2, 3, 4, 4, 8, 9], [61, 2, 898])], [], [])
theorem oo_Fa_shortestWay_at_Nenear_Emlevel_Emway_0 {kA : Nat → ClassId} : or_ok PRD kA GG o_Fa_shortestWay_at_Nenear_Emlevel_Emway_0 := by
  refine or_mk fun A ta ws vs hD hth hl => ?_
  intro t0 r0 t1 k1 t2 k2 t3 k3 t4 k4 t5 r5 t7 k7 t8 k8 t9 k9 ta1 w1 le1 s1
  have s1 : (∀ b j, w_el ws b j = if b = v_ad (n_v vs 5) ∧ j = (v_iv (n_v vs 7)).toNat then v_iv (n_v vs 3) else w_el w1 b j) ∧ ∀ b k, w_fd ws b k = w_fd w1 b k := s1.2
  have cr_0_999 : ta (v_ad (n_v vs 0)) = some 82 := r0
  have ad_5 : v_ad (n_v vs 5) = v_ad (n_v vs 5) := rfl
  have hE_0_999_1 : ∀ j : Int, w_ei ws (v_ad (n_v vs 0)) j = w_ei w1 (v_ad (n_v vs 0)) j := el_kp s1.1 r5 cr_0_999 (by decide)
  have hE_5_999_1 : ∀ j : Int, 0 ≤ j → (j = v_iv (n_v vs 7) → w_ei ws (v_ad (n_v vs 5)) j = v_iv (n_v vs 3)) ∧ (j ≠ v_iv (n_v vs 7) → w_ei ws (v_ad (n_v vs 5)) j = w_ei w1 (v_ad (n_v vs 5)) j) := fun j hj => ⟨fun h => by unfold w_ei; rw [s1.1, if_pos ⟨ad_5.symm, by rw [h]⟩], fun h => by unfold w_ei; rw [s1.1, if_neg (fun e => h (by have := e.2; omega))]⟩
  have nf0 : fc_1 PRD (20, [0, 5, 1, 2, 3, 4, 4, 8, 9], [61, 2, 562]) ws (vs) := ⟨nf_in hl rfl, sgq_1182 (vc_Fa_shortestWay_at_Nenear_Emlevel_Emway_0_0 (v_iv (n_v vs 1)) (v_iv (n_v vs 2)) (v_iv (n_v vs 3)) (v_iv (n_v vs 4)) (v_iv (n_v vs 7)) (v_iv (n_v vs 8)) (v_iv (n_v vs 9)) (w_ei ws (v_ad (n_v vs 0))) (w_ei w1 (v_ad (n_v vs 0))) (w_ei ws (v_ad (n_v vs 5))) (w_ei w1 (v_ad (n_v vs 5))) k1 k2 k3 k4 k7 k8 k9 hE_0_999_1 hE_5_999_1)⟩
  have nf1 : fc_1 PRD (24, [0, 0], []) ws (vs) := by
    refine ⟨nf_in hl rfl, sgq_1 ?_⟩
    · show n_v vs 0 = n_v vs 0
      first | rfl | simp only [true_and]
  have nf2 : fc_1 PRD (24, [1, 1], []) ws (vs) := by
    refine ⟨nf_in hl rfl, sgq_1 ?_⟩
    · show n_v vs 1 = n_v vs 1
      first | rfl | simp only [true_and]
  have nf3 : fc_1 PRD (24, [2, 2], []) ws (vs) := by
    refine ⟨nf_in hl rfl, sgq_1 ?_⟩
    · show n_v vs 2 = n_v vs 2
      first | rfl | simp only [true_and]
  have nf4 : fc_1 PRD (24, [3, 3], []) ws (vs) := by
    refine ⟨nf_in hl rfl, sgq_1 ?_⟩
    · show n_v vs 3 = n_v vs 3
      first | rfl | simp only [true_and]
  have nf5 : fc_1 PRD (24, [4, 4], []) ws (vs) := by
    refine ⟨nf_in hl rfl, sgq_1 ?_⟩
    · show n_v vs 4 = n_v vs 4
      first | rfl | simp only [true_and]
  have nf6 : fc_1 PRD (24, [5, 5], []) ws (vs) := by
    refine ⟨nf_in hl rfl, sgq_1 ?_⟩
    · show n_v vs 5 = n_v vs 5
      first | rfl | simp only [true_and]
  have nf7 : fc_1 PRD (24, [6, 6], []) ws (vs) := by
    refine ⟨nf_in hl rfl, sgq_1 ?_⟩
    · show n_v vs 6 = n_v vs 6
      first | rfl | simp only [true_and]
  have nf8 : fc_1 PRD (20, [0, 5, 1, 2, 3, 4, 4, 8, 9], [61, 2, 898]) ws (vs) := ⟨nf_in hl rfl, sgq_1183 (vc_Fa_shortestWay_at_Nenear_Emlevel_Emway_0_8 (v_iv (n_v vs 1)) (v_iv (n_v vs 2)) (v_iv (n_v vs 3)) (v_iv (n_v vs 4)) (v_iv (n_v vs 7)) (v_iv (n_v vs 8)) (v_iv (n_v vs 9)) (w_ei ws (v_ad (n_v vs 0))) (w_ei w1 (v_ad (n_v vs 0))) (w_ei ws (v_ad (n_v vs 5))) (w_ei w1 (v_ad (n_v vs 5))) k1 k2 k3 k4 k7 k8 k9 hE_0_999_1 hE_5_999_1)⟩
  refine ⟨(fun _ h => (by cases h)), [], trivial, ?_, (fun _ h => (by cases h))⟩
  rw [List.append_nil]
  exact List.forall_mem_cons.mpr ⟨⟨show (20 : Nat) < 100 from by decide, nf0⟩, List.forall_mem_cons.mpr ⟨⟨show (24 : Nat) < 100 from by decide, nf1⟩, List.forall_mem_cons.mpr ⟨⟨show (24 : Nat) < 100 from by decide, nf2⟩, List.forall_mem_cons.mpr ⟨⟨show (24 : Nat) < 100 from by decide, nf3⟩, List.forall_mem_cons.mpr ⟨⟨show (24 : Nat) < 100 from by decide, nf4⟩, List.forall_mem_cons.mpr ⟨⟨show (24 : Nat) < 100 from by decide, nf5⟩, List.forall_mem_cons.mpr ⟨⟨show (24 : Nat) < 100 from by decide, nf6⟩, List.forall_mem_cons.mpr ⟨⟨show (24 : Nat) < 100 from by decide, nf7⟩, List.forall_mem_cons.mpr ⟨⟨show (20 : Nat) < 100 from by decide, nf8⟩, (fun _ h => (by cases h))⟩⟩⟩⟩⟩⟩⟩⟩⟩
set_option maxHeartbeats 4000000 in
theorem vc_Fa_shortestWay_at_Nenear_Emlevel_Emway_1_0 (x1 : Int) (x2 : Int) (x3 : Int) (x4 : Int) (x14 : Int) (x15 : Int) (x16 : Int) (x17 : Int) (a0_0 : Int → Int) (a5_0 : Int → Int) (a0_1 : Int → Int) (a5_1 : Int → Int) (a6_0 : Int → Int) (a6_1 : Int → Int) (k1 : 1 ≤ x1 ∧ x1 ≤ 24) (k2 : 0 ≤ x2 ∧ x2 ≤ 24) (k3 : 0 ≤ x3 ∧ x3 ≤ 33554431) (k4 : 0 ≤ x4 ∧ x4 ≤ 33554431) (k14 : 0 ≤ x14 ∧ x14 ≤ 33554431) (k15 : 1 ≤ x15 ∧ x15 ≤ 23) (k16 : 2 ≤ x16 ∧ x16 ≤ 24) (k17 : 0 ≤ x17 ∧ x17 ≤ 0) (f12 : x15 ≠ 0) (f14 : LV1 (a0_1) (a5_1) (x1) (x2) (x3) (x4) (x14) (x15) (x16)) (hE_0_999_1 : ∀ j : Int, a0_0 j = a0_1 j) (hE_5_999_1 : ∀ j : Int, a5_0 j = a5_1 j) (hE_6_999_1 : ∀ j : Int, 0 ≤ j → (j = x17 → a6_0 j = x2) ∧ (j ≠ x17 → a6_0 j = a6_1 j)) : LV2 (a0_0) (a5_0) (a6_0) (x1) (x2) (x3) (x4) (x15) (x15) := by
  have e_hE_0_999_1 := funext hE_0_999_1; subst e_hE_0_999_1
  have e_hE_5_999_1 := funext hE_5_999_1; subst e_hE_5_999_1
  first
    | exact lv2_start ‹LV1 _ _ _ _ _ _ _ _ _› (by omega) (by assumption) (by omega) (by omega) rfl
def o_Fa_shortestWay_at_Nenear_Emlevel_Emway_1 : or_T := (106, 18, [(0, (2, 0, 0, [82])), (1, (0, 1, 24, [])), (2, (0, 0, 24, [])), (3, (0, 0, 33554431, [])), (4, (0, 0, 33554431, [])), (5, (2, 0, 0, [34])), (6, (2, 0, 0, [35])), (7, (2, 0, 0, [82])), (8, (0, 1, 24, [])), (9, (0, 0, 24, [])), (10, (0, 0, 33554431, [])), (11, (0, 0, 33554431, [])), (12, (2, 0, 0, [34])), (13, (2, 0, 0, [35])), (14, (0, 0, 33554431, [])), (15, (0, 1, 23, [])), (16, (0, 2, 24, [])), (17, (0, 0, 0, []))], [(20, [7, 12, 8, 9, 10, 11, 14, 15, 16], [61, 2, 562]), (20, [7, 8], [61, 1, 560]), (20, [8, 11], [61, 0, 561]), (24, [0, 7], []), (24, [1, 8], []), (24, [2, 9], []), (24, [3, 10], []), (24, [4, 11], []), (24, [5, 12], []), (24, [6, 13], []), (20, [7, 12, 8, 9, 10, 11, 14, 15, 16], [61, 2, 898]), (100, [13, 17, 9], []), (8, [15], [1]), (7, [16, 8], [3]), (20, [7, 12, 8, 9, 10, 11, 14, 15, 16], [61, 2, 562]), (20, [7, 8], [61, 1, 560]), (20, [8, 11], [61, 0, 561]), (20, [7, 12, 8, 9, 10, 11, 14, 15, 16], [61, 2, 898])], [], [], [(20, [7, 12, 13, 8, 9, 10, 11, 15, 15], [61, 3, 563])], [], [(16, 8, 0, 4294967296), (1, 8, -4294967296, 0), (2, 9, -4294967296, 0), (3, 10, -4294967296, 0), (4, 11, -4294967296, 0), (8, 1, -4294967296, 0), (9, 2, -4294967296, 0), (10, 3, -4294967296, 0), (11, 4, -4294967296, 0), (15, 1, -4294967296, 0), (15, 8, -4294967296, 0), (15, 16, -4294967296, -1), (16, 1, -4294967296, 1), (16, 8, -4294967296, 1)])
theorem oo_Fa_shortestWay_at_Nenear_Emlevel_Emway_1 {kA : Nat → ClassId} : or_ok PRD kA GG o_Fa_shortestWay_at_Nenear_Emlevel_Emway_1 := by
  refine or_mk fun A ta ws vs hD hth hl => ?_
  intro t0 r0 t1 k1 t2 k2 t3 k3 t4 k4 t5 r5 t6 r6 t7 r7 t8 k8 t9 k9 t10 k10 t11 k11 t12 r12 t13 r13 t14 k14 t15 k15 t16 k16 t17 k17 d0 d1 d2 d3 d4 d5 d6 d7 d8 d9 d10 d11 d12 d13 f0 f1 f2 f3 f4 f5 f6 f7 f8 f9 f10 ta1 w1 le1 s1 f12 f13 f14 f15 f16 f17
  replace f3 := shm_5 f3
  replace f4 := shm_5 f4
  replace f5 := shm_5 f5
  replace f6 := shm_5 f6
  replace f7 := shm_5 f7
  replace f8 := shm_5 f8
  replace f9 := shm_5 f9
  have s1 : (∀ b j, w_el ws b j = if b = v_ad (n_v vs 13) ∧ j = (v_iv (n_v vs 17)).toNat then v_iv (n_v vs 9) else w_el w1 b j) ∧ ∀ b k, w_fd ws b k = w_fd w1 b k := s1.2
  replace f12 := shm_142 f12
  replace f14 := shm_1184 f14
  have q7 : n_v vs 7 = n_v vs 0 := f3.symm
  have q8 : n_v vs 8 = n_v vs 1 := f4.symm
  have q9 : n_v vs 9 = n_v vs 2 := f5.symm
  have q10 : n_v vs 10 = n_v vs 3 := f6.symm
  have q11 : n_v vs 11 = n_v vs 4 := f7.symm
  have q12 : n_v vs 12 = n_v vs 5 := f8.symm
  have q13 : n_v vs 13 = n_v vs 6 := f9.symm
  rw [q9] at s1
  rw [q13] at s1
  simp only [q8, q7, q9, q10, q11, q12] at f14
  have cr_0_999 : ta (v_ad (n_v vs 0)) = some 82 := r0
  have cr_5_999 : ta (v_ad (n_v vs 5)) = some 34 := r5
  have ad_6 : v_ad (n_v vs 6) = v_ad (n_v vs 6) := rfl
  have hE_0_999_1 : ∀ j : Int, w_ei ws (v_ad (n_v vs 0)) j = w_ei w1 (v_ad (n_v vs 0)) j := el_kp s1.1 r6 cr_0_999 (by decide)
  have hE_5_999_1 : ∀ j : Int, w_ei ws (v_ad (n_v vs 5)) j = w_ei w1 (v_ad (n_v vs 5)) j := el_kp s1.1 r6 cr_5_999 (by decide)
  have hE_6_999_1 : ∀ j : Int, 0 ≤ j → (j = v_iv (n_v vs 17) → w_ei ws (v_ad (n_v vs 6)) j = v_iv (n_v vs 2)) ∧ (j ≠ v_iv (n_v vs 17) → w_ei ws (v_ad (n_v vs 6)) j = w_ei w1 (v_ad (n_v vs 6)) j) := fun j hj => ⟨fun h => by unfold w_ei; rw [s1.1, if_pos ⟨ad_6.symm, by rw [h]⟩], fun h => by unfold w_ei; rw [s1.1, if_neg (fun e => h (by have := e.2; omega))]⟩
  have nf0 : fc_1 PRD (20, [7, 12, 13, 8, 9, 10, 11, 15, 15], [61, 3, 563]) ws (vs) := by
    refine ⟨nf_in hl rfl, sgq_1186 ?_⟩
    · show LV2 (w_ei ws (v_ad (n_v vs 7))) (w_ei ws (v_ad (n_v vs 12))) (w_ei ws (v_ad (n_v vs 13))) (v_iv (n_v vs 8)) (v_iv (n_v vs 9)) (v_iv (n_v vs 10)) (v_iv (n_v vs 11)) (v_iv (n_v vs 15)) (v_iv (n_v vs 15))
      simp only [q7, q8, q9, q10, q11, q12, q13]
      exact vc_Fa_shortestWay_at_Nenear_Emlevel_Emway_1_0 (v_iv (n_v vs 1)) (v_iv (n_v vs 2)) (v_iv (n_v vs 3)) (v_iv (n_v vs 4)) (v_iv (n_v vs 14)) (v_iv (n_v vs 15)) (v_iv (n_v vs 16)) (v_iv (n_v vs 17)) (w_ei ws (v_ad (n_v vs 0))) (w_ei ws (v_ad (n_v vs 5))) (w_ei w1 (v_ad (n_v vs 0))) (w_ei w1 (v_ad (n_v vs 5))) (w_ei ws (v_ad (n_v vs 6))) (w_ei w1 (v_ad (n_v vs 6))) k1 k2 k3 k4 k14 k15 k16 k17 f12 f14 hE_0_999_1 hE_5_999_1 hE_6_999_1
  refine ⟨(fun _ h => (by cases h)), [], trivial, ?_, (fun _ h => (by cases h))⟩
  rw [List.append_nil]
  exact List.forall_mem_cons.mpr ⟨⟨show (20 : Nat) < 100 from by decide, nf0⟩, (fun _ h => (by cases h))⟩
set_option maxHeartbeats 4000000 in
theorem vc_Fa_shortestWay_at_Nenear_Emlevel_Emway_2_0 (x2 : Int) (x3 : Int) (x4 : Int) (x17 : Int) (a6_0 : Int → Int) (k2 : 0 ≤ x2 ∧ x2 ≤ 24) (k3 : 0 ≤ x3 ∧ x3 ≤ 33554431) (k4 : 0 ≤ x4 ∧ x4 ≤ 33554431) (k17 : 0 ≤ x17 ∧ x17 ≤ 0) : SHW (a6_0) (x2) (x3) (x4) (x17) := by
  first
    | exact shw_zero (by omega)
set_option maxHeartbeats 4000000 in
theorem vc_Fa_shortestWay_at_Nenear_Emlevel_Emway_2_1 (x1 : Int) (x2 : Int) (x3 : Int) (x4 : Int) (x14 : Int) (x15 : Int) (x16 : Int) (x17 : Int) (a0_0 : Int → Int) (a5_0 : Int → Int) (k1 : 0 ≤ x1 ∧ x1 ≤ 24) (k2 : 0 ≤ x2 ∧ x2 ≤ 24) (k3 : 0 ≤ x3 ∧ x3 ≤ 33554431) (k4 : 0 ≤ x4 ∧ x4 ≤ 33554431) (k14 : 0 ≤ x14 ∧ x14 ≤ 33554431) (k15 : 0 ≤ x15 ∧ x15 ≤ 0) (k16 : 1 ≤ x16 ∧ x16 ≤ 24) (k17 : 0 ≤ x17 ∧ x17 ≤ 0) (f0 : x15 = 0) (f1 : x1 ≤ x16) (f2 : LV1 (a0_0) (a5_0) (x1) (x2) (x3) (x4) (x14) (x15) (x16)) (f4 : FRN (x1) (x4)) (f12 : LV3 (a0_0) (a5_0) (x1) (x2) (x3) (x4) (x14) (x15) (x16)) : SHZ (a0_0) (x1) (x2) (x3) (x4) (x17) := by
  first
    | exact shz_b ‹LV3 _ _ _ _ _ _ _ _ _› ‹LV1 _ _ _ _ _ _ _ _ _› ‹FRN _ _› (by omega) (by omega)
def o_Fa_shortestWay_at_Nenear_Emlevel_Emway_2 : or_T := (96, 18, [(1, (0, 0, 24, [])), (2, (0, 0, 24, [])), (3, (0, 0, 33554431, [])), (4, (0, 0, 33554431, [])), (14, (0, 0, 33554431, [])), (15, (0, 0, 0, [])), (16, (0, 1, 24, [])), (17, (0, 0, 0, []))], [(8, [15], [0]), (7, [16, 8], [3]), (20, [7, 12, 8, 9, 10, 11, 14, 15, 16], [61, 2, 562]), (20, [8, 11], [61, 0, 561]), (24, [0, 7], []), (24, [1, 8], []), (24, [2, 9], []), (24, [3, 10], []), (24, [4, 11], []), (24, [5, 12], []), (20, [7, 12, 8, 9, 10, 11, 14, 15, 16], [61, 2, 898])], [], [], [(20, [6, 2, 3, 4, 17], [61, 1, 564]), (20, [0, 1, 2, 3, 4, 17], [61, 1, 899])], [], [])
theorem oo_Fa_shortestWay_at_Nenear_Emlevel_Emway_2 {kA : Nat → ClassId} : or_ok PRD kA GG o_Fa_shortestWay_at_Nenear_Emlevel_Emway_2 := by
  refine or_mk fun A ta ws vs hD hth hl => ?_
  intro t1 k1 t2 k2 t3 k3 t4 k4 t14 k14 t15 k15 t16 k16 t17 k17 f0 f1 f2 f4 f5 f6 f7 f8 f9 f10 f12
  replace f1 := shm_2 f1
  replace f2 := shm_1184 f2
  replace f4 := shm_1181 f4
  replace f5 := shm_5 f5
  replace f6 := shm_5 f6
  replace f7 := shm_5 f7
  replace f8 := shm_5 f8
  replace f9 := shm_5 f9
  replace f10 := shm_5 f10
  replace f12 := shm_1185 f12
  have q7 : n_v vs 7 = n_v vs 0 := f5.symm
  have q8 : n_v vs 8 = n_v vs 1 := f6.symm
  have q9 : n_v vs 9 = n_v vs 2 := f7.symm
  have q10 : n_v vs 10 = n_v vs 3 := f8.symm
  have q11 : n_v vs 11 = n_v vs 4 := f9.symm
  have q12 : n_v vs 12 = n_v vs 5 := f10.symm
  simp only [q8, q7, q9, q10, q11, q12] at f1 f2 f4 f12
  have nf0 : fc_1 PRD (20, [6, 2, 3, 4, 17], [61, 1, 564]) ws (vs) := ⟨nf_in hl rfl, sgq_1187 (vc_Fa_shortestWay_at_Nenear_Emlevel_Emway_2_0 (v_iv (n_v vs 2)) (v_iv (n_v vs 3)) (v_iv (n_v vs 4)) (v_iv (n_v vs 17)) (w_ei ws (v_ad (n_v vs 6))) k2 k3 k4 k17)⟩
  have nf1 : fc_1 PRD (20, [0, 1, 2, 3, 4, 17], [61, 1, 899]) ws (vs) := ⟨nf_in hl rfl, sgq_1188 (vc_Fa_shortestWay_at_Nenear_Emlevel_Emway_2_1 (v_iv (n_v vs 1)) (v_iv (n_v vs 2)) (v_iv (n_v vs 3)) (v_iv (n_v vs 4)) (v_iv (n_v vs 14)) (v_iv (n_v vs 15)) (v_iv (n_v vs 16)) (v_iv (n_v vs 17)) (w_ei ws (v_ad (n_v vs 0))) (w_ei ws (v_ad (n_v vs 5))) k1 k2 k3 k4 k14 k15 k16 k17 (shm_192 f0) f1 f2 f4 f12)⟩
  refine ⟨(fun _ h => (by cases h)), [], trivial, ?_, (fun _ h => (by cases h))⟩
  rw [List.append_nil]
  exact List.forall_mem_cons.mpr ⟨⟨show (20 : Nat) < 100 from by decide, nf0⟩, List.forall_mem_cons.mpr ⟨⟨show (20 : Nat) < 100 from by decide, nf1⟩, (fun _ h => (by cases h))⟩⟩
set_option maxHeartbeats 4000000 in
theorem vc_Fa_shortestWay_at_Nenear_Emlevel_Emway_3_0 (x1 : Int) (x2 : Int) (x3 : Int) (x4 : Int) (x14 : Int) (x15 : Int) (x16 : Int) (x17 : Int) (a0_0 : Int → Int) (a5_0 : Int → Int) (a0_1 : Int → Int) (a5_1 : Int → Int) (a6_0 : Int → Int) (a6_1 : Int → Int) (k1 : 2 ≤ x1 ∧ x1 ≤ 24) (k2 : 0 ≤ x2 ∧ x2 ≤ 24) (k3 : 0 ≤ x3 ∧ x3 ≤ 33554431) (k4 : 0 ≤ x4 ∧ x4 ≤ 33554431) (k14 : 0 ≤ x14 ∧ x14 ≤ 33554431) (k15 : 1 ≤ x15 ∧ x15 ≤ 22) (k16 : 2 ≤ x16 ∧ x16 ≤ 23) (k17 : 0 ≤ x17 ∧ x17 ≤ 0) (f13 : x15 ≠ 0) (f15 : LV1 (a0_1) (a5_1) (x1) (x2) (x3) (x4) (x14) (x15) (x16)) (hE_0_999_1 : ∀ j : Int, a0_0 j = a0_1 j) (hE_5_999_1 : ∀ j : Int, a5_0 j = a5_1 j) (hE_6_999_1 : ∀ j : Int, 0 ≤ j → (j = x17 → a6_0 j = x2) ∧ (j ≠ x17 → a6_0 j = a6_1 j)) : LV2 (a0_0) (a5_0) (a6_0) (x1) (x2) (x3) (x4) (x15) (x15) := by
  have e_hE_0_999_1 := funext hE_0_999_1; subst e_hE_0_999_1
  have e_hE_5_999_1 := funext hE_5_999_1; subst e_hE_5_999_1
  first
    | exact lv2_start ‹LV1 _ _ _ _ _ _ _ _ _› (by omega) (by assumption) (by omega) (by omega) rfl
def o_Fa_shortestWay_at_Nenear_Emlevel_Emway_3 : or_T := (106, 18, [(0, (2, 0, 0, [82])), (1, (0, 2, 24, [])), (2, (0, 0, 24, [])), (3, (0, 0, 33554431, [])), (4, (0, 0, 33554431, [])), (5, (2, 0, 0, [34])), (6, (2, 0, 0, [35])), (7, (2, 0, 0, [82])), (8, (0, 2, 24, [])), (9, (0, 0, 24, [])), (10, (0, 0, 33554431, [])), (11, (0, 0, 33554431, [])), (12, (2, 0, 0, [34])), (13, (2, 0, 0, [35])), (14, (0, 0, 33554431, [])), (15, (0, 1, 22, [])), (16, (0, 2, 23, [])), (17, (0, 0, 0, []))], [(20, [7, 12, 8, 9, 10, 11, 14, 15, 16], [61, 2, 562]), (20, [7, 8], [61, 1, 560]), (20, [8, 11], [61, 0, 561]), (24, [0, 7], []), (24, [1, 8], []), (24, [2, 9], []), (24, [3, 10], []), (24, [4, 11], []), (24, [5, 12], []), (24, [6, 13], []), (20, [7, 12, 8, 9, 10, 11, 14, 15, 16], [61, 2, 898]), (100, [13, 17, 9], []), (8, [15], [1]), (8, [15], [1]), (7, [16, 8], [2]), (20, [7, 12, 8, 9, 10, 11, 14, 15, 16], [61, 2, 562]), (20, [7, 8], [61, 1, 560]), (20, [8, 11], [61, 0, 561]), (20, [7, 12, 8, 9, 10, 11, 14, 15, 16], [61, 2, 898])], [], [], [(20, [7, 12, 13, 8, 9, 10, 11, 15, 15], [61, 3, 563])], [], [(16, 8, -4294967296, -1), (1, 8, -4294967296, 0), (2, 9, -4294967296, 0), (3, 10, -4294967296, 0), (4, 11, -4294967296, 0), (8, 1, -4294967296, 0), (9, 2, -4294967296, 0), (10, 3, -4294967296, 0), (11, 4, -4294967296, 0), (15, 1, -4294967296, 0), (15, 8, -4294967296, 0), (15, 16, -4294967296, -1), (16, 1, -4294967296, 1), (16, 8, -4294967296, 1)])
theorem oo_Fa_shortestWay_at_Nenear_Emlevel_Emway_3 {kA : Nat → ClassId} : or_ok PRD kA GG o_Fa_shortestWay_at_Nenear_Emlevel_Emway_3 := by
  refine or_mk fun A ta ws vs hD hth hl => ?_
  intro t0 r0 t1 k1 t2 k2 t3 k3 t4 k4 t5 r5 t6 r6 t7 r7 t8 k8 t9 k9 t10 k10 t11 k11 t12 r12 t13 r13 t14 k14 t15 k15 t16 k16 t17 k17 d0 d1 d2 d3 d4 d5 d6 d7 d8 d9 d10 d11 d12 d13 f0 f1 f2 f3 f4 f5 f6 f7 f8 f9 f10 ta1 w1 le1 s1 f12 f13 f14 f15 f16 f17 f18
  replace f3 := shm_5 f3
  replace f4 := shm_5 f4
  replace f5 := shm_5 f5
  replace f6 := shm_5 f6
  replace f7 := shm_5 f7
  replace f8 := shm_5 f8
  replace f9 := shm_5 f9
  have s1 : (∀ b j, w_el ws b j = if b = v_ad (n_v vs 13) ∧ j = (v_iv (n_v vs 17)).toNat then v_iv (n_v vs 9) else w_el w1 b j) ∧ ∀ b k, w_fd ws b k = w_fd w1 b k := s1.2
  replace f13 := shm_142 f13
  replace f15 := shm_1184 f15
  have q7 : n_v vs 7 = n_v vs 0 := f3.symm
  have q8 : n_v vs 8 = n_v vs 1 := f4.symm
  have q9 : n_v vs 9 = n_v vs 2 := f5.symm
  have q10 : n_v vs 10 = n_v vs 3 := f6.symm
  have q11 : n_v vs 11 = n_v vs 4 := f7.symm
  have q12 : n_v vs 12 = n_v vs 5 := f8.symm
  have q13 : n_v vs 13 = n_v vs 6 := f9.symm
  rw [q9] at s1
  rw [q13] at s1
  simp only [q8, q7, q9, q10, q11, q12] at f15
  have cr_0_999 : ta (v_ad (n_v vs 0)) = some 82 := r0
  have cr_5_999 : ta (v_ad (n_v vs 5)) = some 34 := r5
  have ad_6 : v_ad (n_v vs 6) = v_ad (n_v vs 6) := rfl
  have hE_0_999_1 : ∀ j : Int, w_ei ws (v_ad (n_v vs 0)) j = w_ei w1 (v_ad (n_v vs 0)) j := el_kp s1.1 r6 cr_0_999 (by decide)
  have hE_5_999_1 : ∀ j : Int, w_ei ws (v_ad (n_v vs 5)) j = w_ei w1 (v_ad (n_v vs 5)) j := el_kp s1.1 r6 cr_5_999 (by decide)
  have hE_6_999_1 : ∀ j : Int, 0 ≤ j → (j = v_iv (n_v vs 17) → w_ei ws (v_ad (n_v vs 6)) j = v_iv (n_v vs 2)) ∧ (j ≠ v_iv (n_v vs 17) → w_ei ws (v_ad (n_v vs 6)) j = w_ei w1 (v_ad (n_v vs 6)) j) := fun j hj => ⟨fun h => by unfold w_ei; rw [s1.1, if_pos ⟨ad_6.symm, by rw [h]⟩], fun h => by unfold w_ei; rw [s1.1, if_neg (fun e => h (by have := e.2; omega))]⟩
  have nf0 : fc_1 PRD (20, [7, 12, 13, 8, 9, 10, 11, 15, 15], [61, 3, 563]) ws (vs) := by
    refine ⟨nf_in hl rfl, sgq_1186 ?_⟩
    · show LV2 (w_ei ws (v_ad (n_v vs 7))) (w_ei ws (v_ad (n_v vs 12))) (w_ei ws (v_ad (n_v vs 13))) (v_iv (n_v vs 8)) (v_iv (n_v vs 9)) (v_iv (n_v vs 10)) (v_iv (n_v vs 11)) (v_iv (n_v vs 15)) (v_iv (n_v vs 15))
      simp only [q7, q8, q9, q10, q11, q12, q13]
      exact vc_Fa_shortestWay_at_Nenear_Emlevel_Emway_3_0 (v_iv (n_v vs 1)) (v_iv (n_v vs 2)) (v_iv (n_v vs 3)) (v_iv (n_v vs 4)) (v_iv (n_v vs 14)) (v_iv (n_v vs 15)) (v_iv (n_v vs 16)) (v_iv (n_v vs 17)) (w_ei ws (v_ad (n_v vs 0))) (w_ei ws (v_ad (n_v vs 5))) (w_ei w1 (v_ad (n_v vs 0))) (w_ei w1 (v_ad (n_v vs 5))) (w_ei ws (v_ad (n_v vs 6))) (w_ei w1 (v_ad (n_v vs 6))) k1 k2 k3 k4 k14 k15 k16 k17 f13 f15 hE_0_999_1 hE_5_999_1 hE_6_999_1
  refine ⟨(fun _ h => (by cases h)), [], trivial, ?_, (fun _ h => (by cases h))⟩
  rw [List.append_nil]
  exact List.forall_mem_cons.mpr ⟨⟨show (20 : Nat) < 100 from by decide, nf0⟩, (fun _ h => (by cases h))⟩
set_option maxHeartbeats 4000000 in
theorem vc_Fa_shortestWay_at_Nenear_Emlevel_Emway_4_0 (x1 : Int) (x2 : Int) (x3 : Int) (x4 : Int) (x8 : Int) (x14 : Int) (x15 : Int) (x16 : Int) (x18 : Int) (x19 : Int) (x20 : Int) (x21 : Int) (x22 : Int) (x23 : Int) (x24 : Int) (x25 : Int) (x27 : Int) (x28 : Int) (x29 : Int) (x30 : Int) (a5_0 : Int → Int) (a0_0 : Int → Int) (a0_1 : Int → Int) (a5_1 : Int → Int) (k1 : 2 ≤ x1 ∧ x1 ≤ 24) (k2 : 0 ≤ x2 ∧ x2 ≤ 24) (k3 : 0 ≤ x3 ∧ x3 ≤ 33554431) (k4 : 0 ≤ x4 ∧ x4 ≤ 33554431) (k8 : 2 ≤ x8 ∧ x8 ≤ 24) (k14 : 0 ≤ x14 ∧ x14 ≤ 33554431) (k15 : 0 ≤ x15 ∧ x15 ≤ 0) (k16 : 1 ≤ x16 ∧ x16 ≤ 23) (k18 : 0 ≤ x18 ∧ x18 ≤ 22) (k19 : 0 ≤ x19 ∧ x19 ≤ 33554431) (k20 : 0 ≤ x20 ∧ x20 ≤ 16777215) (k21 : 0 ≤ x21 ∧ x21 ≤ 16777215) (k22 : 0 ≤ x22 ∧ x22 ≤ 33554431) (k23 : (-1) ≤ x23 ∧ x23 ≤ (-1)) (k24 : (-2147483648) ≤ x24 ∧ x24 ≤ 2147483647) (k25 : 0 ≤ x25 ∧ x25 ≤ 33554431) (k30 : 2 ≤ x30 ∧ x30 ≤ 24) (d0 : x16 + 1 ≤ x30 ∧ x30 ≤ x16 + 1) (d4 : x16 + (-1) ≤ x18 ∧ x18 ≤ x16 + (-1)) (d9 : x8 + (-4294967296) ≤ x1 ∧ x1 ≤ x8 + 0) (d13 : x1 + (-4294967296) ≤ x8 ∧ x8 ≤ x1 + 0) (f0 : x30 = x16 + 1) (f7 : bvp (x25) = bvp (x14) &&& bvp (x24)) (f8 : bvp (x24) = bvp (x22) ^^^ bvp (x23)) (h9 : x22 = a5_0 (x16)) (f21 : bvp (x21) = bvp (x20) &&& bvp (x14)) (f22 : NEF (a0_1) (x1) (x19) (x20)) (h23 : x19 = a5_1 (x18)) (f25 : x15 = 0) (f27 : LV1 (a0_1) (a5_1) (x1) (x2) (x3) (x4) (x14) (x15) (x16)) (hE_0_999_1 : ∀ j : Int, a0_0 j = a0_1 j) (hE_5_999_1 : ∀ j : Int, 0 ≤ j → (j = x16 → a5_0 j = x21) ∧ (j ≠ x16 → a5_0 j = a5_1 j)) : LV1 (a0_0) (a5_0) (x1) (x2) (x3) (x4) (x25) (x15) (x30) := by
  have e_hE_0_999_1 := funext hE_0_999_1; subst e_hE_0_999_1
  first
    | (have e21 : a5_0 x16 = x21 := (hE_5_999_1 x16 (by omega)).1 rfl
       have e19 : x19 = a5_1 (x16 - 1) := by rw [show x16 - 1 = x18 by omega]; assumption
       have e24 : bvp x24 = bvp x21 ^^^ bvp (-1) := by rw [← e21, ← ‹x22 = a5_0 x16›, show (-1 : Int) = x23 by omega]; assumption
       have q := (lv1_new (r := x24) ‹LV1 _ _ _ _ _ _ _ _ _› (by omega) e19 ‹NEF _ _ _ _› ‹bvp x21 = _› hE_5_999_1 rfl e24 ‹bvp x25 = _› (by omega)).2
       rw [show x15 = 0 by omega, show x30 = x16 + 1 by omega]
       exact q)
    | (have e21 : a5_0 x16 = x21 := (hE_5_999_1 x16 (by omega)).1 rfl
       have e19 : x19 = a5_1 (x16 - 1) := by rw [show x16 - 1 = x18 by omega]; assumption
       have e24 : bvp x24 = bvp x21 ^^^ bvp (-1) := by rw [← e21, ← ‹x22 = a5_0 x16›, show (-1 : Int) = x23 by omega]; assumption
       obtain ⟨w, w0, w1, w2⟩ := bit_ex (x := x29) (by omega) (by omega)
       have w3 := (bit_and ‹bvp x29 = _› w).mp w2
       have w5 : bit x21 w := by rw [← e21, ← (by assumption : x28 = a5_0 x16)]; exact w3.2
       have q := (lv1_new (r := x24) ‹LV1 _ _ _ _ _ _ _ _ _› (by omega) e19 ‹NEF _ _ _ _› ‹bvp x21 = _› hE_5_999_1 rfl e24 ‹bvp x25 = _› (by omega)).1 w ⟨w0, w1, by first | (rw [← (by assumption : x27 = a0_0 x2)]; exact w3.1) | (rw [← (by assumption : x27 = a0_1 x2)]; exact w3.1), w5⟩
       rw [show x30 = x16 + 1 by omega]
       exact q)
set_option maxHeartbeats 4000000 in
theorem vc_Fa_shortestWay_at_Nenear_Emlevel_Emway_4_1 (x1 : Int) (x2 : Int) (x3 : Int) (x4 : Int) (x14 : Int) (x15 : Int) (x16 : Int) (x18 : Int) (x19 : Int) (x20 : Int) (x21 : Int) (x22 : Int) (x23 : Int) (x24 : Int) (x25 : Int) (x26 : Int) (x27 : Int) (x28 : Int) (x29 : Int) (x30 : Int) (a5_0 : Int → Int) (a0_0 : Int → Int) (a0_1 : Int → Int) (a5_1 : Int → Int) (k1 : 2 ≤ x1 ∧ x1 ≤ 24) (k2 : 0 ≤ x2 ∧ x2 ≤ 24) (k3 : 0 ≤ x3 ∧ x3 ≤ 33554431) (k4 : 0 ≤ x4 ∧ x4 ≤ 33554431) (k14 : 0 ≤ x14 ∧ x14 ≤ 33554431) (k15 : 0 ≤ x15 ∧ x15 ≤ 0) (k16 : 1 ≤ x16 ∧ x16 ≤ 23) (k18 : 0 ≤ x18 ∧ x18 ≤ 22) (k19 : 0 ≤ x19 ∧ x19 ≤ 33554431) (k20 : 0 ≤ x20 ∧ x20 ≤ 16777215) (k21 : 0 ≤ x21 ∧ x21 ≤ 16777215) (k22 : 0 ≤ x22 ∧ x22 ≤ 33554431) (k23 : (-1) ≤ x23 ∧ x23 ≤ (-1)) (k24 : (-2147483648) ≤ x24 ∧ x24 ≤ 2147483647) (k25 : 0 ≤ x25 ∧ x25 ≤ 33554431) (k26 : 1 ≤ x26 ∧ x26 ≤ 33554431) (k27 : 0 ≤ x27 ∧ x27 ≤ 16777215) (k28 : 0 ≤ x28 ∧ x28 ≤ 33554431) (k29 : 0 ≤ x29 ∧ x29 ≤ 0) (k30 : 2 ≤ x30 ∧ x30 ≤ 24) (d0 : x16 + 1 ≤ x30 ∧ x30 ≤ x16 + 1) (d4 : x16 + (-1) ≤ x18 ∧ x18 ≤ x16 + (-1)) (f0 : x30 = x16 + 1) (f1 : x29 = 0) (f2 : bvp (x29) = bvp (x27) &&& bvp (x28)) (h3 : x28 = a5_0 (x16)) (h4 : x27 = a0_0 (x2)) (h6 : x26 = a5_0 (x16)) (f7 : bvp (x25) = bvp (x14) &&& bvp (x24)) (f8 : bvp (x24) = bvp (x22) ^^^ bvp (x23)) (h9 : x22 = a5_0 (x16)) (f21 : bvp (x21) = bvp (x20) &&& bvp (x14)) (f22 : NEF (a0_1) (x1) (x19) (x20)) (h23 : x19 = a5_1 (x18)) (f25 : x15 = 0) (f27 : LV1 (a0_1) (a5_1) (x1) (x2) (x3) (x4) (x14) (x15) (x16)) (f29 : FRN (x1) (x4)) (f30 : LV3 (a0_1) (a5_1) (x1) (x2) (x3) (x4) (x14) (x15) (x16)) (hE_0_999_1 : ∀ j : Int, a0_0 j = a0_1 j) (hE_5_999_1 : ∀ j : Int, 0 ≤ j → (j = x16 → a5_0 j = x21) ∧ (j ≠ x16 → a5_0 j = a5_1 j)) : LV3 (a0_0) (a5_0) (x1) (x2) (x3) (x4) (x25) (x15) (x30) := by
  have e_hE_0_999_1 := funext hE_0_999_1; subst e_hE_0_999_1
  first
    | (have e21 : a5_0 x16 = x21 := (hE_5_999_1 x16 (by omega)).1 rfl
       have e19 : x19 = a5_1 (x16 - 1) := by rw [show x16 - 1 = x18 by omega]; assumption
       have e24 : bvp x24 = bvp x21 ^^^ bvp (-1) := by rw [← e21, ← ‹x22 = a5_0 x16›, show (-1 : Int) = x23 by omega]; assumption
       have x0 : ∃ w, 0 ≤ w ∧ w < 32 ∧ bit x21 w := bit_ex (by omega) (by omega)
       first
         | exact lv3_new (r := x24) ‹LV3 _ _ _ _ _ _ _ _ _› (fun w a b z => (‹LV1 _ _ _ _ _ _ _ _ _›).2.2.2.1 w a b z) ‹FRN _ _› e19 ‹NEF _ _ _ _› ‹bvp x21 = _› hE_5_999_1 rfl e24 ‹bvp x25 = _› (by omega) x0 (Or.inr (fun w a b z y => by
             have w5 : bit x29 w := (bit_and ‹bvp x29 = _› w).mpr ⟨by first | (rw [(by assumption : x27 = a0_0 x2)]; exact z) | (rw [(by assumption : x27 = a0_1 x2)]; exact z), by rw [(by assumption : x28 = a5_0 x16), e21]; exact y⟩
             rw [show x29 = 0 by omega] at w5
             exact bit_zero w w5)) (by omega)
         | exact lv3_new (r := x24) ‹LV3 _ _ _ _ _ _ _ _ _› (fun w a b z => (‹LV1 _ _ _ _ _ _ _ _ _›).2.2.2.1 w a b z) ‹FRN _ _› e19 ‹NEF _ _ _ _› ‹bvp x21 = _› hE_5_999_1 rfl e24 ‹bvp x25 = _› (by omega) x0 (Or.inl (by omega)) (by omega))
def o_Fa_shortestWay_at_Nenear_Emlevel_Emway_4 : or_T := (15, 31, [(0, (2, 0, 0, [82])), (1, (0, 2, 24, [])), (2, (0, 0, 24, [])), (3, (0, 0, 33554431, [])), (4, (0, 0, 33554431, [])), (5, (2, 0, 0, [34])), (6, (2, 0, 0, [35])), (7, (2, 0, 0, [82])), (8, (0, 2, 24, [])), (9, (0, 0, 24, [])), (10, (0, 0, 33554431, [])), (11, (0, 0, 33554431, [])), (12, (2, 0, 0, [34])), (13, (2, 0, 0, [35])), (14, (0, 0, 33554431, [])), (15, (0, 0, 0, [])), (16, (0, 1, 23, [])), (17, (0, 1, 1, [])), (18, (0, 0, 22, [])), (19, (0, 0, 33554431, [])), (20, (0, 0, 16777215, [])), (21, (0, 0, 16777215, [])), (22, (0, 0, 33554431, [])), (23, (0, -1, -1, [])), (24, (0, -2147483648, 2147483647, [])), (25, (0, 0, 33554431, [])), (26, (0, 1, 33554431, [])), (27, (0, 0, 16777215, [])), (28, (0, 0, 33554431, [])), (29, (0, 0, 0, [])), (30, (0, 2, 24, []))], [(6, [30, 16], [1]), (8, [29], [0]), (16, [29, 27, 28], [0]), (10, [28, 12, 16], []), (10, [27, 7, 9], []), (8, [26], [1]), (10, [26, 12, 16], []), (16, [25, 14, 24], [0]), (16, [24, 22, 23], [2]), (10, [22, 12, 16], []), (20, [7, 8, 19, 20], [61, 1, 557]), (20, [7, 8], [61, 1, 560]), (20, [8, 11], [61, 0, 561]), (24, [0, 7], []), (24, [1, 8], []), (24, [2, 9], []), (24, [3, 10], []), (24, [4, 11], []), (24, [5, 12], []), (24, [6, 13], []), (100, [12, 16, 21], []), (16, [21, 20, 14], [0]), (20, [7, 8, 19, 20], [61, 1, 557]), (10, [19, 12, 18], []), (2, [18, 16, 17], []), (8, [15], [0]), (7, [16, 8], [2]), (20, [7, 12, 8, 9, 10, 11, 14, 15, 16], [61, 2, 562]), (20, [7, 8], [61, 1, 560]), (20, [8, 11], [61, 0, 561]), (20, [7, 12, 8, 9, 10, 11, 14, 15, 16], [61, 2, 898])], [], [], [(20, [7, 12, 8, 9, 10, 11, 25, 15, 30], [61, 2, 562]), (20, [7, 12, 8, 9, 10, 11, 25, 15, 30], [61, 2, 898])], [], [(30, 16, 1, 1), (30, 8, -4294967296, 0), (30, 1, -4294967296, 2), (30, 8, -4294967296, 2), (18, 16, -1, -1), (18, 8, -4294967296, -2), (18, 1, -4294967296, 0), (18, 8, -4294967296, 0), (16, 8, -4294967296, -1), (1, 8, -4294967296, 0), (2, 9, -4294967296, 0), (3, 10, -4294967296, 0), (4, 11, -4294967296, 0), (8, 1, -4294967296, 0), (9, 2, -4294967296, 0), (10, 3, -4294967296, 0), (11, 4, -4294967296, 0), (16, 1, -4294967296, 1), (16, 8, -4294967296, 1)])
theorem oo_Fa_shortestWay_at_Nenear_Emlevel_Emway_4 {kA : Nat → ClassId} : or_ok PRD kA GG o_Fa_shortestWay_at_Nenear_Emlevel_Emway_4 := by
  refine or_mk fun A ta ws vs hD hth hl => ?_
  intro t0 r0 t1 k1 t2 k2 t3 k3 t4 k4 t5 r5 t6 r6 t7 r7 t8 k8 t9 k9 t10 k10 t11 k11 t12 r12 t13 r13 t14 k14 t15 k15 t16 k16 t17 k17 t18 k18 t19 k19 t20 k20 t21 k21 t22 k22 t23 k23 t24 k24 t25 k25 t26 k26 t27 k27 t28 k28 t29 k29 t30 k30 d0 d1 d2 d3 d4 d5 d6 d7 d8 d9 d10 d11 d12 d13 d14 d15 d16 d17 d18 f0 f1 f2 f3 f4 f5 f6 f7 f8 f9 f10 f11 f12 f13 f14 f15 f16 f17 f18 f19 ta1 w1 le1 s1 f21 f22 f23 f24 f25 f26 f27 f28 f29 f30
  replace f0 := shm_4 f0
  replace f1 := shm_192 f1
  replace f2 := shm_11 f2
  replace f3 := shm_107 f3
  replace f4 := shm_107 f4
  replace f6 := shm_107 f6
  replace f7 := shm_11 f7
  replace f8 := shm_33 f8
  replace f9 := shm_107 f9
  replace f13 := shm_5 f13
  replace f14 := shm_5 f14
  replace f15 := shm_5 f15
  replace f16 := shm_5 f16
  replace f17 := shm_5 f17
  replace f18 := shm_5 f18
  have s1 : (∀ b j, w_el ws b j = if b = v_ad (n_v vs 12) ∧ j = (v_iv (n_v vs 16)).toNat then v_iv (n_v vs 21) else w_el w1 b j) ∧ ∀ b k, w_fd ws b k = w_fd w1 b k := s1.2
  replace f21 := shm_11 f21
  replace f22 := shm_363 f22
  replace f23 := shm_107 f23
  replace f25 := shm_192 f25
  replace f27 := shm_1184 f27
  replace f29 := shm_1181 f29
  replace f30 := shm_1185 f30
  have q7 : n_v vs 7 = n_v vs 0 := f13.symm
  have q8 : n_v vs 8 = n_v vs 1 := f14.symm
  have q9 : n_v vs 9 = n_v vs 2 := f15.symm
  have q10 : n_v vs 10 = n_v vs 3 := f16.symm
  have q11 : n_v vs 11 = n_v vs 4 := f17.symm
  have q12 : n_v vs 12 = n_v vs 5 := f18.symm
  simp only [q12, q7, q9] at f3 f4 f6 f9
  rw [q12] at s1
  simp only [q7, q8, q12, q9, q10, q11] at f22 f23 f27 f29 f30
  have cr_0_999 : ta (v_ad (n_v vs 0)) = some 82 := r0
  have ad_5 : v_ad (n_v vs 5) = v_ad (n_v vs 5) := rfl
  have h3 : v_iv (n_v vs 28) = w_ei ws (v_ad (n_v vs 5)) (v_iv (n_v vs 16)) := f3
  have h4 : v_iv (n_v vs 27) = w_ei ws (v_ad (n_v vs 0)) (v_iv (n_v vs 2)) := f4
  have h6 : v_iv (n_v vs 26) = w_ei ws (v_ad (n_v vs 5)) (v_iv (n_v vs 16)) := f6
  have h9 : v_iv (n_v vs 22) = w_ei ws (v_ad (n_v vs 5)) (v_iv (n_v vs 16)) := f9
  have h23 : v_iv (n_v vs 19) = w_ei w1 (v_ad (n_v vs 5)) (v_iv (n_v vs 18)) := f23
  have hE_0_999_1 : ∀ j : Int, w_ei ws (v_ad (n_v vs 0)) j = w_ei w1 (v_ad (n_v vs 0)) j := el_kp s1.1 r5 cr_0_999 (by decide)
  have hE_5_999_1 : ∀ j : Int, 0 ≤ j → (j = v_iv (n_v vs 16) → w_ei ws (v_ad (n_v vs 5)) j = v_iv (n_v vs 21)) ∧ (j ≠ v_iv (n_v vs 16) → w_ei ws (v_ad (n_v vs 5)) j = w_ei w1 (v_ad (n_v vs 5)) j) := fun j hj => ⟨fun h => by unfold w_ei; rw [s1.1, if_pos ⟨ad_5.symm, by rw [h]⟩], fun h => by unfold w_ei; rw [s1.1, if_neg (fun e => h (by have := e.2; omega))]⟩
  have nf0 : fc_1 PRD (20, [7, 12, 8, 9, 10, 11, 25, 15, 30], [61, 2, 562]) ws (vs) := by
    refine ⟨nf_in hl rfl, sgq_1184 ?_⟩
    · show LV1 (w_ei ws (v_ad (n_v vs 7))) (w_ei ws (v_ad (n_v vs 12))) (v_iv (n_v vs 8)) (v_iv (n_v vs 9)) (v_iv (n_v vs 10)) (v_iv (n_v vs 11)) (v_iv (n_v vs 25)) (v_iv (n_v vs 15)) (v_iv (n_v vs 30))
      simp only [q7, q8, q9, q10, q11, q12]
      exact vc_Fa_shortestWay_at_Nenear_Emlevel_Emway_4_0 (v_iv (n_v vs 1)) (v_iv (n_v vs 2)) (v_iv (n_v vs 3)) (v_iv (n_v vs 4)) (v_iv (n_v vs 8)) (v_iv (n_v vs 14)) (v_iv (n_v vs 15)) (v_iv (n_v vs 16)) (v_iv (n_v vs 18)) (v_iv (n_v vs 19)) (v_iv (n_v vs 20)) (v_iv (n_v vs 21)) (v_iv (n_v vs 22)) (v_iv (n_v vs 23)) (v_iv (n_v vs 24)) (v_iv (n_v vs 25)) (v_iv (n_v vs 27)) (v_iv (n_v vs 28)) (v_iv (n_v vs 29)) (v_iv (n_v vs 30)) (w_ei ws (v_ad (n_v vs 5))) (w_ei ws (v_ad (n_v vs 0))) (w_ei w1 (v_ad (n_v vs 0))) (w_ei w1 (v_ad (n_v vs 5))) k1 k2 k3 k4 k8 k14 k15 k16 k18 k19 k20 k21 k22 k23 k24 k25 k30 d0 d4 d9 d13 f0 f7 f8 h9 f21 f22 h23 f25 f27 hE_0_999_1 hE_5_999_1
  have nf1 : fc_1 PRD (20, [7, 12, 8, 9, 10, 11, 25, 15, 30], [61, 2, 898]) ws (vs) := by
    refine ⟨nf_in hl rfl, sgq_1185 ?_⟩
    · show LV3 (w_ei ws (v_ad (n_v vs 7))) (w_ei ws (v_ad (n_v vs 12))) (v_iv (n_v vs 8)) (v_iv (n_v vs 9)) (v_iv (n_v vs 10)) (v_iv (n_v vs 11)) (v_iv (n_v vs 25)) (v_iv (n_v vs 15)) (v_iv (n_v vs 30))
      simp only [q7, q8, q9, q10, q11, q12]
      exact vc_Fa_shortestWay_at_Nenear_Emlevel_Emway_4_1 (v_iv (n_v vs 1)) (v_iv (n_v vs 2)) (v_iv (n_v vs 3)) (v_iv (n_v vs 4)) (v_iv (n_v vs 14)) (v_iv (n_v vs 15)) (v_iv (n_v vs 16)) (v_iv (n_v vs 18)) (v_iv (n_v vs 19)) (v_iv (n_v vs 20)) (v_iv (n_v vs 21)) (v_iv (n_v vs 22)) (v_iv (n_v vs 23)) (v_iv (n_v vs 24)) (v_iv (n_v vs 25)) (v_iv (n_v vs 26)) (v_iv (n_v vs 27)) (v_iv (n_v vs 28)) (v_iv (n_v vs 29)) (v_iv (n_v vs 30)) (w_ei ws (v_ad (n_v vs 5))) (w_ei ws (v_ad (n_v vs 0))) (w_ei w1 (v_ad (n_v vs 0))) (w_ei w1 (v_ad (n_v vs 5))) k1 k2 k3 k4 k14 k15 k16 k18 k19 k20 k21 k22 k23 k24 k25 k26 k27 k28 k29 k30 d0 d4 f0 f1 f2 h3 h4 h6 f7 f8 h9 f21 f22 h23 f25 f27 f29 f30 hE_0_999_1 hE_5_999_1
  refine ⟨(fun _ h => (by cases h)), [], trivial, ?_, (fun _ h => (by cases h))⟩
  rw [List.append_nil]
  exact List.forall_mem_cons.mpr ⟨⟨show (20 : Nat) < 100 from by decide, nf0⟩, List.forall_mem_cons.mpr ⟨⟨show (20 : Nat) < 100 from by decide, nf1⟩, (fun _ h => (by cases h))⟩⟩
set_option maxHeartbeats 4000000 in
theorem vc_Fa_shortestWay_at_Nenear_Emlevel_Emway_5_0 (x1 : Int) (x2 : Int) (x3 : Int) (x4 : Int) (x8 : Int) (x14 : Int) (x15 : Int) (x16 : Int) (x18 : Int) (x19 : Int) (x20 : Int) (x21 : Int) (x22 : Int) (x23 : Int) (x24 : Int) (x25 : Int) (x27 : Int) (x28 : Int) (x29 : Int) (x30 : Int) (a5_0 : Int → Int) (a0_0 : Int → Int) (a0_1 : Int → Int) (a5_1 : Int → Int) (k1 : 2 ≤ x1 ∧ x1 ≤ 24) (k2 : 0 ≤ x2 ∧ x2 ≤ 24) (k3 : 0 ≤ x3 ∧ x3 ≤ 33554431) (k4 : 0 ≤ x4 ∧ x4 ≤ 33554431) (k8 : 2 ≤ x8 ∧ x8 ≤ 24) (k14 : 0 ≤ x14 ∧ x14 ≤ 33554431) (k15 : 0 ≤ x15 ∧ x15 ≤ 0) (k16 : 1 ≤ x16 ∧ x16 ≤ 23) (k18 : 0 ≤ x18 ∧ x18 ≤ 22) (k19 : 0 ≤ x19 ∧ x19 ≤ 33554431) (k20 : 0 ≤ x20 ∧ x20 ≤ 16777215) (k21 : 0 ≤ x21 ∧ x21 ≤ 16777215) (k22 : 0 ≤ x22 ∧ x22 ≤ 33554431) (k23 : (-1) ≤ x23 ∧ x23 ≤ (-1)) (k24 : (-2147483648) ≤ x24 ∧ x24 ≤ 2147483647) (k25 : 0 ≤ x25 ∧ x25 ≤ 33554431) (k27 : 0 ≤ x27 ∧ x27 ≤ 16777215) (k28 : 0 ≤ x28 ∧ x28 ≤ 33554431) (k29 : 1 ≤ x29 ∧ x29 ≤ 16777215) (k30 : 2 ≤ x30 ∧ x30 ≤ 24) (d0 : x16 + 1 ≤ x30 ∧ x30 ≤ x16 + 1) (d4 : x16 + (-1) ≤ x18 ∧ x18 ≤ x16 + (-1)) (d9 : x8 + (-4294967296) ≤ x1 ∧ x1 ≤ x8 + 0) (d13 : x1 + (-4294967296) ≤ x8 ∧ x8 ≤ x1 + 0) (f0 : x30 = x16 + 1) (f2 : bvp (x29) = bvp (x27) &&& bvp (x28)) (h3 : x28 = a5_0 (x16)) (h4 : x27 = a0_0 (x2)) (f7 : bvp (x25) = bvp (x14) &&& bvp (x24)) (f8 : bvp (x24) = bvp (x22) ^^^ bvp (x23)) (h9 : x22 = a5_0 (x16)) (f21 : bvp (x21) = bvp (x20) &&& bvp (x14)) (f22 : NEF (a0_1) (x1) (x19) (x20)) (h23 : x19 = a5_1 (x18)) (f25 : x15 = 0) (f27 : LV1 (a0_1) (a5_1) (x1) (x2) (x3) (x4) (x14) (x15) (x16)) (hE_0_999_1 : ∀ j : Int, a0_0 j = a0_1 j) (hE_5_999_1 : ∀ j : Int, 0 ≤ j → (j = x16 → a5_0 j = x21) ∧ (j ≠ x16 → a5_0 j = a5_1 j)) : LV1 (a0_0) (a5_0) (x1) (x2) (x3) (x4) (x25) (x16) (x30) := by
  have e_hE_0_999_1 := funext hE_0_999_1; subst e_hE_0_999_1
  first
    | (have e21 : a5_0 x16 = x21 := (hE_5_999_1 x16 (by omega)).1 rfl
       have e19 : x19 = a5_1 (x16 - 1) := by rw [show x16 - 1 = x18 by omega]; assumption
       have e24 : bvp x24 = bvp x21 ^^^ bvp (-1) := by rw [← e21, ← ‹x22 = a5_0 x16›, show (-1 : Int) = x23 by omega]; assumption
       have q := (lv1_new (r := x24) ‹LV1 _ _ _ _ _ _ _ _ _› (by omega) e19 ‹NEF _ _ _ _› ‹bvp x21 = _› hE_5_999_1 rfl e24 ‹bvp x25 = _› (by omega)).2
       rw [show x15 = 0 by omega, show x30 = x16 + 1 by omega]
       exact q)
    | (have e21 : a5_0 x16 = x21 := (hE_5_999_1 x16 (by omega)).1 rfl
       have e19 : x19 = a5_1 (x16 - 1) := by rw [show x16 - 1 = x18 by omega]; assumption
       have e24 : bvp x24 = bvp x21 ^^^ bvp (-1) := by rw [← e21, ← ‹x22 = a5_0 x16›, show (-1 : Int) = x23 by omega]; assumption
       obtain ⟨w, w0, w1, w2⟩ := bit_ex (x := x29) (by omega) (by omega)
       have w3 := (bit_and ‹bvp x29 = _› w).mp w2
       have w5 : bit x21 w := by rw [← e21, ← (by assumption : x28 = a5_0 x16)]; exact w3.2
       have q := (lv1_new (r := x24) ‹LV1 _ _ _ _ _ _ _ _ _› (by omega) e19 ‹NEF _ _ _ _› ‹bvp x21 = _› hE_5_999_1 rfl e24 ‹bvp x25 = _› (by omega)).1 w ⟨w0, w1, by first | (rw [← (by assumption : x27 = a0_0 x2)]; exact w3.1) | (rw [← (by assumption : x27 = a0_1 x2)]; exact w3.1), w5⟩
       rw [show x30 = x16 + 1 by omega]
       exact q)
set_option maxHeartbeats 4000000 in
theorem vc_Fa_shortestWay_at_Nenear_Emlevel_Emway_5_1 (x1 : Int) (x2 : Int) (x3 : Int) (x4 : Int) (x14 : Int) (x15 : Int) (x16 : Int) (x18 : Int) (x19 : Int) (x20 : Int) (x21 : Int) (x22 : Int) (x23 : Int) (x24 : Int) (x25 : Int) (x26 : Int) (x27 : Int) (x28 : Int) (x29 : Int) (x30 : Int) (a5_0 : Int → Int) (a0_0 : Int → Int) (a0_1 : Int → Int) (a5_1 : Int → Int) (k1 : 2 ≤ x1 ∧ x1 ≤ 24) (k2 : 0 ≤ x2 ∧ x2 ≤ 24) (k3 : 0 ≤ x3 ∧ x3 ≤ 33554431) (k4 : 0 ≤ x4 ∧ x4 ≤ 33554431) (k14 : 0 ≤ x14 ∧ x14 ≤ 33554431) (k15 : 0 ≤ x15 ∧ x15 ≤ 0) (k16 : 1 ≤ x16 ∧ x16 ≤ 23) (k18 : 0 ≤ x18 ∧ x18 ≤ 22) (k19 : 0 ≤ x19 ∧ x19 ≤ 33554431) (k20 : 0 ≤ x20 ∧ x20 ≤ 16777215) (k21 : 0 ≤ x21 ∧ x21 ≤ 16777215) (k22 : 0 ≤ x22 ∧ x22 ≤ 33554431) (k23 : (-1) ≤ x23 ∧ x23 ≤ (-1)) (k24 : (-2147483648) ≤ x24 ∧ x24 ≤ 2147483647) (k25 : 0 ≤ x25 ∧ x25 ≤ 33554431) (k26 : 1 ≤ x26 ∧ x26 ≤ 33554431) (k30 : 2 ≤ x30 ∧ x30 ≤ 24) (d0 : x16 + 1 ≤ x30 ∧ x30 ≤ x16 + 1) (d4 : x16 + (-1) ≤ x18 ∧ x18 ≤ x16 + (-1)) (f0 : x30 = x16 + 1) (h6 : x26 = a5_0 (x16)) (f7 : bvp (x25) = bvp (x14) &&& bvp (x24)) (f8 : bvp (x24) = bvp (x22) ^^^ bvp (x23)) (h9 : x22 = a5_0 (x16)) (f21 : bvp (x21) = bvp (x20) &&& bvp (x14)) (f22 : NEF (a0_1) (x1) (x19) (x20)) (h23 : x19 = a5_1 (x18)) (f25 : x15 = 0) (f27 : LV1 (a0_1) (a5_1) (x1) (x2) (x3) (x4) (x14) (x15) (x16)) (f29 : FRN (x1) (x4)) (f30 : LV3 (a0_1) (a5_1) (x1) (x2) (x3) (x4) (x14) (x15) (x16)) (hE_0_999_1 : ∀ j : Int, a0_0 j = a0_1 j) (hE_5_999_1 : ∀ j : Int, 0 ≤ j → (j = x16 → a5_0 j = x21) ∧ (j ≠ x16 → a5_0 j = a5_1 j)) : LV3 (a0_0) (a5_0) (x1) (x2) (x3) (x4) (x25) (x16) (x30) := by
  have e_hE_0_999_1 := funext hE_0_999_1; subst e_hE_0_999_1
  first
    | (have e21 : a5_0 x16 = x21 := (hE_5_999_1 x16 (by omega)).1 rfl
       have e19 : x19 = a5_1 (x16 - 1) := by rw [show x16 - 1 = x18 by omega]; assumption
       have e24 : bvp x24 = bvp x21 ^^^ bvp (-1) := by rw [← e21, ← ‹x22 = a5_0 x16›, show (-1 : Int) = x23 by omega]; assumption
       have x0 : ∃ w, 0 ≤ w ∧ w < 32 ∧ bit x21 w := bit_ex (by omega) (by omega)
       first
         | exact lv3_new (r := x24) ‹LV3 _ _ _ _ _ _ _ _ _› (fun w a b z => (‹LV1 _ _ _ _ _ _ _ _ _›).2.2.2.1 w a b z) ‹FRN _ _› e19 ‹NEF _ _ _ _› ‹bvp x21 = _› hE_5_999_1 rfl e24 ‹bvp x25 = _› (by omega) x0 (Or.inr (fun w a b z y => by
             have w5 : bit x29 w := (bit_and ‹bvp x29 = _› w).mpr ⟨by first | (rw [(by assumption : x27 = a0_0 x2)]; exact z) | (rw [(by assumption : x27 = a0_1 x2)]; exact z), by rw [(by assumption : x28 = a5_0 x16), e21]; exact y⟩
             rw [show x29 = 0 by omega] at w5
             exact bit_zero w w5)) (by omega)
         | exact lv3_new (r := x24) ‹LV3 _ _ _ _ _ _ _ _ _› (fun w a b z => (‹LV1 _ _ _ _ _ _ _ _ _›).2.2.2.1 w a b z) ‹FRN _ _› e19 ‹NEF _ _ _ _› ‹bvp x21 = _› hE_5_999_1 rfl e24 ‹bvp x25 = _› (by omega) x0 (Or.inl (by omega)) (by omega))
def o_Fa_shortestWay_at_Nenear_Emlevel_Emway_5 : or_T := (15, 31, [(0, (2, 0, 0, [82])), (1, (0, 2, 24, [])), (2, (0, 0, 24, [])), (3, (0, 0, 33554431, [])), (4, (0, 0, 33554431, [])), (5, (2, 0, 0, [34])), (6, (2, 0, 0, [35])), (7, (2, 0, 0, [82])), (8, (0, 2, 24, [])), (9, (0, 0, 24, [])), (10, (0, 0, 33554431, [])), (11, (0, 0, 33554431, [])), (12, (2, 0, 0, [34])), (13, (2, 0, 0, [35])), (14, (0, 0, 33554431, [])), (15, (0, 0, 0, [])), (16, (0, 1, 23, [])), (17, (0, 1, 1, [])), (18, (0, 0, 22, [])), (19, (0, 0, 33554431, [])), (20, (0, 0, 16777215, [])), (21, (0, 0, 16777215, [])), (22, (0, 0, 33554431, [])), (23, (0, -1, -1, [])), (24, (0, -2147483648, 2147483647, [])), (25, (0, 0, 33554431, [])), (26, (0, 1, 33554431, [])), (27, (0, 0, 16777215, [])), (28, (0, 0, 33554431, [])), (29, (0, 1, 16777215, [])), (30, (0, 2, 24, []))], [(6, [30, 16], [1]), (8, [29], [1]), (16, [29, 27, 28], [0]), (10, [28, 12, 16], []), (10, [27, 7, 9], []), (8, [26], [1]), (10, [26, 12, 16], []), (16, [25, 14, 24], [0]), (16, [24, 22, 23], [2]), (10, [22, 12, 16], []), (20, [7, 8, 19, 20], [61, 1, 557]), (20, [7, 8], [61, 1, 560]), (20, [8, 11], [61, 0, 561]), (24, [0, 7], []), (24, [1, 8], []), (24, [2, 9], []), (24, [3, 10], []), (24, [4, 11], []), (24, [5, 12], []), (24, [6, 13], []), (100, [12, 16, 21], []), (16, [21, 20, 14], [0]), (20, [7, 8, 19, 20], [61, 1, 557]), (10, [19, 12, 18], []), (2, [18, 16, 17], []), (8, [15], [0]), (7, [16, 8], [2]), (20, [7, 12, 8, 9, 10, 11, 14, 15, 16], [61, 2, 562]), (20, [7, 8], [61, 1, 560]), (20, [8, 11], [61, 0, 561]), (20, [7, 12, 8, 9, 10, 11, 14, 15, 16], [61, 2, 898])], [], [], [(20, [7, 12, 8, 9, 10, 11, 25, 16, 30], [61, 2, 562]), (20, [7, 12, 8, 9, 10, 11, 25, 16, 30], [61, 2, 898])], [], [(30, 16, 1, 1), (30, 8, -4294967296, 0), (30, 1, -4294967296, 2), (30, 8, -4294967296, 2), (18, 16, -1, -1), (18, 8, -4294967296, -2), (18, 1, -4294967296, 0), (18, 8, -4294967296, 0), (16, 8, -4294967296, -1), (1, 8, -4294967296, 0), (2, 9, -4294967296, 0), (3, 10, -4294967296, 0), (4, 11, -4294967296, 0), (8, 1, -4294967296, 0), (9, 2, -4294967296, 0), (10, 3, -4294967296, 0), (11, 4, -4294967296, 0), (16, 1, -4294967296, 1), (16, 8, -4294967296, 1)])
theorem oo_Fa_shortestWay_at_Nenear_Emlevel_Emway_5 {kA : Nat → ClassId} : or_ok PRD kA GG o_Fa_shortestWay_at_Nenear_Emlevel_Emway_5 := by
  refine or_mk fun A ta ws vs hD hth hl => ?_
  intro t0 r0 t1 k1 t2 k2 t3 k3 t4 k4 t5 r5 t6 r6 t7 r7 t8 k8 t9 k9 t10 k10 t11 k11 t12 r12 t13 r13 t14 k14 t15 k15 t16 k16 t17 k17 t18 k18 t19 k19 t20 k20 t21 k21 t22 k22 t23 k23 t24 k24 t25 k25 t26 k26 t27 k27 t28 k28 t29 k29 t30 k30 d0 d1 d2 d3 d4 d5 d6 d7 d8 d9 d10 d11 d12 d13 d14 d15 d16 d17 d18 f0 f1 f2 f3 f4 f5 f6 f7 f8 f9 f10 f11 f12 f13 f14 f15 f16 f17 f18 f19 ta1 w1 le1 s1 f21 f22 f23 f24 f25 f26 f27 f28 f29 f30
  replace f0 := shm_4 f0
  replace f2 := shm_11 f2
  replace f3 := shm_107 f3
  replace f4 := shm_107 f4
  replace f6 := shm_107 f6
  replace f7 := shm_11 f7
  replace f8 := shm_33 f8
  replace f9 := shm_107 f9
  replace f13 := shm_5 f13
  replace f14 := shm_5 f14
  replace f15 := shm_5 f15
  replace f16 := shm_5 f16
  replace f17 := shm_5 f17
  replace f18 := shm_5 f18
  have s1 : (∀ b j, w_el ws b j = if b = v_ad (n_v vs 12) ∧ j = (v_iv (n_v vs 16)).toNat then v_iv (n_v vs 21) else w_el w1 b j) ∧ ∀ b k, w_fd ws b k = w_fd w1 b k := s1.2
  replace f21 := shm_11 f21
  replace f22 := shm_363 f22
  replace f23 := shm_107 f23
  replace f25 := shm_192 f25
  replace f27 := shm_1184 f27
  replace f29 := shm_1181 f29
  replace f30 := shm_1185 f30
  have q7 : n_v vs 7 = n_v vs 0 := f13.symm
  have q8 : n_v vs 8 = n_v vs 1 := f14.symm
  have q9 : n_v vs 9 = n_v vs 2 := f15.symm
  have q10 : n_v vs 10 = n_v vs 3 := f16.symm
  have q11 : n_v vs 11 = n_v vs 4 := f17.symm
  have q12 : n_v vs 12 = n_v vs 5 := f18.symm
  simp only [q12, q7, q9] at f3 f4 f6 f9
  rw [q12] at s1
  simp only [q7, q8, q12, q9, q10, q11] at f22 f23 f27 f29 f30
  have cr_0_999 : ta (v_ad (n_v vs 0)) = some 82 := r0
  have ad_5 : v_ad (n_v vs 5) = v_ad (n_v vs 5) := rfl
  have h3 : v_iv (n_v vs 28) = w_ei ws (v_ad (n_v vs 5)) (v_iv (n_v vs 16)) := f3
  have h4 : v_iv (n_v vs 27) = w_ei ws (v_ad (n_v vs 0)) (v_iv (n_v vs 2)) := f4
  have h6 : v_iv (n_v vs 26) = w_ei ws (v_ad (n_v vs 5)) (v_iv (n_v vs 16)) := f6
  have h9 : v_iv (n_v vs 22) = w_ei ws (v_ad (n_v vs 5)) (v_iv (n_v vs 16)) := f9
  have h23 : v_iv (n_v vs 19) = w_ei w1 (v_ad (n_v vs 5)) (v_iv (n_v vs 18)) := f23
  have hE_0_999_1 : ∀ j : Int, w_ei ws (v_ad (n_v vs 0)) j = w_ei w1 (v_ad (n_v vs 0)) j := el_kp s1.1 r5 cr_0_999 (by decide)
  have hE_5_999_1 : ∀ j : Int, 0 ≤ j → (j = v_iv (n_v vs 16) → w_ei ws (v_ad (n_v vs 5)) j = v_iv (n_v vs 21)) ∧ (j ≠ v_iv (n_v vs 16) → w_ei ws (v_ad (n_v vs 5)) j = w_ei w1 (v_ad (n_v vs 5)) j) := fun j hj => ⟨fun h => by unfold w_ei; rw [s1.1, if_pos ⟨ad_5.symm, by rw [h]⟩], fun h => by unfold w_ei; rw [s1.1, if_neg (fun e => h (by have := e.2; omega))]⟩
  have nf0 : fc_1 PRD (20, [7, 12, 8, 9, 10, 11, 25, 16, 30], [61, 2, 562]) ws (vs) := by
    refine ⟨nf_in hl rfl, sgq_1184 ?_⟩
    · show LV1 (w_ei ws (v_ad (n_v vs 7))) (w_ei ws (v_ad (n_v vs 12))) (v_iv (n_v vs 8)) (v_iv (n_v vs 9)) (v_iv (n_v vs 10)) (v_iv (n_v vs 11)) (v_iv (n_v vs 25)) (v_iv (n_v vs 16)) (v_iv (n_v vs 30))
      simp only [q7, q8, q9, q10, q11, q12]
      exact vc_Fa_shortestWay_at_Nenear_Emlevel_Emway_5_0 (v_iv (n_v vs 1)) (v_iv (n_v vs 2)) (v_iv (n_v vs 3)) (v_iv (n_v vs 4)) (v_iv (n_v vs 8)) (v_iv (n_v vs 14)) (v_iv (n_v vs 15)) (v_iv (n_v vs 16)) (v_iv (n_v vs 18)) (v_iv (n_v vs 19)) (v_iv (n_v vs 20)) (v_iv (n_v vs 21)) (v_iv (n_v vs 22)) (v_iv (n_v vs 23)) (v_iv (n_v vs 24)) (v_iv (n_v vs 25)) (v_iv (n_v vs 27)) (v_iv (n_v vs 28)) (v_iv (n_v vs 29)) (v_iv (n_v vs 30)) (w_ei ws (v_ad (n_v vs 5))) (w_ei ws (v_ad (n_v vs 0))) (w_ei w1 (v_ad (n_v vs 0))) (w_ei w1 (v_ad (n_v vs 5))) k1 k2 k3 k4 k8 k14 k15 k16 k18 k19 k20 k21 k22 k23 k24 k25 k27 k28 k29 k30 d0 d4 d9 d13 f0 f2 h3 h4 f7 f8 h9 f21 f22 h23 f25 f27 hE_0_999_1 hE_5_999_1
  have nf1 : fc_1 PRD (20, [7, 12, 8, 9, 10, 11, 25, 16, 30], [61, 2, 898]) ws (vs) := by
    refine ⟨nf_in hl rfl, sgq_1185 ?_⟩
    · show LV3 (w_ei ws (v_ad (n_v vs 7))) (w_ei ws (v_ad (n_v vs 12))) (v_iv (n_v vs 8)) (v_iv (n_v vs 9)) (v_iv (n_v vs 10)) (v_iv (n_v vs 11)) (v_iv (n_v vs 25)) (v_iv (n_v vs 16)) (v_iv (n_v vs 30))
      simp only [q7, q8, q9, q10, q11, q12]
      exact vc_Fa_shortestWay_at_Nenear_Emlevel_Emway_5_1 (v_iv (n_v vs 1)) (v_iv (n_v vs 2)) (v_iv (n_v vs 3)) (v_iv (n_v vs 4)) (v_iv (n_v vs 14)) (v_iv (n_v vs 15)) (v_iv (n_v vs 16)) (v_iv (n_v vs 18)) (v_iv (n_v vs 19)) (v_iv (n_v vs 20)) (v_iv (n_v vs 21)) (v_iv (n_v vs 22)) (v_iv (n_v vs 23)) (v_iv (n_v vs 24)) (v_iv (n_v vs 25)) (v_iv (n_v vs 26)) (v_iv (n_v vs 27)) (v_iv (n_v vs 28)) (v_iv (n_v vs 29)) (v_iv (n_v vs 30)) (w_ei ws (v_ad (n_v vs 5))) (w_ei ws (v_ad (n_v vs 0))) (w_ei w1 (v_ad (n_v vs 0))) (w_ei w1 (v_ad (n_v vs 5))) k1 k2 k3 k4 k14 k15 k16 k18 k19 k20 k21 k22 k23 k24 k25 k26 k30 d0 d4 f0 h6 f7 f8 h9 f21 f22 h23 f25 f27 f29 f30 hE_0_999_1 hE_5_999_1
  refine ⟨(fun _ h => (by cases h)), [], trivial, ?_, (fun _ h => (by cases h))⟩
  rw [List.append_nil]
  exact List.forall_mem_cons.mpr ⟨⟨show (20 : Nat) < 100 from by decide, nf0⟩, List.forall_mem_cons.mpr ⟨⟨show (20 : Nat) < 100 from by decide, nf1⟩, (fun _ h => (by cases h))⟩⟩
set_option maxHeartbeats 4000000 in
theorem vc_Fa_shortestWay_at_Nenear_Emlevel_Emway_6_0 (x2 : Int) (x3 : Int) (x4 : Int) (x27 : Int) (a0_0 : Int → Int) (a0_1 : Int → Int) (a6_0 : Int → Int) (a6_1 : Int → Int) (k2 : 0 ≤ x2 ∧ x2 ≤ 24) (k3 : 0 ≤ x3 ∧ x3 ≤ 33554431) (k4 : 0 ≤ x4 ∧ x4 ≤ 33554431) (k27 : 0 ≤ x27 ∧ x27 ≤ 0) (hE_0_999_1 : ∀ j : Int, a0_0 j = a0_1 j) (hE_6_999_1 : ∀ j : Int, a6_0 j = a6_1 j) : SHW (a6_0) (x2) (x3) (x4) (x27) := by
  have e_hE_0_999_1 := funext hE_0_999_1; subst e_hE_0_999_1
  have e_hE_6_999_1 := funext hE_6_999_1; subst e_hE_6_999_1
  first
    | exact shw_zero (by omega)
set_option maxHeartbeats 4000000 in
theorem vc_Fa_shortestWay_at_Nenear_Emlevel_Emway_6_1 (x1 : Int) (x2 : Int) (x3 : Int) (x4 : Int) (x14 : Int) (x15 : Int) (x16 : Int) (x18 : Int) (x19 : Int) (x20 : Int) (x21 : Int) (x26 : Int) (x27 : Int) (a5_0 : Int → Int) (a0_0 : Int → Int) (a0_1 : Int → Int) (a5_1 : Int → Int) (a6_0 : Int → Int) (a6_1 : Int → Int) (k1 : 2 ≤ x1 ∧ x1 ≤ 24) (k2 : 0 ≤ x2 ∧ x2 ≤ 24) (k3 : 0 ≤ x3 ∧ x3 ≤ 33554431) (k4 : 0 ≤ x4 ∧ x4 ≤ 33554431) (k14 : 0 ≤ x14 ∧ x14 ≤ 33554431) (k15 : 0 ≤ x15 ∧ x15 ≤ 0) (k16 : 1 ≤ x16 ∧ x16 ≤ 23) (k18 : 0 ≤ x18 ∧ x18 ≤ 22) (k19 : 0 ≤ x19 ∧ x19 ≤ 33554431) (k20 : 0 ≤ x20 ∧ x20 ≤ 16777215) (k21 : 0 ≤ x21 ∧ x21 ≤ 16777215) (k26 : 0 ≤ x26 ∧ x26 ≤ 0) (k27 : 0 ≤ x27 ∧ x27 ≤ 0) (d0 : x16 + (-1) ≤ x18 ∧ x18 ≤ x16 + (-1)) (h1 : x26 = a5_0 (x16)) (f16 : bvp (x21) = bvp (x20) &&& bvp (x14)) (f17 : NEF (a0_1) (x1) (x19) (x20)) (h18 : x19 = a5_1 (x18)) (f20 : x15 = 0) (f22 : LV1 (a0_1) (a5_1) (x1) (x2) (x3) (x4) (x14) (x15) (x16)) (f25 : LV3 (a0_1) (a5_1) (x1) (x2) (x3) (x4) (x14) (x15) (x16)) (hE_0_999_1 : ∀ j : Int, a0_0 j = a0_1 j) (hE_5_999_1 : ∀ j : Int, 0 ≤ j → (j = x16 → a5_0 j = x21) ∧ (j ≠ x16 → a5_0 j = a5_1 j)) (hE_6_999_1 : ∀ j : Int, a6_0 j = a6_1 j) : SHZ (a0_0) (x1) (x2) (x3) (x4) (x27) := by
  have e_hE_0_999_1 := funext hE_0_999_1; subst e_hE_0_999_1
  have e_hE_6_999_1 := funext hE_6_999_1; subst e_hE_6_999_1
  first
    | (have e21 : a5_0 x16 = x21 := (hE_5_999_1 x16 (by omega)).1 rfl
       have e19 : x19 = a5_1 (x16 - 1) := by rw [show x16 - 1 = x18 by omega]; assumption
       exact shz_a (x := x21) ‹LV3 _ _ _ _ _ _ _ _ _› ‹LV1 _ _ _ _ _ _ _ _ _› (by omega) e19 ‹NEF _ _ _ _› ‹bvp x21 = _› (by omega))
def o_Fa_shortestWay_at_Nenear_Emlevel_Emway_6 : or_T := (67, 28, [(0, (2, 0, 0, [82])), (1, (0, 2, 24, [])), (2, (0, 0, 24, [])), (3, (0, 0, 33554431, [])), (4, (0, 0, 33554431, [])), (5, (2, 0, 0, [34])), (6, (2, 0, 0, [35])), (14, (0, 0, 33554431, [])), (15, (0, 0, 0, [])), (16, (0, 1, 23, [])), (18, (0, 0, 22, [])), (19, (0, 0, 33554431, [])), (20, (0, 0, 16777215, [])), (21, (0, 0, 16777215, [])), (26, (0, 0, 0, [])), (27, (0, 0, 0, []))], [(10, [26, 12, 16], []), (24, [0, 7], []), (24, [1, 8], []), (24, [2, 9], []), (24, [3, 10], []), (24, [4, 11], []), (24, [5, 12], []), (100, [12, 16, 21], []), (16, [21, 20, 14], [0]), (20, [7, 8, 19, 20], [61, 1, 557]), (10, [19, 12, 18], []), (8, [15], [0]), (20, [7, 12, 8, 9, 10, 11, 14, 15, 16], [61, 2, 562]), (20, [7, 12, 8, 9, 10, 11, 14, 15, 16], [61, 2, 898])], [], [], [(20, [6, 2, 3, 4, 27], [61, 1, 564]), (20, [0, 1, 2, 3, 4, 27], [61, 1, 899])], [], [(18, 16, -1, -1), (16, 8, -4294967296, -1), (16, 1, -4294967296, 1), (16, 8, -4294967296, 1)])
theorem oo_Fa_shortestWay_at_Nenear_Emlevel_Emway_6 {kA : Nat → ClassId} : or_ok PRD kA GG o_Fa_shortestWay_at_Nenear_Emlevel_Emway_6 := by
  refine or_mk fun A ta ws vs hD hth hl => ?_
  intro t0 r0 t1 k1 t2 k2 t3 k3 t4 k4 t5 r5 t6 r6 t14 k14 t15 k15 t16 k16 t18 k18 t19 k19 t20 k20 t21 k21 t26 k26 t27 k27 d0 d4 d13 d14 f1 f8 f9 f10 f11 f12 f13 ta1 w1 le1 s1 f16 f17 f18 f20 f22 f25
  replace f1 := shm_107 f1
  replace f8 := shm_5 f8
  replace f9 := shm_5 f9
  replace f10 := shm_5 f10
  replace f11 := shm_5 f11
  replace f12 := shm_5 f12
  replace f13 := shm_5 f13
  have s1 : (∀ b j, w_el ws b j = if b = v_ad (n_v vs 12) ∧ j = (v_iv (n_v vs 16)).toNat then v_iv (n_v vs 21) else w_el w1 b j) ∧ ∀ b k, w_fd ws b k = w_fd w1 b k := s1.2
  replace f17 := shm_363 f17
  replace f18 := shm_107 f18
  replace f22 := shm_1184 f22
  replace f25 := shm_1185 f25
  have q7 : n_v vs 7 = n_v vs 0 := f8.symm
  have q8 : n_v vs 8 = n_v vs 1 := f9.symm
  have q9 : n_v vs 9 = n_v vs 2 := f10.symm
  have q10 : n_v vs 10 = n_v vs 3 := f11.symm
  have q11 : n_v vs 11 = n_v vs 4 := f12.symm
  have q12 : n_v vs 12 = n_v vs 5 := f13.symm
  simp only [q12] at f1
  rw [q12] at s1
  simp only [q7, q8, q12, q9, q10, q11] at f17 f18 f22 f25
  have cr_0_999 : ta (v_ad (n_v vs 0)) = some 82 := r0
  have cr_6_999 : ta (v_ad (n_v vs 6)) = some 35 := r6
  have ad_5 : v_ad (n_v vs 5) = v_ad (n_v vs 5) := rfl
  have h1 : v_iv (n_v vs 26) = w_ei ws (v_ad (n_v vs 5)) (v_iv (n_v vs 16)) := f1
  have h18 : v_iv (n_v vs 19) = w_ei w1 (v_ad (n_v vs 5)) (v_iv (n_v vs 18)) := f18
  have hE_0_999_1 : ∀ j : Int, w_ei ws (v_ad (n_v vs 0)) j = w_ei w1 (v_ad (n_v vs 0)) j := el_kp s1.1 r5 cr_0_999 (by decide)
  have hE_5_999_1 : ∀ j : Int, 0 ≤ j → (j = v_iv (n_v vs 16) → w_ei ws (v_ad (n_v vs 5)) j = v_iv (n_v vs 21)) ∧ (j ≠ v_iv (n_v vs 16) → w_ei ws (v_ad (n_v vs 5)) j = w_ei w1 (v_ad (n_v vs 5)) j) := fun j hj => ⟨fun h => by unfold w_ei; rw [s1.1, if_pos ⟨ad_5.symm, by rw [h]⟩], fun h => by unfold w_ei; rw [s1.1, if_neg (fun e => h (by have := e.2; omega))]⟩
  have hE_6_999_1 : ∀ j : Int, w_ei ws (v_ad (n_v vs 6)) j = w_ei w1 (v_ad (n_v vs 6)) j := el_kp s1.1 r5 cr_6_999 (by decide)
  have nf0 : fc_1 PRD (20, [6, 2, 3, 4, 27], [61, 1, 564]) ws (vs) := ⟨nf_in hl rfl, sgq_1187 (vc_Fa_shortestWay_at_Nenear_Emlevel_Emway_6_0 (v_iv (n_v vs 2)) (v_iv (n_v vs 3)) (v_iv (n_v vs 4)) (v_iv (n_v vs 27)) (w_ei ws (v_ad (n_v vs 0))) (w_ei w1 (v_ad (n_v vs 0))) (w_ei ws (v_ad (n_v vs 6))) (w_ei w1 (v_ad (n_v vs 6))) k2 k3 k4 k27 hE_0_999_1 hE_6_999_1)⟩
  have nf1 : fc_1 PRD (20, [0, 1, 2, 3, 4, 27], [61, 1, 899]) ws (vs) := ⟨nf_in hl rfl, sgq_1188 (vc_Fa_shortestWay_at_Nenear_Emlevel_Emway_6_1 (v_iv (n_v vs 1)) (v_iv (n_v vs 2)) (v_iv (n_v vs 3)) (v_iv (n_v vs 4)) (v_iv (n_v vs 14)) (v_iv (n_v vs 15)) (v_iv (n_v vs 16)) (v_iv (n_v vs 18)) (v_iv (n_v vs 19)) (v_iv (n_v vs 20)) (v_iv (n_v vs 21)) (v_iv (n_v vs 26)) (v_iv (n_v vs 27)) (w_ei ws (v_ad (n_v vs 5))) (w_ei ws (v_ad (n_v vs 0))) (w_ei w1 (v_ad (n_v vs 0))) (w_ei w1 (v_ad (n_v vs 5))) (w_ei ws (v_ad (n_v vs 6))) (w_ei w1 (v_ad (n_v vs 6))) k1 k2 k3 k4 k14 k15 k16 k18 k19 k20 k21 k26 k27 d0 h1 (shm_11 f16) f17 h18 (shm_192 f20) f22 f25 hE_0_999_1 hE_5_999_1 hE_6_999_1)⟩
  refine ⟨(fun _ h => (by cases h)), [], trivial, ?_, (fun _ h => (by cases h))⟩
  rw [List.append_nil]
  exact List.forall_mem_cons.mpr ⟨⟨show (20 : Nat) < 100 from by decide, nf0⟩, List.forall_mem_cons.mpr ⟨⟨show (20 : Nat) < 100 from by decide, nf1⟩, (fun _ h => (by cases h))⟩⟩
set_option maxHeartbeats 4000000 in
theorem vc_Fa_shortestWay_at_Nenear_Emlevel_Emway_7_0 (x1 : Int) (x2 : Int) (x3 : Int) (x4 : Int) (x15 : Int) (x16 : Int) (x18 : Int) (a0_0 : Int → Int) (a5_0 : Int → Int) (a6_0 : Int → Int) (k1 : 0 ≤ x1 ∧ x1 ≤ 24) (k2 : 0 ≤ x2 ∧ x2 ≤ 24) (k3 : 0 ≤ x3 ∧ x3 ≤ 33554431) (k4 : 0 ≤ x4 ∧ x4 ≤ 33554431) (k15 : 1 ≤ x15 ∧ x15 ≤ 23) (k16 : (-1) ≤ x16 ∧ x16 ≤ (-1)) (k18 : 3 ≤ x18 ∧ x18 ≤ 25) (d0 : x15 + 2 ≤ x18 ∧ x18 ≤ x15 + 2) (f1 : x16 < 0) (f2 : LV2 (a0_0) (a5_0) (a6_0) (x1) (x2) (x3) (x4) (x15) (x16)) : SHW (a6_0) (x2) (x3) (x4) (x18) := by
  first
    | exact shw_of ‹LV2 _ _ _ _ _ _ _ _ _› (by omega) (by omega)
set_option maxHeartbeats 4000000 in
theorem vc_Fa_shortestWay_at_Nenear_Emlevel_Emway_7_1 (x1 : Int) (x2 : Int) (x3 : Int) (x4 : Int) (x16 : Int) (x18 : Int) (a0_0 : Int → Int) (a5_0 : Int → Int) (k1 : 0 ≤ x1 ∧ x1 ≤ 24) (k2 : 0 ≤ x2 ∧ x2 ≤ 24) (k3 : 0 ≤ x3 ∧ x3 ≤ 33554431) (k4 : 0 ≤ x4 ∧ x4 ≤ 33554431) (k18 : 3 ≤ x18 ∧ x18 ≤ 25) : SHZ (a0_0) (x1) (x2) (x3) (x4) (x18) := by
  first
    | exact shz_no (by omega)
def o_Fa_shortestWay_at_Nenear_Emlevel_Emway_7 : or_T := (150, 19, [(1, (0, 0, 24, [])), (2, (0, 0, 24, [])), (3, (0, 0, 33554431, [])), (4, (0, 0, 33554431, [])), (15, (0, 1, 23, [])), (16, (0, -1, -1, [])), (18, (0, 3, 25, []))], [(8, [16], [2]), (20, [7, 12, 13, 8, 9, 10, 11, 15, 16], [61, 3, 563]), (24, [0, 7], []), (24, [1, 8], []), (24, [2, 9], []), (24, [3, 10], []), (24, [4, 11], []), (24, [5, 12], []), (24, [6, 13], [])], [], [], [(20, [6, 2, 3, 4, 18], [61, 1, 564]), (20, [0, 1, 2, 3, 4, 18], [61, 1, 899])], [], [(18, 15, 2, 2)])
theorem oo_Fa_shortestWay_at_Nenear_Emlevel_Emway_7 {kA : Nat → ClassId} : or_ok PRD kA GG o_Fa_shortestWay_at_Nenear_Emlevel_Emway_7 := by
  refine or_mk fun A ta ws vs hD hth hl => ?_
  intro t1 k1 t2 k2 t3 k3 t4 k4 t15 k15 t16 k16 t18 k18 d0 f1 f2 f5 f6 f7 f8 f9 f10 f11
  replace f2 := shm_1189 f2
  replace f5 := shm_5 f5
  replace f6 := shm_5 f6
  replace f7 := shm_5 f7
  replace f8 := shm_5 f8
  replace f9 := shm_5 f9
  replace f10 := shm_5 f10
  replace f11 := shm_5 f11
  have q7 : n_v vs 7 = n_v vs 0 := f5.symm
  have q8 : n_v vs 8 = n_v vs 1 := f6.symm
  have q9 : n_v vs 9 = n_v vs 2 := f7.symm
  have q10 : n_v vs 10 = n_v vs 3 := f8.symm
  have q11 : n_v vs 11 = n_v vs 4 := f9.symm
  have q12 : n_v vs 12 = n_v vs 5 := f10.symm
  have q13 : n_v vs 13 = n_v vs 6 := f11.symm
  simp only [q7, q8, q9, q10, q11, q12, q13] at f2
  have nf0 : fc_1 PRD (20, [6, 2, 3, 4, 18], [61, 1, 564]) ws (vs) := ⟨nf_in hl rfl, sgq_1187 (vc_Fa_shortestWay_at_Nenear_Emlevel_Emway_7_0 (v_iv (n_v vs 1)) (v_iv (n_v vs 2)) (v_iv (n_v vs 3)) (v_iv (n_v vs 4)) (v_iv (n_v vs 15)) (v_iv (n_v vs 16)) (v_iv (n_v vs 18)) (w_ei ws (v_ad (n_v vs 0))) (w_ei ws (v_ad (n_v vs 5))) (w_ei ws (v_ad (n_v vs 6))) k1 k2 k3 k4 k15 k16 k18 d0 (shm_39 f1) f2)⟩
  have nf1 : fc_1 PRD (20, [0, 1, 2, 3, 4, 18], [61, 1, 899]) ws (vs) := ⟨nf_in hl rfl, sgq_1188 (vc_Fa_shortestWay_at_Nenear_Emlevel_Emway_7_1 (v_iv (n_v vs 1)) (v_iv (n_v vs 2)) (v_iv (n_v vs 3)) (v_iv (n_v vs 4)) (v_iv (n_v vs 16)) (v_iv (n_v vs 18)) (w_ei ws (v_ad (n_v vs 0))) (w_ei ws (v_ad (n_v vs 5))) k1 k2 k3 k4 k18)⟩
  refine ⟨(fun _ h => (by cases h)), [], trivial, ?_, (fun _ h => (by cases h))⟩
  rw [List.append_nil]
  exact List.forall_mem_cons.mpr ⟨⟨show (20 : Nat) < 100 from by decide, nf0⟩, List.forall_mem_cons.mpr ⟨⟨show (20 : Nat) < 100 from by decide, nf1⟩, (fun _ h => (by cases h))⟩⟩
set_option maxHeartbeats 4000000 in
theorem vc_Fa_shortestWay_at_Nenear_Emlevel_Emway_8_r0 (x1 : Int) (x2 : Int) (x3 : Int) (x4 : Int) (x15 : Int) (x16 : Int) (x20 : Int) (x21 : Int) (x22 : Int) (x23 : Int) (x24 : Int) (x25 : Int) (a5_0 : Int → Int) (a0_0 : Int → Int) (a6_0 : Int → Int) (k1 : 0 ≤ x1 ∧ x1 ≤ 24) (k2 : 0 ≤ x2 ∧ x2 ≤ 24) (k3 : 0 ≤ x3 ∧ x3 ≤ 33554431) (k4 : 0 ≤ x4 ∧ x4 ≤ 33554431) (k15 : 1 ≤ x15 ∧ x15 ≤ 23) (k16 : 0 ≤ x16 ∧ x16 ≤ 23) (k20 : 0 ≤ x20 ∧ x20 ≤ 23) (k21 : 0 ≤ x21 ∧ x21 ≤ 24) (k22 : 0 ≤ x22 ∧ x22 ≤ 16777215) (k23 : 0 ≤ x23 ∧ x23 ≤ 33554431) (k24 : 0 ≤ x24 ∧ x24 ≤ 16777215) (k25 : 0 ≤ x25 ∧ x25 ≤ 63) (f0 : LOW (x24) (x25)) (f1 : bvp (x24) = bvp (x22) &&& bvp (x23)) (h2 : x23 = a5_0 (x16)) (h3 : x22 = a0_0 (x21)) (h4 : x21 = a6_0 (x20)) (f5 : x20 = x15 - x16) (f8 : 0 ≤ x16) (f9 : LV2 (a0_0) (a5_0) (a6_0) (x1) (x2) (x3) (x4) (x15) (x16)) : 0 ≤ x25 ∧ x25 ≤ 24 := by
  first
    | (skip; (first | subst h2 | skip); (first | subst h3 | skip); (first | subst h4 | skip); have q := lv2_low ‹LV2 _ _ _ _ _ _ _ _ _› (by omega) (by assumption) (by rw [show (x15 - x16 : Int) = x20 by omega]) (by omega) (by omega) (by omega) ‹LOW _ _›; omega)
    | (skip; (first | subst h2 | skip); (first | subst h3 | skip); (first | subst h4 | skip); have q := lv2_low ‹LV2 _ _ _ _ _ _ _ _ _› (by omega) (by assumption) (by rw [show (x15 - x16 : Int) = x20 by omega]) (by omega) (by omega) (by omega) ‹LOW _ _›; have q2 := bit_lt24 (by omega) (by omega) q.1 q.2.1 q.2.2; omega)
def o_Fa_shortestWay_at_Nenear_Emlevel_Emway_8 : or_T := (139, 26, [(0, (2, 0, 0, [82])), (1, (0, 0, 24, [])), (2, (0, 0, 24, [])), (3, (0, 0, 33554431, [])), (4, (0, 0, 33554431, [])), (5, (2, 0, 0, [34])), (6, (2, 0, 0, [35])), (7, (2, 0, 0, [82])), (8, (0, 1, 24, [])), (9, (0, 0, 24, [])), (10, (0, 0, 33554431, [])), (11, (0, 0, 33554431, [])), (12, (2, 0, 0, [34])), (13, (2, 0, 0, [35])), (15, (0, 1, 23, [])), (16, (0, 0, 23, [])), (17, (0, 0, 23, [])), (18, (0, 1, 1, [])), (19, (0, 1, 24, [])), (20, (0, 0, 23, [])), (21, (0, 0, 24, [])), (22, (0, 0, 16777215, [])), (23, (0, 0, 33554431, [])), (24, (0, 0, 16777215, [])), (25, (0, 0, 63, []))], [(20, [24, 25], [61, 0, 555]), (16, [24, 22, 23], [0]), (10, [23, 12, 16], []), (10, [22, 7, 21], []), (10, [21, 13, 20], []), (2, [20, 15, 16], []), (1, [19, 17, 18], []), (2, [17, 15, 16], []), (8, [16], [3]), (20, [7, 12, 13, 8, 9, 10, 11, 15, 16], [61, 3, 563]), (20, [7, 8], [61, 1, 560]), (20, [8, 11], [61, 0, 561]), (24, [0, 7], []), (24, [1, 8], []), (24, [2, 9], []), (24, [3, 10], []), (24, [4, 11], []), (24, [5, 12], []), (24, [6, 13], [])], [(25, (0, 0, 24, []))], [], [], [], [(20, 15, -23, 0), (20, 1, -4294967296, 0), (20, 8, -4294967296, 0), (19, 17, 1, 1), (19, 15, -22, 1), (19, 1, -4294967296, 1), (19, 8, -4294967296, 1), (17, 15, -23, 0), (17, 1, -4294967296, 0), (17, 8, -4294967296, 0), (1, 8, -4294967296, 0), (2, 1, -4294967296, 23), (2, 9, -4294967296, 0), (3, 10, -4294967296, 0), (4, 11, -4294967296, 0), (8, 1, -4294967296, 0), (9, 1, -4294967296, 23), (9, 2, -4294967296, 0), (10, 3, -4294967296, 0), (11, 4, -4294967296, 0), (15, 1, -4294967296, 0), (15, 8, -4294967296, 0), (16, 1, -4294967296, 0), (16, 8, -4294967296, 0), (16, 15, -4294967296, 0)])
theorem oo_Fa_shortestWay_at_Nenear_Emlevel_Emway_8 {kA : Nat → ClassId} : or_ok PRD kA GG o_Fa_shortestWay_at_Nenear_Emlevel_Emway_8 := by
  refine or_mk fun A ta ws vs hD hth hl => ?_
  intro t0 r0 t1 k1 t2 k2 t3 k3 t4 k4 t5 r5 t6 r6 t7 r7 t8 k8 t9 k9 t10 k10 t11 k11 t12 r12 t13 r13 t15 k15 t16 k16 t17 k17 t18 k18 t19 k19 t20 k20 t21 k21 t22 k22 t23 k23 t24 k24 t25 k25 d0 d1 d2 d3 d4 d5 d6 d7 d8 d9 d10 d11 d12 d13 d14 d15 d16 d17 d18 d19 d20 d21 d22 d23 d24 f0 f1 f2 f3 f4 f5 f6 f7 f8 f9 f10 f11 f12 f13 f14 f15 f16 f17 f18
  replace f2 := shm_107 f2
  replace f3 := shm_107 f3
  replace f4 := shm_107 f4
  replace f9 := shm_1189 f9
  replace f12 := shm_5 f12
  replace f13 := shm_5 f13
  replace f14 := shm_5 f14
  replace f15 := shm_5 f15
  replace f16 := shm_5 f16
  replace f17 := shm_5 f17
  replace f18 := shm_5 f18
  have q7 : n_v vs 7 = n_v vs 0 := f12.symm
  have q8 : n_v vs 8 = n_v vs 1 := f13.symm
  have q9 : n_v vs 9 = n_v vs 2 := f14.symm
  have q10 : n_v vs 10 = n_v vs 3 := f15.symm
  have q11 : n_v vs 11 = n_v vs 4 := f16.symm
  have q12 : n_v vs 12 = n_v vs 5 := f17.symm
  have q13 : n_v vs 13 = n_v vs 6 := f18.symm
  simp only [q12, q7, q13, q8, q9, q10, q11] at f2 f3 f4 f9
  have h2 : v_iv (n_v vs 23) = w_ei ws (v_ad (n_v vs 5)) (v_iv (n_v vs 16)) := f2
  have h3 : v_iv (n_v vs 22) = w_ei ws (v_ad (n_v vs 0)) (v_iv (n_v vs 21)) := f3
  have h4 : v_iv (n_v vs 21) = w_ei ws (v_ad (n_v vs 6)) (v_iv (n_v vs 20)) := f4
  have hrf0 : 0 ≤ v_iv (n_v vs 25) ∧ v_iv (n_v vs 25) ≤ 24 := vc_Fa_shortestWay_at_Nenear_Emlevel_Emway_8_r0 (v_iv (n_v vs 1)) (v_iv (n_v vs 2)) (v_iv (n_v vs 3)) (v_iv (n_v vs 4)) (v_iv (n_v vs 15)) (v_iv (n_v vs 16)) (v_iv (n_v vs 20)) (v_iv (n_v vs 21)) (v_iv (n_v vs 22)) (v_iv (n_v vs 23)) (v_iv (n_v vs 24)) (v_iv (n_v vs 25)) (w_ei ws (v_ad (n_v vs 5))) (w_ei ws (v_ad (n_v vs 0))) (w_ei ws (v_ad (n_v vs 6))) k1 k2 k3 k4 k15 k16 k20 k21 k22 k23 k24 k25 (shm_810 f0) (shm_11 f1) h2 h3 h4 (shm_14 f5) (shm_32 f8) f9
  have rf25 : tv_ok ta (0, 0, 24, []) (n_v vs 25) := tv_in t25 (by first | omega | grind) (by first | omega | grind)
  refine ⟨List.forall_mem_cons.mpr ⟨rf25, (fun _ h => (by cases h))⟩, [], trivial, ?_, (fun _ h => (by cases h))⟩
  rw [List.append_nil]
  exact (fun _ h => (by cases h))
set_option maxHeartbeats 4000000 in
theorem vc_Fa_shortestWay_at_Nenear_Emlevel_Emway_9_0 (x1 : Int) (x2 : Int) (x3 : Int) (x4 : Int) (x8 : Int) (x15 : Int) (x16 : Int) (x17 : Int) (x19 : Int) (x20 : Int) (x21 : Int) (x22 : Int) (x23 : Int) (x24 : Int) (x25 : Int) (x26 : Int) (a0_0 : Int → Int) (a5_1 : Int → Int) (a0_1 : Int → Int) (a6_1 : Int → Int) (a5_0 : Int → Int) (a6_0 : Int → Int) (k1 : 0 ≤ x1 ∧ x1 ≤ 24) (k2 : 0 ≤ x2 ∧ x2 ≤ 24) (k3 : 0 ≤ x3 ∧ x3 ≤ 33554431) (k4 : 0 ≤ x4 ∧ x4 ≤ 33554431) (k8 : 1 ≤ x8 ∧ x8 ≤ 24) (k15 : 1 ≤ x15 ∧ x15 ≤ 23) (k16 : 0 ≤ x16 ∧ x16 ≤ 23) (k17 : 0 ≤ x17 ∧ x17 ≤ 23) (k19 : 1 ≤ x19 ∧ x19 ≤ 24) (k20 : 0 ≤ x20 ∧ x20 ≤ 23) (k21 : 0 ≤ x21 ∧ x21 ≤ 24) (k22 : 0 ≤ x22 ∧ x22 ≤ 16777215) (k23 : 0 ≤ x23 ∧ x23 ≤ 33554431) (k24 : 0 ≤ x24 ∧ x24 ≤ 16777215) (k25 : 0 ≤ x25 ∧ x25 ≤ 24) (k26 : (-1) ≤ x26 ∧ x26 ≤ 22) (d0 : x16 + (-1) ≤ x26 ∧ x26 ≤ x16 + (-1)) (d7 : x17 + 1 ≤ x19 ∧ x19 ≤ x17 + 1) (d14 : x8 + (-4294967296) ≤ x1 ∧ x1 ≤ x8 + 0) (d19 : x1 + (-4294967296) ≤ x8 ∧ x8 ≤ x1 + 0) (f12 : LOW (x24) (x25)) (f13 : bvp (x24) = bvp (x22) &&& bvp (x23)) (h14 : x23 = a5_1 (x16)) (h15 : x22 = a0_1 (x21)) (h16 : x21 = a6_1 (x20)) (f17 : x20 = x15 - x16) (f19 : x17 = x15 - x16) (f20 : 0 ≤ x16) (f21 : LV2 (a0_1) (a5_1) (a6_1) (x1) (x2) (x3) (x4) (x15) (x16)) (f22 : SYMN (a0_1) (x1)) (f23 : FRN (x1) (x4)) (hE_0_999_1 : ∀ j : Int, a0_0 j = a0_1 j) (hE_5_999_1 : ∀ j : Int, a5_0 j = a5_1 j) (hE_6_999_1 : ∀ j : Int, 0 ≤ j → (j = x19 → a6_0 j = x25) ∧ (j ≠ x19 → a6_0 j = a6_1 j)) : LV2 (a0_0) (a5_0) (a6_0) (x1) (x2) (x3) (x4) (x15) (x26) := by
  have e_hE_0_999_1 := funext hE_0_999_1; subst e_hE_0_999_1
  have e_hE_5_999_1 := funext hE_5_999_1; subst e_hE_5_999_1
  first
    | (skip; (first | subst h14 | skip); (first | subst h15 | skip); (first | subst h16 | skip); exact lv2_step ‹LV2 _ _ _ _ _ _ _ _ _› (by omega) ‹SYMN _ _› ‹FRN _ _› (by omega) (by assumption) (by rw [show (x15 - x16 : Int) = x20 by omega]) (by omega) (by omega) (by omega) ‹LOW _ _› (by assumption) (by omega) (by omega))
def o_Fa_shortestWay_at_Nenear_Emlevel_Emway_9 : or_T := (106, 27, [(0, (2, 0, 0, [82])), (1, (0, 0, 24, [])), (2, (0, 0, 24, [])), (3, (0, 0, 33554431, [])), (4, (0, 0, 33554431, [])), (5, (2, 0, 0, [34])), (6, (2, 0, 0, [35])), (8, (0, 1, 24, [])), (15, (0, 1, 23, [])), (16, (0, 0, 23, [])), (17, (0, 0, 23, [])), (19, (0, 1, 24, [])), (20, (0, 0, 23, [])), (21, (0, 0, 24, [])), (22, (0, 0, 16777215, [])), (23, (0, 0, 33554431, [])), (24, (0, 0, 16777215, [])), (25, (0, 0, 24, [])), (26, (0, -1, 22, []))], [(24, [0, 7], []), (24, [1, 8], []), (24, [2, 9], []), (24, [3, 10], []), (24, [4, 11], []), (24, [5, 12], []), (24, [6, 13], []), (100, [13, 19, 25], []), (20, [24, 25], [61, 0, 555]), (16, [24, 22, 23], [0]), (10, [23, 12, 16], []), (10, [22, 7, 21], []), (10, [21, 13, 20], []), (2, [20, 15, 16], []), (2, [17, 15, 16], []), (8, [16], [3]), (20, [7, 12, 13, 8, 9, 10, 11, 15, 16], [61, 3, 563]), (20, [7, 8], [61, 1, 560]), (20, [8, 11], [61, 0, 561])], [], [], [(20, [7, 12, 13, 8, 9, 10, 11, 15, 26], [61, 3, 563])], [], [(26, 16, -1, -1), (19, 17, 1, 1), (19, 15, -22, 1), (19, 1, -4294967296, 1), (19, 8, -4294967296, 1), (1, 8, -4294967296, 0), (8, 1, -4294967296, 0)])
theorem oo_Fa_shortestWay_at_Nenear_Emlevel_Emway_9 {kA : Nat → ClassId} : or_ok PRD kA GG o_Fa_shortestWay_at_Nenear_Emlevel_Emway_9 := by
  refine or_mk fun A ta ws vs hD hth hl => ?_
  intro t0 r0 t1 k1 t2 k2 t3 k3 t4 k4 t5 r5 t6 r6 t8 k8 t15 k15 t16 k16 t17 k17 t19 k19 t20 k20 t21 k21 t22 k22 t23 k23 t24 k24 t25 k25 t26 k26 d0 d7 d8 d9 d10 d14 d19 f4 f5 f6 f7 f8 f9 f10 ta1 w1 le1 s1 f12 f13 f14 f15 f16 f17 f19 f20 f21 f22 f23
  replace f4 := shm_5 f4
  replace f5 := shm_5 f5
  replace f6 := shm_5 f6
  replace f7 := shm_5 f7
  replace f8 := shm_5 f8
  replace f9 := shm_5 f9
  replace f10 := shm_5 f10
  have s1 : (∀ b j, w_el ws b j = if b = v_ad (n_v vs 13) ∧ j = (v_iv (n_v vs 19)).toNat then v_iv (n_v vs 25) else w_el w1 b j) ∧ ∀ b k, w_fd ws b k = w_fd w1 b k := s1.2
  replace f12 := shm_810 f12
  replace f13 := shm_11 f13
  replace f14 := shm_107 f14
  replace f15 := shm_107 f15
  replace f16 := shm_107 f16
  replace f17 := shm_14 f17
  replace f19 := shm_14 f19
  replace f20 := shm_32 f20
  replace f21 := shm_1189 f21
  replace f22 := shm_1180 f22
  replace f23 := shm_1181 f23
  have q7 : n_v vs 7 = n_v vs 0 := f4.symm
  have q8 : n_v vs 8 = n_v vs 1 := f5.symm
  have q9 : n_v vs 9 = n_v vs 2 := f6.symm
  have q10 : n_v vs 10 = n_v vs 3 := f7.symm
  have q11 : n_v vs 11 = n_v vs 4 := f8.symm
  have q12 : n_v vs 12 = n_v vs 5 := f9.symm
  have q13 : n_v vs 13 = n_v vs 6 := f10.symm
  rw [q13] at s1
  simp only [q12, q7, q13, q8, q9, q10, q11] at f14 f15 f16 f21 f22 f23
  have cr_0_999 : ta (v_ad (n_v vs 0)) = some 82 := r0
  have cr_5_999 : ta (v_ad (n_v vs 5)) = some 34 := r5
  have ad_6 : v_ad (n_v vs 6) = v_ad (n_v vs 6) := rfl
  have h14 : v_iv (n_v vs 23) = w_ei w1 (v_ad (n_v vs 5)) (v_iv (n_v vs 16)) := f14
  have h15 : v_iv (n_v vs 22) = w_ei w1 (v_ad (n_v vs 0)) (v_iv (n_v vs 21)) := f15
  have h16 : v_iv (n_v vs 21) = w_ei w1 (v_ad (n_v vs 6)) (v_iv (n_v vs 20)) := f16
  have hE_0_999_1 : ∀ j : Int, w_ei ws (v_ad (n_v vs 0)) j = w_ei w1 (v_ad (n_v vs 0)) j := el_kp s1.1 r6 cr_0_999 (by decide)
  have hE_5_999_1 : ∀ j : Int, w_ei ws (v_ad (n_v vs 5)) j = w_ei w1 (v_ad (n_v vs 5)) j := el_kp s1.1 r6 cr_5_999 (by decide)
  have hE_6_999_1 : ∀ j : Int, 0 ≤ j → (j = v_iv (n_v vs 19) → w_ei ws (v_ad (n_v vs 6)) j = v_iv (n_v vs 25)) ∧ (j ≠ v_iv (n_v vs 19) → w_ei ws (v_ad (n_v vs 6)) j = w_ei w1 (v_ad (n_v vs 6)) j) := fun j hj => ⟨fun h => by unfold w_ei; rw [s1.1, if_pos ⟨ad_6.symm, by rw [h]⟩], fun h => by unfold w_ei; rw [s1.1, if_neg (fun e => h (by have := e.2; omega))]⟩
  have nf0 : fc_1 PRD (20, [7, 12, 13, 8, 9, 10, 11, 15, 26], [61, 3, 563]) ws (vs) := by
    refine ⟨nf_in hl rfl, sgq_1189 ?_⟩
    · show LV2 (w_ei ws (v_ad (n_v vs 7))) (w_ei ws (v_ad (n_v vs 12))) (w_ei ws (v_ad (n_v vs 13))) (v_iv (n_v vs 8)) (v_iv (n_v vs 9)) (v_iv (n_v vs 10)) (v_iv (n_v vs 11)) (v_iv (n_v vs 15)) (v_iv (n_v vs 26))
      simp only [q7, q8, q9, q10, q11, q12, q13]
      exact vc_Fa_shortestWay_at_Nenear_Emlevel_Emway_9_0 (v_iv (n_v vs 1)) (v_iv (n_v vs 2)) (v_iv (n_v vs 3)) (v_iv (n_v vs 4)) (v_iv (n_v vs 8)) (v_iv (n_v vs 15)) (v_iv (n_v vs 16)) (v_iv (n_v vs 17)) (v_iv (n_v vs 19)) (v_iv (n_v vs 20)) (v_iv (n_v vs 21)) (v_iv (n_v vs 22)) (v_iv (n_v vs 23)) (v_iv (n_v vs 24)) (v_iv (n_v vs 25)) (v_iv (n_v vs 26)) (w_ei ws (v_ad (n_v vs 0))) (w_ei w1 (v_ad (n_v vs 5))) (w_ei w1 (v_ad (n_v vs 0))) (w_ei w1 (v_ad (n_v vs 6))) (w_ei ws (v_ad (n_v vs 5))) (w_ei ws (v_ad (n_v vs 6))) k1 k2 k3 k4 k8 k15 k16 k17 k19 k20 k21 k22 k23 k24 k25 k26 d0 d7 d14 d19 f12 f13 h14 h15 h16 f17 f19 f20 f21 f22 f23 hE_0_999_1 hE_5_999_1 hE_6_999_1
  refine ⟨(fun _ h => (by cases h)), [], trivial, ?_, (fun _ h => (by cases h))⟩
  rw [List.append_nil]
  exact List.forall_mem_cons.mpr ⟨⟨show (20 : Nat) < 100 from by decide, nf0⟩, (fun _ h => (by cases h))⟩
def n_Fa_shortestWay_at_Nenear_Emlevel_Emway_an : List an_T := [(15, [(0, (2, 0, 0, [82])), (1, (0, 0, 24, [])), (2, (0, 0, 24, [])), (3, (0, 0, 33554431, [])), (4, (0, 0, 33554431, [])), (5, (2, 0, 0, [34])), (6, (2, 0, 0, [35])), (7, (0, 0, 33554431, [])), (8, (0, 0, 23, [])), (9, (0, 1, 24, []))], [], (0, 0), [(0, 0, 99985), (1, 16, 24), (0, 0, 100000)], [(1, 8, (Int.negSucc 999999999999), 0), (2, 9, (Int.negSucc 999999999999), 0), (3, 10, (Int.negSucc 999999999999), 0), (4, 11, (Int.negSucc 999999999999), 0), (8, 1, (Int.negSucc 999999999999), 0), (9, 2, (Int.negSucc 999999999999), 0), (10, 3, (Int.negSucc 999999999999), 0), (11, 4, (Int.negSucc 999999999999), 0), (15, 1, (Int.negSucc 999999999999), 0), (15, 8, (Int.negSucc 999999999999), 0), (15, 16, (Int.negSucc 999999999999), (Int.negSucc 0)), (16, 1, (Int.negSucc 999999999999), 1), (16, 8, (Int.negSucc 999999999999), 1)], [], [(2, 0, 0, [82]), (0, 0, 24, []), (0, 0, 24, []), (0, 0, 33554431, []), (0, 0, 33554431, []), (2, 0, 0, [34]), (2, 0, 0, [35])], 0, [], [(20, [7, 12, 8, 9, 10, 11, 14, 15, 16], [61, 2, 562]), (20, [7, 8], [61, 1, 560]), (20, [8, 11], [61, 0, 561]), (24, [0, 7], []), (24, [1, 8], []), (24, [2, 9], []), (24, [3, 10], []), (24, [4, 11], []), (24, [5, 12], []), (24, [6, 13], []), (20, [7, 12, 8, 9, 10, 11, 14, 15, 16], [61, 2, 898])]), (106, [(0, (2, 0, 0, [82])), (1, (0, 1, 24, [])), (2, (0, 0, 24, [])), (3, (0, 0, 33554431, [])), (4, (0, 0, 33554431, [])), (5, (2, 0, 0, [34])), (6, (2, 0, 0, [35])), (7, (0, 0, 33554431, [])), (8, (0, 1, 23, [])), (9, (0, (Int.negSucc 0), 23, []))], [], (0, 0), [(0, 0, 99894), (2, 16, (Int.negSucc 0)), (0, 0, 100000)], [(1, 8, (Int.negSucc 999999999999), 0), (2, 1, (Int.negSucc 999999999999), 23), (2, 9, (Int.negSucc 999999999999), 0), (3, 10, (Int.negSucc 999999999999), 0), (4, 11, (Int.negSucc 999999999999), 0), (8, 1, (Int.negSucc 999999999999), 0), (9, 1, (Int.negSucc 999999999999), 23), (9, 2, (Int.negSucc 999999999999), 0), (10, 3, (Int.negSucc 999999999999), 0), (11, 4, (Int.negSucc 999999999999), 0), (15, 1, (Int.negSucc 999999999999), 0), (15, 8, (Int.negSucc 999999999999), 0), (16, 1, (Int.negSucc 999999999999), 0), (16, 8, (Int.negSucc 999999999999), 0), (16, 15, (Int.negSucc 999999999999), 0)], [], [(2, 0, 0, [82]), (0, 0, 24, []), (0, 0, 24, []), (0, 0, 33554431, []), (0, 0, 33554431, []), (2, 0, 0, [34]), (2, 0, 0, [35])], 0, [], [(20, [7, 12, 13, 8, 9, 10, 11, 15, 16], [61, 3, 563]), (20, [7, 8], [61, 1, 560]), (20, [8, 11], [61, 0, 561]), (24, [0, 7], []), (24, [1, 8], []), (24, [2, 9], []), (24, [3, 10], []), (24, [4, 11], []), (24, [5, 12], []), (24, [6, 13], [])])]
def t_Fa_shortestWay_at_Nenear_Emlevel_Emway_ct : ct_L := [(0, 107, e_Fa_lowest), (120, 97, e_Fa_nearOf_at_Nenear)]
set_option maxRecDepth 100000 in
theorem c_Fa_shortestWay_at_Nenear_Emlevel_Emway {l : Launch} {D : va_G} {kA : Nat → ClassId} (h_Fa_lowest : ct_ok PRD l D kA GG y_Fa_lowest z_Fa_lowest e_Fa_lowest) (h_Fa_nearOf_at_Nenear : ct_ok PRD l D kA GG y_Fa_nearOf_at_Nenear z_Fa_nearOf_at_Nenear e_Fa_nearOf_at_Nenear) : ct_ok PRD l D kA GG y_Fa_shortestWay_at_Nenear_Emlevel_Emway z_Fa_shortestWay_at_Nenear_Emlevel_Emway e_Fa_shortestWay_at_Nenear_Emlevel_Emway := chk_all_ok (FT := []) (PT := []) (CT := t_Fa_shortestWay_at_Nenear_Emlevel_Emway_ct) (KT := []) (NT := []) (AN := n_Fa_shortestWay_at_Nenear_Emlevel_Emway_an) (OT := [o_Fa_shortestWay_at_Nenear_Emlevel_Emway_0, o_Fa_shortestWay_at_Nenear_Emlevel_Emway_1, o_Fa_shortestWay_at_Nenear_Emlevel_Emway_2, o_Fa_shortestWay_at_Nenear_Emlevel_Emway_3, o_Fa_shortestWay_at_Nenear_Emlevel_Emway_4, o_Fa_shortestWay_at_Nenear_Emlevel_Emway_5, o_Fa_shortestWay_at_Nenear_Emlevel_Emway_6, o_Fa_shortestWay_at_Nenear_Emlevel_Emway_7, o_Fa_shortestWay_at_Nenear_Emlevel_Emway_8, o_Fa_shortestWay_at_Nenear_Emlevel_Emway_9]) 3 404 (List.forall_mem_cons.mpr ⟨oo_Fa_shortestWay_at_Nenear_Emlevel_Emway_0, List.forall_mem_cons.mpr ⟨oo_Fa_shortestWay_at_Nenear_Emlevel_Emway_1, List.forall_mem_cons.mpr ⟨oo_Fa_shortestWay_at_Nenear_Emlevel_Emway_2, List.forall_mem_cons.mpr ⟨oo_Fa_shortestWay_at_Nenear_Emlevel_Emway_3, List.forall_mem_cons.mpr ⟨oo_Fa_shortestWay_at_Nenear_Emlevel_Emway_4, List.forall_mem_cons.mpr ⟨oo_Fa_shortestWay_at_Nenear_Emlevel_Emway_5, List.forall_mem_cons.mpr ⟨oo_Fa_shortestWay_at_Nenear_Emlevel_Emway_6, List.forall_mem_cons.mpr ⟨oo_Fa_shortestWay_at_Nenear_Emlevel_Emway_7, List.forall_mem_cons.mpr ⟨oo_Fa_shortestWay_at_Nenear_Emlevel_Emway_8, List.forall_mem_cons.mpr ⟨oo_Fa_shortestWay_at_Nenear_Emlevel_Emway_9, List.forall_mem_nil _⟩⟩⟩⟩⟩⟩⟩⟩⟩⟩) (by decide +kernel) ⟨List.forall_mem_nil _, List.forall_mem_nil _, List.forall_mem_cons.mpr ⟨cl_static (y := y_Fa_lowest) h_Fa_lowest wm_899 wm_7 wm_897 wm_898 ⟨by decide, by decide, by decide +kernel⟩ (by decide), List.forall_mem_cons.mpr ⟨cl_static (y := y_Fa_nearOf_at_Nenear) h_Fa_nearOf_at_Nenear wm_824 wm_7 wm_822 wm_823 ⟨by decide, by decide, by decide +kernel⟩ (by decide), List.forall_mem_nil _⟩⟩, List.forall_mem_nil _, List.forall_mem_nil _, GG_pl⟩ (by decide +kernel)

set_option maxHeartbeats 4000000 in
theorem vc_Fa_shortestWay_at_Npnear_Emlevel_Emway_0_0 (x1 : Int) (x2 : Int) (x3 : Int) (x4 : Int) (x7 : Int) (x8 : Int) (x9 : Int) (a0_0 : Int → Int) (a0_1 : Int → Int) (a5_0 : Int → Int) (a5_1 : Int → Int) (k1 : 0 ≤ x1 ∧ x1 ≤ 25) (k2 : 0 ≤ x2 ∧ x2 ≤ 24) (k3 : 0 ≤ x3 ∧ x3 ≤ 33554431) (k4 : 0 ≤ x4 ∧ x4 ≤ 33554431) (k7 : 0 ≤ x7 ∧ x7 ≤ 0) (k8 : 0 ≤ x8 ∧ x8 ≤ 0) (k9 : 1 ≤ x9 ∧ x9 ≤ 1) (hE_0_999_1 : ∀ j : Int, a0_0 j = a0_1 j) (hE_5_999_1 : ∀ j : Int, 0 ≤ j → (j = x7 → a5_0 j = x3) ∧ (j ≠ x7 → a5_0 j = a5_1 j)) : LV1 (a0_0) (a5_0) (x1) (x2) (x3) (x4) (x4) (x8) (x9) := by
  have e_hE_0_999_1 := funext hE_0_999_1; subst e_hE_0_999_1
  first
    | exact lv1_start (by assumption) (by omega) (by omega) rfl (by omega) (by omega)
set_option maxHeartbeats 4000000 in
theorem vc_Fa_shortestWay_at_Npnear_Emlevel_Emway_0_8 (x1 : Int) (x2 : Int) (x3 : Int) (x4 : Int) (x7 : Int) (x8 : Int) (x9 : Int) (a0_0 : Int → Int) (a0_1 : Int → Int) (a5_0 : Int → Int) (a5_1 : Int → Int) (k1 : 0 ≤ x1 ∧ x1 ≤ 25) (k2 : 0 ≤ x2 ∧ x2 ≤ 24) (k3 : 0 ≤ x3 ∧ x3 ≤ 33554431) (k4 : 0 ≤ x4 ∧ x4 ≤ 33554431) (k7 : 0 ≤ x7 ∧ x7 ≤ 0) (k8 : 0 ≤ x8 ∧ x8 ≤ 0) (k9 : 1 ≤ x9 ∧ x9 ≤ 1) (hE_0_999_1 : ∀ j : Int, a0_0 j = a0_1 j) (hE_5_999_1 : ∀ j : Int, 0 ≤ j → (j = x7 → a5_0 j = x3) ∧ (j ≠ x7 → a5_0 j = a5_1 j)) : LV3 (a0_0) (a5_0) (x1) (x2) (x3) (x4) (x4) (x8) (x9) := by
  have e_hE_0_999_1 := funext hE_0_999_1; subst e_hE_0_999_1
  first
    | exact lv3_start (by assumption) (by omega) (by omega) rfl (by omega)
def o_Fa_shortestWay_at_Npnear_Emlevel_Emway_0 : or_T := (15, 10, [(0, (2, 0, 0, [142])), (1, (0, 0, 25, [])), (2, (0, 0, 24, [])), (3, (0, 0, 33554431, [])), (4, (0, 0, 33554431, [])), (5, (2, 0, 0, [34])), (7, (0, 0, 0, [])), (8, (0, 0, 0, [])), (9, (0, 1, 1, []))], [(100, [5, 7, 3], [])], [], [], [(20, [0, 5, 1, 2, 3, 4, 4, 8, 9], [61, 2, 562]), (24, [0, 0], []), (24, [1, 1], []), (24, [2, 2], []), (24, [3, 3], []), (24, [4, 4], []), (24, [5, 5], []), (24, [6, 6], []), (20, [0, 5, 1, 2, 3, 4, 4, 8, 9], [61, 2, 898])], [], [])
theorem oo_Fa_shortestWay_at_Npnear_Emlevel_Emway_0 {kA : Nat → ClassId} : or_ok PRD kA GG o_Fa_shortestWay_at_Npnear_Emlevel_Emway_0 := by
  refine or_mk fun A ta ws vs hD hth hl => ?_
  intro t0 r0 t1 k1 t2 k2 t3 k3 t4 k4 t5 r5 t7 k7 t8 k8 t9 k9 ta1 w1 le1 s1
  have s1 : (∀ b j, w_el ws b j = if b = v_ad (n_v vs 5) ∧ j = (v_iv (n_v vs 7)).toNat then v_iv (n_v vs 3) else w_el w1 b j) ∧ ∀ b k, w_fd ws b k = w_fd w1 b k := s1.2
  have cr_0_999 : ta (v_ad (n_v vs 0)) = some 142 := r0
  have ad_5 : v_ad (n_v vs 5) = v_ad (n_v vs 5) := rfl
  have hE_0_999_1 : ∀ j : Int, w_ei ws (v_ad (n_v vs 0)) j = w_ei w1 (v_ad (n_v vs 0)) j := el_kp s1.1 r5 cr_0_999 (by decide)
  have hE_5_999_1 : ∀ j : Int, 0 ≤ j → (j = v_iv (n_v vs 7) → w_ei ws (v_ad (n_v vs 5)) j = v_iv (n_v vs 3)) ∧ (j ≠ v_iv (n_v vs 7) → w_ei ws (v_ad (n_v vs 5)) j = w_ei w1 (v_ad (n_v vs 5)) j) := fun j hj => ⟨fun h => by unfold w_ei; rw [s1.1, if_pos ⟨ad_5.symm, by rw [h]⟩], fun h => by unfold w_ei; rw [s1.1, if_neg (fun e => h (by have := e.2; omega))]⟩
  have nf0 : fc_1 PRD (20, [0, 5, 1, 2, 3, 4, 4, 8, 9], [61, 2, 562]) ws (vs) := ⟨nf_in hl rfl, sgq_1182 (vc_Fa_shortestWay_at_Npnear_Emlevel_Emway_0_0 (v_iv (n_v vs 1)) (v_iv (n_v vs 2)) (v_iv (n_v vs 3)) (v_iv (n_v vs 4)) (v_iv (n_v vs 7)) (v_iv (n_v vs 8)) (v_iv (n_v vs 9)) (w_ei ws (v_ad (n_v vs 0))) (w_ei w1 (v_ad (n_v vs 0))) (w_ei ws (v_ad (n_v vs 5))) (w_ei w1 (v_ad (n_v vs 5))) k1 k2 k3 k4 k7 k8 k9 hE_0_999_1 hE_5_999_1)⟩
  have nf1 : fc_1 PRD (24, [0, 0], []) ws (vs) := by
    refine ⟨nf_in hl rfl, sgq_1 ?_⟩
    · show n_v vs 0 = n_v vs 0
      first | rfl | simp only [true_and]
  have nf2 : fc_1 PRD (24, [1, 1], []) ws (vs) := by
    refine ⟨nf_in hl rfl, sgq_1 ?_⟩
    · show n_v vs 1 = n_v vs 1
      first | rfl | simp only [true_and]
  have nf3 : fc_1 PRD (24, [2, 2], []) ws (vs) := by
    refine ⟨nf_in hl rfl, sgq_1 ?_⟩
    · show n_v vs 2 = n_v vs 2
      first | rfl | simp only [true_and]
  have nf4 : fc_1 PRD (24, [3, 3], []) ws (vs) := by
    refine ⟨nf_in hl rfl, sgq_1 ?_⟩
    · show n_v vs 3 = n_v vs 3
      first | rfl | simp only [true_and]
  have nf5 : fc_1 PRD (24, [4, 4], []) ws (vs) := by
    refine ⟨nf_in hl rfl, sgq_1 ?_⟩
    · show n_v vs 4 = n_v vs 4
      first | rfl | simp only [true_and]
  have nf6 : fc_1 PRD (24, [5, 5], []) ws (vs) := by
    refine ⟨nf_in hl rfl, sgq_1 ?_⟩
    · show n_v vs 5 = n_v vs 5
      first | rfl | simp only [true_and]
  have nf7 : fc_1 PRD (24, [6, 6], []) ws (vs) := by
    refine ⟨nf_in hl rfl, sgq_1 ?_⟩
    · show n_v vs 6 = n_v vs 6
      first | rfl | simp only [true_and]
  have nf8 : fc_1 PRD (20, [0, 5, 1, 2, 3, 4, 4, 8, 9], [61, 2, 898]) ws (vs) := ⟨nf_in hl rfl, sgq_1183 (vc_Fa_shortestWay_at_Npnear_Emlevel_Emway_0_8 (v_iv (n_v vs 1)) (v_iv (n_v vs 2)) (v_iv (n_v vs 3)) (v_iv (n_v vs 4)) (v_iv (n_v vs 7)) (v_iv (n_v vs 8)) (v_iv (n_v vs 9)) (w_ei ws (v_ad (n_v vs 0))) (w_ei w1 (v_ad (n_v vs 0))) (w_ei ws (v_ad (n_v vs 5))) (w_ei w1 (v_ad (n_v vs 5))) k1 k2 k3 k4 k7 k8 k9 hE_0_999_1 hE_5_999_1)⟩
  refine ⟨(fun _ h => (by cases h)), [], trivial, ?_, (fun _ h => (by cases h))⟩
  rw [List.append_nil]
  exact List.forall_mem_cons.mpr ⟨⟨show (20 : Nat) < 100 from by decide, nf0⟩, List.forall_mem_cons.mpr ⟨⟨show (24 : Nat) < 100 from by decide, nf1⟩, List.forall_mem_cons.mpr ⟨⟨show (24 : Nat) < 100 from by decide, nf2⟩, List.forall_mem_cons.mpr ⟨⟨show (24 : Nat) < 100 from by decide, nf3⟩, List.forall_mem_cons.mpr ⟨⟨show (24 : Nat) < 100 from by decide, nf4⟩, List.forall_mem_cons.mpr ⟨⟨show (24 : Nat) < 100 from by decide, nf5⟩, List.forall_mem_cons.mpr ⟨⟨show (24 : Nat) < 100 from by decide, nf6⟩, List.forall_mem_cons.mpr ⟨⟨show (24 : Nat) < 100 from by decide, nf7⟩, List.forall_mem_cons.mpr ⟨⟨show (20 : Nat) < 100 from by decide, nf8⟩, (fun _ h => (by cases h))⟩⟩⟩⟩⟩⟩⟩⟩⟩
set_option maxHeartbeats 4000000 in
theorem vc_Fa_shortestWay_at_Npnear_Emlevel_Emway_1_0 (x1 : Int) (x2 : Int) (x3 : Int) (x4 : Int) (x14 : Int) (x15 : Int) (x16 : Int) (x17 : Int) (a0_0 : Int → Int) (a5_0 : Int → Int) (a0_1 : Int → Int) (a5_1 : Int → Int) (a6_0 : Int → Int) (a6_1 : Int → Int) (k1 : 1 ≤ x1 ∧ x1 ≤ 25) (k2 : 0 ≤ x2 ∧ x2 ≤ 24) (k3 : 0 ≤ x3 ∧ x3 ≤ 33554431) (k4 : 0 ≤ x4 ∧ x4 ≤ 33554431) (k14 : 0 ≤ x14 ∧ x14 ≤ 33554431) (k15 : 1 ≤ x15 ∧ x15 ≤ 24) (k16 : 2 ≤ x16 ∧ x16 ≤ 25) (k17 : 0 ≤ x17 ∧ x17 ≤ 0) (f12 : x15 ≠ 0) (f14 : LV1 (a0_1) (a5_1) (x1) (x2) (x3) (x4) (x14) (x15) (x16)) (hE_0_999_1 : ∀ j : Int, a0_0 j = a0_1 j) (hE_5_999_1 : ∀ j : Int, a5_0 j = a5_1 j) (hE_6_999_1 : ∀ j : Int, 0 ≤ j → (j = x17 → a6_0 j = x2) ∧ (j ≠ x17 → a6_0 j = a6_1 j)) : LV2 (a0_0) (a5_0) (a6_0) (x1) (x2) (x3) (x4) (x15) (x15) := by
  have e_hE_0_999_1 := funext hE_0_999_1; subst e_hE_0_999_1
  have e_hE_5_999_1 := funext hE_5_999_1; subst e_hE_5_999_1
  first
    | exact lv2_start ‹LV1 _ _ _ _ _ _ _ _ _› (by omega) (by assumption) (by omega) (by omega) rfl
def o_Fa_shortestWay_at_Npnear_Emlevel_Emway_1 : or_T := (106, 18, [(0, (2, 0, 0, [142])), (1, (0, 1, 25, [])), (2, (0, 0, 24, [])), (3, (0, 0, 33554431, [])), (4, (0, 0, 33554431, [])), (5, (2, 0, 0, [34])), (6, (2, 0, 0, [35])), (7, (2, 0, 0, [142])), (8, (0, 1, 25, [])), (9, (0, 0, 24, [])), (10, (0, 0, 33554431, [])), (11, (0, 0, 33554431, [])), (12, (2, 0, 0, [34])), (13, (2, 0, 0, [35])), (14, (0, 0, 33554431, [])), (15, (0, 1, 24, [])), (16, (0, 2, 25, [])), (17, (0, 0, 0, []))], [(20, [7, 12, 8, 9, 10, 11, 14, 15, 16], [61, 2, 562]), (20, [7, 8], [61, 1, 560]), (20, [8, 11], [61, 0, 561]), (24, [0, 7], []), (24, [1, 8], []), (24, [2, 9], []), (24, [3, 10], []), (24, [4, 11], []), (24, [5, 12], []), (24, [6, 13], []), (20, [7, 12, 8, 9, 10, 11, 14, 15, 16], [61, 2, 898]), (100, [13, 17, 9], []), (8, [15], [1]), (7, [16, 8], [3]), (20, [7, 12, 8, 9, 10, 11, 14, 15, 16], [61, 2, 562]), (20, [7, 8], [61, 1, 560]), (20, [8, 11], [61, 0, 561]), (20, [7, 12, 8, 9, 10, 11, 14, 15, 16], [61, 2, 898])], [], [], [(20, [7, 12, 13, 8, 9, 10, 11, 15, 15], [61, 3, 563])], [], [(16, 8, 0, 4294967296), (1, 8, -4294967296, 0), (2, 9, -4294967296, 0), (3, 10, -4294967296, 0), (4, 11, -4294967296, 0), (8, 1, -4294967296, 0), (9, 2, -4294967296, 0), (10, 3, -4294967296, 0), (11, 4, -4294967296, 0), (15, 1, -4294967296, 0), (15, 8, -4294967296, 0), (15, 16, -4294967296, -1), (16, 1, -4294967296, 1), (16, 8, -4294967296, 1)])
theorem oo_Fa_shortestWay_at_Npnear_Emlevel_Emway_1 {kA : Nat → ClassId} : or_ok PRD kA GG o_Fa_shortestWay_at_Npnear_Emlevel_Emway_1 := by
  refine or_mk fun A ta ws vs hD hth hl => ?_
  intro t0 r0 t1 k1 t2 k2 t3 k3 t4 k4 t5 r5 t6 r6 t7 r7 t8 k8 t9 k9 t10 k10 t11 k11 t12 r12 t13 r13 t14 k14 t15 k15 t16 k16 t17 k17 d0 d1 d2 d3 d4 d5 d6 d7 d8 d9 d10 d11 d12 d13 f0 f1 f2 f3 f4 f5 f6 f7 f8 f9 f10 ta1 w1 le1 s1 f12 f13 f14 f15 f16 f17
  replace f3 := shm_5 f3
  replace f4 := shm_5 f4
  replace f5 := shm_5 f5
  replace f6 := shm_5 f6
  replace f7 := shm_5 f7
  replace f8 := shm_5 f8
  replace f9 := shm_5 f9
  have s1 : (∀ b j, w_el ws b j = if b = v_ad (n_v vs 13) ∧ j = (v_iv (n_v vs 17)).toNat then v_iv (n_v vs 9) else w_el w1 b j) ∧ ∀ b k, w_fd ws b k = w_fd w1 b k := s1.2
  replace f12 := shm_142 f12
  replace f14 := shm_1184 f14
  have q7 : n_v vs 7 = n_v vs 0 := f3.symm
  have q8 : n_v vs 8 = n_v vs 1 := f4.symm
  have q9 : n_v vs 9 = n_v vs 2 := f5.symm
  have q10 : n_v vs 10 = n_v vs 3 := f6.symm
  have q11 : n_v vs 11 = n_v vs 4 := f7.symm
  have q12 : n_v vs 12 = n_v vs 5 := f8.symm
  have q13 : n_v vs 13 = n_v vs 6 := f9.symm
  rw [q9] at s1
  rw [q13] at s1
  simp only [q8, q7, q9, q10, q11, q12] at f14
  have cr_0_999 : ta (v_ad (n_v vs 0)) = some 142 := r0
  have cr_5_999 : ta (v_ad (n_v vs 5)) = some 34 := r5
  have ad_6 : v_ad (n_v vs 6) = v_ad (n_v vs 6) := rfl
  have hE_0_999_1 : ∀ j : Int, w_ei ws (v_ad (n_v vs 0)) j = w_ei w1 (v_ad (n_v vs 0)) j := el_kp s1.1 r6 cr_0_999 (by decide)
  have hE_5_999_1 : ∀ j : Int, w_ei ws (v_ad (n_v vs 5)) j = w_ei w1 (v_ad (n_v vs 5)) j := el_kp s1.1 r6 cr_5_999 (by decide)
  have hE_6_999_1 : ∀ j : Int, 0 ≤ j → (j = v_iv (n_v vs 17) → w_ei ws (v_ad (n_v vs 6)) j = v_iv (n_v vs 2)) ∧ (j ≠ v_iv (n_v vs 17) → w_ei ws (v_ad (n_v vs 6)) j = w_ei w1 (v_ad (n_v vs 6)) j) := fun j hj => ⟨fun h => by unfold w_ei; rw [s1.1, if_pos ⟨ad_6.symm, by rw [h]⟩], fun h => by unfold w_ei; rw [s1.1, if_neg (fun e => h (by have := e.2; omega))]⟩
  have nf0 : fc_1 PRD (20, [7, 12, 13, 8, 9, 10, 11, 15, 15], [61, 3, 563]) ws (vs) := by
    refine ⟨nf_in hl rfl, sgq_1186 ?_⟩
    · show LV2 (w_ei ws (v_ad (n_v vs 7))) (w_ei ws (v_ad (n_v vs 12))) (w_ei ws (v_ad (n_v vs 13))) (v_iv (n_v vs 8)) (v_iv (n_v vs 9)) (v_iv (n_v vs 10)) (v_iv (n_v vs 11)) (v_iv (n_v vs 15)) (v_iv (n_v vs 15))
      simp only [q7, q8, q9, q10, q11, q12, q13]
      exact vc_Fa_shortestWay_at_Npnear_Emlevel_Emway_1_0 (v_iv (n_v vs 1)) (v_iv (n_v vs 2)) (v_iv (n_v vs 3)) (v_iv (n_v vs 4)) (v_iv (n_v vs 14)) (v_iv (n_v vs 15)) (v_iv (n_v vs 16)) (v_iv (n_v vs 17)) (w_ei ws (v_ad (n_v vs 0))) (w_ei ws (v_ad (n_v vs 5))) (w_ei w1 (v_ad (n_v vs 0))) (w_ei w1 (v_ad (n_v vs 5))) (w_ei ws (v_ad (n_v vs 6))) (w_ei w1 (v_ad (n_v vs 6))) k1 k2 k3 k4 k14 k15 k16 k17 f12 f14 hE_0_999_1 hE_5_999_1 hE_6_999_1
  refine ⟨(fun _ h => (by cases h)), [], trivial, ?_, (fun _ h => (by cases h))⟩
  rw [List.append_nil]
  exact List.forall_mem_cons.mpr ⟨⟨show (20 : Nat) < 100 from by decide, nf0⟩, (fun _ h => (by cases h))⟩
set_option maxHeartbeats 4000000 in
theorem vc_Fa_shortestWay_at_Npnear_Emlevel_Emway_2_0 (x2 : Int) (x3 : Int) (x4 : Int) (x17 : Int) (a6_0 : Int → Int) (k2 : 0 ≤ x2 ∧ x2 ≤ 24) (k3 : 0 ≤ x3 ∧ x3 ≤ 33554431) (k4 : 0 ≤ x4 ∧ x4 ≤ 33554431) (k17 : 0 ≤ x17 ∧ x17 ≤ 0) : SHW (a6_0) (x2) (x3) (x4) (x17) := by
  first
    | exact shw_zero (by omega)
set_option maxHeartbeats 4000000 in
theorem vc_Fa_shortestWay_at_Npnear_Emlevel_Emway_2_1 (x1 : Int) (x2 : Int) (x3 : Int) (x4 : Int) (x14 : Int) (x15 : Int) (x16 : Int) (x17 : Int) (a0_0 : Int → Int) (a5_0 : Int → Int) (k1 : 0 ≤ x1 ∧ x1 ≤ 25) (k2 : 0 ≤ x2 ∧ x2 ≤ 24) (k3 : 0 ≤ x3 ∧ x3 ≤ 33554431) (k4 : 0 ≤ x4 ∧ x4 ≤ 33554431) (k14 : 0 ≤ x14 ∧ x14 ≤ 33554431) (k15 : 0 ≤ x15 ∧ x15 ≤ 0) (k16 : 1 ≤ x16 ∧ x16 ≤ 25) (k17 : 0 ≤ x17 ∧ x17 ≤ 0) (f0 : x15 = 0) (f1 : x1 ≤ x16) (f2 : LV1 (a0_0) (a5_0) (x1) (x2) (x3) (x4) (x14) (x15) (x16)) (f4 : FRN (x1) (x4)) (f12 : LV3 (a0_0) (a5_0) (x1) (x2) (x3) (x4) (x14) (x15) (x16)) : SHZ (a0_0) (x1) (x2) (x3) (x4) (x17) := by
  first
    | exact shz_b ‹LV3 _ _ _ _ _ _ _ _ _› ‹LV1 _ _ _ _ _ _ _ _ _› ‹FRN _ _› (by omega) (by omega)
def o_Fa_shortestWay_at_Npnear_Emlevel_Emway_2 : or_T := (96, 18, [(1, (0, 0, 25, [])), (2, (0, 0, 24, [])), (3, (0, 0, 33554431, [])), (4, (0, 0, 33554431, [])), (14, (0, 0, 33554431, [])), (15, (0, 0, 0, [])), (16, (0, 1, 25, [])), (17, (0, 0, 0, []))], [(8, [15], [0]), (7, [16, 8], [3]), (20, [7, 12, 8, 9, 10, 11, 14, 15, 16], [61, 2, 562]), (20, [8, 11], [61, 0, 561]), (24, [0, 7], []), (24, [1, 8], []), (24, [2, 9], []), (24, [3, 10], []), (24, [4, 11], []), (24, [5, 12], []), (20, [7, 12, 8, 9, 10, 11, 14, 15, 16], [61, 2, 898])], [], [], [(20, [6, 2, 3, 4, 17], [61, 1, 564]), (20, [0, 1, 2, 3, 4, 17], [61, 1, 899])], [], [])
theorem oo_Fa_shortestWay_at_Npnear_Emlevel_Emway_2 {kA : Nat → ClassId} : or_ok PRD kA GG o_Fa_shortestWay_at_Npnear_Emlevel_Emway_2 := by
  refine or_mk fun A ta ws vs hD hth hl => ?_
  intro t1 k1 t2 k2 t3 k3 t4 k4 t14 k14 t15 k15 t16 k16 t17 k17 f0 f1 f2 f4 f5 f6 f7 f8 f9 f10 f12
  replace f1 := shm_2 f1
  replace f2 := shm_1184 f2
  replace f4 := shm_1181 f4
  replace f5 := shm_5 f5
  replace f6 := shm_5 f6
  replace f7 := shm_5 f7
  replace f8 := shm_5 f8
  replace f9 := shm_5 f9
  replace f10 := shm_5 f10
  replace f12 := shm_1185 f12
  have q7 : n_v vs 7 = n_v vs 0 := f5.symm
  have q8 : n_v vs 8 = n_v vs 1 := f6.symm
  have q9 : n_v vs 9 = n_v vs 2 := f7.symm
  have q10 : n_v vs 10 = n_v vs 3 := f8.symm
  have q11 : n_v vs 11 = n_v vs 4 := f9.symm
  have q12 : n_v vs 12 = n_v vs 5 := f10.symm
  simp only [q8, q7, q9, q10, q11, q12] at f1 f2 f4 f12
  have nf0 : fc_1 PRD (20, [6, 2, 3, 4, 17], [61, 1, 564]) ws (vs) := ⟨nf_in hl rfl, sgq_1187 (vc_Fa_shortestWay_at_Npnear_Emlevel_Emway_2_0 (v_iv (n_v vs 2)) (v_iv (n_v vs 3)) (v_iv (n_v vs 4)) (v_iv (n_v vs 17)) (w_ei ws (v_ad (n_v vs 6))) k2 k3 k4 k17)⟩
  have nf1 : fc_1 PRD (20, [0, 1, 2, 3, 4, 17], [61, 1, 899]) ws (vs) := ⟨nf_in hl rfl, sgq_1188 (vc_Fa_shortestWay_at_Npnear_Emlevel_Emway_2_1 (v_iv (n_v vs 1)) (v_iv (n_v vs 2)) (v_iv (n_v vs 3)) (v_iv (n_v vs 4)) (v_iv (n_v vs 14)) (v_iv (n_v vs 15)) (v_iv (n_v vs 16)) (v_iv (n_v vs 17)) (w_ei ws (v_ad (n_v vs 0))) (w_ei ws (v_ad (n_v vs 5))) k1 k2 k3 k4 k14 k15 k16 k17 (shm_192 f0) f1 f2 f4 f12)⟩
  refine ⟨(fun _ h => (by cases h)), [], trivial, ?_, (fun _ h => (by cases h))⟩
  rw [List.append_nil]
  exact List.forall_mem_cons.mpr ⟨⟨show (20 : Nat) < 100 from by decide, nf0⟩, List.forall_mem_cons.mpr ⟨⟨show (20 : Nat) < 100 from by decide, nf1⟩, (fun _ h => (by cases h))⟩⟩
set_option maxHeartbeats 4000000 in
theorem vc_Fa_shortestWay_at_Npnear_Emlevel_Emway_3_0 (x1 : Int) (x2 : Int) (x3 : Int) (x4 : Int) (x14 : Int) (x15 : Int) (x16 : Int) (x17 : Int) (a0_0 : Int → Int) (a5_0 : Int → Int) (a0_1 : Int → Int) (a5_1 : Int → Int) (a6_0 : Int → Int) (a6_1 : Int → Int) (k1 : 2 ≤ x1 ∧ x1 ≤ 25) (k2 : 0 ≤ x2 ∧ x2 ≤ 24) (k3 : 0 ≤ x3 ∧ x3 ≤ 33554431) (k4 : 0 ≤ x4 ∧ x4 ≤ 33554431) (k14 : 0 ≤ x14 ∧ x14 ≤ 33554431) (k15 : 1 ≤ x15 ∧ x15 ≤ 23) (k16 : 2 ≤ x16 ∧ x16 ≤ 24) (k17 : 0 ≤ x17 ∧ x17 ≤ 0) (f13 : x15 ≠ 0) (f15 : LV1 (a0_1) (a5_1) (x1) (x2) (x3) (x4) (x14) (x15) (x16)) (hE_0_999_1 : ∀ j : Int, a0_0 j = a0_1 j) (hE_5_999_1 : ∀ j : Int, a5_0 j = a5_1 j) (hE_6_999_1 : ∀ j : Int, 0 ≤ j → (j = x17 → a6_0 j = x2) ∧ (j ≠ x17 → a6_0 j = a6_1 j)) : LV2 (a0_0) (a5_0) (a6_0) (x1) (x2) (x3) (x4) (x15) (x15) := by
  have e_hE_0_999_1 := funext hE_0_999_1; subst e_hE_0_999_1
  have e_hE_5_999_1 := funext hE_5_999_1; subst e_hE_5_999_1
  first
    | exact lv2_start ‹LV1 _ _ _ _ _ _ _ _ _› (by omega) (by assumption) (by omega) (by omega) rfl
def o_Fa_shortestWay_at_Npnear_Emlevel_Emway_3 : or_T := (106, 18, [(0, (2, 0, 0, [142])), (1, (0, 2, 25, [])), (2, (0, 0, 24, [])), (3, (0, 0, 33554431, [])), (4, (0, 0, 33554431, [])), (5, (2, 0, 0, [34])), (6, (2, 0, 0, [35])), (7, (2, 0, 0, [142])), (8, (0, 2, 25, [])), (9, (0, 0, 24, [])), (10, (0, 0, 33554431, [])), (11, (0, 0, 33554431, [])), (12, (2, 0, 0, [34])), (13, (2, 0, 0, [35])), (14, (0, 0, 33554431, [])), (15, (0, 1, 23, [])), (16, (0, 2, 24, [])), (17, (0, 0, 0, []))], [(20, [7, 12, 8, 9, 10, 11, 14, 15, 16], [61, 2, 562]), (20, [7, 8], [61, 1, 560]), (20, [8, 11], [61, 0, 561]), (24, [0, 7], []), (24, [1, 8], []), (24, [2, 9], []), (24, [3, 10], []), (24, [4, 11], []), (24, [5, 12], []), (24, [6, 13], []), (20, [7, 12, 8, 9, 10, 11, 14, 15, 16], [61, 2, 898]), (100, [13, 17, 9], []), (8, [15], [1]), (8, [15], [1]), (7, [16, 8], [2]), (20, [7, 12, 8, 9, 10, 11, 14, 15, 16], [61, 2, 562]), (20, [7, 8], [61, 1, 560]), (20, [8, 11], [61, 0, 561]), (20, [7, 12, 8, 9, 10, 11, 14, 15, 16], [61, 2, 898])], [], [], [(20, [7, 12, 13, 8, 9, 10, 11, 15, 15], [61, 3, 563])], [], [(16, 8, -4294967296, -1), (1, 8, -4294967296, 0), (2, 9, -4294967296, 0), (3, 10, -4294967296, 0), (4, 11, -4294967296, 0), (8, 1, -4294967296, 0), (9, 2, -4294967296, 0), (10, 3, -4294967296, 0), (11, 4, -4294967296, 0), (15, 1, -4294967296, 0), (15, 8, -4294967296, 0), (15, 16, -4294967296, -1), (16, 1, -4294967296, 1), (16, 8, -4294967296, 1)])
theorem oo_Fa_shortestWay_at_Npnear_Emlevel_Emway_3 {kA : Nat → ClassId} : or_ok PRD kA GG o_Fa_shortestWay_at_Npnear_Emlevel_Emway_3 := by
  refine or_mk fun A ta ws vs hD hth hl => ?_
  intro t0 r0 t1 k1 t2 k2 t3 k3 t4 k4 t5 r5 t6 r6 t7 r7 t8 k8 t9 k9 t10 k10 t11 k11 t12 r12 t13 r13 t14 k14 t15 k15 t16 k16 t17 k17 d0 d1 d2 d3 d4 d5 d6 d7 d8 d9 d10 d11 d12 d13 f0 f1 f2 f3 f4 f5 f6 f7 f8 f9 f10 ta1 w1 le1 s1 f12 f13 f14 f15 f16 f17 f18
  replace f3 := shm_5 f3
  replace f4 := shm_5 f4
  replace f5 := shm_5 f5
  replace f6 := shm_5 f6
  replace f7 := shm_5 f7
  replace f8 := shm_5 f8
  replace f9 := shm_5 f9
  have s1 : (∀ b j, w_el ws b j = if b = v_ad (n_v vs 13) ∧ j = (v_iv (n_v vs 17)).toNat then v_iv (n_v vs 9) else w_el w1 b j) ∧ ∀ b k, w_fd ws b k = w_fd w1 b k := s1.2
  replace f13 := shm_142 f13
  replace f15 := shm_1184 f15
  have q7 : n_v vs 7 = n_v vs 0 := f3.symm
  have q8 : n_v vs 8 = n_v vs 1 := f4.symm
  have q9 : n_v vs 9 = n_v vs 2 := f5.symm
  have q10 : n_v vs 10 = n_v vs 3 := f6.symm
  have q11 : n_v vs 11 = n_v vs 4 := f7.symm
  have q12 : n_v vs 12 = n_v vs 5 := f8.symm
  have q13 : n_v vs 13 = n_v vs 6 := f9.symm
  rw [q9] at s1
  rw [q13] at s1
  simp only [q8, q7, q9, q10, q11, q12] at f15
  have cr_0_999 : ta (v_ad (n_v vs 0)) = some 142 := r0
  have cr_5_999 : ta (v_ad (n_v vs 5)) = some 34 := r5
  have ad_6 : v_ad (n_v vs 6) = v_ad (n_v vs 6) := rfl
  have hE_0_999_1 : ∀ j : Int, w_ei ws (v_ad (n_v vs 0)) j = w_ei w1 (v_ad (n_v vs 0)) j := el_kp s1.1 r6 cr_0_999 (by decide)
  have hE_5_999_1 : ∀ j : Int, w_ei ws (v_ad (n_v vs 5)) j = w_ei w1 (v_ad (n_v vs 5)) j := el_kp s1.1 r6 cr_5_999 (by decide)
  have hE_6_999_1 : ∀ j : Int, 0 ≤ j → (j = v_iv (n_v vs 17) → w_ei ws (v_ad (n_v vs 6)) j = v_iv (n_v vs 2)) ∧ (j ≠ v_iv (n_v vs 17) → w_ei ws (v_ad (n_v vs 6)) j = w_ei w1 (v_ad (n_v vs 6)) j) := fun j hj => ⟨fun h => by unfold w_ei; rw [s1.1, if_pos ⟨ad_6.symm, by rw [h]⟩], fun h => by unfold w_ei; rw [s1.1, if_neg (fun e => h (by have := e.2; omega))]⟩
  have nf0 : fc_1 PRD (20, [7, 12, 13, 8, 9, 10, 11, 15, 15], [61, 3, 563]) ws (vs) := by
    refine ⟨nf_in hl rfl, sgq_1186 ?_⟩
    · show LV2 (w_ei ws (v_ad (n_v vs 7))) (w_ei ws (v_ad (n_v vs 12))) (w_ei ws (v_ad (n_v vs 13))) (v_iv (n_v vs 8)) (v_iv (n_v vs 9)) (v_iv (n_v vs 10)) (v_iv (n_v vs 11)) (v_iv (n_v vs 15)) (v_iv (n_v vs 15))
      simp only [q7, q8, q9, q10, q11, q12, q13]
      exact vc_Fa_shortestWay_at_Npnear_Emlevel_Emway_3_0 (v_iv (n_v vs 1)) (v_iv (n_v vs 2)) (v_iv (n_v vs 3)) (v_iv (n_v vs 4)) (v_iv (n_v vs 14)) (v_iv (n_v vs 15)) (v_iv (n_v vs 16)) (v_iv (n_v vs 17)) (w_ei ws (v_ad (n_v vs 0))) (w_ei ws (v_ad (n_v vs 5))) (w_ei w1 (v_ad (n_v vs 0))) (w_ei w1 (v_ad (n_v vs 5))) (w_ei ws (v_ad (n_v vs 6))) (w_ei w1 (v_ad (n_v vs 6))) k1 k2 k3 k4 k14 k15 k16 k17 f13 f15 hE_0_999_1 hE_5_999_1 hE_6_999_1
  refine ⟨(fun _ h => (by cases h)), [], trivial, ?_, (fun _ h => (by cases h))⟩
  rw [List.append_nil]
  exact List.forall_mem_cons.mpr ⟨⟨show (20 : Nat) < 100 from by decide, nf0⟩, (fun _ h => (by cases h))⟩
set_option maxHeartbeats 4000000 in
theorem vc_Fa_shortestWay_at_Npnear_Emlevel_Emway_4_0 (x1 : Int) (x2 : Int) (x3 : Int) (x4 : Int) (x8 : Int) (x14 : Int) (x15 : Int) (x16 : Int) (x18 : Int) (x19 : Int) (x20 : Int) (x21 : Int) (x22 : Int) (x23 : Int) (x24 : Int) (x25 : Int) (x27 : Int) (x28 : Int) (x29 : Int) (x30 : Int) (a5_0 : Int → Int) (a0_0 : Int → Int) (a0_1 : Int → Int) (a5_1 : Int → Int) (k1 : 2 ≤ x1 ∧ x1 ≤ 25) (k2 : 0 ≤ x2 ∧ x2 ≤ 24) (k3 : 0 ≤ x3 ∧ x3 ≤ 33554431) (k4 : 0 ≤ x4 ∧ x4 ≤ 33554431) (k8 : 2 ≤ x8 ∧ x8 ≤ 25) (k14 : 0 ≤ x14 ∧ x14 ≤ 33554431) (k15 : 0 ≤ x15 ∧ x15 ≤ 0) (k16 : 1 ≤ x16 ∧ x16 ≤ 24) (k18 : 0 ≤ x18 ∧ x18 ≤ 23) (k19 : 0 ≤ x19 ∧ x19 ≤ 33554431) (k20 : 0 ≤ x20 ∧ x20 ≤ 33554431) (k21 : 0 ≤ x21 ∧ x21 ≤ 33554431) (k22 : 0 ≤ x22 ∧ x22 ≤ 33554431) (k23 : (-1) ≤ x23 ∧ x23 ≤ (-1)) (k24 : (-2147483648) ≤ x24 ∧ x24 ≤ 2147483647) (k25 : 0 ≤ x25 ∧ x25 ≤ 33554431) (k30 : 2 ≤ x30 ∧ x30 ≤ 25) (d0 : x16 + 1 ≤ x30 ∧ x30 ≤ x16 + 1) (d4 : x16 + (-1) ≤ x18 ∧ x18 ≤ x16 + (-1)) (d9 : x8 + (-4294967296) ≤ x1 ∧ x1 ≤ x8 + 0) (d13 : x1 + (-4294967296) ≤ x8 ∧ x8 ≤ x1 + 0) (f0 : x30 = x16 + 1) (f7 : bvp (x25) = bvp (x14) &&& bvp (x24)) (f8 : bvp (x24) = bvp (x22) ^^^ bvp (x23)) (h9 : x22 = a5_0 (x16)) (f21 : bvp (x21) = bvp (x20) &&& bvp (x14)) (f22 : NEF (a0_1) (x1) (x19) (x20)) (h23 : x19 = a5_1 (x18)) (f25 : x15 = 0) (f27 : LV1 (a0_1) (a5_1) (x1) (x2) (x3) (x4) (x14) (x15) (x16)) (hE_0_999_1 : ∀ j : Int, a0_0 j = a0_1 j) (hE_5_999_1 : ∀ j : Int, 0 ≤ j → (j = x16 → a5_0 j = x21) ∧ (j ≠ x16 → a5_0 j = a5_1 j)) : LV1 (a0_0) (a5_0) (x1) (x2) (x3) (x4) (x25) (x15) (x30) := by
  have e_hE_0_999_1 := funext hE_0_999_1; subst e_hE_0_999_1
  first
    | (have e21 : a5_0 x16 = x21 := (hE_5_999_1 x16 (by omega)).1 rfl
       have e19 : x19 = a5_1 (x16 - 1) := by rw [show x16 - 1 = x18 by omega]; assumption
       have e24 : bvp x24 = bvp x21 ^^^ bvp (-1) := by rw [← e21, ← ‹x22 = a5_0 x16›, show (-1 : Int) = x23 by omega]; assumption
       have q := (lv1_new (r := x24) ‹LV1 _ _ _ _ _ _ _ _ _› (by omega) e19 ‹NEF _ _ _ _› ‹bvp x21 = _› hE_5_999_1 rfl e24 ‹bvp x25 = _› (by omega)).2
       rw [show x15 = 0 by omega, show x30 = x16 + 1 by omega]
       exact q)
    | (have e21 : a5_0 x16 = x21 := (hE_5_999_1 x16 (by omega)).1 rfl
       have e19 : x19 = a5_1 (x16 - 1) := by rw [show x16 - 1 = x18 by omega]; assumption
       have e24 : bvp x24 = bvp x21 ^^^ bvp (-1) := by rw [← e21, ← ‹x22 = a5_0 x16›, show (-1 : Int) = x23 by omega]; assumption
       obtain ⟨w, w0, w1, w2⟩ := bit_ex (x := x29) (by omega) (by omega)
       have w3 := (bit_and ‹bvp x29 = _› w).mp w2
       have w5 : bit x21 w := by rw [← e21, ← (by assumption : x28 = a5_0 x16)]; exact w3.2
       have q := (lv1_new (r := x24) ‹LV1 _ _ _ _ _ _ _ _ _› (by omega) e19 ‹NEF _ _ _ _› ‹bvp x21 = _› hE_5_999_1 rfl e24 ‹bvp x25 = _› (by omega)).1 w ⟨w0, w1, by first | (rw [← (by assumption : x27 = a0_0 x2)]; exact w3.1) | (rw [← (by assumption : x27 = a0_1 x2)]; exact w3.1), w5⟩
       rw [show x30 = x16 + 1 by omega]
       exact q)
set_option maxHeartbeats 4000000 in
theorem vc_Fa_shortestWay_at_Npnear_Emlevel_Emway_4_1 (x1 : Int) (x2 : Int) (x3 : Int) (x4 : Int) (x14 : Int) (x15 : Int) (x16 : Int) (x18 : Int) (x19 : Int) (x20 : Int) (x21 : Int) (x22 : Int) (x23 : Int) (x24 : Int) (x25 : Int) (x26 : Int) (x27 : Int) (x28 : Int) (x29 : Int) (x30 : Int) (a5_0 : Int → Int) (a0_0 : Int → Int) (a0_1 : Int → Int) (a5_1 : Int → Int) (k1 : 2 ≤ x1 ∧ x1 ≤ 25) (k2 : 0 ≤ x2 ∧ x2 ≤ 24) (k3 : 0 ≤ x3 ∧ x3 ≤ 33554431) (k4 : 0 ≤ x4 ∧ x4 ≤ 33554431) (k14 : 0 ≤ x14 ∧ x14 ≤ 33554431) (k15 : 0 ≤ x15 ∧ x15 ≤ 0) (k16 : 1 ≤ x16 ∧ x16 ≤ 24) (k18 : 0 ≤ x18 ∧ x18 ≤ 23) (k19 : 0 ≤ x19 ∧ x19 ≤ 33554431) (k20 : 0 ≤ x20 ∧ x20 ≤ 33554431) (k21 : 0 ≤ x21 ∧ x21 ≤ 33554431) (k22 : 0 ≤ x22 ∧ x22 ≤ 33554431) (k23 : (-1) ≤ x23 ∧ x23 ≤ (-1)) (k24 : (-2147483648) ≤ x24 ∧ x24 ≤ 2147483647) (k25 : 0 ≤ x25 ∧ x25 ≤ 33554431) (k26 : 1 ≤ x26 ∧ x26 ≤ 33554431) (k27 : 0 ≤ x27 ∧ x27 ≤ 33554431) (k28 : 0 ≤ x28 ∧ x28 ≤ 33554431) (k29 : 0 ≤ x29 ∧ x29 ≤ 0) (k30 : 2 ≤ x30 ∧ x30 ≤ 25) (d0 : x16 + 1 ≤ x30 ∧ x30 ≤ x16 + 1) (d4 : x16 + (-1) ≤ x18 ∧ x18 ≤ x16 + (-1)) (f0 : x30 = x16 + 1) (f1 : x29 = 0) (f2 : bvp (x29) = bvp (x27) &&& bvp (x28)) (h3 : x28 = a5_0 (x16)) (h4 : x27 = a0_0 (x2)) (h6 : x26 = a5_0 (x16)) (f7 : bvp (x25) = bvp (x14) &&& bvp (x24)) (f8 : bvp (x24) = bvp (x22) ^^^ bvp (x23)) (h9 : x22 = a5_0 (x16)) (f21 : bvp (x21) = bvp (x20) &&& bvp (x14)) (f22 : NEF (a0_1) (x1) (x19) (x20)) (h23 : x19 = a5_1 (x18)) (f25 : x15 = 0) (f27 : LV1 (a0_1) (a5_1) (x1) (x2) (x3) (x4) (x14) (x15) (x16)) (f29 : FRN (x1) (x4)) (f30 : LV3 (a0_1) (a5_1) (x1) (x2) (x3) (x4) (x14) (x15) (x16)) (hE_0_999_1 : ∀ j : Int, a0_0 j = a0_1 j) (hE_5_999_1 : ∀ j : Int, 0 ≤ j → (j = x16 → a5_0 j = x21) ∧ (j ≠ x16 → a5_0 j = a5_1 j)) : LV3 (a0_0) (a5_0) (x1) (x2) (x3) (x4) (x25) (x15) (x30) := by
  have e_hE_0_999_1 := funext hE_0_999_1; subst e_hE_0_999_1
  first
    | (have e21 : a5_0 x16 = x21 := (hE_5_999_1 x16 (by omega)).1 rfl
       have e19 : x19 = a5_1 (x16 - 1) := by rw [show x16 - 1 = x18 by omega]; assumption
       have e24 : bvp x24 = bvp x21 ^^^ bvp (-1) := by rw [← e21, ← ‹x22 = a5_0 x16›, show (-1 : Int) = x23 by omega]; assumption
       have x0 : ∃ w, 0 ≤ w ∧ w < 32 ∧ bit x21 w := bit_ex (by omega) (by omega)
       first
         | exact lv3_new (r := x24) ‹LV3 _ _ _ _ _ _ _ _ _› (fun w a b z => (‹LV1 _ _ _ _ _ _ _ _ _›).2.2.2.1 w a b z) ‹FRN _ _› e19 ‹NEF _ _ _ _› ‹bvp x21 = _› hE_5_999_1 rfl e24 ‹bvp x25 = _› (by omega) x0 (Or.inr (fun w a b z y => by
             have w5 : bit x29 w := (bit_and ‹bvp x29 = _› w).mpr ⟨by first | (rw [(by assumption : x27 = a0_0 x2)]; exact z) | (rw [(by assumption : x27 = a0_1 x2)]; exact z), by rw [(by assumption : x28 = a5_0 x16), e21]; exact y⟩
             rw [show x29 = 0 by omega] at w5
             exact bit_zero w w5)) (by omega)
         | exact lv3_new (r := x24) ‹LV3 _ _ _ _ _ _ _ _ _› (fun w a b z => (‹LV1 _ _ _ _ _ _ _ _ _›).2.2.2.1 w a b z) ‹FRN _ _› e19 ‹NEF _ _ _ _› ‹bvp x21 = _› hE_5_999_1 rfl e24 ‹bvp x25 = _› (by omega) x0 (Or.inl (by omega)) (by omega))
def o_Fa_shortestWay_at_Npnear_Emlevel_Emway_4 : or_T := (15, 31, [(0, (2, 0, 0, [142])), (1, (0, 2, 25, [])), (2, (0, 0, 24, [])), (3, (0, 0, 33554431, [])), (4, (0, 0, 33554431, [])), (5, (2, 0, 0, [34])), (6, (2, 0, 0, [35])), (7, (2, 0, 0, [142])), (8, (0, 2, 25, [])), (9, (0, 0, 24, [])), (10, (0, 0, 33554431, [])), (11, (0, 0, 33554431, [])), (12, (2, 0, 0, [34])), (13, (2, 0, 0, [35])), (14, (0, 0, 33554431, [])), (15, (0, 0, 0, [])), (16, (0, 1, 24, [])), (17, (0, 1, 1, [])), (18, (0, 0, 23, [])), (19, (0, 0, 33554431, [])), (20, (0, 0, 33554431, [])), (21, (0, 0, 33554431, [])), (22, (0, 0, 33554431, [])), (23, (0, -1, -1, [])), (24, (0, -2147483648, 2147483647, [])), (25, (0, 0, 33554431, [])), (26, (0, 1, 33554431, [])), (27, (0, 0, 33554431, [])), (28, (0, 0, 33554431, [])), (29, (0, 0, 0, [])), (30, (0, 2, 25, []))], [(6, [30, 16], [1]), (8, [29], [0]), (16, [29, 27, 28], [0]), (10, [28, 12, 16], []), (10, [27, 7, 9], []), (8, [26], [1]), (10, [26, 12, 16], []), (16, [25, 14, 24], [0]), (16, [24, 22, 23], [2]), (10, [22, 12, 16], []), (20, [7, 8, 19, 20], [61, 1, 557]), (20, [7, 8], [61, 1, 560]), (20, [8, 11], [61, 0, 561]), (24, [0, 7], []), (24, [1, 8], []), (24, [2, 9], []), (24, [3, 10], []), (24, [4, 11], []), (24, [5, 12], []), (24, [6, 13], []), (100, [12, 16, 21], []), (16, [21, 20, 14], [0]), (20, [7, 8, 19, 20], [61, 1, 557]), (10, [19, 12, 18], []), (2, [18, 16, 17], []), (8, [15], [0]), (7, [16, 8], [2]), (20, [7, 12, 8, 9, 10, 11, 14, 15, 16], [61, 2, 562]), (20, [7, 8], [61, 1, 560]), (20, [8, 11], [61, 0, 561]), (20, [7, 12, 8, 9, 10, 11, 14, 15, 16], [61, 2, 898])], [], [], [(20, [7, 12, 8, 9, 10, 11, 25, 15, 30], [61, 2, 562]), (20, [7, 12, 8, 9, 10, 11, 25, 15, 30], [61, 2, 898])], [], [(30, 16, 1, 1), (30, 8, -4294967296, 0), (30, 1, -4294967296, 2), (30, 8, -4294967296, 2), (18, 16, -1, -1), (18, 8, -4294967296, -2), (18, 1, -4294967296, 0), (18, 8, -4294967296, 0), (16, 8, -4294967296, -1), (1, 8, -4294967296, 0), (2, 9, -4294967296, 0), (3, 10, -4294967296, 0), (4, 11, -4294967296, 0), (8, 1, -4294967296, 0), (9, 2, -4294967296, 0), (10, 3, -4294967296, 0), (11, 4, -4294967296, 0), (16, 1, -4294967296, 1), (16, 8, -4294967296, 1)])
theorem oo_Fa_shortestWay_at_Npnear_Emlevel_Emway_4 {kA : Nat → ClassId} : or_ok PRD kA GG o_Fa_shortestWay_at_Npnear_Emlevel_Emway_4 := by
  refine or_mk fun A ta ws vs hD hth hl => ?_
  intro t0 r0 t1 k1 t2 k2 t3 k3 t4 k4 t5 r5 t6 r6 t7 r7 t8 k8 t9 k9 t10 k10 t11 k11 t12 r12 t13 r13 t14 k14 t15 k15 t16 k16 t17 k17 t18 k18 t19 k19 t20 k20 t21 k21 t22 k22 t23 k23 t24 k24 t25 k25 t26 k26 t27 k27 t28 k28 t29 k29 t30 k30 d0 d1 d2 d3 d4 d5 d6 d7 d8 d9 d10 d11 d12 d13 d14 d15 d16 d17 d18 f0 f1 f2 f3 f4 f5 f6 f7 f8 f9 f10 f11 f12 f13 f14 f15 f16 f17 f18 f19 ta1 w1 le1 s1 f21 f22 f23 f24 f25 f26 f27 f28 f29 f30
  replace f0 := shm_4 f0
  replace f1 := shm_192 f1
  replace f2 := shm_11 f2
  replace f3 := shm_107 f3
  replace f4 := shm_107 f4
  replace f6 := shm_107 f6
  replace f7 := shm_11 f7
  replace f8 := shm_33 f8
  replace f9 := shm_107 f9
  replace f13 := shm_5 f13
  replace f14 := shm_5 f14
  replace f15 := shm_5 f15
  replace f16 := shm_5 f16
  replace f17 := shm_5 f17
  replace f18 := shm_5 f18
  have s1 : (∀ b j, w_el ws b j = if b = v_ad (n_v vs 12) ∧ j = (v_iv (n_v vs 16)).toNat then v_iv (n_v vs 21) else w_el w1 b j) ∧ ∀ b k, w_fd ws b k = w_fd w1 b k := s1.2
  replace f21 := shm_11 f21
  replace f22 := shm_363 f22
  replace f23 := shm_107 f23
  replace f25 := shm_192 f25
  replace f27 := shm_1184 f27
  replace f29 := shm_1181 f29
  replace f30 := shm_1185 f30
  have q7 : n_v vs 7 = n_v vs 0 := f13.symm
  have q8 : n_v vs 8 = n_v vs 1 := f14.symm
  have q9 : n_v vs 9 = n_v vs 2 := f15.symm
  have q10 : n_v vs 10 = n_v vs 3 := f16.symm
  have q11 : n_v vs 11 = n_v vs 4 := f17.symm
  have q12 : n_v vs 12 = n_v vs 5 := f18.symm
  simp only [q12, q7, q9] at f3 f4 f6 f9
  rw [q12] at s1
  simp only [q7, q8, q12, q9, q10, q11] at f22 f23 f27 f29 f30
  have cr_0_999 : ta (v_ad (n_v vs 0)) = some 142 := r0
  have ad_5 : v_ad (n_v vs 5) = v_ad (n_v vs 5) := rfl
  have h3 : v_iv (n_v vs 28) = w_ei ws (v_ad (n_v vs 5)) (v_iv (n_v vs 16)) := f3
  have h4 : v_iv (n_v vs 27) = w_ei ws (v_ad (n_v vs 0)) (v_iv (n_v vs 2)) := f4
  have h6 : v_iv (n_v vs 26) = w_ei ws (v_ad (n_v vs 5)) (v_iv (n_v vs 16)) := f6
  have h9 : v_iv (n_v vs 22) = w_ei ws (v_ad (n_v vs 5)) (v_iv (n_v vs 16)) := f9
  have h23 : v_iv (n_v vs 19) = w_ei w1 (v_ad (n_v vs 5)) (v_iv (n_v vs 18)) := f23
  have hE_0_999_1 : ∀ j : Int, w_ei ws (v_ad (n_v vs 0)) j = w_ei w1 (v_ad (n_v vs 0)) j := el_kp s1.1 r5 cr_0_999 (by decide)
  have hE_5_999_1 : ∀ j : Int, 0 ≤ j → (j = v_iv (n_v vs 16) → w_ei ws (v_ad (n_v vs 5)) j = v_iv (n_v vs 21)) ∧ (j ≠ v_iv (n_v vs 16) → w_ei ws (v_ad (n_v vs 5)) j = w_ei w1 (v_ad (n_v vs 5)) j) := fun j hj => ⟨fun h => by unfold w_ei; rw [s1.1, if_pos ⟨ad_5.symm, by rw [h]⟩], fun h => by unfold w_ei; rw [s1.1, if_neg (fun e => h (by have := e.2; omega))]⟩
  have nf0 : fc_1 PRD (20, [7, 12, 8, 9, 10, 11, 25, 15, 30], [61, 2, 562]) ws (vs) := by
    refine ⟨nf_in hl rfl, sgq_1184 ?_⟩
    · show LV1 (w_ei ws (v_ad (n_v vs 7))) (w_ei ws (v_ad (n_v vs 12))) (v_iv (n_v vs 8)) (v_iv (n_v vs 9)) (v_iv (n_v vs 10)) (v_iv (n_v vs 11)) (v_iv (n_v vs 25)) (v_iv (n_v vs 15)) (v_iv (n_v vs 30))
      simp only [q7, q8, q9, q10, q11, q12]
      exact vc_Fa_shortestWay_at_Npnear_Emlevel_Emway_4_0 (v_iv (n_v vs 1)) (v_iv (n_v vs 2)) (v_iv (n_v vs 3)) (v_iv (n_v vs 4)) (v_iv (n_v vs 8)) (v_iv (n_v vs 14)) (v_iv (n_v vs 15)) (v_iv (n_v vs 16)) (v_iv (n_v vs 18)) (v_iv (n_v vs 19)) (v_iv (n_v vs 20)) (v_iv (n_v vs 21)) (v_iv (n_v vs 22)) (v_iv (n_v vs 23)) (v_iv (n_v vs 24)) (v_iv (n_v vs 25)) (v_iv (n_v vs 27)) (v_iv (n_v vs 28)) (v_iv (n_v vs 29)) (v_iv (n_v vs 30)) (w_ei ws (v_ad (n_v vs 5))) (w_ei ws (v_ad (n_v vs 0))) (w_ei w1 (v_ad (n_v vs 0))) (w_ei w1 (v_ad (n_v vs 5))) k1 k2 k3 k4 k8 k14 k15 k16 k18 k19 k20 k21 k22 k23 k24 k25 k30 d0 d4 d9 d13 f0 f7 f8 h9 f21 f22 h23 f25 f27 hE_0_999_1 hE_5_999_1
  have nf1 : fc_1 PRD (20, [7, 12, 8, 9, 10, 11, 25, 15, 30], [61, 2, 898]) ws (vs) := by
    refine ⟨nf_in hl rfl, sgq_1185 ?_⟩
    · show LV3 (w_ei ws (v_ad (n_v vs 7))) (w_ei ws (v_ad (n_v vs 12))) (v_iv (n_v vs 8)) (v_iv (n_v vs 9)) (v_iv (n_v vs 10)) (v_iv (n_v vs 11)) (v_iv (n_v vs 25)) (v_iv (n_v vs 15)) (v_iv (n_v vs 30))
      simp only [q7, q8, q9, q10, q11, q12]
      exact vc_Fa_shortestWay_at_Npnear_Emlevel_Emway_4_1 (v_iv (n_v vs 1)) (v_iv (n_v vs 2)) (v_iv (n_v vs 3)) (v_iv (n_v vs 4)) (v_iv (n_v vs 14)) (v_iv (n_v vs 15)) (v_iv (n_v vs 16)) (v_iv (n_v vs 18)) (v_iv (n_v vs 19)) (v_iv (n_v vs 20)) (v_iv (n_v vs 21)) (v_iv (n_v vs 22)) (v_iv (n_v vs 23)) (v_iv (n_v vs 24)) (v_iv (n_v vs 25)) (v_iv (n_v vs 26)) (v_iv (n_v vs 27)) (v_iv (n_v vs 28)) (v_iv (n_v vs 29)) (v_iv (n_v vs 30)) (w_ei ws (v_ad (n_v vs 5))) (w_ei ws (v_ad (n_v vs 0))) (w_ei w1 (v_ad (n_v vs 0))) (w_ei w1 (v_ad (n_v vs 5))) k1 k2 k3 k4 k14 k15 k16 k18 k19 k20 k21 k22 k23 k24 k25 k26 k27 k28 k29 k30 d0 d4 f0 f1 f2 h3 h4 h6 f7 f8 h9 f21 f22 h23 f25 f27 f29 f30 hE_0_999_1 hE_5_999_1
  refine ⟨(fun _ h => (by cases h)), [], trivial, ?_, (fun _ h => (by cases h))⟩
  rw [List.append_nil]
  exact List.forall_mem_cons.mpr ⟨⟨show (20 : Nat) < 100 from by decide, nf0⟩, List.forall_mem_cons.mpr ⟨⟨show (20 : Nat) < 100 from by decide, nf1⟩, (fun _ h => (by cases h))⟩⟩
set_option maxHeartbeats 4000000 in
theorem vc_Fa_shortestWay_at_Npnear_Emlevel_Emway_5_0 (x1 : Int) (x2 : Int) (x3 : Int) (x4 : Int) (x8 : Int) (x14 : Int) (x15 : Int) (x16 : Int) (x18 : Int) (x19 : Int) (x20 : Int) (x21 : Int) (x22 : Int) (x23 : Int) (x24 : Int) (x25 : Int) (x27 : Int) (x28 : Int) (x29 : Int) (x30 : Int) (a5_0 : Int → Int) (a0_0 : Int → Int) (a0_1 : Int → Int) (a5_1 : Int → Int) (k1 : 2 ≤ x1 ∧ x1 ≤ 25) (k2 : 0 ≤ x2 ∧ x2 ≤ 24) (k3 : 0 ≤ x3 ∧ x3 ≤ 33554431) (k4 : 0 ≤ x4 ∧ x4 ≤ 33554431) (k8 : 2 ≤ x8 ∧ x8 ≤ 25) (k14 : 0 ≤ x14 ∧ x14 ≤ 33554431) (k15 : 0 ≤ x15 ∧ x15 ≤ 0) (k16 : 1 ≤ x16 ∧ x16 ≤ 24) (k18 : 0 ≤ x18 ∧ x18 ≤ 23) (k19 : 0 ≤ x19 ∧ x19 ≤ 33554431) (k20 : 0 ≤ x20 ∧ x20 ≤ 33554431) (k21 : 0 ≤ x21 ∧ x21 ≤ 33554431) (k22 : 0 ≤ x22 ∧ x22 ≤ 33554431) (k23 : (-1) ≤ x23 ∧ x23 ≤ (-1)) (k24 : (-2147483648) ≤ x24 ∧ x24 ≤ 2147483647) (k25 : 0 ≤ x25 ∧ x25 ≤ 33554431) (k27 : 0 ≤ x27 ∧ x27 ≤ 33554431) (k28 : 0 ≤ x28 ∧ x28 ≤ 33554431) (k29 : 1 ≤ x29 ∧ x29 ≤ 33554431) (k30 : 2 ≤ x30 ∧ x30 ≤ 25) (d0 : x16 + 1 ≤ x30 ∧ x30 ≤ x16 + 1) (d4 : x16 + (-1) ≤ x18 ∧ x18 ≤ x16 + (-1)) (d9 : x8 + (-4294967296) ≤ x1 ∧ x1 ≤ x8 + 0) (d13 : x1 + (-4294967296) ≤ x8 ∧ x8 ≤ x1 + 0) (f0 : x30 = x16 + 1) (f2 : bvp (x29) = bvp (x27) &&& bvp (x28)) (h3 : x28 = a5_0 (x16)) (h4 : x27 = a0_0 (x2)) (f7 : bvp (x25) = bvp (x14) &&& bvp (x24)) (f8 : bvp (x24) = bvp (x22) ^^^ bvp (x23)) (h9 : x22 = a5_0 (x16)) (f21 : bvp (x21) = bvp (x20) &&& bvp (x14)) (f22 : NEF (a0_1) (x1) (x19) (x20)) (h23 : x19 = a5_1 (x18)) (f25 : x15 = 0) (f27 : LV1 (a0_1) (a5_1) (x1) (x2) (x3) (x4) (x14) (x15) (x16)) (hE_0_999_1 : ∀ j : Int, a0_0 j = a0_1 j) (hE_5_999_1 : ∀ j : Int, 0 ≤ j → (j = x16 → a5_0 j = x21) ∧ (j ≠ x16 → a5_0 j = a5_1 j)) : LV1 (a0_0) (a5_0) (x1) (x2) (x3) (x4) (x25) (x16) (x30) := by
  have e_hE_0_999_1 := funext hE_0_999_1; subst e_hE_0_999_1
  first
    | (have e21 : a5_0 x16 = x21 := (hE_5_999_1 x16 (by omega)).1 rfl
       have e19 : x19 = a5_1 (x16 - 1) := by rw [show x16 - 1 = x18 by omega]; assumption
       have e24 : bvp x24 = bvp x21 ^^^ bvp (-1) := by rw [← e21, ← ‹x22 = a5_0 x16›, show (-1 : Int) = x23 by omega]; assumption
       have q := (lv1_new (r := x24) ‹LV1 _ _ _ _ _ _ _ _ _› (by omega) e19 ‹NEF _ _ _ _› ‹bvp x21 = _› hE_5_999_1 rfl e24 ‹bvp x25 = _› (by omega)).2
       rw [show x15 = 0 by omega, show x30 = x16 + 1 by omega]
       exact q)
    | (have e21 : a5_0 x16 = x21 := (hE_5_999_1 x16 (by omega)).1 rfl
       have e19 : x19 = a5_1 (x16 - 1) := by rw [show x16 - 1 = x18 by omega]; assumption
       have e24 : bvp x24 = bvp x21 ^^^ bvp (-1) := by rw [← e21, ← ‹x22 = a5_0 x16›, show (-1 : Int) = x23 by omega]; assumption
       obtain ⟨w, w0, w1, w2⟩ := bit_ex (x := x29) (by omega) (by omega)
       have w3 := (bit_and ‹bvp x29 = _› w).mp w2
       have w5 : bit x21 w := by rw [← e21, ← (by assumption : x28 = a5_0 x16)]; exact w3.2
       have q := (lv1_new (r := x24) ‹LV1 _ _ _ _ _ _ _ _ _› (by omega) e19 ‹NEF _ _ _ _› ‹bvp x21 = _› hE_5_999_1 rfl e24 ‹bvp x25 = _› (by omega)).1 w ⟨w0, w1, by first | (rw [← (by assumption : x27 = a0_0 x2)]; exact w3.1) | (rw [← (by assumption : x27 = a0_1 x2)]; exact w3.1), w5⟩
       rw [show x30 = x16 + 1 by omega]
       exact q)
set_option maxHeartbeats 4000000 in
theorem vc_Fa_shortestWay_at_Npnear_Emlevel_Emway_5_1 (x1 : Int) (x2 : Int) (x3 : Int) (x4 : Int) (x14 : Int) (x15 : Int) (x16 : Int) (x18 : Int) (x19 : Int) (x20 : Int) (x21 : Int) (x22 : Int) (x23 : Int) (x24 : Int) (x25 : Int) (x26 : Int) (x27 : Int) (x28 : Int) (x29 : Int) (x30 : Int) (a5_0 : Int → Int) (a0_0 : Int → Int) (a0_1 : Int → Int) (a5_1 : Int → Int) (k1 : 2 ≤ x1 ∧ x1 ≤ 25) (k2 : 0 ≤ x2 ∧ x2 ≤ 24) (k3 : 0 ≤ x3 ∧ x3 ≤ 33554431) (k4 : 0 ≤ x4 ∧ x4 ≤ 33554431) (k14 : 0 ≤ x14 ∧ x14 ≤ 33554431) (k15 : 0 ≤ x15 ∧ x15 ≤ 0) (k16 : 1 ≤ x16 ∧ x16 ≤ 24) (k18 : 0 ≤ x18 ∧ x18 ≤ 23) (k19 : 0 ≤ x19 ∧ x19 ≤ 33554431) (k20 : 0 ≤ x20 ∧ x20 ≤ 33554431) (k21 : 0 ≤ x21 ∧ x21 ≤ 33554431) (k22 : 0 ≤ x22 ∧ x22 ≤ 33554431) (k23 : (-1) ≤ x23 ∧ x23 ≤ (-1)) (k24 : (-2147483648) ≤ x24 ∧ x24 ≤ 2147483647) (k25 : 0 ≤ x25 ∧ x25 ≤ 33554431) (k26 : 1 ≤ x26 ∧ x26 ≤ 33554431) (k30 : 2 ≤ x30 ∧ x30 ≤ 25) (d0 : x16 + 1 ≤ x30 ∧ x30 ≤ x16 + 1) (d4 : x16 + (-1) ≤ x18 ∧ x18 ≤ x16 + (-1)) (f0 : x30 = x16 + 1) (h6 : x26 = a5_0 (x16)) (f7 : bvp (x25) = bvp (x14) &&& bvp (x24)) (f8 : bvp (x24) = bvp (x22) ^^^ bvp (x23)) (h9 : x22 = a5_0 (x16)) (f21 : bvp (x21) = bvp (x20) &&& bvp (x14)) (f22 : NEF (a0_1) (x1) (x19) (x20)) (h23 : x19 = a5_1 (x18)) (f25 : x15 = 0) (f27 : LV1 (a0_1) (a5_1) (x1) (x2) (x3) (x4) (x14) (x15) (x16)) (f29 : FRN (x1) (x4)) (f30 : LV3 (a0_1) (a5_1) (x1) (x2) (x3) (x4) (x14) (x15) (x16)) (hE_0_999_1 : ∀ j : Int, a0_0 j = a0_1 j) (hE_5_999_1 : ∀ j : Int, 0 ≤ j → (j = x16 → a5_0 j = x21) ∧ (j ≠ x16 → a5_0 j = a5_1 j)) : LV3 (a0_0) (a5_0) (x1) (x2) (x3) (x4) (x25) (x16) (x30) := by
  have e_hE_0_999_1 := funext hE_0_999_1; subst e_hE_0_999_1
  first
    | (have e21 : a5_0 x16 = x21 := (hE_5_999_1 x16 (by omega)).1 rfl
       have e19 : x19 = a5_1 (x16 - 1) := by rw [show x16 - 1 = x18 by omega]; assumption
       have e24 : bvp x24 = bvp x21 ^^^ bvp (-1) := by rw [← e21, ← ‹x22 = a5_0 x16›, show (-1 : Int) = x23 by omega]; assumption
       have x0 : ∃ w, 0 ≤ w ∧ w < 32 ∧ bit x21 w := bit_ex (by omega) (by omega)
       first
         | exact lv3_new (r := x24) ‹LV3 _ _ _ _ _ _ _ _ _› (fun w a b z => (‹LV1 _ _ _ _ _ _ _ _ _›).2.2.2.1 w a b z) ‹FRN _ _› e19 ‹NEF _ _ _ _› ‹bvp x21 = _› hE_5_999_1 rfl e24 ‹bvp x25 = _› (by omega) x0 (Or.inr (fun w a b z y => by
             have w5 : bit x29 w := (bit_and ‹bvp x29 = _› w).mpr ⟨by first | (rw [(by assumption : x27 = a0_0 x2)]; exact z) | (rw [(by assumption : x27 = a0_1 x2)]; exact z), by rw [(by assumption : x28 = a5_0 x16), e21]; exact y⟩
             rw [show x29 = 0 by omega] at w5
             exact bit_zero w w5)) (by omega)
         | exact lv3_new (r := x24) ‹LV3 _ _ _ _ _ _ _ _ _› (fun w a b z => (‹LV1 _ _ _ _ _ _ _ _ _›).2.2.2.1 w a b z) ‹FRN _ _› e19 ‹NEF _ _ _ _› ‹bvp x21 = _› hE_5_999_1 rfl e24 ‹bvp x25 = _› (by omega) x0 (Or.inl (by omega)) (by omega))
def o_Fa_shortestWay_at_Npnear_Emlevel_Emway_5 : or_T := (15, 31, [(0, (2, 0, 0, [142])), (1, (0, 2, 25, [])), (2, (0, 0, 24, [])), (3, (0, 0, 33554431, [])), (4, (0, 0, 33554431, [])), (5, (2, 0, 0, [34])), (6, (2, 0, 0, [35])), (7, (2, 0, 0, [142])), (8, (0, 2, 25, [])), (9, (0, 0, 24, [])), (10, (0, 0, 33554431, [])), (11, (0, 0, 33554431, [])), (12, (2, 0, 0, [34])), (13, (2, 0, 0, [35])), (14, (0, 0, 33554431, [])), (15, (0, 0, 0, [])), (16, (0, 1, 24, [])), (17, (0, 1, 1, [])), (18, (0, 0, 23, [])), (19, (0, 0, 33554431, [])), (20, (0, 0, 33554431, [])), (21, (0, 0, 33554431, [])), (22, (0, 0, 33554431, [])), (23, (0, -1, -1, [])), (24, (0, -2147483648, 2147483647, [])), (25, (0, 0, 33554431, [])), (26, (0, 1, 33554431, [])), (27, (0, 0, 33554431, [])), (28, (0, 0, 33554431, [])), (29, (0, 1, 33554431, [])), (30, (0, 2, 25, []))], [(6, [30, 16], [1]), (8, [29], [1]), (16, [29, 27, 28], [0]), (10, [28, 12, 16], []), (10, [27, 7, 9], []), (8, [26], [1]), (10, [26, 12, 16], []), (16, [25, 14, 24], [0]), (16, [24, 22, 23], [2]), (10, [22, 12, 16], []), (20, [7, 8, 19, 20], [61, 1, 557]), (20, [7, 8], [61, 1, 560]), (20, [8, 11], [61, 0, 561]), (24, [0, 7], []), (24, [1, 8], []), (24, [2, 9], []), (24, [3, 10], []), (24, [4, 11], []), (24, [5, 12], []), (24, [6, 13], []), (100, [12, 16, 21], []), (16, [21, 20, 14], [0]), (20, [7, 8, 19, 20], [61, 1, 557]), (10, [19, 12, 18], []), (2, [18, 16, 17], []), (8, [15], [0]), (7, [16, 8], [2]), (20, [7, 12, 8, 9, 10, 11, 14, 15, 16], [61, 2, 562]), (20, [7, 8], [61, 1, 560]), (20, [8, 11], [61, 0, 561]), (20, [7, 12, 8, 9, 10, 11, 14, 15, 16], [61, 2, 898])], [], [], [(20, [7, 12, 8, 9, 10, 11, 25, 16, 30], [61, 2, 562]), (20, [7, 12, 8, 9, 10, 11, 25, 16, 30], [61, 2, 898])], [], [(30, 16, 1, 1), (30, 8, -4294967296, 0), (30, 1, -4294967296, 2), (30, 8, -4294967296, 2), (18, 16, -1, -1), (18, 8, -4294967296, -2), (18, 1, -4294967296, 0), (18, 8, -4294967296, 0), (16, 8, -4294967296, -1), (1, 8, -4294967296, 0), (2, 9, -4294967296, 0), (3, 10, -4294967296, 0), (4, 11, -4294967296, 0), (8, 1, -4294967296, 0), (9, 2, -4294967296, 0), (10, 3, -4294967296, 0), (11, 4, -4294967296, 0), (16, 1, -4294967296, 1), (16, 8, -4294967296, 1)])
theorem oo_Fa_shortestWay_at_Npnear_Emlevel_Emway_5 {kA : Nat → ClassId} : or_ok PRD kA GG o_Fa_shortestWay_at_Npnear_Emlevel_Emway_5 := by
  refine or_mk fun A ta ws vs hD hth hl => ?_
  intro t0 r0 t1 k1 t2 k2 t3 k3 t4 k4 t5 r5 t6 r6 t7 r7 t8 k8 t9 k9 t10 k10 t11 k11 t12 r12 t13 r13 t14 k14 t15 k15 t16 k16 t17 k17 t18 k18 t19 k19 t20 k20 t21 k21 t22 k22 t23 k23 t24 k24 t25 k25 t26 k26 t27 k27 t28 k28 t29 k29 t30 k30 d0 d1 d2 d3 d4 d5 d6 d7 d8 d9 d10 d11 d12 d13 d14 d15 d16 d17 d18 f0 f1 f2 f3 f4 f5 f6 f7 f8 f9 f10 f11 f12 f13 f14 f15 f16 f17 f18 f19 ta1 w1 le1 s1 f21 f22 f23 f24 f25 f26 f27 f28 f29 f30
  replace f0 := shm_4 f0
  replace f2 := shm_11 f2
  replace f3 := shm_107 f3
  replace f4 := shm_107 f4
  replace f6 := shm_107 f6
  replace f7 := shm_11 f7
  replace f8 := shm_33 f8
  replace f9 := shm_107 f9
  replace f13 := shm_5 f13
  replace f14 := shm_5 f14
  replace f15 := shm_5 f15
  replace f16 := shm_5 f16
  replace f17 := shm_5 f17
  replace f18 := shm_5 f18
  have s1 : (∀ b j, w_el ws b j = if b = v_ad (n_v vs 12) ∧ j = (v_iv (n_v vs 16)).toNat then v_iv (n_v vs 21) else w_el w1 b j) ∧ ∀ b k, w_fd ws b k = w_fd w1 b k := s1.2
  replace f21 := shm_11 f21
  replace f22 := shm_363 f22
  replace f23 := shm_107 f23
  replace f25 := shm_192 f25
  replace f27 := shm_1184 f27
  replace f29 := shm_1181 f29
  replace f30 := shm_1185 f30
  have q7 : n_v vs 7 = n_v vs 0 := f13.symm
  have q8 : n_v vs 8 = n_v vs 1 := f14.symm
  have q9 : n_v vs 9 = n_v vs 2 := f15.symm
  have q10 : n_v vs 10 = n_v vs 3 := f16.symm
  have q11 : n_v vs 11 = n_v vs 4 := f17.symm
  have q12 : n_v vs 12 = n_v vs 5 := f18.symm
  simp only [q12, q7, q9] at f3 f4 f6 f9
  rw [q12] at s1
  simp only [q7, q8, q12, q9, q10, q11] at f22 f23 f27 f29 f30
  have cr_0_999 : ta (v_ad (n_v vs 0)) = some 142 := r0
  have ad_5 : v_ad (n_v vs 5) = v_ad (n_v vs 5) := rfl
  have h3 : v_iv (n_v vs 28) = w_ei ws (v_ad (n_v vs 5)) (v_iv (n_v vs 16)) := f3
  have h4 : v_iv (n_v vs 27) = w_ei ws (v_ad (n_v vs 0)) (v_iv (n_v vs 2)) := f4
  have h6 : v_iv (n_v vs 26) = w_ei ws (v_ad (n_v vs 5)) (v_iv (n_v vs 16)) := f6
  have h9 : v_iv (n_v vs 22) = w_ei ws (v_ad (n_v vs 5)) (v_iv (n_v vs 16)) := f9
  have h23 : v_iv (n_v vs 19) = w_ei w1 (v_ad (n_v vs 5)) (v_iv (n_v vs 18)) := f23
  have hE_0_999_1 : ∀ j : Int, w_ei ws (v_ad (n_v vs 0)) j = w_ei w1 (v_ad (n_v vs 0)) j := el_kp s1.1 r5 cr_0_999 (by decide)
  have hE_5_999_1 : ∀ j : Int, 0 ≤ j → (j = v_iv (n_v vs 16) → w_ei ws (v_ad (n_v vs 5)) j = v_iv (n_v vs 21)) ∧ (j ≠ v_iv (n_v vs 16) → w_ei ws (v_ad (n_v vs 5)) j = w_ei w1 (v_ad (n_v vs 5)) j) := fun j hj => ⟨fun h => by unfold w_ei; rw [s1.1, if_pos ⟨ad_5.symm, by rw [h]⟩], fun h => by unfold w_ei; rw [s1.1, if_neg (fun e => h (by have := e.2; omega))]⟩
  have nf0 : fc_1 PRD (20, [7, 12, 8, 9, 10, 11, 25, 16, 30], [61, 2, 562]) ws (vs) := by
    refine ⟨nf_in hl rfl, sgq_1184 ?_⟩
    · show LV1 (w_ei ws (v_ad (n_v vs 7))) (w_ei ws (v_ad (n_v vs 12))) (v_iv (n_v vs 8)) (v_iv (n_v vs 9)) (v_iv (n_v vs 10)) (v_iv (n_v vs 11)) (v_iv (n_v vs 25)) (v_iv (n_v vs 16)) (v_iv (n_v vs 30))
      simp only [q7, q8, q9, q10, q11, q12]
      exact vc_Fa_shortestWay_at_Npnear_Emlevel_Emway_5_0 (v_iv (n_v vs 1)) (v_iv (n_v vs 2)) (v_iv (n_v vs 3)) (v_iv (n_v vs 4)) (v_iv (n_v vs 8)) (v_iv (n_v vs 14)) (v_iv (n_v vs 15)) (v_iv (n_v vs 16)) (v_iv (n_v vs 18)) (v_iv (n_v vs 19)) (v_iv (n_v vs 20)) (v_iv (n_v vs 21)) (v_iv (n_v vs 22)) (v_iv (n_v vs 23)) (v_iv (n_v vs 24)) (v_iv (n_v vs 25)) (v_iv (n_v vs 27)) (v_iv (n_v vs 28)) (v_iv (n_v vs 29)) (v_iv (n_v vs 30)) (w_ei ws (v_ad (n_v vs 5))) (w_ei ws (v_ad (n_v vs 0))) (w_ei w1 (v_ad (n_v vs 0))) (w_ei w1 (v_ad (n_v vs 5))) k1 k2 k3 k4 k8 k14 k15 k16 k18 k19 k20 k21 k22 k23 k24 k25 k27 k28 k29 k30 d0 d4 d9 d13 f0 f2 h3 h4 f7 f8 h9 f21 f22 h23 f25 f27 hE_0_999_1 hE_5_999_1
  have nf1 : fc_1 PRD (20, [7, 12, 8, 9, 10, 11, 25, 16, 30], [61, 2, 898]) ws (vs) := by
    refine ⟨nf_in hl rfl, sgq_1185 ?_⟩
    · show LV3 (w_ei ws (v_ad (n_v vs 7))) (w_ei ws (v_ad (n_v vs 12))) (v_iv (n_v vs 8)) (v_iv (n_v vs 9)) (v_iv (n_v vs 10)) (v_iv (n_v vs 11)) (v_iv (n_v vs 25)) (v_iv (n_v vs 16)) (v_iv (n_v vs 30))
      simp only [q7, q8, q9, q10, q11, q12]
      exact vc_Fa_shortestWay_at_Npnear_Emlevel_Emway_5_1 (v_iv (n_v vs 1)) (v_iv (n_v vs 2)) (v_iv (n_v vs 3)) (v_iv (n_v vs 4)) (v_iv (n_v vs 14)) (v_iv (n_v vs 15)) (v_iv (n_v vs 16)) (v_iv (n_v vs 18)) (v_iv (n_v vs 19)) (v_iv (n_v vs 20)) (v_iv (n_v vs 21)) (v_iv (n_v vs 22)) (v_iv (n_v vs 23)) (v_iv (n_v vs 24)) (v_iv (n_v vs 25)) (v_iv (n_v vs 26)) (v_iv (n_v vs 27)) (v_iv (n_v vs 28)) (v_iv (n_v vs 29)) (v_iv (n_v vs 30)) (w_ei ws (v_ad (n_v vs 5))) (w_ei ws (v_ad (n_v vs 0))) (w_ei w1 (v_ad (n_v vs 0))) (w_ei w1 (v_ad (n_v vs 5))) k1 k2 k3 k4 k14 k15 k16 k18 k19 k20 k21 k22 k23 k24 k25 k26 k30 d0 d4 f0 h6 f7 f8 h9 f21 f22 h23 f25 f27 f29 f30 hE_0_999_1 hE_5_999_1
  refine ⟨(fun _ h => (by cases h)), [], trivial, ?_, (fun _ h => (by cases h))⟩
  rw [List.append_nil]
  exact List.forall_mem_cons.mpr ⟨⟨show (20 : Nat) < 100 from by decide, nf0⟩, List.forall_mem_cons.mpr ⟨⟨show (20 : Nat) < 100 from by decide, nf1⟩, (fun _ h => (by cases h))⟩⟩
set_option maxHeartbeats 4000000 in
theorem vc_Fa_shortestWay_at_Npnear_Emlevel_Emway_6_0 (x2 : Int) (x3 : Int) (x4 : Int) (x27 : Int) (a0_0 : Int → Int) (a0_1 : Int → Int) (a6_0 : Int → Int) (a6_1 : Int → Int) (k2 : 0 ≤ x2 ∧ x2 ≤ 24) (k3 : 0 ≤ x3 ∧ x3 ≤ 33554431) (k4 : 0 ≤ x4 ∧ x4 ≤ 33554431) (k27 : 0 ≤ x27 ∧ x27 ≤ 0) (hE_0_999_1 : ∀ j : Int, a0_0 j = a0_1 j) (hE_6_999_1 : ∀ j : Int, a6_0 j = a6_1 j) : SHW (a6_0) (x2) (x3) (x4) (x27) := by
  have e_hE_0_999_1 := funext hE_0_999_1; subst e_hE_0_999_1
  have e_hE_6_999_1 := funext hE_6_999_1; subst e_hE_6_999_1
  first
    | exact shw_zero (by omega)
set_option maxHeartbeats 4000000 in
theorem vc_Fa_shortestWay_at_Npnear_Emlevel_Emway_6_1 (x1 : Int) (x2 : Int) (x3 : Int) (x4 : Int) (x14 : Int) (x15 : Int) (x16 : Int) (x18 : Int) (x19 : Int) (x20 : Int) (x21 : Int) (x26 : Int) (x27 : Int) (a5_0 : Int → Int) (a0_0 : Int → Int) (a0_1 : Int → Int) (a5_1 : Int → Int) (a6_0 : Int → Int) (a6_1 : Int → Int) (k1 : 2 ≤ x1 ∧ x1 ≤ 25) (k2 : 0 ≤ x2 ∧ x2 ≤ 24) (k3 : 0 ≤ x3 ∧ x3 ≤ 33554431) (k4 : 0 ≤ x4 ∧ x4 ≤ 33554431) (k14 : 0 ≤ x14 ∧ x14 ≤ 33554431) (k15 : 0 ≤ x15 ∧ x15 ≤ 0) (k16 : 1 ≤ x16 ∧ x16 ≤ 24) (k18 : 0 ≤ x18 ∧ x18 ≤ 23) (k19 : 0 ≤ x19 ∧ x19 ≤ 33554431) (k20 : 0 ≤ x20 ∧ x20 ≤ 33554431) (k21 : 0 ≤ x21 ∧ x21 ≤ 33554431) (k26 : 0 ≤ x26 ∧ x26 ≤ 0) (k27 : 0 ≤ x27 ∧ x27 ≤ 0) (d0 : x16 + (-1) ≤ x18 ∧ x18 ≤ x16 + (-1)) (h1 : x26 = a5_0 (x16)) (f16 : bvp (x21) = bvp (x20) &&& bvp (x14)) (f17 : NEF (a0_1) (x1) (x19) (x20)) (h18 : x19 = a5_1 (x18)) (f20 : x15 = 0) (f22 : LV1 (a0_1) (a5_1) (x1) (x2) (x3) (x4) (x14) (x15) (x16)) (f25 : LV3 (a0_1) (a5_1) (x1) (x2) (x3) (x4) (x14) (x15) (x16)) (hE_0_999_1 : ∀ j : Int, a0_0 j = a0_1 j) (hE_5_999_1 : ∀ j : Int, 0 ≤ j → (j = x16 → a5_0 j = x21) ∧ (j ≠ x16 → a5_0 j = a5_1 j)) (hE_6_999_1 : ∀ j : Int, a6_0 j = a6_1 j) : SHZ (a0_0) (x1) (x2) (x3) (x4) (x27) := by
  have e_hE_0_999_1 := funext hE_0_999_1; subst e_hE_0_999_1
  have e_hE_6_999_1 := funext hE_6_999_1; subst e_hE_6_999_1
  first
    | (have e21 : a5_0 x16 = x21 := (hE_5_999_1 x16 (by omega)).1 rfl
       have e19 : x19 = a5_1 (x16 - 1) := by rw [show x16 - 1 = x18 by omega]; assumption
       exact shz_a (x := x21) ‹LV3 _ _ _ _ _ _ _ _ _› ‹LV1 _ _ _ _ _ _ _ _ _› (by omega) e19 ‹NEF _ _ _ _› ‹bvp x21 = _› (by omega))
def o_Fa_shortestWay_at_Npnear_Emlevel_Emway_6 : or_T := (67, 28, [(0, (2, 0, 0, [142])), (1, (0, 2, 25, [])), (2, (0, 0, 24, [])), (3, (0, 0, 33554431, [])), (4, (0, 0, 33554431, [])), (5, (2, 0, 0, [34])), (6, (2, 0, 0, [35])), (14, (0, 0, 33554431, [])), (15, (0, 0, 0, [])), (16, (0, 1, 24, [])), (18, (0, 0, 23, [])), (19, (0, 0, 33554431, [])), (20, (0, 0, 33554431, [])), (21, (0, 0, 33554431, [])), (26, (0, 0, 0, [])), (27, (0, 0, 0, []))], [(10, [26, 12, 16], []), (24, [0, 7], []), (24, [1, 8], []), (24, [2, 9], []), (24, [3, 10], []), (24, [4, 11], []), (24, [5, 12], []), (100, [12, 16, 21], []), (16, [21, 20, 14], [0]), (20, [7, 8, 19, 20], [61, 1, 557]), (10, [19, 12, 18], []), (8, [15], [0]), (20, [7, 12, 8, 9, 10, 11, 14, 15, 16], [61, 2, 562]), (20, [7, 12, 8, 9, 10, 11, 14, 15, 16], [61, 2, 898])], [], [], [(20, [6, 2, 3, 4, 27], [61, 1, 564]), (20, [0, 1, 2, 3, 4, 27], [61, 1, 899])], [], [(18, 16, -1, -1), (16, 8, -4294967296, -1), (16, 1, -4294967296, 1), (16, 8, -4294967296, 1)])
theorem oo_Fa_shortestWay_at_Npnear_Emlevel_Emway_6 {kA : Nat → ClassId} : or_ok PRD kA GG o_Fa_shortestWay_at_Npnear_Emlevel_Emway_6 := by
  refine or_mk fun A ta ws vs hD hth hl => ?_
  intro t0 r0 t1 k1 t2 k2 t3 k3 t4 k4 t5 r5 t6 r6 t14 k14 t15 k15 t16 k16 t18 k18 t19 k19 t20 k20 t21 k21 t26 k26 t27 k27 d0 d4 d13 d14 f1 f8 f9 f10 f11 f12 f13 ta1 w1 le1 s1 f16 f17 f18 f20 f22 f25
  replace f1 := shm_107 f1
  replace f8 := shm_5 f8
  replace f9 := shm_5 f9
  replace f10 := shm_5 f10
  replace f11 := shm_5 f11
  replace f12 := shm_5 f12
  replace f13 := shm_5 f13
  have s1 : (∀ b j, w_el ws b j = if b = v_ad (n_v vs 12) ∧ j = (v_iv (n_v vs 16)).toNat then v_iv (n_v vs 21) else w_el w1 b j) ∧ ∀ b k, w_fd ws b k = w_fd w1 b k := s1.2
  replace f17 := shm_363 f17
  replace f18 := shm_107 f18
  replace f22 := shm_1184 f22
  replace f25 := shm_1185 f25
  have q7 : n_v vs 7 = n_v vs 0 := f8.symm
  have q8 : n_v vs 8 = n_v vs 1 := f9.symm
  have q9 : n_v vs 9 = n_v vs 2 := f10.symm
  have q10 : n_v vs 10 = n_v vs 3 := f11.symm
  have q11 : n_v vs 11 = n_v vs 4 := f12.symm
  have q12 : n_v vs 12 = n_v vs 5 := f13.symm
  simp only [q12] at f1
  rw [q12] at s1
  simp only [q7, q8, q12, q9, q10, q11] at f17 f18 f22 f25
  have cr_0_999 : ta (v_ad (n_v vs 0)) = some 142 := r0
  have cr_6_999 : ta (v_ad (n_v vs 6)) = some 35 := r6
  have ad_5 : v_ad (n_v vs 5) = v_ad (n_v vs 5) := rfl
  have h1 : v_iv (n_v vs 26) = w_ei ws (v_ad (n_v vs 5)) (v_iv (n_v vs 16)) := f1
  have h18 : v_iv (n_v vs 19) = w_ei w1 (v_ad (n_v vs 5)) (v_iv (n_v vs 18)) := f18
  have hE_0_999_1 : ∀ j : Int, w_ei ws (v_ad (n_v vs 0)) j = w_ei w1 (v_ad (n_v vs 0)) j := el_kp s1.1 r5 cr_0_999 (by decide)
  have hE_5_999_1 : ∀ j : Int, 0 ≤ j → (j = v_iv (n_v vs 16) → w_ei ws (v_ad (n_v vs 5)) j = v_iv (n_v vs 21)) ∧ (j ≠ v_iv (n_v vs 16) → w_ei ws (v_ad (n_v vs 5)) j = w_ei w1 (v_ad (n_v vs 5)) j) := fun j hj => ⟨fun h => by unfold w_ei; rw [s1.1, if_pos ⟨ad_5.symm, by rw [h]⟩], fun h => by unfold w_ei; rw [s1.1, if_neg (fun e => h (by have := e.2; omega))]⟩
  have hE_6_999_1 : ∀ j : Int, w_ei ws (v_ad (n_v vs 6)) j = w_ei w1 (v_ad (n_v vs 6)) j := el_kp s1.1 r5 cr_6_999 (by decide)
  have nf0 : fc_1 PRD (20, [6, 2, 3, 4, 27], [61, 1, 564]) ws (vs) := ⟨nf_in hl rfl, sgq_1187 (vc_Fa_shortestWay_at_Npnear_Emlevel_Emway_6_0 (v_iv (n_v vs 2)) (v_iv (n_v vs 3)) (v_iv (n_v vs 4)) (v_iv (n_v vs 27)) (w_ei ws (v_ad (n_v vs 0))) (w_ei w1 (v_ad (n_v vs 0))) (w_ei ws (v_ad (n_v vs 6))) (w_ei w1 (v_ad (n_v vs 6))) k2 k3 k4 k27 hE_0_999_1 hE_6_999_1)⟩
  have nf1 : fc_1 PRD (20, [0, 1, 2, 3, 4, 27], [61, 1, 899]) ws (vs) := ⟨nf_in hl rfl, sgq_1188 (vc_Fa_shortestWay_at_Npnear_Emlevel_Emway_6_1 (v_iv (n_v vs 1)) (v_iv (n_v vs 2)) (v_iv (n_v vs 3)) (v_iv (n_v vs 4)) (v_iv (n_v vs 14)) (v_iv (n_v vs 15)) (v_iv (n_v vs 16)) (v_iv (n_v vs 18)) (v_iv (n_v vs 19)) (v_iv (n_v vs 20)) (v_iv (n_v vs 21)) (v_iv (n_v vs 26)) (v_iv (n_v vs 27)) (w_ei ws (v_ad (n_v vs 5))) (w_ei ws (v_ad (n_v vs 0))) (w_ei w1 (v_ad (n_v vs 0))) (w_ei w1 (v_ad (n_v vs 5))) (w_ei ws (v_ad (n_v vs 6))) (w_ei w1 (v_ad (n_v vs 6))) k1 k2 k3 k4 k14 k15 k16 k18 k19 k20 k21 k26 k27 d0 h1 (shm_11 f16) f17 h18 (shm_192 f20) f22 f25 hE_0_999_1 hE_5_999_1 hE_6_999_1)⟩
  refine ⟨(fun _ h => (by cases h)), [], trivial, ?_, (fun _ h => (by cases h))⟩
  rw [List.append_nil]
  exact List.forall_mem_cons.mpr ⟨⟨show (20 : Nat) < 100 from by decide, nf0⟩, List.forall_mem_cons.mpr ⟨⟨show (20 : Nat) < 100 from by decide, nf1⟩, (fun _ h => (by cases h))⟩⟩
set_option maxHeartbeats 4000000 in
theorem vc_Fa_shortestWay_at_Npnear_Emlevel_Emway_7_0 (x1 : Int) (x2 : Int) (x3 : Int) (x4 : Int) (x15 : Int) (x16 : Int) (x18 : Int) (a0_0 : Int → Int) (a5_0 : Int → Int) (a6_0 : Int → Int) (k1 : 0 ≤ x1 ∧ x1 ≤ 25) (k2 : 0 ≤ x2 ∧ x2 ≤ 24) (k3 : 0 ≤ x3 ∧ x3 ≤ 33554431) (k4 : 0 ≤ x4 ∧ x4 ≤ 33554431) (k15 : 1 ≤ x15 ∧ x15 ≤ 24) (k16 : (-1) ≤ x16 ∧ x16 ≤ (-1)) (k18 : 3 ≤ x18 ∧ x18 ≤ 26) (d0 : x15 + 2 ≤ x18 ∧ x18 ≤ x15 + 2) (f1 : x16 < 0) (f2 : LV2 (a0_0) (a5_0) (a6_0) (x1) (x2) (x3) (x4) (x15) (x16)) : SHW (a6_0) (x2) (x3) (x4) (x18) := by
  first
    | exact shw_of ‹LV2 _ _ _ _ _ _ _ _ _› (by omega) (by omega)
set_option maxHeartbeats 4000000 in
theorem vc_Fa_shortestWay_at_Npnear_Emlevel_Emway_7_1 (x1 : Int) (x2 : Int) (x3 : Int) (x4 : Int) (x16 : Int) (x18 : Int) (a0_0 : Int → Int) (a5_0 : Int → Int) (k1 : 0 ≤ x1 ∧ x1 ≤ 25) (k2 : 0 ≤ x2 ∧ x2 ≤ 24) (k3 : 0 ≤ x3 ∧ x3 ≤ 33554431) (k4 : 0 ≤ x4 ∧ x4 ≤ 33554431) (k18 : 3 ≤ x18 ∧ x18 ≤ 26) : SHZ (a0_0) (x1) (x2) (x3) (x4) (x18) := by
  first
    | exact shz_no (by omega)
def o_Fa_shortestWay_at_Npnear_Emlevel_Emway_7 : or_T := (150, 19, [(1, (0, 0, 25, [])), (2, (0, 0, 24, [])), (3, (0, 0, 33554431, [])), (4, (0, 0, 33554431, [])), (15, (0, 1, 24, [])), (16, (0, -1, -1, [])), (18, (0, 3, 26, []))], [(8, [16], [2]), (20, [7, 12, 13, 8, 9, 10, 11, 15, 16], [61, 3, 563]), (24, [0, 7], []), (24, [1, 8], []), (24, [2, 9], []), (24, [3, 10], []), (24, [4, 11], []), (24, [5, 12], []), (24, [6, 13], [])], [], [], [(20, [6, 2, 3, 4, 18], [61, 1, 564]), (20, [0, 1, 2, 3, 4, 18], [61, 1, 899])], [], [(18, 15, 2, 2)])
theorem oo_Fa_shortestWay_at_Npnear_Emlevel_Emway_7 {kA : Nat → ClassId} : or_ok PRD kA GG o_Fa_shortestWay_at_Npnear_Emlevel_Emway_7 := by
  refine or_mk fun A ta ws vs hD hth hl => ?_
  intro t1 k1 t2 k2 t3 k3 t4 k4 t15 k15 t16 k16 t18 k18 d0 f1 f2 f5 f6 f7 f8 f9 f10 f11
  replace f2 := shm_1189 f2
  replace f5 := shm_5 f5
  replace f6 := shm_5 f6
  replace f7 := shm_5 f7
  replace f8 := shm_5 f8
  replace f9 := shm_5 f9
  replace f10 := shm_5 f10
  replace f11 := shm_5 f11
  have q7 : n_v vs 7 = n_v vs 0 := f5.symm
  have q8 : n_v vs 8 = n_v vs 1 := f6.symm
  have q9 : n_v vs 9 = n_v vs 2 := f7.symm
  have q10 : n_v vs 10 = n_v vs 3 := f8.symm
  have q11 : n_v vs 11 = n_v vs 4 := f9.symm
  have q12 : n_v vs 12 = n_v vs 5 := f10.symm
  have q13 : n_v vs 13 = n_v vs 6 := f11.symm
  simp only [q7, q8, q9, q10, q11, q12, q13] at f2
  have nf0 : fc_1 PRD (20, [6, 2, 3, 4, 18], [61, 1, 564]) ws (vs) := ⟨nf_in hl rfl, sgq_1187 (vc_Fa_shortestWay_at_Npnear_Emlevel_Emway_7_0 (v_iv (n_v vs 1)) (v_iv (n_v vs 2)) (v_iv (n_v vs 3)) (v_iv (n_v vs 4)) (v_iv (n_v vs 15)) (v_iv (n_v vs 16)) (v_iv (n_v vs 18)) (w_ei ws (v_ad (n_v vs 0))) (w_ei ws (v_ad (n_v vs 5))) (w_ei ws (v_ad (n_v vs 6))) k1 k2 k3 k4 k15 k16 k18 d0 (shm_39 f1) f2)⟩
  have nf1 : fc_1 PRD (20, [0, 1, 2, 3, 4, 18], [61, 1, 899]) ws (vs) := ⟨nf_in hl rfl, sgq_1188 (vc_Fa_shortestWay_at_Npnear_Emlevel_Emway_7_1 (v_iv (n_v vs 1)) (v_iv (n_v vs 2)) (v_iv (n_v vs 3)) (v_iv (n_v vs 4)) (v_iv (n_v vs 16)) (v_iv (n_v vs 18)) (w_ei ws (v_ad (n_v vs 0))) (w_ei ws (v_ad (n_v vs 5))) k1 k2 k3 k4 k18)⟩
  refine ⟨(fun _ h => (by cases h)), [], trivial, ?_, (fun _ h => (by cases h))⟩
  rw [List.append_nil]
  exact List.forall_mem_cons.mpr ⟨⟨show (20 : Nat) < 100 from by decide, nf0⟩, List.forall_mem_cons.mpr ⟨⟨show (20 : Nat) < 100 from by decide, nf1⟩, (fun _ h => (by cases h))⟩⟩
set_option maxHeartbeats 4000000 in
theorem vc_Fa_shortestWay_at_Npnear_Emlevel_Emway_8_r0 (x1 : Int) (x2 : Int) (x3 : Int) (x4 : Int) (x15 : Int) (x16 : Int) (x20 : Int) (x21 : Int) (x22 : Int) (x23 : Int) (x24 : Int) (x25 : Int) (a5_0 : Int → Int) (a0_0 : Int → Int) (a6_0 : Int → Int) (k1 : 0 ≤ x1 ∧ x1 ≤ 25) (k2 : 0 ≤ x2 ∧ x2 ≤ 24) (k3 : 0 ≤ x3 ∧ x3 ≤ 33554431) (k4 : 0 ≤ x4 ∧ x4 ≤ 33554431) (k15 : 1 ≤ x15 ∧ x15 ≤ 24) (k16 : 0 ≤ x16 ∧ x16 ≤ 24) (k20 : 0 ≤ x20 ∧ x20 ≤ 24) (k21 : 0 ≤ x21 ∧ x21 ≤ 24) (k22 : 0 ≤ x22 ∧ x22 ≤ 33554431) (k23 : 0 ≤ x23 ∧ x23 ≤ 33554431) (k24 : 0 ≤ x24 ∧ x24 ≤ 33554431) (k25 : 0 ≤ x25 ∧ x25 ≤ 63) (f0 : LOW (x24) (x25)) (f1 : bvp (x24) = bvp (x22) &&& bvp (x23)) (h2 : x23 = a5_0 (x16)) (h3 : x22 = a0_0 (x21)) (h4 : x21 = a6_0 (x20)) (f5 : x20 = x15 - x16) (f8 : 0 ≤ x16) (f9 : LV2 (a0_0) (a5_0) (a6_0) (x1) (x2) (x3) (x4) (x15) (x16)) : 0 ≤ x25 ∧ x25 ≤ 24 := by
  first
    | (skip; (first | subst h2 | skip); (first | subst h3 | skip); (first | subst h4 | skip); have q := lv2_low ‹LV2 _ _ _ _ _ _ _ _ _› (by omega) (by assumption) (by rw [show (x15 - x16 : Int) = x20 by omega]) (by omega) (by omega) (by omega) ‹LOW _ _›; omega)
    | (skip; (first | subst h2 | skip); (first | subst h3 | skip); (first | subst h4 | skip); have q := lv2_low ‹LV2 _ _ _ _ _ _ _ _ _› (by omega) (by assumption) (by rw [show (x15 - x16 : Int) = x20 by omega]) (by omega) (by omega) (by omega) ‹LOW _ _›; have q2 := bit_lt24 (by omega) (by omega) q.1 q.2.1 q.2.2; omega)
def o_Fa_shortestWay_at_Npnear_Emlevel_Emway_8 : or_T := (139, 26, [(0, (2, 0, 0, [142])), (1, (0, 0, 25, [])), (2, (0, 0, 24, [])), (3, (0, 0, 33554431, [])), (4, (0, 0, 33554431, [])), (5, (2, 0, 0, [34])), (6, (2, 0, 0, [35])), (7, (2, 0, 0, [142])), (8, (0, 1, 25, [])), (9, (0, 0, 24, [])), (10, (0, 0, 33554431, [])), (11, (0, 0, 33554431, [])), (12, (2, 0, 0, [34])), (13, (2, 0, 0, [35])), (15, (0, 1, 24, [])), (16, (0, 0, 24, [])), (17, (0, 0, 24, [])), (18, (0, 1, 1, [])), (19, (0, 1, 25, [])), (20, (0, 0, 24, [])), (21, (0, 0, 24, [])), (22, (0, 0, 33554431, [])), (23, (0, 0, 33554431, [])), (24, (0, 0, 33554431, [])), (25, (0, 0, 63, []))], [(20, [24, 25], [61, 0, 555]), (16, [24, 22, 23], [0]), (10, [23, 12, 16], []), (10, [22, 7, 21], []), (10, [21, 13, 20], []), (2, [20, 15, 16], []), (1, [19, 17, 18], []), (2, [17, 15, 16], []), (8, [16], [3]), (20, [7, 12, 13, 8, 9, 10, 11, 15, 16], [61, 3, 563]), (20, [7, 8], [61, 1, 560]), (20, [8, 11], [61, 0, 561]), (24, [0, 7], []), (24, [1, 8], []), (24, [2, 9], []), (24, [3, 10], []), (24, [4, 11], []), (24, [5, 12], []), (24, [6, 13], [])], [(25, (0, 0, 24, []))], [], [], [], [(20, 15, -24, 0), (20, 1, -4294967296, 0), (20, 8, -4294967296, 0), (19, 17, 1, 1), (19, 15, -23, 1), (19, 1, -4294967296, 1), (19, 8, -4294967296, 1), (17, 15, -24, 0), (17, 1, -4294967296, 0), (17, 8, -4294967296, 0), (1, 8, -4294967296, 0), (2, 1, -4294967296, 23), (2, 9, -4294967296, 0), (3, 10, -4294967296, 0), (4, 11, -4294967296, 0), (8, 1, -4294967296, 0), (9, 1, -4294967296, 23), (9, 2, -4294967296, 0), (10, 3, -4294967296, 0), (11, 4, -4294967296, 0), (15, 1, -4294967296, 0), (15, 8, -4294967296, 0), (16, 1, -4294967296, 0), (16, 8, -4294967296, 0), (16, 15, -4294967296, 0)])
theorem oo_Fa_shortestWay_at_Npnear_Emlevel_Emway_8 {kA : Nat → ClassId} : or_ok PRD kA GG o_Fa_shortestWay_at_Npnear_Emlevel_Emway_8 := by
  refine or_mk fun A ta ws vs hD hth hl => ?_
  intro t0 r0 t1 k1 t2 k2 t3 k3 t4 k4 t5 r5 t6 r6 t7 r7 t8 k8 t9 k9 t10 k10 t11 k11 t12 r12 t13 r13 t15 k15 t16 k16 t17 k17 t18 k18 t19 k19 t20 k20 t21 k21 t22 k22 t23 k23 t24 k24 t25 k25 d0 d1 d2 d3 d4 d5 d6 d7 d8 d9 d10 d11 d12 d13 d14 d15 d16 d17 d18 d19 d20 d21 d22 d23 d24 f0 f1 f2 f3 f4 f5 f6 f7 f8 f9 f10 f11 f12 f13 f14 f15 f16 f17 f18
  replace f2 := shm_107 f2
  replace f3 := shm_107 f3
  replace f4 := shm_107 f4
  replace f9 := shm_1189 f9
  replace f12 := shm_5 f12
  replace f13 := shm_5 f13
  replace f14 := shm_5 f14
  replace f15 := shm_5 f15
  replace f16 := shm_5 f16
  replace f17 := shm_5 f17
  replace f18 := shm_5 f18
  have q7 : n_v vs 7 = n_v vs 0 := f12.symm
  have q8 : n_v vs 8 = n_v vs 1 := f13.symm
  have q9 : n_v vs 9 = n_v vs 2 := f14.symm
  have q10 : n_v vs 10 = n_v vs 3 := f15.symm
  have q11 : n_v vs 11 = n_v vs 4 := f16.symm
  have q12 : n_v vs 12 = n_v vs 5 := f17.symm
  have q13 : n_v vs 13 = n_v vs 6 := f18.symm
  simp only [q12, q7, q13, q8, q9, q10, q11] at f2 f3 f4 f9
  have h2 : v_iv (n_v vs 23) = w_ei ws (v_ad (n_v vs 5)) (v_iv (n_v vs 16)) := f2
  have h3 : v_iv (n_v vs 22) = w_ei ws (v_ad (n_v vs 0)) (v_iv (n_v vs 21)) := f3
  have h4 : v_iv (n_v vs 21) = w_ei ws (v_ad (n_v vs 6)) (v_iv (n_v vs 20)) := f4
  have hrf0 : 0 ≤ v_iv (n_v vs 25) ∧ v_iv (n_v vs 25) ≤ 24 := vc_Fa_shortestWay_at_Npnear_Emlevel_Emway_8_r0 (v_iv (n_v vs 1)) (v_iv (n_v vs 2)) (v_iv (n_v vs 3)) (v_iv (n_v vs 4)) (v_iv (n_v vs 15)) (v_iv (n_v vs 16)) (v_iv (n_v vs 20)) (v_iv (n_v vs 21)) (v_iv (n_v vs 22)) (v_iv (n_v vs 23)) (v_iv (n_v vs 24)) (v_iv (n_v vs 25)) (w_ei ws (v_ad (n_v vs 5))) (w_ei ws (v_ad (n_v vs 0))) (w_ei ws (v_ad (n_v vs 6))) k1 k2 k3 k4 k15 k16 k20 k21 k22 k23 k24 k25 (shm_810 f0) (shm_11 f1) h2 h3 h4 (shm_14 f5) (shm_32 f8) f9
  have rf25 : tv_ok ta (0, 0, 24, []) (n_v vs 25) := tv_in t25 (by first | omega | grind) (by first | omega | grind)
  refine ⟨List.forall_mem_cons.mpr ⟨rf25, (fun _ h => (by cases h))⟩, [], trivial, ?_, (fun _ h => (by cases h))⟩
  rw [List.append_nil]
  exact (fun _ h => (by cases h))
set_option maxHeartbeats 4000000 in
theorem vc_Fa_shortestWay_at_Npnear_Emlevel_Emway_9_0 (x1 : Int) (x2 : Int) (x3 : Int) (x4 : Int) (x8 : Int) (x15 : Int) (x16 : Int) (x17 : Int) (x19 : Int) (x20 : Int) (x21 : Int) (x22 : Int) (x23 : Int) (x24 : Int) (x25 : Int) (x26 : Int) (a0_0 : Int → Int) (a5_1 : Int → Int) (a0_1 : Int → Int) (a6_1 : Int → Int) (a5_0 : Int → Int) (a6_0 : Int → Int) (k1 : 0 ≤ x1 ∧ x1 ≤ 25) (k2 : 0 ≤ x2 ∧ x2 ≤ 24) (k3 : 0 ≤ x3 ∧ x3 ≤ 33554431) (k4 : 0 ≤ x4 ∧ x4 ≤ 33554431) (k8 : 1 ≤ x8 ∧ x8 ≤ 25) (k15 : 1 ≤ x15 ∧ x15 ≤ 24) (k16 : 0 ≤ x16 ∧ x16 ≤ 24) (k17 : 0 ≤ x17 ∧ x17 ≤ 24) (k19 : 1 ≤ x19 ∧ x19 ≤ 25) (k20 : 0 ≤ x20 ∧ x20 ≤ 24) (k21 : 0 ≤ x21 ∧ x21 ≤ 24) (k22 : 0 ≤ x22 ∧ x22 ≤ 33554431) (k23 : 0 ≤ x23 ∧ x23 ≤ 33554431) (k24 : 0 ≤ x24 ∧ x24 ≤ 33554431) (k25 : 0 ≤ x25 ∧ x25 ≤ 24) (k26 : (-1) ≤ x26 ∧ x26 ≤ 23) (d0 : x16 + (-1) ≤ x26 ∧ x26 ≤ x16 + (-1)) (d7 : x17 + 1 ≤ x19 ∧ x19 ≤ x17 + 1) (d14 : x8 + (-4294967296) ≤ x1 ∧ x1 ≤ x8 + 0) (d19 : x1 + (-4294967296) ≤ x8 ∧ x8 ≤ x1 + 0) (f12 : LOW (x24) (x25)) (f13 : bvp (x24) = bvp (x22) &&& bvp (x23)) (h14 : x23 = a5_1 (x16)) (h15 : x22 = a0_1 (x21)) (h16 : x21 = a6_1 (x20)) (f17 : x20 = x15 - x16) (f19 : x17 = x15 - x16) (f20 : 0 ≤ x16) (f21 : LV2 (a0_1) (a5_1) (a6_1) (x1) (x2) (x3) (x4) (x15) (x16)) (f22 : SYMN (a0_1) (x1)) (f23 : FRN (x1) (x4)) (hE_0_999_1 : ∀ j : Int, a0_0 j = a0_1 j) (hE_5_999_1 : ∀ j : Int, a5_0 j = a5_1 j) (hE_6_999_1 : ∀ j : Int, 0 ≤ j → (j = x19 → a6_0 j = x25) ∧ (j ≠ x19 → a6_0 j = a6_1 j)) : LV2 (a0_0) (a5_0) (a6_0) (x1) (x2) (x3) (x4) (x15) (x26) := by
  have e_hE_0_999_1 := funext hE_0_999_1; subst e_hE_0_999_1
  have e_hE_5_999_1 := funext hE_5_999_1; subst e_hE_5_999_1
  first
    | (skip; (first | subst h14 | skip); (first | subst h15 | skip); (first | subst h16 | skip); exact lv2_step ‹LV2 _ _ _ _ _ _ _ _ _› (by omega) ‹SYMN _ _› ‹FRN _ _› (by omega) (by assumption) (by rw [show (x15 - x16 : Int) = x20 by omega]) (by omega) (by omega) (by omega) ‹LOW _ _› (by assumption) (by omega) (by omega))
def o_Fa_shortestWay_at_Npnear_Emlevel_Emway_9 : or_T := (106, 27, [(0, (2, 0, 0, [142])), (1, (0, 0, 25, [])), (2, (0, 0, 24, [])), (3, (0, 0, 33554431, [])), (4, (0, 0, 33554431, [])), (5, (2, 0, 0, [34])), (6, (2, 0, 0, [35])), (8, (0, 1, 25, [])), (15, (0, 1, 24, [])), (16, (0, 0, 24, [])), (17, (0, 0, 24, [])), (19, (0, 1, 25, [])), (20, (0, 0, 24, [])), (21, (0, 0, 24, [])), (22, (0, 0, 33554431, [])), (23, (0, 0, 33554431, [])), (24, (0, 0, 33554431, [])), (25, (0, 0, 24, [])), (26, (0, -1, 23, []))], [(24, [0, 7], []), (24, [1, 8], []), (24, [2, 9], []), (24, [3, 10], []), (24, [4, 11], []), (24, [5, 12], []), (24, [6, 13], []), (100, [13, 19, 25], []), (20, [24, 25], [61, 0, 555]), (16, [24, 22, 23], [0]), (10, [23, 12, 16], []), (10, [22, 7, 21], []), (10, [21, 13, 20], []), (2, [20, 15, 16], []), (2, [17, 15, 16], []), (8, [16], [3]), (20, [7, 12, 13, 8, 9, 10, 11, 15, 16], [61, 3, 563]), (20, [7, 8], [61, 1, 560]), (20, [8, 11], [61, 0, 561])], [], [], [(20, [7, 12, 13, 8, 9, 10, 11, 15, 26], [61, 3, 563])], [], [(26, 16, -1, -1), (19, 17, 1, 1), (19, 15, -23, 1), (19, 1, -4294967296, 1), (19, 8, -4294967296, 1), (1, 8, -4294967296, 0), (8, 1, -4294967296, 0)])
theorem oo_Fa_shortestWay_at_Npnear_Emlevel_Emway_9 {kA : Nat → ClassId} : or_ok PRD kA GG o_Fa_shortestWay_at_Npnear_Emlevel_Emway_9 := by
  refine or_mk fun A ta ws vs hD hth hl => ?_
  intro t0 r0 t1 k1 t2 k2 t3 k3 t4 k4 t5 r5 t6 r6 t8 k8 t15 k15 t16 k16 t17 k17 t19 k19 t20 k20 t21 k21 t22 k22 t23 k23 t24 k24 t25 k25 t26 k26 d0 d7 d8 d9 d10 d14 d19 f4 f5 f6 f7 f8 f9 f10 ta1 w1 le1 s1 f12 f13 f14 f15 f16 f17 f19 f20 f21 f22 f23
  replace f4 := shm_5 f4
  replace f5 := shm_5 f5
  replace f6 := shm_5 f6
  replace f7 := shm_5 f7
  replace f8 := shm_5 f8
  replace f9 := shm_5 f9
  replace f10 := shm_5 f10
  have s1 : (∀ b j, w_el ws b j = if b = v_ad (n_v vs 13) ∧ j = (v_iv (n_v vs 19)).toNat then v_iv (n_v vs 25) else w_el w1 b j) ∧ ∀ b k, w_fd ws b k = w_fd w1 b k := s1.2
  replace f12 := shm_810 f12
  replace f13 := shm_11 f13
  replace f14 := shm_107 f14
  replace f15 := shm_107 f15
  replace f16 := shm_107 f16
  replace f17 := shm_14 f17
  replace f19 := shm_14 f19
  replace f20 := shm_32 f20
  replace f21 := shm_1189 f21
  replace f22 := shm_1180 f22
  replace f23 := shm_1181 f23
  have q7 : n_v vs 7 = n_v vs 0 := f4.symm
  have q8 : n_v vs 8 = n_v vs 1 := f5.symm
  have q9 : n_v vs 9 = n_v vs 2 := f6.symm
  have q10 : n_v vs 10 = n_v vs 3 := f7.symm
  have q11 : n_v vs 11 = n_v vs 4 := f8.symm
  have q12 : n_v vs 12 = n_v vs 5 := f9.symm
  have q13 : n_v vs 13 = n_v vs 6 := f10.symm
  rw [q13] at s1
  simp only [q12, q7, q13, q8, q9, q10, q11] at f14 f15 f16 f21 f22 f23
  have cr_0_999 : ta (v_ad (n_v vs 0)) = some 142 := r0
  have cr_5_999 : ta (v_ad (n_v vs 5)) = some 34 := r5
  have ad_6 : v_ad (n_v vs 6) = v_ad (n_v vs 6) := rfl
  have h14 : v_iv (n_v vs 23) = w_ei w1 (v_ad (n_v vs 5)) (v_iv (n_v vs 16)) := f14
  have h15 : v_iv (n_v vs 22) = w_ei w1 (v_ad (n_v vs 0)) (v_iv (n_v vs 21)) := f15
  have h16 : v_iv (n_v vs 21) = w_ei w1 (v_ad (n_v vs 6)) (v_iv (n_v vs 20)) := f16
  have hE_0_999_1 : ∀ j : Int, w_ei ws (v_ad (n_v vs 0)) j = w_ei w1 (v_ad (n_v vs 0)) j := el_kp s1.1 r6 cr_0_999 (by decide)
  have hE_5_999_1 : ∀ j : Int, w_ei ws (v_ad (n_v vs 5)) j = w_ei w1 (v_ad (n_v vs 5)) j := el_kp s1.1 r6 cr_5_999 (by decide)
  have hE_6_999_1 : ∀ j : Int, 0 ≤ j → (j = v_iv (n_v vs 19) → w_ei ws (v_ad (n_v vs 6)) j = v_iv (n_v vs 25)) ∧ (j ≠ v_iv (n_v vs 19) → w_ei ws (v_ad (n_v vs 6)) j = w_ei w1 (v_ad (n_v vs 6)) j) := fun j hj => ⟨fun h => by unfold w_ei; rw [s1.1, if_pos ⟨ad_6.symm, by rw [h]⟩], fun h => by unfold w_ei; rw [s1.1, if_neg (fun e => h (by have := e.2; omega))]⟩
  have nf0 : fc_1 PRD (20, [7, 12, 13, 8, 9, 10, 11, 15, 26], [61, 3, 563]) ws (vs) := by
    refine ⟨nf_in hl rfl, sgq_1189 ?_⟩
    · show LV2 (w_ei ws (v_ad (n_v vs 7))) (w_ei ws (v_ad (n_v vs 12))) (w_ei ws (v_ad (n_v vs 13))) (v_iv (n_v vs 8)) (v_iv (n_v vs 9)) (v_iv (n_v vs 10)) (v_iv (n_v vs 11)) (v_iv (n_v vs 15)) (v_iv (n_v vs 26))
      simp only [q7, q8, q9, q10, q11, q12, q13]
      exact vc_Fa_shortestWay_at_Npnear_Emlevel_Emway_9_0 (v_iv (n_v vs 1)) (v_iv (n_v vs 2)) (v_iv (n_v vs 3)) (v_iv (n_v vs 4)) (v_iv (n_v vs 8)) (v_iv (n_v vs 15)) (v_iv (n_v vs 16)) (v_iv (n_v vs 17)) (v_iv (n_v vs 19)) (v_iv (n_v vs 20)) (v_iv (n_v vs 21)) (v_iv (n_v vs 22)) (v_iv (n_v vs 23)) (v_iv (n_v vs 24)) (v_iv (n_v vs 25)) (v_iv (n_v vs 26)) (w_ei ws (v_ad (n_v vs 0))) (w_ei w1 (v_ad (n_v vs 5))) (w_ei w1 (v_ad (n_v vs 0))) (w_ei w1 (v_ad (n_v vs 6))) (w_ei ws (v_ad (n_v vs 5))) (w_ei ws (v_ad (n_v vs 6))) k1 k2 k3 k4 k8 k15 k16 k17 k19 k20 k21 k22 k23 k24 k25 k26 d0 d7 d14 d19 f12 f13 h14 h15 h16 f17 f19 f20 f21 f22 f23 hE_0_999_1 hE_5_999_1 hE_6_999_1
  refine ⟨(fun _ h => (by cases h)), [], trivial, ?_, (fun _ h => (by cases h))⟩
  rw [List.append_nil]
  exact List.forall_mem_cons.mpr ⟨⟨show (20 : Nat) < 100 from by decide, nf0⟩, (fun _ h => (by cases h))⟩
def n_Fa_shortestWay_at_Npnear_Emlevel_Emway_an : List an_T := [(15, [(0, (2, 0, 0, [142])), (1, (0, 0, 25, [])), (2, (0, 0, 24, [])), (3, (0, 0, 33554431, [])), (4, (0, 0, 33554431, [])), (5, (2, 0, 0, [34])), (6, (2, 0, 0, [35])), (7, (0, 0, 33554431, [])), (8, (0, 0, 24, [])), (9, (0, 1, 25, []))], [], (0, 0), [(0, 0, 99985), (1, 16, 25), (0, 0, 100000)], [(1, 8, (Int.negSucc 999999999999), 0), (2, 9, (Int.negSucc 999999999999), 0), (3, 10, (Int.negSucc 999999999999), 0), (4, 11, (Int.negSucc 999999999999), 0), (8, 1, (Int.negSucc 999999999999), 0), (9, 2, (Int.negSucc 999999999999), 0), (10, 3, (Int.negSucc 999999999999), 0), (11, 4, (Int.negSucc 999999999999), 0), (15, 1, (Int.negSucc 999999999999), 0), (15, 8, (Int.negSucc 999999999999), 0), (15, 16, (Int.negSucc 999999999999), (Int.negSucc 0)), (16, 1, (Int.negSucc 999999999999), 1), (16, 8, (Int.negSucc 999999999999), 1)], [], [(2, 0, 0, [142]), (0, 0, 25, []), (0, 0, 24, []), (0, 0, 33554431, []), (0, 0, 33554431, []), (2, 0, 0, [34]), (2, 0, 0, [35])], 0, [], [(20, [7, 12, 8, 9, 10, 11, 14, 15, 16], [61, 2, 562]), (20, [7, 8], [61, 1, 560]), (20, [8, 11], [61, 0, 561]), (24, [0, 7], []), (24, [1, 8], []), (24, [2, 9], []), (24, [3, 10], []), (24, [4, 11], []), (24, [5, 12], []), (24, [6, 13], []), (20, [7, 12, 8, 9, 10, 11, 14, 15, 16], [61, 2, 898])]), (106, [(0, (2, 0, 0, [142])), (1, (0, 1, 25, [])), (2, (0, 0, 24, [])), (3, (0, 0, 33554431, [])), (4, (0, 0, 33554431, [])), (5, (2, 0, 0, [34])), (6, (2, 0, 0, [35])), (7, (0, 0, 33554431, [])), (8, (0, 1, 24, [])), (9, (0, (Int.negSucc 0), 24, []))], [], (0, 0), [(0, 0, 99894), (2, 16, (Int.negSucc 0)), (0, 0, 100000)], [(1, 8, (Int.negSucc 999999999999), 0), (2, 1, (Int.negSucc 999999999999), 23), (2, 9, (Int.negSucc 999999999999), 0), (3, 10, (Int.negSucc 999999999999), 0), (4, 11, (Int.negSucc 999999999999), 0), (8, 1, (Int.negSucc 999999999999), 0), (9, 1, (Int.negSucc 999999999999), 23), (9, 2, (Int.negSucc 999999999999), 0), (10, 3, (Int.negSucc 999999999999), 0), (11, 4, (Int.negSucc 999999999999), 0), (15, 1, (Int.negSucc 999999999999), 0), (15, 8, (Int.negSucc 999999999999), 0), (16, 1, (Int.negSucc 999999999999), 0), (16, 8, (Int.negSucc 999999999999), 0), (16, 15, (Int.negSucc 999999999999), 0)], [], [(2, 0, 0, [142]), (0, 0, 25, []), (0, 0, 24, []), (0, 0, 33554431, []), (0, 0, 33554431, []), (2, 0, 0, [34]), (2, 0, 0, [35])], 0, [], [(20, [7, 12, 13, 8, 9, 10, 11, 15, 16], [61, 3, 563]), (20, [7, 8], [61, 1, 560]), (20, [8, 11], [61, 0, 561]), (24, [0, 7], []), (24, [1, 8], []), (24, [2, 9], []), (24, [3, 10], []), (24, [4, 11], []), (24, [5, 12], []), (24, [6, 13], [])])]
def t_Fa_shortestWay_at_Npnear_Emlevel_Emway_ct : ct_L := [(0, 107, e_Fa_lowest), (120, 97, e_Fa_nearOf_at_Npnear)]
set_option maxRecDepth 100000 in
theorem c_Fa_shortestWay_at_Npnear_Emlevel_Emway {l : Launch} {D : va_G} {kA : Nat → ClassId} (h_Fa_lowest : ct_ok PRD l D kA GG y_Fa_lowest z_Fa_lowest e_Fa_lowest) (h_Fa_nearOf_at_Npnear : ct_ok PRD l D kA GG y_Fa_nearOf_at_Npnear z_Fa_nearOf_at_Npnear e_Fa_nearOf_at_Npnear) : ct_ok PRD l D kA GG y_Fa_shortestWay_at_Npnear_Emlevel_Emway z_Fa_shortestWay_at_Npnear_Emlevel_Emway e_Fa_shortestWay_at_Npnear_Emlevel_Emway := chk_all_ok (FT := []) (PT := []) (CT := t_Fa_shortestWay_at_Npnear_Emlevel_Emway_ct) (KT := []) (NT := []) (AN := n_Fa_shortestWay_at_Npnear_Emlevel_Emway_an) (OT := [o_Fa_shortestWay_at_Npnear_Emlevel_Emway_0, o_Fa_shortestWay_at_Npnear_Emlevel_Emway_1, o_Fa_shortestWay_at_Npnear_Emlevel_Emway_2, o_Fa_shortestWay_at_Npnear_Emlevel_Emway_3, o_Fa_shortestWay_at_Npnear_Emlevel_Emway_4, o_Fa_shortestWay_at_Npnear_Emlevel_Emway_5, o_Fa_shortestWay_at_Npnear_Emlevel_Emway_6, o_Fa_shortestWay_at_Npnear_Emlevel_Emway_7, o_Fa_shortestWay_at_Npnear_Emlevel_Emway_8, o_Fa_shortestWay_at_Npnear_Emlevel_Emway_9]) 3 404 (List.forall_mem_cons.mpr ⟨oo_Fa_shortestWay_at_Npnear_Emlevel_Emway_0, List.forall_mem_cons.mpr ⟨oo_Fa_shortestWay_at_Npnear_Emlevel_Emway_1, List.forall_mem_cons.mpr ⟨oo_Fa_shortestWay_at_Npnear_Emlevel_Emway_2, List.forall_mem_cons.mpr ⟨oo_Fa_shortestWay_at_Npnear_Emlevel_Emway_3, List.forall_mem_cons.mpr ⟨oo_Fa_shortestWay_at_Npnear_Emlevel_Emway_4, List.forall_mem_cons.mpr ⟨oo_Fa_shortestWay_at_Npnear_Emlevel_Emway_5, List.forall_mem_cons.mpr ⟨oo_Fa_shortestWay_at_Npnear_Emlevel_Emway_6, List.forall_mem_cons.mpr ⟨oo_Fa_shortestWay_at_Npnear_Emlevel_Emway_7, List.forall_mem_cons.mpr ⟨oo_Fa_shortestWay_at_Npnear_Emlevel_Emway_8, List.forall_mem_cons.mpr ⟨oo_Fa_shortestWay_at_Npnear_Emlevel_Emway_9, List.forall_mem_nil _⟩⟩⟩⟩⟩⟩⟩⟩⟩⟩) (by decide +kernel) ⟨List.forall_mem_nil _, List.forall_mem_nil _, List.forall_mem_cons.mpr ⟨cl_static (y := y_Fa_lowest) h_Fa_lowest wm_899 wm_7 wm_897 wm_898 ⟨by decide, by decide, by decide +kernel⟩ (by decide), List.forall_mem_cons.mpr ⟨cl_static (y := y_Fa_nearOf_at_Npnear) h_Fa_nearOf_at_Npnear wm_824 wm_7 wm_822 wm_823 ⟨by decide, by decide, by decide +kernel⟩ (by decide), List.forall_mem_nil _⟩⟩, List.forall_mem_nil _, List.forall_mem_nil _, GG_pl⟩ (by decide +kernel)

set_option maxHeartbeats 4000000 in
theorem vc_Fa_uniteAt_at_Grtail_Grhead_Fablock_0_0 (x0 : Int) (x2 : Int) (x8 : Int) (a5_0 : Int → Int) (a3_0 : Int → Int) (a4_0 : Int → Int) (k0 : 0 ≤ x0 ∧ x0 ≤ 23) (k2 : 0 ≤ x2 ∧ x2 ≤ 48) (k8 : (-1) ≤ x8 ∧ x8 ≤ (-1)) (f1 : BLZ (a5_0) (a3_0) (a4_0) (x2)) : UNI (a5_0) (a3_0) (a4_0) (x2) (x0) (x8) := by
  first
    | exact uni_start ‹BLZ _ _ _ _› (by omega)
set_option maxHeartbeats 4000000 in
theorem vc_Fa_uniteAt_at_Grtail_Grhead_Fablock_0_1 (x0 : Int) (x1 : Int) (x2 : Int) (x7 : Int) (x8 : Int) (a5_0 : Int → Int) (a3_0 : Int → Int) (a4_0 : Int → Int) (a6_0 : Int → Int) (k0 : 0 ≤ x0 ∧ x0 ≤ 23) (k1 : 0 ≤ x1 ∧ x1 ≤ 16777215) (k2 : 0 ≤ x2 ∧ x2 ≤ 48) (k7 : 0 ≤ x7 ∧ x7 ≤ 25) (k8 : (-1) ≤ x8 ∧ x8 ≤ (-1)) (f2 : BCU (a5_0) (a3_0) (a4_0) (a6_0) (x7) (x2)) (f3 : USD (a3_0) (a4_0) (a6_0) (x7) (x2) (x0) (x1)) : UN2 (a5_0) (a3_0) (a4_0) (a6_0) (x7) (x2) (x0) (x1) (x8) := by
  first
    | exact un2_start ‹BCU _ _ _ _ _ _› ‹USD _ _ _ _ _ _ _› (by omega)
def o_Fa_uniteAt_at_Grtail_Grhead_Fablock_0 : or_T := (6, 10, [(0, (0, 0, 23, [])), (1, (0, 0, 16777215, [])), (2, (0, 0, 48, [])), (7, (0, 0, 25, [])), (8, (0, -1, -1, []))], [(20, [5, 3, 4, 2], [61, 3, 580]), (20, [5, 3, 4, 6, 7, 2], [61, 4, 587]), (20, [3, 4, 6, 7, 2, 0, 1], [61, 3, 588])], [], [], [(20, [5, 3, 4, 2, 0, 8], [61, 3, 584]), (20, [5, 3, 4, 6, 7, 2, 0, 1, 8], [61, 4, 589]), (24, [0, 0], []), (24, [1, 1], []), (24, [2, 2], []), (24, [3, 3], []), (24, [4, 4], []), (24, [5, 5], [])], [], [])
theorem oo_Fa_uniteAt_at_Grtail_Grhead_Fablock_0 {kA : Nat → ClassId} : or_ok PRD kA GG o_Fa_uniteAt_at_Grtail_Grhead_Fablock_0 := by
  refine or_mk fun A ta ws vs hD hth hl => ?_
  intro t0 k0 t1 k1 t2 k2 t7 k7 t8 k8 f1 f2 f3
  have nf0 : fc_1 PRD (20, [5, 3, 4, 2, 0, 8], [61, 3, 584]) ws (vs) := ⟨nf_in hl rfl, sgq_1193 (vc_Fa_uniteAt_at_Grtail_Grhead_Fablock_0_0 (v_iv (n_v vs 0)) (v_iv (n_v vs 2)) (v_iv (n_v vs 8)) (w_ei ws (v_ad (n_v vs 5))) (w_ei ws (v_ad (n_v vs 3))) (w_ei ws (v_ad (n_v vs 4))) k0 k2 k8 (shm_1190 f1))⟩
  have nf1 : fc_1 PRD (20, [5, 3, 4, 6, 7, 2, 0, 1, 8], [61, 4, 589]) ws (vs) := ⟨nf_in hl rfl, sgq_1194 (vc_Fa_uniteAt_at_Grtail_Grhead_Fablock_0_1 (v_iv (n_v vs 0)) (v_iv (n_v vs 1)) (v_iv (n_v vs 2)) (v_iv (n_v vs 7)) (v_iv (n_v vs 8)) (w_ei ws (v_ad (n_v vs 5))) (w_ei ws (v_ad (n_v vs 3))) (w_ei ws (v_ad (n_v vs 4))) (w_ei ws (v_ad (n_v vs 6))) k0 k1 k2 k7 k8 (shm_1191 f2) (shm_1192 f3))⟩
  have nf2 : fc_1 PRD (24, [0, 0], []) ws (vs) := by
    refine ⟨nf_in hl rfl, sgq_1 ?_⟩
    · show n_v vs 0 = n_v vs 0
      first | rfl | simp only [true_and]
  have nf3 : fc_1 PRD (24, [1, 1], []) ws (vs) := by
    refine ⟨nf_in hl rfl, sgq_1 ?_⟩
    · show n_v vs 1 = n_v vs 1
      first | rfl | simp only [true_and]
  have nf4 : fc_1 PRD (24, [2, 2], []) ws (vs) := by
    refine ⟨nf_in hl rfl, sgq_1 ?_⟩
    · show n_v vs 2 = n_v vs 2
      first | rfl | simp only [true_and]
  have nf5 : fc_1 PRD (24, [3, 3], []) ws (vs) := by
    refine ⟨nf_in hl rfl, sgq_1 ?_⟩
    · show n_v vs 3 = n_v vs 3
      first | rfl | simp only [true_and]
  have nf6 : fc_1 PRD (24, [4, 4], []) ws (vs) := by
    refine ⟨nf_in hl rfl, sgq_1 ?_⟩
    · show n_v vs 4 = n_v vs 4
      first | rfl | simp only [true_and]
  have nf7 : fc_1 PRD (24, [5, 5], []) ws (vs) := by
    refine ⟨nf_in hl rfl, sgq_1 ?_⟩
    · show n_v vs 5 = n_v vs 5
      first | rfl | simp only [true_and]
  refine ⟨(fun _ h => (by cases h)), [], trivial, ?_, (fun _ h => (by cases h))⟩
  rw [List.append_nil]
  exact List.forall_mem_cons.mpr ⟨⟨show (20 : Nat) < 100 from by decide, nf0⟩, List.forall_mem_cons.mpr ⟨⟨show (20 : Nat) < 100 from by decide, nf1⟩, List.forall_mem_cons.mpr ⟨⟨show (24 : Nat) < 100 from by decide, nf2⟩, List.forall_mem_cons.mpr ⟨⟨show (24 : Nat) < 100 from by decide, nf3⟩, List.forall_mem_cons.mpr ⟨⟨show (24 : Nat) < 100 from by decide, nf4⟩, List.forall_mem_cons.mpr ⟨⟨show (24 : Nat) < 100 from by decide, nf5⟩, List.forall_mem_cons.mpr ⟨⟨show (24 : Nat) < 100 from by decide, nf6⟩, List.forall_mem_cons.mpr ⟨⟨show (24 : Nat) < 100 from by decide, nf7⟩, (fun _ h => (by cases h))⟩⟩⟩⟩⟩⟩⟩⟩
set_option maxHeartbeats 4000000 in
theorem vc_Fa_uniteAt_at_Grtail_Grhead_Fablock_1_0 (x2 : Int) (a5_0 : Int → Int) (k2 : 0 ≤ x2 ∧ x2 ≤ 48) (f1 : BLQ (a5_0) (x2)) : BLQ (a5_0) (x2) := by
  first
    | assumption
  
set_option maxHeartbeats 4000000 in
theorem vc_Fa_uniteAt_at_Grtail_Grhead_Fablock_1_1 (x0 : Int) (x2 : Int) (x14 : Int) (a5_0 : Int → Int) (a3_0 : Int → Int) (a4_0 : Int → Int) (k0 : 0 ≤ x0 ∧ x0 ≤ 23) (k2 : 0 ≤ x2 ∧ x2 ≤ 48) (k14 : (-1) ≤ x14 ∧ x14 ≤ 47) (f2 : UNI (a5_0) (a3_0) (a4_0) (x2) (x0) (x14)) : BLZ (a5_0) (a3_0) (a4_0) (x2) := by
  first
    | assumption
    | exact (‹UNI _ _ _ _ _ _›).1
set_option maxHeartbeats 4000000 in
theorem vc_Fa_uniteAt_at_Grtail_Grhead_Fablock_1_2 (x0 : Int) (x1 : Int) (x2 : Int) (x7 : Int) (x14 : Int) (a5_0 : Int → Int) (a3_0 : Int → Int) (a4_0 : Int → Int) (a6_0 : Int → Int) (k0 : 0 ≤ x0 ∧ x0 ≤ 23) (k1 : 0 ≤ x1 ∧ x1 ≤ 16777215) (k2 : 0 ≤ x2 ∧ x2 ≤ 48) (k7 : 0 ≤ x7 ∧ x7 ≤ 25) (k14 : (-1) ≤ x14 ∧ x14 ≤ 47) (f3 : UN2 (a5_0) (a3_0) (a4_0) (a6_0) (x7) (x2) (x0) (x1) (x14)) : BCU (a5_0) (a3_0) (a4_0) (a6_0) (x7) (x2) := by
  first
    | assumption
    | exact (‹UN2 _ _ _ _ _ _ _ _ _›).1.1
def o_Fa_uniteAt_at_Grtail_Grhead_Fablock_1 : or_T := (145, 16, [(0, (0, 0, 23, [])), (1, (0, 0, 16777215, [])), (2, (0, 0, 48, [])), (7, (0, 0, 25, [])), (14, (0, -1, 47, []))], [(20, [13, 10], [61, 1, 566]), (20, [13, 11, 12, 10, 8, 14], [61, 3, 584]), (20, [13, 11, 12, 6, 7, 10, 8, 9, 14], [61, 4, 589]), (24, [0, 8], []), (24, [1, 9], []), (24, [2, 10], []), (24, [3, 11], []), (24, [4, 12], []), (24, [5, 13], [])], [], [], [(20, [5, 2], [61, 1, 566]), (20, [5, 3, 4, 2], [61, 3, 580]), (20, [5, 3, 4, 6, 7, 2], [61, 4, 587])], [], [])
theorem oo_Fa_uniteAt_at_Grtail_Grhead_Fablock_1 {kA : Nat → ClassId} : or_ok PRD kA GG o_Fa_uniteAt_at_Grtail_Grhead_Fablock_1 := by
  refine or_mk fun A ta ws vs hD hth hl => ?_
  intro t0 k0 t1 k1 t2 k2 t7 k7 t14 k14 f1 f2 f3 f4 f5 f6 f7 f8 f9
  replace f1 := shm_365 f1
  replace f2 := shm_1193 f2
  replace f3 := shm_1194 f3
  replace f4 := shm_5 f4
  replace f5 := shm_5 f5
  replace f6 := shm_5 f6
  replace f7 := shm_5 f7
  replace f8 := shm_5 f8
  replace f9 := shm_5 f9
  have q8 : n_v vs 8 = n_v vs 0 := f4.symm
  have q9 : n_v vs 9 = n_v vs 1 := f5.symm
  have q10 : n_v vs 10 = n_v vs 2 := f6.symm
  have q11 : n_v vs 11 = n_v vs 3 := f7.symm
  have q12 : n_v vs 12 = n_v vs 4 := f8.symm
  have q13 : n_v vs 13 = n_v vs 5 := f9.symm
  simp only [q10, q13, q8, q11, q12, q9] at f1 f2 f3
  have nf0 : fc_1 PRD (20, [5, 2], [61, 1, 566]) ws (vs) := ⟨nf_in hl rfl, sgq_365 (vc_Fa_uniteAt_at_Grtail_Grhead_Fablock_1_0 (v_iv (n_v vs 2)) (w_ei ws (v_ad (n_v vs 5))) k2 f1)⟩
  have nf1 : fc_1 PRD (20, [5, 3, 4, 2], [61, 3, 580]) ws (vs) := ⟨nf_in hl rfl, sgq_1190 (vc_Fa_uniteAt_at_Grtail_Grhead_Fablock_1_1 (v_iv (n_v vs 0)) (v_iv (n_v vs 2)) (v_iv (n_v vs 14)) (w_ei ws (v_ad (n_v vs 5))) (w_ei ws (v_ad (n_v vs 3))) (w_ei ws (v_ad (n_v vs 4))) k0 k2 k14 f2)⟩
  have nf2 : fc_1 PRD (20, [5, 3, 4, 6, 7, 2], [61, 4, 587]) ws (vs) := ⟨nf_in hl rfl, sgq_1191 (vc_Fa_uniteAt_at_Grtail_Grhead_Fablock_1_2 (v_iv (n_v vs 0)) (v_iv (n_v vs 1)) (v_iv (n_v vs 2)) (v_iv (n_v vs 7)) (v_iv (n_v vs 14)) (w_ei ws (v_ad (n_v vs 5))) (w_ei ws (v_ad (n_v vs 3))) (w_ei ws (v_ad (n_v vs 4))) (w_ei ws (v_ad (n_v vs 6))) k0 k1 k2 k7 k14 f3)⟩
  refine ⟨(fun _ h => (by cases h)), [], trivial, ?_, (fun _ h => (by cases h))⟩
  rw [List.append_nil]
  exact List.forall_mem_cons.mpr ⟨⟨show (20 : Nat) < 100 from by decide, nf0⟩, List.forall_mem_cons.mpr ⟨⟨show (20 : Nat) < 100 from by decide, nf1⟩, List.forall_mem_cons.mpr ⟨⟨show (20 : Nat) < 100 from by decide, nf2⟩, (fun _ h => (by cases h))⟩⟩⟩
set_option maxHeartbeats 4000000 in
theorem vc_Fa_uniteAt_at_Grtail_Grhead_Fablock_2_r0 (x2 : Int) (x15 : Int) (x16 : Int) (x18 : Int) (x19 : Int) (x25 : Int) (x26 : Int) (a5_0 : Int → Int) (a3_0 : Int → Int) (a4_0 : Int → Int) (k2 : 1 ≤ x2 ∧ x2 ≤ 48) (k15 : 0 ≤ x15 ∧ x15 ≤ 47) (k16 : 0 ≤ x16 ∧ x16 ≤ 23) (k18 : 0 ≤ x18 ∧ x18 ≤ 23) (k19 : 0 ≤ x19 ∧ x19 ≤ 23) (k25 : (-1) ≤ x25 ∧ x25 ≤ 47) (k26 : (-1) ≤ x26 ∧ x26 ≤ 47) (h0 : x26 = a5_0 (x15)) (h2 : x25 = a5_0 (x15)) (h8 : x19 = a3_0 (x15)) (h10 : x18 = a4_0 (x15)) (h12 : x16 = a3_0 (x15)) (f13 : x15 < x2) (f14 : BLQ (a5_0) (x2)) : 0 ≤ x26 ∧ x26 ≤ 47 := by
  first
    | omega
    | (skip; (first | subst h0 | skip); (first | subst h2 | skip); (first | subst h8 | skip); (first | subst h10 | skip); (first | subst h12 | skip); have q := ‹BLQ _ _› x15 (by omega) (by omega); omega)
def o_Fa_uniteAt_at_Grtail_Grhead_Fablock_2 : or_T := (112, 27, [(0, (0, 0, 23, [])), (1, (0, 0, 16777215, [])), (2, (0, 1, 48, [])), (3, (2, 0, 0, [52])), (4, (2, 0, 0, [53])), (5, (2, 0, 0, [38])), (6, (2, 0, 0, [59])), (7, (0, 0, 25, [])), (8, (0, 0, 23, [])), (9, (0, 0, 16777215, [])), (10, (0, 1, 48, [])), (11, (2, 0, 0, [52])), (12, (2, 0, 0, [53])), (13, (2, 0, 0, [38])), (14, (0, 0, 47, [])), (15, (0, 0, 47, [])), (16, (0, 0, 23, [])), (18, (0, 0, 23, [])), (19, (0, 0, 23, [])), (20, (0, 0, 16777215, [])), (21, (0, 1, 1, [])), (22, (0, 1, 1, [])), (24, (0, -1, -1, [])), (25, (0, -1, 47, [])), (26, (0, -1, 47, []))], [(10, [26, 13, 15], []), (7, [25, 14], [1]), (10, [25, 13, 15], []), (7, [14, 24], [1]), (8, [22], [1]), (12, [22, 20], [2]), (16, [22, 20, 21], [0]), (16, [20, 9, 19], [4]), (10, [19, 11, 15], []), (7, [18, 8], [0]), (10, [18, 12, 15], []), (7, [16, 8], [1]), (10, [16, 11, 15], []), (7, [15, 10], [2]), (20, [13, 10], [61, 1, 566]), (20, [13, 11, 12, 10, 8, 14], [61, 3, 584]), (20, [13, 11, 12, 6, 7, 10, 8, 9, 14], [61, 4, 589]), (24, [0, 8], []), (24, [1, 9], []), (24, [2, 10], []), (24, [3, 11], []), (24, [4, 12], []), (24, [5, 13], [])], [(26, (0, 0, 47, []))], [], [], [], [(18, 8, 0, 0), (15, 10, -4294967296, -1), (0, 8, -4294967296, 0), (1, 9, -4294967296, 0), (2, 10, -4294967296, 0), (8, 0, -4294967296, 0), (9, 1, -4294967296, 0), (10, 2, -4294967296, 0), (14, 15, -4294967296, 46), (15, 2, -4294967296, 0), (15, 10, -4294967296, 0)])
theorem oo_Fa_uniteAt_at_Grtail_Grhead_Fablock_2 {kA : Nat → ClassId} : or_ok PRD kA GG o_Fa_uniteAt_at_Grtail_Grhead_Fablock_2 := by
  refine or_mk fun A ta ws vs hD hth hl => ?_
  intro t0 k0 t1 k1 t2 k2 t3 r3 t4 r4 t5 r5 t6 r6 t7 k7 t8 k8 t9 k9 t10 k10 t11 r11 t12 r12 t13 r13 t14 k14 t15 k15 t16 k16 t18 k18 t19 k19 t20 k20 t21 k21 t22 k22 t24 k24 t25 k25 t26 k26 d0 d1 d2 d3 d4 d5 d6 d7 d8 d9 d10 f0 f1 f2 f3 f4 f5 f6 f7 f8 f9 f10 f11 f12 f13 f14 f15 f16 f17 f18 f19 f20 f21 f22
  replace f0 := shm_107 f0
  replace f2 := shm_107 f2
  replace f8 := shm_107 f8
  replace f10 := shm_107 f10
  replace f12 := shm_107 f12
  replace f13 := shm_6 f13
  replace f14 := shm_365 f14
  replace f19 := shm_5 f19
  replace f20 := shm_5 f20
  replace f21 := shm_5 f21
  replace f22 := shm_5 f22
  have q10 : n_v vs 10 = n_v vs 2 := f19.symm
  have q11 : n_v vs 11 = n_v vs 3 := f20.symm
  have q12 : n_v vs 12 = n_v vs 4 := f21.symm
  have q13 : n_v vs 13 = n_v vs 5 := f22.symm
  simp only [q13, q11, q12, q10] at f0 f2 f8 f10 f12 f13 f14
  have h0 : v_iv (n_v vs 26) = w_ei ws (v_ad (n_v vs 5)) (v_iv (n_v vs 15)) := f0
  have h2 : v_iv (n_v vs 25) = w_ei ws (v_ad (n_v vs 5)) (v_iv (n_v vs 15)) := f2
  have h8 : v_iv (n_v vs 19) = w_ei ws (v_ad (n_v vs 3)) (v_iv (n_v vs 15)) := f8
  have h10 : v_iv (n_v vs 18) = w_ei ws (v_ad (n_v vs 4)) (v_iv (n_v vs 15)) := f10
  have h12 : v_iv (n_v vs 16) = w_ei ws (v_ad (n_v vs 3)) (v_iv (n_v vs 15)) := f12
  have hrf0 : 0 ≤ v_iv (n_v vs 26) ∧ v_iv (n_v vs 26) ≤ 47 := vc_Fa_uniteAt_at_Grtail_Grhead_Fablock_2_r0 (v_iv (n_v vs 2)) (v_iv (n_v vs 15)) (v_iv (n_v vs 16)) (v_iv (n_v vs 18)) (v_iv (n_v vs 19)) (v_iv (n_v vs 25)) (v_iv (n_v vs 26)) (w_ei ws (v_ad (n_v vs 5))) (w_ei ws (v_ad (n_v vs 3))) (w_ei ws (v_ad (n_v vs 4))) k2 k15 k16 k18 k19 k25 k26 h0 h2 h8 h10 h12 f13 f14
  have rf26 : tv_ok ta (0, 0, 47, []) (n_v vs 26) := tv_in t26 (by first | omega | grind) (by first | omega | grind)
  refine ⟨List.forall_mem_cons.mpr ⟨rf26, (fun _ h => (by cases h))⟩, [], trivial, ?_, (fun _ h => (by cases h))⟩
  rw [List.append_nil]
  exact (fun _ h => (by cases h))
set_option maxHeartbeats 4000000 in
theorem vc_Fa_uniteAt_at_Grtail_Grhead_Fablock_3_r0 (x15 : Int) (x16 : Int) (x18 : Int) (x19 : Int) (x25 : Int) (x26 : Int) (x28 : Int) (a5_0 : Int → Int) (a3_0 : Int → Int) (a4_0 : Int → Int) (k15 : 0 ≤ x15 ∧ x15 ≤ 47) (k16 : 0 ≤ x16 ∧ x16 ≤ 23) (k18 : 0 ≤ x18 ∧ x18 ≤ 23) (k19 : 0 ≤ x19 ∧ x19 ≤ 23) (k25 : (-1) ≤ x25 ∧ x25 ≤ 47) (k26 : 0 ≤ x26 ∧ x26 ≤ 47) (k28 : (-1) ≤ x28 ∧ x28 ≤ 47) (h0 : x28 = a5_0 (x15)) (h4 : x26 = a5_0 (x15)) (h6 : x25 = a5_0 (x15)) (h12 : x19 = a3_0 (x15)) (h14 : x18 = a4_0 (x15)) (h16 : x16 = a3_0 (x15)) : 0 ≤ x28 ∧ x28 ≤ 47 := by
  first
    | omega
    | (skip; (first | subst h0 | skip); (first | subst h4 | skip); (first | subst h6 | skip); (first | subst h12 | skip); (first | subst h14 | skip); (first | subst h16 | skip); have q := ‹BLQ _ _› x15 (by omega) (by omega); omega)
def o_Fa_uniteAt_at_Grtail_Grhead_Fablock_3 : or_T := (124, 29, [(0, (0, 0, 23, [])), (1, (0, 0, 16777215, [])), (2, (0, 1, 48, [])), (3, (2, 0, 0, [52])), (4, (2, 0, 0, [53])), (5, (2, 0, 0, [38])), (6, (2, 0, 0, [59])), (7, (0, 0, 25, [])), (8, (0, 0, 23, [])), (9, (0, 0, 16777215, [])), (10, (0, 1, 48, [])), (11, (2, 0, 0, [52])), (12, (2, 0, 0, [53])), (13, (2, 0, 0, [38])), (14, (0, 0, 47, [])), (15, (0, 0, 47, [])), (16, (0, 0, 23, [])), (18, (0, 0, 23, [])), (19, (0, 0, 23, [])), (20, (0, 0, 16777215, [])), (21, (0, 1, 1, [])), (22, (0, 1, 1, [])), (24, (0, -1, -1, [])), (25, (0, -1, 47, [])), (26, (0, 0, 47, [])), (27, (0, 0, 47, [])), (28, (0, -1, 47, []))], [(10, [28, 13, 15], []), (23, [14, 27], [0, 1, -1]), (23, [26, 27], [0, 1, -1]), (20, [27, 14, 26], [50, 0, 0, 3, 6, 1, 2, 1, 0, 1, 1, 1, 2, 1, 0, 1, 2]), (10, [26, 13, 15], []), (7, [25, 14], [1]), (10, [25, 13, 15], []), (7, [14, 24], [1]), (8, [22], [1]), (12, [22, 20], [2]), (16, [22, 20, 21], [0]), (16, [20, 9, 19], [4]), (10, [19, 11, 15], []), (7, [18, 8], [0]), (10, [18, 12, 15], []), (7, [16, 8], [1]), (10, [16, 11, 15], []), (7, [15, 10], [2]), (20, [13, 10], [61, 1, 566]), (20, [13, 11, 12, 10, 8, 14], [61, 3, 584]), (20, [13, 11, 12, 6, 7, 10, 8, 9, 14], [61, 4, 589]), (24, [0, 8], []), (24, [1, 9], []), (24, [2, 10], []), (24, [3, 11], []), (24, [4, 12], []), (24, [5, 13], [])], [(28, (0, 0, 47, []))], [], [], [], [(18, 8, 0, 0), (15, 10, -4294967296, -1), (0, 8, -4294967296, 0), (1, 9, -4294967296, 0), (2, 10, -4294967296, 0), (8, 0, -4294967296, 0), (9, 1, -4294967296, 0), (10, 2, -4294967296, 0), (14, 15, -4294967296, 46), (15, 2, -4294967296, 0), (15, 10, -4294967296, 0)])
theorem oo_Fa_uniteAt_at_Grtail_Grhead_Fablock_3 {kA : Nat → ClassId} : or_ok PRD kA GG o_Fa_uniteAt_at_Grtail_Grhead_Fablock_3 := by
  refine or_mk fun A ta ws vs hD hth hl => ?_
  intro t0 k0 t1 k1 t2 k2 t3 r3 t4 r4 t5 r5 t6 r6 t7 k7 t8 k8 t9 k9 t10 k10 t11 r11 t12 r12 t13 r13 t14 k14 t15 k15 t16 k16 t18 k18 t19 k19 t20 k20 t21 k21 t22 k22 t24 k24 t25 k25 t26 k26 t27 k27 t28 k28 d0 d1 d2 d3 d4 d5 d6 d7 d8 d9 d10 f0 f1 f2 f3 f4 f5 f6 f7 f8 f9 f10 f11 f12 f13 f14 f15 f16 f17 f18 f19 f20 f21 f22 f23 f24 f25 f26
  replace f0 := shm_107 f0
  replace f4 := shm_107 f4
  replace f6 := shm_107 f6
  replace f12 := shm_107 f12
  replace f14 := shm_107 f14
  replace f16 := shm_107 f16
  replace f24 := shm_5 f24
  replace f25 := shm_5 f25
  replace f26 := shm_5 f26
  have q11 : n_v vs 11 = n_v vs 3 := f24.symm
  have q12 : n_v vs 12 = n_v vs 4 := f25.symm
  have q13 : n_v vs 13 = n_v vs 5 := f26.symm
  simp only [q13, q11, q12] at f0 f4 f6 f12 f14 f16
  have h0 : v_iv (n_v vs 28) = w_ei ws (v_ad (n_v vs 5)) (v_iv (n_v vs 15)) := f0
  have h4 : v_iv (n_v vs 26) = w_ei ws (v_ad (n_v vs 5)) (v_iv (n_v vs 15)) := f4
  have h6 : v_iv (n_v vs 25) = w_ei ws (v_ad (n_v vs 5)) (v_iv (n_v vs 15)) := f6
  have h12 : v_iv (n_v vs 19) = w_ei ws (v_ad (n_v vs 3)) (v_iv (n_v vs 15)) := f12
  have h14 : v_iv (n_v vs 18) = w_ei ws (v_ad (n_v vs 4)) (v_iv (n_v vs 15)) := f14
  have h16 : v_iv (n_v vs 16) = w_ei ws (v_ad (n_v vs 3)) (v_iv (n_v vs 15)) := f16
  have hrf0 : 0 ≤ v_iv (n_v vs 28) ∧ v_iv (n_v vs 28) ≤ 47 := vc_Fa_uniteAt_at_Grtail_Grhead_Fablock_3_r0 (v_iv (n_v vs 15)) (v_iv (n_v vs 16)) (v_iv (n_v vs 18)) (v_iv (n_v vs 19)) (v_iv (n_v vs 25)) (v_iv (n_v vs 26)) (v_iv (n_v vs 28)) (w_ei ws (v_ad (n_v vs 5))) (w_ei ws (v_ad (n_v vs 3))) (w_ei ws (v_ad (n_v vs 4))) k15 k16 k18 k19 k25 k26 k28 h0 h4 h6 h12 h14 h16
  have rf28 : tv_ok ta (0, 0, 47, []) (n_v vs 28) := tv_in t28 (by first | omega | grind) (by first | omega | grind)
  refine ⟨List.forall_mem_cons.mpr ⟨rf28, (fun _ h => (by cases h))⟩, [], trivial, ?_, (fun _ h => (by cases h))⟩
  rw [List.append_nil]
  exact (fun _ h => (by cases h))
set_option maxHeartbeats 4000000 in
theorem vc_Fa_uniteAt_at_Grtail_Grhead_Fablock_4_2 (x0 : Int) (x8 : Int) (x15 : Int) (x16 : Int) (x18 : Int) (x19 : Int) (x25 : Int) (x26 : Int) (x28 : Int) (a5_0 : Int → Int) (a3_0 : Int → Int) (a4_0 : Int → Int) (gu : Int) (k0 : 0 ≤ x0 ∧ x0 ≤ 23) (k8 : 0 ≤ x8 ∧ x8 ≤ 23) (k15 : 0 ≤ x15 ∧ x15 ≤ 47) (k16 : 0 ≤ x16 ∧ x16 ≤ 23) (k18 : 0 ≤ x18 ∧ x18 ≤ 23) (k19 : 0 ≤ x19 ∧ x19 ≤ 23) (k25 : (-1) ≤ x25 ∧ x25 ≤ 47) (k26 : 0 ≤ x26 ∧ x26 ≤ 47) (k28 : 0 ≤ x28 ∧ x28 ≤ 47) (d0 : x8 + 0 ≤ x18 ∧ x18 ≤ x8 + 0) (d2 : x8 + (-4294967296) ≤ x0 ∧ x0 ≤ x8 + 0) (d5 : x0 + (-4294967296) ≤ x8 ∧ x8 ≤ x0 + 0) (h3 : x28 = a5_0 (x15)) (h7 : x26 = a5_0 (x15)) (h9 : x25 = a5_0 (x15)) (h15 : x19 = a3_0 (x15)) (h17 : x18 = a4_0 (x15)) (h19 : x16 = a3_0 (x15)) (eu2 : gu = x0) : 1 * gu + ((-1) * x0 + 0) ≤ 0 := by
  first
    | omega
    | (skip; (first | subst h3 | skip); (first | subst h7 | skip); (first | subst h9 | skip); (first | subst h15 | skip); (first | subst h17 | skip); (first | subst h19 | skip); have q := ‹BLQ _ _› x15 (by omega) (by omega); omega)
set_option maxHeartbeats 4000000 in
theorem vc_Fa_uniteAt_at_Grtail_Grhead_Fablock_4_3 (x0 : Int) (x8 : Int) (x15 : Int) (x16 : Int) (x18 : Int) (x19 : Int) (x25 : Int) (x26 : Int) (x28 : Int) (a5_0 : Int → Int) (a3_0 : Int → Int) (a4_0 : Int → Int) (gu : Int) (k0 : 0 ≤ x0 ∧ x0 ≤ 23) (k8 : 0 ≤ x8 ∧ x8 ≤ 23) (k15 : 0 ≤ x15 ∧ x15 ≤ 47) (k16 : 0 ≤ x16 ∧ x16 ≤ 23) (k18 : 0 ≤ x18 ∧ x18 ≤ 23) (k19 : 0 ≤ x19 ∧ x19 ≤ 23) (k25 : (-1) ≤ x25 ∧ x25 ≤ 47) (k26 : 0 ≤ x26 ∧ x26 ≤ 47) (k28 : 0 ≤ x28 ∧ x28 ≤ 47) (d0 : x8 + 0 ≤ x18 ∧ x18 ≤ x8 + 0) (d2 : x8 + (-4294967296) ≤ x0 ∧ x0 ≤ x8 + 0) (d5 : x0 + (-4294967296) ≤ x8 ∧ x8 ≤ x0 + 0) (h3 : x28 = a5_0 (x15)) (h7 : x26 = a5_0 (x15)) (h9 : x25 = a5_0 (x15)) (h15 : x19 = a3_0 (x15)) (h17 : x18 = a4_0 (x15)) (h19 : x16 = a3_0 (x15)) (eu2 : gu = x0) : (-1) * gu + (1 * x0 + 0) ≤ 0 := by
  first
    | omega
    | (skip; (first | subst h3 | skip); (first | subst h7 | skip); (first | subst h9 | skip); (first | subst h15 | skip); (first | subst h17 | skip); (first | subst h19 | skip); have q := ‹BLQ _ _› x15 (by omega) (by omega); omega)
set_option maxHeartbeats 4000000 in
theorem vc_Fa_uniteAt_at_Grtail_Grhead_Fablock_4_5 (x7 : Int) (x15 : Int) (x16 : Int) (x18 : Int) (x19 : Int) (x25 : Int) (x26 : Int) (x28 : Int) (a5_0 : Int → Int) (a3_0 : Int → Int) (a4_0 : Int → Int) (gc : Int) (k7 : 0 ≤ x7 ∧ x7 ≤ 25) (k15 : 0 ≤ x15 ∧ x15 ≤ 47) (k16 : 0 ≤ x16 ∧ x16 ≤ 23) (k18 : 0 ≤ x18 ∧ x18 ≤ 23) (k19 : 0 ≤ x19 ∧ x19 ≤ 23) (k25 : (-1) ≤ x25 ∧ x25 ≤ 47) (k26 : 0 ≤ x26 ∧ x26 ≤ 47) (k28 : 0 ≤ x28 ∧ x28 ≤ 47) (h3 : x28 = a5_0 (x15)) (h7 : x26 = a5_0 (x15)) (h9 : x25 = a5_0 (x15)) (h15 : x19 = a3_0 (x15)) (h17 : x18 = a4_0 (x15)) (h19 : x16 = a3_0 (x15)) (ec2 : gc = x7) : 1 * gc + ((-1) * x7 + 0) ≤ 0 := by
  first
    | omega
    | (skip; (first | subst h3 | skip); (first | subst h7 | skip); (first | subst h9 | skip); (first | subst h15 | skip); (first | subst h17 | skip); (first | subst h19 | skip); have q := ‹BLQ _ _› x15 (by omega) (by omega); omega)
set_option maxHeartbeats 4000000 in
theorem vc_Fa_uniteAt_at_Grtail_Grhead_Fablock_4_6 (x7 : Int) (x15 : Int) (x16 : Int) (x18 : Int) (x19 : Int) (x25 : Int) (x26 : Int) (x28 : Int) (a5_0 : Int → Int) (a3_0 : Int → Int) (a4_0 : Int → Int) (gc : Int) (k7 : 0 ≤ x7 ∧ x7 ≤ 25) (k15 : 0 ≤ x15 ∧ x15 ≤ 47) (k16 : 0 ≤ x16 ∧ x16 ≤ 23) (k18 : 0 ≤ x18 ∧ x18 ≤ 23) (k19 : 0 ≤ x19 ∧ x19 ≤ 23) (k25 : (-1) ≤ x25 ∧ x25 ≤ 47) (k26 : 0 ≤ x26 ∧ x26 ≤ 47) (k28 : 0 ≤ x28 ∧ x28 ≤ 47) (h3 : x28 = a5_0 (x15)) (h7 : x26 = a5_0 (x15)) (h9 : x25 = a5_0 (x15)) (h15 : x19 = a3_0 (x15)) (h17 : x18 = a4_0 (x15)) (h19 : x16 = a3_0 (x15)) (ec2 : gc = x7) : (-1) * gc + (1 * x7 + 0) ≤ 0 := by
  first
    | omega
    | (skip; (first | subst h3 | skip); (first | subst h7 | skip); (first | subst h9 | skip); (first | subst h15 | skip); (first | subst h17 | skip); (first | subst h19 | skip); have q := ‹BLQ _ _› x15 (by omega) (by omega); omega)
set_option maxHeartbeats 4000000 in
theorem vc_Fa_uniteAt_at_Grtail_Grhead_Fablock_4_7 (x1 : Int) (x9 : Int) (x15 : Int) (x16 : Int) (x18 : Int) (x19 : Int) (x25 : Int) (x26 : Int) (x28 : Int) (a5_0 : Int → Int) (a3_0 : Int → Int) (a4_0 : Int → Int) (gd : Int) (k1 : 0 ≤ x1 ∧ x1 ≤ 16777215) (k9 : 0 ≤ x9 ∧ x9 ≤ 16777215) (k15 : 0 ≤ x15 ∧ x15 ≤ 47) (k16 : 0 ≤ x16 ∧ x16 ≤ 23) (k18 : 0 ≤ x18 ∧ x18 ≤ 23) (k19 : 0 ≤ x19 ∧ x19 ≤ 23) (k25 : (-1) ≤ x25 ∧ x25 ≤ 47) (k26 : 0 ≤ x26 ∧ x26 ≤ 47) (k28 : 0 ≤ x28 ∧ x28 ≤ 47) (d3 : x9 + (-4294967296) ≤ x1 ∧ x1 ≤ x9 + 0) (d6 : x1 + (-4294967296) ≤ x9 ∧ x9 ≤ x1 + 0) (h3 : x28 = a5_0 (x15)) (h7 : x26 = a5_0 (x15)) (h9 : x25 = a5_0 (x15)) (h15 : x19 = a3_0 (x15)) (h17 : x18 = a4_0 (x15)) (h19 : x16 = a3_0 (x15)) (ed2 : gd = x1) : 1 * gd + ((-1) * x1 + 0) ≤ 0 := by
  first
    | omega
    | (skip; (first | subst h3 | skip); (first | subst h7 | skip); (first | subst h9 | skip); (first | subst h15 | skip); (first | subst h17 | skip); (first | subst h19 | skip); have q := ‹BLQ _ _› x15 (by omega) (by omega); omega)
set_option maxHeartbeats 4000000 in
theorem vc_Fa_uniteAt_at_Grtail_Grhead_Fablock_4_8 (x1 : Int) (x9 : Int) (x15 : Int) (x16 : Int) (x18 : Int) (x19 : Int) (x25 : Int) (x26 : Int) (x28 : Int) (a5_0 : Int → Int) (a3_0 : Int → Int) (a4_0 : Int → Int) (gd : Int) (k1 : 0 ≤ x1 ∧ x1 ≤ 16777215) (k9 : 0 ≤ x9 ∧ x9 ≤ 16777215) (k15 : 0 ≤ x15 ∧ x15 ≤ 47) (k16 : 0 ≤ x16 ∧ x16 ≤ 23) (k18 : 0 ≤ x18 ∧ x18 ≤ 23) (k19 : 0 ≤ x19 ∧ x19 ≤ 23) (k25 : (-1) ≤ x25 ∧ x25 ≤ 47) (k26 : 0 ≤ x26 ∧ x26 ≤ 47) (k28 : 0 ≤ x28 ∧ x28 ≤ 47) (d3 : x9 + (-4294967296) ≤ x1 ∧ x1 ≤ x9 + 0) (d6 : x1 + (-4294967296) ≤ x9 ∧ x9 ≤ x1 + 0) (h3 : x28 = a5_0 (x15)) (h7 : x26 = a5_0 (x15)) (h9 : x25 = a5_0 (x15)) (h15 : x19 = a3_0 (x15)) (h17 : x18 = a4_0 (x15)) (h19 : x16 = a3_0 (x15)) (ed2 : gd = x1) : (-1) * gd + (1 * x1 + 0) ≤ 0 := by
  first
    | omega
    | (skip; (first | subst h3 | skip); (first | subst h7 | skip); (first | subst h9 | skip); (first | subst h15 | skip); (first | subst h17 | skip); (first | subst h19 | skip); have q := ‹BLQ _ _› x15 (by omega) (by omega); omega)
set_option maxHeartbeats 4000000 in
theorem vc_Fa_uniteAt_at_Grtail_Grhead_Fablock_4_9 (x2 : Int) (a5_0 : Int → Int) (k2 : 1 ≤ x2 ∧ x2 ≤ 48) (f21 : BLQ (a5_0) (x2)) : BLQ (a5_0) (x2) := by
  first
    | assumption
  
set_option maxHeartbeats 4000000 in
theorem vc_Fa_uniteAt_at_Grtail_Grhead_Fablock_4_10 (x15 : Int) (x16 : Int) (x18 : Int) (x19 : Int) (x25 : Int) (x26 : Int) (x27 : Int) (x28 : Int) (x29 : Int) (a5_0 : Int → Int) (a3_0 : Int → Int) (a4_0 : Int → Int) (k15 : 0 ≤ x15 ∧ x15 ≤ 47) (k16 : 0 ≤ x16 ∧ x16 ≤ 23) (k18 : 0 ≤ x18 ∧ x18 ≤ 23) (k19 : 0 ≤ x19 ∧ x19 ≤ 23) (k25 : (-1) ≤ x25 ∧ x25 ≤ 47) (k26 : 0 ≤ x26 ∧ x26 ≤ 47) (k27 : 0 ≤ x27 ∧ x27 ≤ 47) (k28 : 0 ≤ x28 ∧ x28 ≤ 47) (k29 : 0 ≤ x29 ∧ x29 ≤ 47) (f1 : (-1) * x28 + (1 * x29 + 0) ≤ 0) (h3 : x28 = a5_0 (x15)) (f5 : 1 * x26 + ((-1) * x27 + 0) ≤ 0) (h7 : x26 = a5_0 (x15)) (h9 : x25 = a5_0 (x15)) (h15 : x19 = a3_0 (x15)) (h17 : x18 = a4_0 (x15)) (h19 : x16 = a3_0 (x15)) : (0 ≤ x29) ∧ (x29 ≤ x27) := by
  first
    | omega
    | (skip; (first | subst h3 | skip); (first | subst h7 | skip); (first | subst h9 | skip); (first | subst h15 | skip); (first | subst h17 | skip); (first | subst h19 | skip); have q := ‹BLQ _ _› x15 (by omega) (by omega); omega)
set_option maxHeartbeats 4000000 in
theorem vc_Fa_uniteAt_at_Grtail_Grhead_Fablock_4_11 (x0 : Int) (x2 : Int) (x8 : Int) (x14 : Int) (x15 : Int) (x16 : Int) (x18 : Int) (x22 : Int) (x24 : Int) (x25 : Int) (x26 : Int) (x27 : Int) (x28 : Int) (x29 : Int) (a5_0 : Int → Int) (a3_0 : Int → Int) (a4_0 : Int → Int) (gu : Int) (k0 : 0 ≤ x0 ∧ x0 ≤ 23) (k2 : 1 ≤ x2 ∧ x2 ≤ 48) (k8 : 0 ≤ x8 ∧ x8 ≤ 23) (k14 : 0 ≤ x14 ∧ x14 ≤ 47) (k15 : 0 ≤ x15 ∧ x15 ≤ 47) (k16 : 0 ≤ x16 ∧ x16 ≤ 23) (k18 : 0 ≤ x18 ∧ x18 ≤ 23) (k22 : 1 ≤ x22 ∧ x22 ≤ 1) (k24 : (-1) ≤ x24 ∧ x24 ≤ (-1)) (k25 : (-1) ≤ x25 ∧ x25 ≤ 47) (k26 : 0 ≤ x26 ∧ x26 ≤ 47) (k27 : 0 ≤ x27 ∧ x27 ≤ 47) (k28 : 0 ≤ x28 ∧ x28 ≤ 47) (k29 : 0 ≤ x29 ∧ x29 ≤ 47) (d0 : x8 + 0 ≤ x18 ∧ x18 ≤ x8 + 0) (d2 : x8 + (-4294967296) ≤ x0 ∧ x0 ≤ x8 + 0) (d5 : x0 + (-4294967296) ≤ x8 ∧ x8 ≤ x0 + 0) (f0 : (-1) * x14 + (1 * x29 + 0) ≤ 0) (f1 : (-1) * x28 + (1 * x29 + 0) ≤ 0) (f2 : (x29 = x14) ∨ (x29 = x28)) (h3 : x28 = a5_0 (x15)) (f4 : 1 * x14 + ((-1) * x27 + 0) ≤ 0) (f5 : 1 * x26 + ((-1) * x27 + 0) ≤ 0) (f6 : (x27 = x14) ∨ (x27 = x26)) (h7 : x26 = a5_0 (x15)) (f8 : x25 ≠ x14) (h9 : x25 = a5_0 (x15)) (f10 : x14 ≠ x24) (f11 : x22 ≠ 0) (h17 : x18 = a4_0 (x15)) (f18 : x16 ≠ x0) (f20 : x15 < x2) (f22 : UNI (a5_0) (a3_0) (a4_0) (x2) (x0) (x14)) (eu2 : gu = x0) : RLP (a5_0) (a3_0) (a4_0) (x2) (x27) (x29) (gu) := by
  first
    | (rw [show gu = x0 by omega]; exact uni_rlp (e := x15) ‹UNI _ _ _ _ _ _› (by omega) rfl (by omega) (by omega) (by omega) (by first | exact Or.inl (by omega) | exact Or.inr (by omega)) (by omega) (by omega) (by omega) (by omega) (by omega) (by omega))
  
set_option maxHeartbeats 4000000 in
theorem vc_Fa_uniteAt_at_Grtail_Grhead_Fablock_4_12 (x0 : Int) (x1 : Int) (x2 : Int) (x7 : Int) (x8 : Int) (x14 : Int) (x15 : Int) (x16 : Int) (x18 : Int) (x19 : Int) (x20 : Int) (x21 : Int) (x22 : Int) (x24 : Int) (x25 : Int) (x26 : Int) (x27 : Int) (x28 : Int) (x29 : Int) (a5_0 : Int → Int) (a3_0 : Int → Int) (a4_0 : Int → Int) (a6_0 : Int → Int) (gu : Int) (gc : Int) (gd : Int) (k0 : 0 ≤ x0 ∧ x0 ≤ 23) (k1 : 0 ≤ x1 ∧ x1 ≤ 16777215) (k2 : 1 ≤ x2 ∧ x2 ≤ 48) (k7 : 0 ≤ x7 ∧ x7 ≤ 25) (k8 : 0 ≤ x8 ∧ x8 ≤ 23) (k14 : 0 ≤ x14 ∧ x14 ≤ 47) (k15 : 0 ≤ x15 ∧ x15 ≤ 47) (k16 : 0 ≤ x16 ∧ x16 ≤ 23) (k18 : 0 ≤ x18 ∧ x18 ≤ 23) (k19 : 0 ≤ x19 ∧ x19 ≤ 23) (k20 : 0 ≤ x20 ∧ x20 ≤ 16777215) (k21 : 1 ≤ x21 ∧ x21 ≤ 1) (k22 : 1 ≤ x22 ∧ x22 ≤ 1) (k24 : (-1) ≤ x24 ∧ x24 ≤ (-1)) (k25 : (-1) ≤ x25 ∧ x25 ≤ 47) (k26 : 0 ≤ x26 ∧ x26 ≤ 47) (k27 : 0 ≤ x27 ∧ x27 ≤ 47) (k28 : 0 ≤ x28 ∧ x28 ≤ 47) (k29 : 0 ≤ x29 ∧ x29 ≤ 47) (d0 : x8 + 0 ≤ x18 ∧ x18 ≤ x8 + 0) (d2 : x8 + (-4294967296) ≤ x0 ∧ x0 ≤ x8 + 0) (d5 : x0 + (-4294967296) ≤ x8 ∧ x8 ≤ x0 + 0) (f0 : (-1) * x14 + (1 * x29 + 0) ≤ 0) (f1 : (-1) * x28 + (1 * x29 + 0) ≤ 0) (f2 : (x29 = x14) ∨ (x29 = x28)) (h3 : x28 = a5_0 (x15)) (f4 : 1 * x14 + ((-1) * x27 + 0) ≤ 0) (f5 : 1 * x26 + ((-1) * x27 + 0) ≤ 0) (f6 : (x27 = x14) ∨ (x27 = x26)) (h7 : x26 = a5_0 (x15)) (f8 : x25 ≠ x14) (h9 : x25 = a5_0 (x15)) (f10 : x14 ≠ x24) (f11 : x22 ≠ 0) (f13 : bvp (x22) = bvp (x20) &&& bvp (x21)) (f14 : bvp (x20) = bvp (x1) >>> (x19).toNat) (h15 : x19 = a3_0 (x15)) (h17 : x18 = a4_0 (x15)) (f18 : x16 ≠ x0) (f20 : x15 < x2) (f23 : UN2 (a5_0) (a3_0) (a4_0) (a6_0) (x7) (x2) (x0) (x1) (x14)) (eu2 : gu = x0) (ec2 : gc = x7) (ed2 : gd = x1) : QKP (a5_0) (a3_0) (a4_0) (a6_0) (gc) (x2) (gu) (gd) (x27) (x29) := by
  first
    | (rw [show gu = x0 by omega, show gc = x7 by omega, show gd = x1 by omega]; exact un2_qkp (e := x15) ‹UN2 _ _ _ _ _ _ _ _ _› (by omega) rfl (by omega) (by omega) (by omega) (by first | exact Or.inl ⟨by omega, by omega, by rw [← ‹x17 = a4_0 x15›]; exact (bit_one (s := x1) (t := x18) (c := x20) (v := x17) (one := x19) (by assumption) (by assumption) (by omega) (by omega) (by omega) (by omega)).mpr (by omega)⟩ | exact Or.inr ⟨by omega, by omega, by rw [← ‹x19 = a3_0 x15›]; exact (bit_one (s := x1) (t := x20) (c := x22) (v := x19) (one := x21) (by assumption) (by assumption) (by omega) (by omega) (by omega) (by omega)).mpr (by omega)⟩ | exact Or.inr ⟨by omega, by omega, by rw [← ‹x23 = a3_0 x15›]; exact (bit_one (s := x1) (t := x24) (c := x26) (v := x23) (one := x25) (by assumption) (by assumption) (by omega) (by omega) (by omega) (by omega)).mpr (by omega)⟩) (by omega) (by omega) (by omega) (by omega) (by omega) (by omega))
  
set_option maxHeartbeats 4000000 in
theorem vc_Fa_uniteAt_at_Grtail_Grhead_Fablock_4_13 (x0 : Int) (x15 : Int) (x16 : Int) (x18 : Int) (x19 : Int) (x25 : Int) (x26 : Int) (x28 : Int) (a5_0 : Int → Int) (a3_0 : Int → Int) (a4_0 : Int → Int) (gu : Int) (k0 : 0 ≤ x0 ∧ x0 ≤ 23) (k15 : 0 ≤ x15 ∧ x15 ≤ 47) (k16 : 0 ≤ x16 ∧ x16 ≤ 23) (k18 : 0 ≤ x18 ∧ x18 ≤ 23) (k19 : 0 ≤ x19 ∧ x19 ≤ 23) (k25 : (-1) ≤ x25 ∧ x25 ≤ 47) (k26 : 0 ≤ x26 ∧ x26 ≤ 47) (k28 : 0 ≤ x28 ∧ x28 ≤ 47) (h3 : x28 = a5_0 (x15)) (h7 : x26 = a5_0 (x15)) (h9 : x25 = a5_0 (x15)) (h15 : x19 = a3_0 (x15)) (h17 : x18 = a4_0 (x15)) (h19 : x16 = a3_0 (x15)) (eu2 : gu = x0) : gu = x0 := by
  first
    | omega
    | (skip; (first | subst h3 | skip); (first | subst h7 | skip); (first | subst h9 | skip); (first | subst h15 | skip); (first | subst h17 | skip); (first | subst h19 | skip); have q := ‹BLQ _ _› x15 (by omega) (by omega); omega)
set_option maxHeartbeats 4000000 in
theorem vc_Fa_uniteAt_at_Grtail_Grhead_Fablock_4_14 (x15 : Int) (x16 : Int) (x18 : Int) (x19 : Int) (x25 : Int) (x26 : Int) (x28 : Int) (x29 : Int) (a5_0 : Int → Int) (a3_0 : Int → Int) (a4_0 : Int → Int) (k15 : 0 ≤ x15 ∧ x15 ≤ 47) (k16 : 0 ≤ x16 ∧ x16 ≤ 23) (k18 : 0 ≤ x18 ∧ x18 ≤ 23) (k19 : 0 ≤ x19 ∧ x19 ≤ 23) (k25 : (-1) ≤ x25 ∧ x25 ≤ 47) (k26 : 0 ≤ x26 ∧ x26 ≤ 47) (k28 : 0 ≤ x28 ∧ x28 ≤ 47) (k29 : 0 ≤ x29 ∧ x29 ≤ 47) (h3 : x28 = a5_0 (x15)) (h7 : x26 = a5_0 (x15)) (h9 : x25 = a5_0 (x15)) (h15 : x19 = a3_0 (x15)) (h17 : x18 = a4_0 (x15)) (h19 : x16 = a3_0 (x15)) : 0 ≤ x29 := by
  first
    | omega
    | (skip; (first | subst h3 | skip); (first | subst h7 | skip); (first | subst h9 | skip); (first | subst h15 | skip); (first | subst h17 | skip); (first | subst h19 | skip); have q := ‹BLQ _ _› x15 (by omega) (by omega); omega)
set_option maxHeartbeats 4000000 in
theorem vc_Fa_uniteAt_at_Grtail_Grhead_Fablock_4_15 (x7 : Int) (x15 : Int) (x16 : Int) (x18 : Int) (x19 : Int) (x25 : Int) (x26 : Int) (x28 : Int) (a5_0 : Int → Int) (a3_0 : Int → Int) (a4_0 : Int → Int) (gc : Int) (k7 : 0 ≤ x7 ∧ x7 ≤ 25) (k15 : 0 ≤ x15 ∧ x15 ≤ 47) (k16 : 0 ≤ x16 ∧ x16 ≤ 23) (k18 : 0 ≤ x18 ∧ x18 ≤ 23) (k19 : 0 ≤ x19 ∧ x19 ≤ 23) (k25 : (-1) ≤ x25 ∧ x25 ≤ 47) (k26 : 0 ≤ x26 ∧ x26 ≤ 47) (k28 : 0 ≤ x28 ∧ x28 ≤ 47) (h3 : x28 = a5_0 (x15)) (h7 : x26 = a5_0 (x15)) (h9 : x25 = a5_0 (x15)) (h15 : x19 = a3_0 (x15)) (h17 : x18 = a4_0 (x15)) (h19 : x16 = a3_0 (x15)) (ec2 : gc = x7) : gc = x7 := by
  first
    | omega
    | (skip; (first | subst h3 | skip); (first | subst h7 | skip); (first | subst h9 | skip); (first | subst h15 | skip); (first | subst h17 | skip); (first | subst h19 | skip); have q := ‹BLQ _ _› x15 (by omega) (by omega); omega)
set_option maxHeartbeats 4000000 in
theorem vc_Fa_uniteAt_at_Grtail_Grhead_Fablock_4_16 (x1 : Int) (x15 : Int) (x16 : Int) (x18 : Int) (x19 : Int) (x25 : Int) (x26 : Int) (x28 : Int) (a5_0 : Int → Int) (a3_0 : Int → Int) (a4_0 : Int → Int) (gd : Int) (k1 : 0 ≤ x1 ∧ x1 ≤ 16777215) (k15 : 0 ≤ x15 ∧ x15 ≤ 47) (k16 : 0 ≤ x16 ∧ x16 ≤ 23) (k18 : 0 ≤ x18 ∧ x18 ≤ 23) (k19 : 0 ≤ x19 ∧ x19 ≤ 23) (k25 : (-1) ≤ x25 ∧ x25 ≤ 47) (k26 : 0 ≤ x26 ∧ x26 ≤ 47) (k28 : 0 ≤ x28 ∧ x28 ≤ 47) (h3 : x28 = a5_0 (x15)) (h7 : x26 = a5_0 (x15)) (h9 : x25 = a5_0 (x15)) (h15 : x19 = a3_0 (x15)) (h17 : x18 = a4_0 (x15)) (h19 : x16 = a3_0 (x15)) (ed2 : gd = x1) : gd = x1 := by
  first
    | omega
    | (skip; (first | subst h3 | skip); (first | subst h7 | skip); (first | subst h9 | skip); (first | subst h15 | skip); (first | subst h17 | skip); (first | subst h19 | skip); have q := ‹BLQ _ _› x15 (by omega) (by omega); omega)
def o_Fa_uniteAt_at_Grtail_Grhead_Fablock_4 : or_T := (136, 30, [(0, (0, 0, 23, [])), (1, (0, 0, 16777215, [])), (2, (0, 1, 48, [])), (3, (2, 0, 0, [52])), (4, (2, 0, 0, [53])), (5, (2, 0, 0, [38])), (6, (2, 0, 0, [59])), (7, (0, 0, 25, [])), (8, (0, 0, 23, [])), (9, (0, 0, 16777215, [])), (10, (0, 1, 48, [])), (11, (2, 0, 0, [52])), (12, (2, 0, 0, [53])), (13, (2, 0, 0, [38])), (14, (0, 0, 47, [])), (15, (0, 0, 47, [])), (16, (0, 0, 23, [])), (18, (0, 0, 23, [])), (19, (0, 0, 23, [])), (20, (0, 0, 16777215, [])), (21, (0, 1, 1, [])), (22, (0, 1, 1, [])), (24, (0, -1, -1, [])), (25, (0, -1, 47, [])), (26, (0, 0, 47, [])), (27, (0, 0, 47, [])), (28, (0, 0, 47, [])), (29, (0, 0, 47, []))], [(23, [14, 29], [0, -1, 1]), (23, [28, 29], [0, -1, 1]), (20, [29, 14, 28], [50, 0, 0, 3, 6, 1, 2, 1, 0, 1, 1, 1, 2, 1, 0, 1, 2]), (10, [28, 13, 15], []), (23, [14, 27], [0, 1, -1]), (23, [26, 27], [0, 1, -1]), (20, [27, 14, 26], [50, 0, 0, 3, 6, 1, 2, 1, 0, 1, 1, 1, 2, 1, 0, 1, 2]), (10, [26, 13, 15], []), (7, [25, 14], [1]), (10, [25, 13, 15], []), (7, [14, 24], [1]), (8, [22], [1]), (12, [22, 20], [2]), (16, [22, 20, 21], [0]), (16, [20, 9, 19], [4]), (10, [19, 11, 15], []), (7, [18, 8], [0]), (10, [18, 12, 15], []), (7, [16, 8], [1]), (10, [16, 11, 15], []), (7, [15, 10], [2]), (20, [13, 10], [61, 1, 566]), (20, [13, 11, 12, 10, 8, 14], [61, 3, 584]), (20, [13, 11, 12, 6, 7, 10, 8, 9, 14], [61, 4, 589]), (24, [0, 8], []), (24, [1, 9], []), (24, [2, 10], []), (24, [3, 11], []), (24, [4, 12], []), (24, [5, 13], [])], [], [(2, 0, 0, [52]), (2, 0, 0, [53]), (0, 0, 24, []), (2, 0, 0, [59]), (0, 0, 25, []), (0, -2147483648, 2147483647, [])], [(24, [3, 30], []), (24, [4, 31], []), (23, [32, 8], [0, 1, -1]), (23, [32, 8], [0, -1, 1]), (24, [6, 33], []), (23, [34, 7], [0, 1, -1]), (23, [34, 7], [0, -1, 1]), (23, [35, 9], [0, 1, -1]), (23, [35, 9], [0, -1, 1]), (20, [13, 10], [61, 1, 566]), (20, [29, 27], [50, 0, 0, 2, 6, 0, 2, 0, 0, 1, 0, 0, 2, 1, 0, 1, 1]), (20, [13, 30, 31, 10, 27, 29, 32], [61, 3, 581]), (20, [13, 30, 31, 33, 34, 10, 32, 35, 27, 29], [61, 4, 590]), (20, [32, 8], [50, 0, 0, 1, 2, 1, 0, 1, 1]), (20, [29], [50, 0, 0, 0, 2, 0, 0, 1, 0]), (20, [34, 7], [50, 0, 0, 1, 2, 1, 0, 1, 1]), (20, [35, 9], [50, 0, 0, 1, 2, 1, 0, 1, 1])], [], [(18, 8, 0, 0), (15, 10, -4294967296, -1), (0, 8, -4294967296, 0), (1, 9, -4294967296, 0), (2, 10, -4294967296, 0), (8, 0, -4294967296, 0), (9, 1, -4294967296, 0), (10, 2, -4294967296, 0), (14, 15, -4294967296, 46), (15, 2, -4294967296, 0), (15, 10, -4294967296, 0)])
theorem oo_Fa_uniteAt_at_Grtail_Grhead_Fablock_4 {kA : Nat → ClassId} : or_ok PRD kA GG o_Fa_uniteAt_at_Grtail_Grhead_Fablock_4 := by
  refine or_mk fun A ta ws vs hD hth hl => ?_
  intro t0 k0 t1 k1 t2 k2 t3 r3 t4 r4 t5 r5 t6 r6 t7 k7 t8 k8 t9 k9 t10 k10 t11 r11 t12 r12 t13 r13 t14 k14 t15 k15 t16 k16 t18 k18 t19 k19 t20 k20 t21 k21 t22 k22 t24 k24 t25 k25 t26 k26 t27 k27 t28 k28 t29 k29 d0 d1 d2 d3 d4 d5 d6 d7 d8 d9 d10 f0 f1 f2 f3 f4 f5 f6 f7 f8 f9 f10 f11 f12 f13 f14 f15 f16 f17 f18 f19 f20 f21 f22 f23 f24 f25 f26 f27 f28 f29
  replace f0 := shm_22 f0
  replace f1 := shm_22 f1
  replace f2 := shm_898 f2
  replace f3 := shm_107 f3
  replace f4 := shm_7 f4
  replace f5 := shm_7 f5
  replace f6 := shm_898 f6
  replace f7 := shm_107 f7
  replace f8 := shm_40 f8
  replace f9 := shm_107 f9
  replace f10 := shm_40 f10
  replace f11 := shm_142 f11
  replace f13 := shm_11 f13
  replace f14 := shm_13 f14
  replace f15 := shm_107 f15
  replace f17 := shm_107 f17
  replace f18 := shm_40 f18
  replace f19 := shm_107 f19
  replace f20 := shm_6 f20
  replace f21 := shm_365 f21
  replace f22 := shm_1193 f22
  replace f23 := shm_1194 f23
  replace f24 := shm_5 f24
  replace f25 := shm_5 f25
  replace f26 := shm_5 f26
  replace f27 := shm_5 f27
  replace f28 := shm_5 f28
  replace f29 := shm_5 f29
  have q8 : n_v vs 8 = n_v vs 0 := f24.symm
  have q9 : n_v vs 9 = n_v vs 1 := f25.symm
  have q10 : n_v vs 10 = n_v vs 2 := f26.symm
  have q11 : n_v vs 11 = n_v vs 3 := f27.symm
  have q12 : n_v vs 12 = n_v vs 4 := f28.symm
  have q13 : n_v vs 13 = n_v vs 5 := f29.symm
  simp only [q13, q9, q11, q8, q12, q10] at f3 f7 f9 f14 f15 f17 f18 f19 f20 f21 f22 f23
  have h3 : v_iv (n_v vs 28) = w_ei ws (v_ad (n_v vs 5)) (v_iv (n_v vs 15)) := f3
  have h7 : v_iv (n_v vs 26) = w_ei ws (v_ad (n_v vs 5)) (v_iv (n_v vs 15)) := f7
  have h9 : v_iv (n_v vs 25) = w_ei ws (v_ad (n_v vs 5)) (v_iv (n_v vs 15)) := f9
  have h15 : v_iv (n_v vs 19) = w_ei ws (v_ad (n_v vs 3)) (v_iv (n_v vs 15)) := f15
  have h17 : v_iv (n_v vs 18) = w_ei ws (v_ad (n_v vs 4)) (v_iv (n_v vs 15)) := f17
  have h19 : v_iv (n_v vs 16) = w_ei ws (v_ad (n_v vs 3)) (v_iv (n_v vs 15)) := f19
  obtain ⟨u, eu, hu⟩ := iv_ex (ta := ta) (lo := 0) (hi := 24) (z := v_iv (n_v vs 0)) (by omega) (by omega) (by omega) (by omega)
  have eu2 : v_iv (Value.int u) = v_iv (n_v vs 0) := eu
  have eu3 : 0 ≤ v_iv (Value.int u) ∧ v_iv (Value.int u) ≤ 24 := tv_rng hu
  obtain ⟨c, ec, hc⟩ := iv_ex (ta := ta) (lo := 0) (hi := 25) (z := v_iv (n_v vs 7)) (by omega) (by omega) (by omega) (by omega)
  have ec2 : v_iv (Value.int c) = v_iv (n_v vs 7) := ec
  have ec3 : 0 ≤ v_iv (Value.int c) ∧ v_iv (Value.int c) ≤ 25 := tv_rng hc
  obtain ⟨d, ed, hd⟩ := iv_ex (ta := ta) (lo := (-2147483648)) (hi := 2147483647) (z := v_iv (n_v vs 1)) (by omega) (by omega) (by omega) (by omega)
  have ed2 : v_iv (Value.int d) = v_iv (n_v vs 1) := ed
  have ed3 : (-2147483648) ≤ v_iv (Value.int d) ∧ v_iv (Value.int d) ≤ 2147483647 := tv_rng hd
  have e_3 : n_v (vs ++ [n_v vs 3, n_v vs 4, Value.int u, n_v vs 6, Value.int c, Value.int d]) 3 = n_v vs 3 := n_v_old (by rw [hl]; decide)
  have e_4 : n_v (vs ++ [n_v vs 3, n_v vs 4, Value.int u, n_v vs 6, Value.int c, Value.int d]) 4 = n_v vs 4 := n_v_old (by rw [hl]; decide)
  have e_6 : n_v (vs ++ [n_v vs 3, n_v vs 4, Value.int u, n_v vs 6, Value.int c, Value.int d]) 6 = n_v vs 6 := n_v_old (by rw [hl]; decide)
  have e_7 : n_v (vs ++ [n_v vs 3, n_v vs 4, Value.int u, n_v vs 6, Value.int c, Value.int d]) 7 = n_v vs 7 := n_v_old (by rw [hl]; decide)
  have e_8 : n_v (vs ++ [n_v vs 3, n_v vs 4, Value.int u, n_v vs 6, Value.int c, Value.int d]) 8 = n_v vs 8 := n_v_old (by rw [hl]; decide)
  have e_9 : n_v (vs ++ [n_v vs 3, n_v vs 4, Value.int u, n_v vs 6, Value.int c, Value.int d]) 9 = n_v vs 9 := n_v_old (by rw [hl]; decide)
  have e_10 : n_v (vs ++ [n_v vs 3, n_v vs 4, Value.int u, n_v vs 6, Value.int c, Value.int d]) 10 = n_v vs 10 := n_v_old (by rw [hl]; decide)
  have e_13 : n_v (vs ++ [n_v vs 3, n_v vs 4, Value.int u, n_v vs 6, Value.int c, Value.int d]) 13 = n_v vs 13 := n_v_old (by rw [hl]; decide)
  have e_27 : n_v (vs ++ [n_v vs 3, n_v vs 4, Value.int u, n_v vs 6, Value.int c, Value.int d]) 27 = n_v vs 27 := n_v_old (by rw [hl]; decide)
  have e_29 : n_v (vs ++ [n_v vs 3, n_v vs 4, Value.int u, n_v vs 6, Value.int c, Value.int d]) 29 = n_v vs 29 := n_v_old (by rw [hl]; decide)
  have e_30 : n_v (vs ++ [n_v vs 3, n_v vs 4, Value.int u, n_v vs 6, Value.int c, Value.int d]) 30 = n_v vs 3 := n_v_newk (k := 0) hl rfl
  have e_31 : n_v (vs ++ [n_v vs 3, n_v vs 4, Value.int u, n_v vs 6, Value.int c, Value.int d]) 31 = n_v vs 4 := n_v_newk (k := 1) hl rfl
  have e_32 : n_v (vs ++ [n_v vs 3, n_v vs 4, Value.int u, n_v vs 6, Value.int c, Value.int d]) 32 = Value.int u := n_v_newk (k := 2) hl rfl
  have e_33 : n_v (vs ++ [n_v vs 3, n_v vs 4, Value.int u, n_v vs 6, Value.int c, Value.int d]) 33 = n_v vs 6 := n_v_newk (k := 3) hl rfl
  have e_34 : n_v (vs ++ [n_v vs 3, n_v vs 4, Value.int u, n_v vs 6, Value.int c, Value.int d]) 34 = Value.int c := n_v_newk (k := 4) hl rfl
  have e_35 : n_v (vs ++ [n_v vs 3, n_v vs 4, Value.int u, n_v vs 6, Value.int c, Value.int d]) 35 = Value.int d := n_v_newk (k := 5) hl rfl
  have nf0 : fc_1 PRD (24, [3, 30], []) ws (vs ++ [n_v vs 3, n_v vs 4, Value.int u, n_v vs 6, Value.int c, Value.int d]) := by
    refine ⟨nf_inA hl rfl, sgq_5 ?_⟩
    · show n_v (vs ++ [n_v vs 3, n_v vs 4, Value.int u, n_v vs 6, Value.int c, Value.int d]) 3 = n_v (vs ++ [n_v vs 3, n_v vs 4, Value.int u, n_v vs 6, Value.int c, Value.int d]) 30
      first | rfl | simp only [e_3, e_30, q8, q9, q10, q11, q12, q13]
  have nf1 : fc_1 PRD (24, [4, 31], []) ws (vs ++ [n_v vs 3, n_v vs 4, Value.int u, n_v vs 6, Value.int c, Value.int d]) := by
    refine ⟨nf_inA hl rfl, sgq_5 ?_⟩
    · show n_v (vs ++ [n_v vs 3, n_v vs 4, Value.int u, n_v vs 6, Value.int c, Value.int d]) 4 = n_v (vs ++ [n_v vs 3, n_v vs 4, Value.int u, n_v vs 6, Value.int c, Value.int d]) 31
      first | rfl | simp only [e_4, e_31, q8, q9, q10, q11, q12, q13]
  have nf2 : fc_1 PRD (23, [32, 8], [0, 1, -1]) ws (vs ++ [n_v vs 3, n_v vs 4, Value.int u, n_v vs 6, Value.int c, Value.int d]) := by
    refine ⟨nf_inA hl rfl, sgq_7 ?_⟩
    · show 1 * v_iv (n_v (vs ++ [n_v vs 3, n_v vs 4, Value.int u, n_v vs 6, Value.int c, Value.int d]) 32) + ((-1) * v_iv (n_v (vs ++ [n_v vs 3, n_v vs 4, Value.int u, n_v vs 6, Value.int c, Value.int d]) 8) + 0) ≤ 0
      simp only [e_8, e_32, q8]
      exact vc_Fa_uniteAt_at_Grtail_Grhead_Fablock_4_2 (v_iv (n_v vs 0)) (v_iv (n_v vs 8)) (v_iv (n_v vs 15)) (v_iv (n_v vs 16)) (v_iv (n_v vs 18)) (v_iv (n_v vs 19)) (v_iv (n_v vs 25)) (v_iv (n_v vs 26)) (v_iv (n_v vs 28)) (w_ei ws (v_ad (n_v vs 5))) (w_ei ws (v_ad (n_v vs 3))) (w_ei ws (v_ad (n_v vs 4))) (v_iv (Value.int u)) k0 k8 k15 k16 k18 k19 k25 k26 k28 d0 d2 d5 h3 h7 h9 h15 h17 h19 eu2
  have nf3 : fc_1 PRD (23, [32, 8], [0, -1, 1]) ws (vs ++ [n_v vs 3, n_v vs 4, Value.int u, n_v vs 6, Value.int c, Value.int d]) := by
    refine ⟨nf_inA hl rfl, sgq_22 ?_⟩
    · show (-1) * v_iv (n_v (vs ++ [n_v vs 3, n_v vs 4, Value.int u, n_v vs 6, Value.int c, Value.int d]) 32) + (1 * v_iv (n_v (vs ++ [n_v vs 3, n_v vs 4, Value.int u, n_v vs 6, Value.int c, Value.int d]) 8) + 0) ≤ 0
      simp only [e_8, e_32, q8]
      exact vc_Fa_uniteAt_at_Grtail_Grhead_Fablock_4_3 (v_iv (n_v vs 0)) (v_iv (n_v vs 8)) (v_iv (n_v vs 15)) (v_iv (n_v vs 16)) (v_iv (n_v vs 18)) (v_iv (n_v vs 19)) (v_iv (n_v vs 25)) (v_iv (n_v vs 26)) (v_iv (n_v vs 28)) (w_ei ws (v_ad (n_v vs 5))) (w_ei ws (v_ad (n_v vs 3))) (w_ei ws (v_ad (n_v vs 4))) (v_iv (Value.int u)) k0 k8 k15 k16 k18 k19 k25 k26 k28 d0 d2 d5 h3 h7 h9 h15 h17 h19 eu2
  have nf4 : fc_1 PRD (24, [6, 33], []) ws (vs ++ [n_v vs 3, n_v vs 4, Value.int u, n_v vs 6, Value.int c, Value.int d]) := by
    refine ⟨nf_inA hl rfl, sgq_5 ?_⟩
    · show n_v (vs ++ [n_v vs 3, n_v vs 4, Value.int u, n_v vs 6, Value.int c, Value.int d]) 6 = n_v (vs ++ [n_v vs 3, n_v vs 4, Value.int u, n_v vs 6, Value.int c, Value.int d]) 33
      first | rfl | simp only [e_6, e_33, q8, q9, q10, q11, q12, q13]
  have nf5 : fc_1 PRD (23, [34, 7], [0, 1, -1]) ws (vs ++ [n_v vs 3, n_v vs 4, Value.int u, n_v vs 6, Value.int c, Value.int d]) := by
    refine ⟨nf_inA hl rfl, sgq_7 ?_⟩
    · show 1 * v_iv (n_v (vs ++ [n_v vs 3, n_v vs 4, Value.int u, n_v vs 6, Value.int c, Value.int d]) 34) + ((-1) * v_iv (n_v (vs ++ [n_v vs 3, n_v vs 4, Value.int u, n_v vs 6, Value.int c, Value.int d]) 7) + 0) ≤ 0
      simp only [e_7, e_34]
      exact vc_Fa_uniteAt_at_Grtail_Grhead_Fablock_4_5 (v_iv (n_v vs 7)) (v_iv (n_v vs 15)) (v_iv (n_v vs 16)) (v_iv (n_v vs 18)) (v_iv (n_v vs 19)) (v_iv (n_v vs 25)) (v_iv (n_v vs 26)) (v_iv (n_v vs 28)) (w_ei ws (v_ad (n_v vs 5))) (w_ei ws (v_ad (n_v vs 3))) (w_ei ws (v_ad (n_v vs 4))) (v_iv (Value.int c)) k7 k15 k16 k18 k19 k25 k26 k28 h3 h7 h9 h15 h17 h19 ec2
  have nf6 : fc_1 PRD (23, [34, 7], [0, -1, 1]) ws (vs ++ [n_v vs 3, n_v vs 4, Value.int u, n_v vs 6, Value.int c, Value.int d]) := by
    refine ⟨nf_inA hl rfl, sgq_22 ?_⟩
    · show (-1) * v_iv (n_v (vs ++ [n_v vs 3, n_v vs 4, Value.int u, n_v vs 6, Value.int c, Value.int d]) 34) + (1 * v_iv (n_v (vs ++ [n_v vs 3, n_v vs 4, Value.int u, n_v vs 6, Value.int c, Value.int d]) 7) + 0) ≤ 0
      simp only [e_7, e_34]
      exact vc_Fa_uniteAt_at_Grtail_Grhead_Fablock_4_6 (v_iv (n_v vs 7)) (v_iv (n_v vs 15)) (v_iv (n_v vs 16)) (v_iv (n_v vs 18)) (v_iv (n_v vs 19)) (v_iv (n_v vs 25)) (v_iv (n_v vs 26)) (v_iv (n_v vs 28)) (w_ei ws (v_ad (n_v vs 5))) (w_ei ws (v_ad (n_v vs 3))) (w_ei ws (v_ad (n_v vs 4))) (v_iv (Value.int c)) k7 k15 k16 k18 k19 k25 k26 k28 h3 h7 h9 h15 h17 h19 ec2
  have nf7 : fc_1 PRD (23, [35, 9], [0, 1, -1]) ws (vs ++ [n_v vs 3, n_v vs 4, Value.int u, n_v vs 6, Value.int c, Value.int d]) := by
    refine ⟨nf_inA hl rfl, sgq_7 ?_⟩
    · show 1 * v_iv (n_v (vs ++ [n_v vs 3, n_v vs 4, Value.int u, n_v vs 6, Value.int c, Value.int d]) 35) + ((-1) * v_iv (n_v (vs ++ [n_v vs 3, n_v vs 4, Value.int u, n_v vs 6, Value.int c, Value.int d]) 9) + 0) ≤ 0
      simp only [e_9, e_35, q9]
      exact vc_Fa_uniteAt_at_Grtail_Grhead_Fablock_4_7 (v_iv (n_v vs 1)) (v_iv (n_v vs 9)) (v_iv (n_v vs 15)) (v_iv (n_v vs 16)) (v_iv (n_v vs 18)) (v_iv (n_v vs 19)) (v_iv (n_v vs 25)) (v_iv (n_v vs 26)) (v_iv (n_v vs 28)) (w_ei ws (v_ad (n_v vs 5))) (w_ei ws (v_ad (n_v vs 3))) (w_ei ws (v_ad (n_v vs 4))) (v_iv (Value.int d)) k1 k9 k15 k16 k18 k19 k25 k26 k28 d3 d6 h3 h7 h9 h15 h17 h19 ed2
  have nf8 : fc_1 PRD (23, [35, 9], [0, -1, 1]) ws (vs ++ [n_v vs 3, n_v vs 4, Value.int u, n_v vs 6, Value.int c, Value.int d]) := by
    refine ⟨nf_inA hl rfl, sgq_22 ?_⟩
    · show (-1) * v_iv (n_v (vs ++ [n_v vs 3, n_v vs 4, Value.int u, n_v vs 6, Value.int c, Value.int d]) 35) + (1 * v_iv (n_v (vs ++ [n_v vs 3, n_v vs 4, Value.int u, n_v vs 6, Value.int c, Value.int d]) 9) + 0) ≤ 0
      simp only [e_9, e_35, q9]
      exact vc_Fa_uniteAt_at_Grtail_Grhead_Fablock_4_8 (v_iv (n_v vs 1)) (v_iv (n_v vs 9)) (v_iv (n_v vs 15)) (v_iv (n_v vs 16)) (v_iv (n_v vs 18)) (v_iv (n_v vs 19)) (v_iv (n_v vs 25)) (v_iv (n_v vs 26)) (v_iv (n_v vs 28)) (w_ei ws (v_ad (n_v vs 5))) (w_ei ws (v_ad (n_v vs 3))) (w_ei ws (v_ad (n_v vs 4))) (v_iv (Value.int d)) k1 k9 k15 k16 k18 k19 k25 k26 k28 d3 d6 h3 h7 h9 h15 h17 h19 ed2
  have nf9 : fc_1 PRD (20, [13, 10], [61, 1, 566]) ws (vs ++ [n_v vs 3, n_v vs 4, Value.int u, n_v vs 6, Value.int c, Value.int d]) := by
    refine ⟨nf_inA hl rfl, sgq_365 ?_⟩
    · show BLQ (w_ei ws (v_ad (n_v (vs ++ [n_v vs 3, n_v vs 4, Value.int u, n_v vs 6, Value.int c, Value.int d]) 13))) (v_iv (n_v (vs ++ [n_v vs 3, n_v vs 4, Value.int u, n_v vs 6, Value.int c, Value.int d]) 10))
      simp only [e_10, e_13, q10, q13]
      exact vc_Fa_uniteAt_at_Grtail_Grhead_Fablock_4_9 (v_iv (n_v vs 2)) (w_ei ws (v_ad (n_v vs 5))) k2 f21
  have nf10 : fc_1 PRD (20, [29, 27], [50, 0, 0, 2, 6, 0, 2, 0, 0, 1, 0, 0, 2, 1, 0, 1, 1]) ws (vs ++ [n_v vs 3, n_v vs 4, Value.int u, n_v vs 6, Value.int c, Value.int d]) := by
    refine ⟨nf_inA hl rfl, sgq_366 ?_⟩
    · show (0 ≤ v_iv (n_v (vs ++ [n_v vs 3, n_v vs 4, Value.int u, n_v vs 6, Value.int c, Value.int d]) 29)) ∧ (v_iv (n_v (vs ++ [n_v vs 3, n_v vs 4, Value.int u, n_v vs 6, Value.int c, Value.int d]) 29) ≤ v_iv (n_v (vs ++ [n_v vs 3, n_v vs 4, Value.int u, n_v vs 6, Value.int c, Value.int d]) 27))
      simp only [e_27, e_29]
      exact vc_Fa_uniteAt_at_Grtail_Grhead_Fablock_4_10 (v_iv (n_v vs 15)) (v_iv (n_v vs 16)) (v_iv (n_v vs 18)) (v_iv (n_v vs 19)) (v_iv (n_v vs 25)) (v_iv (n_v vs 26)) (v_iv (n_v vs 27)) (v_iv (n_v vs 28)) (v_iv (n_v vs 29)) (w_ei ws (v_ad (n_v vs 5))) (w_ei ws (v_ad (n_v vs 3))) (w_ei ws (v_ad (n_v vs 4))) k15 k16 k18 k19 k25 k26 k27 k28 k29 f1 h3 f5 h7 h9 h15 h17 h19
  have nf11 : fc_1 PRD (20, [13, 30, 31, 10, 27, 29, 32], [61, 3, 581]) ws (vs ++ [n_v vs 3, n_v vs 4, Value.int u, n_v vs 6, Value.int c, Value.int d]) := by
    refine ⟨nf_inA hl rfl, sgq_367 ?_⟩
    · show RLP (w_ei ws (v_ad (n_v (vs ++ [n_v vs 3, n_v vs 4, Value.int u, n_v vs 6, Value.int c, Value.int d]) 13))) (w_ei ws (v_ad (n_v (vs ++ [n_v vs 3, n_v vs 4, Value.int u, n_v vs 6, Value.int c, Value.int d]) 30))) (w_ei ws (v_ad (n_v (vs ++ [n_v vs 3, n_v vs 4, Value.int u, n_v vs 6, Value.int c, Value.int d]) 31))) (v_iv (n_v (vs ++ [n_v vs 3, n_v vs 4, Value.int u, n_v vs 6, Value.int c, Value.int d]) 10)) (v_iv (n_v (vs ++ [n_v vs 3, n_v vs 4, Value.int u, n_v vs 6, Value.int c, Value.int d]) 27)) (v_iv (n_v (vs ++ [n_v vs 3, n_v vs 4, Value.int u, n_v vs 6, Value.int c, Value.int d]) 29)) (v_iv (n_v (vs ++ [n_v vs 3, n_v vs 4, Value.int u, n_v vs 6, Value.int c, Value.int d]) 32))
      simp only [e_10, e_13, e_27, e_29, e_30, e_31, e_32, q10, q13]
      exact vc_Fa_uniteAt_at_Grtail_Grhead_Fablock_4_11 (v_iv (n_v vs 0)) (v_iv (n_v vs 2)) (v_iv (n_v vs 8)) (v_iv (n_v vs 14)) (v_iv (n_v vs 15)) (v_iv (n_v vs 16)) (v_iv (n_v vs 18)) (v_iv (n_v vs 22)) (v_iv (n_v vs 24)) (v_iv (n_v vs 25)) (v_iv (n_v vs 26)) (v_iv (n_v vs 27)) (v_iv (n_v vs 28)) (v_iv (n_v vs 29)) (w_ei ws (v_ad (n_v vs 5))) (w_ei ws (v_ad (n_v vs 3))) (w_ei ws (v_ad (n_v vs 4))) (v_iv (Value.int u)) k0 k2 k8 k14 k15 k16 k18 k22 k24 k25 k26 k27 k28 k29 d0 d2 d5 f0 f1 f2 h3 f4 f5 f6 h7 f8 h9 f10 f11 h17 f18 f20 f22 eu2
  have nf12 : fc_1 PRD (20, [13, 30, 31, 33, 34, 10, 32, 35, 27, 29], [61, 4, 590]) ws (vs ++ [n_v vs 3, n_v vs 4, Value.int u, n_v vs 6, Value.int c, Value.int d]) := by
    refine ⟨nf_inA hl rfl, sgq_368 ?_⟩
    · show QKP (w_ei ws (v_ad (n_v (vs ++ [n_v vs 3, n_v vs 4, Value.int u, n_v vs 6, Value.int c, Value.int d]) 13))) (w_ei ws (v_ad (n_v (vs ++ [n_v vs 3, n_v vs 4, Value.int u, n_v vs 6, Value.int c, Value.int d]) 30))) (w_ei ws (v_ad (n_v (vs ++ [n_v vs 3, n_v vs 4, Value.int u, n_v vs 6, Value.int c, Value.int d]) 31))) (w_ei ws (v_ad (n_v (vs ++ [n_v vs 3, n_v vs 4, Value.int u, n_v vs 6, Value.int c, Value.int d]) 33))) (v_iv (n_v (vs ++ [n_v vs 3, n_v vs 4, Value.int u, n_v vs 6, Value.int c, Value.int d]) 34)) (v_iv (n_v (vs ++ [n_v vs 3, n_v vs 4, Value.int u, n_v vs 6, Value.int c, Value.int d]) 10)) (v_iv (n_v (vs ++ [n_v vs 3, n_v vs 4, Value.int u, n_v vs 6, Value.int c, Value.int d]) 32)) (v_iv (n_v (vs ++ [n_v vs 3, n_v vs 4, Value.int u, n_v vs 6, Value.int c, Value.int d]) 35)) (v_iv (n_v (vs ++ [n_v vs 3, n_v vs 4, Value.int u, n_v vs 6, Value.int c, Value.int d]) 27)) (v_iv (n_v (vs ++ [n_v vs 3, n_v vs 4, Value.int u, n_v vs 6, Value.int c, Value.int d]) 29))
      simp only [e_10, e_13, e_27, e_29, e_30, e_31, e_32, e_33, e_34, e_35, q10, q13]
      exact vc_Fa_uniteAt_at_Grtail_Grhead_Fablock_4_12 (v_iv (n_v vs 0)) (v_iv (n_v vs 1)) (v_iv (n_v vs 2)) (v_iv (n_v vs 7)) (v_iv (n_v vs 8)) (v_iv (n_v vs 14)) (v_iv (n_v vs 15)) (v_iv (n_v vs 16)) (v_iv (n_v vs 18)) (v_iv (n_v vs 19)) (v_iv (n_v vs 20)) (v_iv (n_v vs 21)) (v_iv (n_v vs 22)) (v_iv (n_v vs 24)) (v_iv (n_v vs 25)) (v_iv (n_v vs 26)) (v_iv (n_v vs 27)) (v_iv (n_v vs 28)) (v_iv (n_v vs 29)) (w_ei ws (v_ad (n_v vs 5))) (w_ei ws (v_ad (n_v vs 3))) (w_ei ws (v_ad (n_v vs 4))) (w_ei ws (v_ad (n_v vs 6))) (v_iv (Value.int u)) (v_iv (Value.int c)) (v_iv (Value.int d)) k0 k1 k2 k7 k8 k14 k15 k16 k18 k19 k20 k21 k22 k24 k25 k26 k27 k28 k29 d0 d2 d5 f0 f1 f2 h3 f4 f5 f6 h7 f8 h9 f10 f11 f13 f14 h15 h17 f18 f20 f23 eu2 ec2 ed2
  have nf13 : fc_1 PRD (20, [32, 8], [50, 0, 0, 1, 2, 1, 0, 1, 1]) ws (vs ++ [n_v vs 3, n_v vs 4, Value.int u, n_v vs 6, Value.int c, Value.int d]) := by
    refine ⟨nf_inA hl rfl, sgq_48 ?_⟩
    · show v_iv (n_v (vs ++ [n_v vs 3, n_v vs 4, Value.int u, n_v vs 6, Value.int c, Value.int d]) 32) = v_iv (n_v (vs ++ [n_v vs 3, n_v vs 4, Value.int u, n_v vs 6, Value.int c, Value.int d]) 8)
      simp only [e_8, e_32, q8]
      exact vc_Fa_uniteAt_at_Grtail_Grhead_Fablock_4_13 (v_iv (n_v vs 0)) (v_iv (n_v vs 15)) (v_iv (n_v vs 16)) (v_iv (n_v vs 18)) (v_iv (n_v vs 19)) (v_iv (n_v vs 25)) (v_iv (n_v vs 26)) (v_iv (n_v vs 28)) (w_ei ws (v_ad (n_v vs 5))) (w_ei ws (v_ad (n_v vs 3))) (w_ei ws (v_ad (n_v vs 4))) (v_iv (Value.int u)) k0 k15 k16 k18 k19 k25 k26 k28 h3 h7 h9 h15 h17 h19 eu2
  have nf14 : fc_1 PRD (20, [29], [50, 0, 0, 0, 2, 0, 0, 1, 0]) ws (vs ++ [n_v vs 3, n_v vs 4, Value.int u, n_v vs 6, Value.int c, Value.int d]) := by
    refine ⟨nf_inA hl rfl, sgq_722 ?_⟩
    · show 0 ≤ v_iv (n_v (vs ++ [n_v vs 3, n_v vs 4, Value.int u, n_v vs 6, Value.int c, Value.int d]) 29)
      rw [e_29]
      exact vc_Fa_uniteAt_at_Grtail_Grhead_Fablock_4_14 (v_iv (n_v vs 15)) (v_iv (n_v vs 16)) (v_iv (n_v vs 18)) (v_iv (n_v vs 19)) (v_iv (n_v vs 25)) (v_iv (n_v vs 26)) (v_iv (n_v vs 28)) (v_iv (n_v vs 29)) (w_ei ws (v_ad (n_v vs 5))) (w_ei ws (v_ad (n_v vs 3))) (w_ei ws (v_ad (n_v vs 4))) k15 k16 k18 k19 k25 k26 k28 k29 h3 h7 h9 h15 h17 h19
  have nf15 : fc_1 PRD (20, [34, 7], [50, 0, 0, 1, 2, 1, 0, 1, 1]) ws (vs ++ [n_v vs 3, n_v vs 4, Value.int u, n_v vs 6, Value.int c, Value.int d]) := by
    refine ⟨nf_inA hl rfl, sgq_48 ?_⟩
    · show v_iv (n_v (vs ++ [n_v vs 3, n_v vs 4, Value.int u, n_v vs 6, Value.int c, Value.int d]) 34) = v_iv (n_v (vs ++ [n_v vs 3, n_v vs 4, Value.int u, n_v vs 6, Value.int c, Value.int d]) 7)
      simp only [e_7, e_34]
      exact vc_Fa_uniteAt_at_Grtail_Grhead_Fablock_4_15 (v_iv (n_v vs 7)) (v_iv (n_v vs 15)) (v_iv (n_v vs 16)) (v_iv (n_v vs 18)) (v_iv (n_v vs 19)) (v_iv (n_v vs 25)) (v_iv (n_v vs 26)) (v_iv (n_v vs 28)) (w_ei ws (v_ad (n_v vs 5))) (w_ei ws (v_ad (n_v vs 3))) (w_ei ws (v_ad (n_v vs 4))) (v_iv (Value.int c)) k7 k15 k16 k18 k19 k25 k26 k28 h3 h7 h9 h15 h17 h19 ec2
  have nf16 : fc_1 PRD (20, [35, 9], [50, 0, 0, 1, 2, 1, 0, 1, 1]) ws (vs ++ [n_v vs 3, n_v vs 4, Value.int u, n_v vs 6, Value.int c, Value.int d]) := by
    refine ⟨nf_inA hl rfl, sgq_48 ?_⟩
    · show v_iv (n_v (vs ++ [n_v vs 3, n_v vs 4, Value.int u, n_v vs 6, Value.int c, Value.int d]) 35) = v_iv (n_v (vs ++ [n_v vs 3, n_v vs 4, Value.int u, n_v vs 6, Value.int c, Value.int d]) 9)
      simp only [e_9, e_35, q9]
      exact vc_Fa_uniteAt_at_Grtail_Grhead_Fablock_4_16 (v_iv (n_v vs 1)) (v_iv (n_v vs 15)) (v_iv (n_v vs 16)) (v_iv (n_v vs 18)) (v_iv (n_v vs 19)) (v_iv (n_v vs 25)) (v_iv (n_v vs 26)) (v_iv (n_v vs 28)) (w_ei ws (v_ad (n_v vs 5))) (w_ei ws (v_ad (n_v vs 3))) (w_ei ws (v_ad (n_v vs 4))) (v_iv (Value.int d)) k1 k15 k16 k18 k19 k25 k26 k28 h3 h7 h9 h15 h17 h19 ed2
  exact ⟨(fun _ h => (by cases h)), [n_v vs 3, n_v vs 4, Value.int u, n_v vs 6, Value.int c, Value.int d], ag_six t3 t4 hu t6 hc hd, List.forall_mem_cons.mpr ⟨⟨show (24 : Nat) < 100 from by decide, nf0⟩, List.forall_mem_cons.mpr ⟨⟨show (24 : Nat) < 100 from by decide, nf1⟩, List.forall_mem_cons.mpr ⟨⟨show (23 : Nat) < 100 from by decide, nf2⟩, List.forall_mem_cons.mpr ⟨⟨show (23 : Nat) < 100 from by decide, nf3⟩, List.forall_mem_cons.mpr ⟨⟨show (24 : Nat) < 100 from by decide, nf4⟩, List.forall_mem_cons.mpr ⟨⟨show (23 : Nat) < 100 from by decide, nf5⟩, List.forall_mem_cons.mpr ⟨⟨show (23 : Nat) < 100 from by decide, nf6⟩, List.forall_mem_cons.mpr ⟨⟨show (23 : Nat) < 100 from by decide, nf7⟩, List.forall_mem_cons.mpr ⟨⟨show (23 : Nat) < 100 from by decide, nf8⟩, List.forall_mem_cons.mpr ⟨⟨show (20 : Nat) < 100 from by decide, nf9⟩, List.forall_mem_cons.mpr ⟨⟨show (20 : Nat) < 100 from by decide, nf10⟩, List.forall_mem_cons.mpr ⟨⟨show (20 : Nat) < 100 from by decide, nf11⟩, List.forall_mem_cons.mpr ⟨⟨show (20 : Nat) < 100 from by decide, nf12⟩, List.forall_mem_cons.mpr ⟨⟨show (20 : Nat) < 100 from by decide, nf13⟩, List.forall_mem_cons.mpr ⟨⟨show (20 : Nat) < 100 from by decide, nf14⟩, List.forall_mem_cons.mpr ⟨⟨show (20 : Nat) < 100 from by decide, nf15⟩, List.forall_mem_cons.mpr ⟨⟨show (20 : Nat) < 100 from by decide, nf16⟩, (fun _ h => (by cases h))⟩⟩⟩⟩⟩⟩⟩⟩⟩⟩⟩⟩⟩⟩⟩⟩⟩, (fun _ h => (by cases h))⟩
set_option maxHeartbeats 4000000 in
theorem vc_Fa_uniteAt_at_Grtail_Grhead_Fablock_5_0 (x0 : Int) (x2 : Int) (x8 : Int) (x15 : Int) (x18 : Int) (x29 : Int) (x32 : Int) (x36 : Int) (a5_0 : Int → Int) (a3_0 : Int → Int) (a4_0 : Int → Int) (k0 : 0 ≤ x0 ∧ x0 ≤ 23) (k2 : 1 ≤ x2 ∧ x2 ≤ 48) (k8 : 0 ≤ x8 ∧ x8 ≤ 23) (k18 : 0 ≤ x18 ∧ x18 ≤ 23) (k29 : 0 ≤ x29 ∧ x29 ≤ 47) (k32 : 0 ≤ x32 ∧ x32 ≤ 24) (d4 : x8 + 0 ≤ x18 ∧ x18 ≤ x8 + 0) (d6 : x8 + (-4294967296) ≤ x0 ∧ x0 ≤ x8 + 0) (d9 : x0 + (-4294967296) ≤ x8 ∧ x8 ≤ x0 + 0) (f3 : 1 * x32 + ((-1) * x0 + 0) ≤ 0) (f4 : (-1) * x32 + (1 * x0 + 0) ≤ 0) (f12 : 0 ≤ x29) (f28 : RLO (a5_0) (a3_0) (a4_0) (x2) (x29) (x32)) : UNI (a5_0) (a3_0) (a4_0) (x2) (x0) (x29) := by
  first
    | (have q := (‹RLO _ _ _ _ _ _›); have h1 := uni_back q (by omega); rw [show x0 = x32 by omega]; exact h1)
    | (have q := (‹RLO _ _ _ _ _ _›); have h1 := uni_back q (by omega); rw [show x0 = x36 by omega]; exact h1)
    | (have q := (‹RLO _ _ _ _ _ _›); have h1 := uni_back q (by omega); rw [show x0 = x30 by omega]; exact h1)
set_option maxHeartbeats 4000000 in
theorem vc_Fa_uniteAt_at_Grtail_Grhead_Fablock_5_1 (x0 : Int) (x1 : Int) (x2 : Int) (x7 : Int) (x8 : Int) (x9 : Int) (x15 : Int) (x18 : Int) (x24 : Int) (x25 : Int) (x26 : Int) (x29 : Int) (x32 : Int) (x34 : Int) (x35 : Int) (x36 : Int) (a5_0 : Int → Int) (a3_0 : Int → Int) (a4_0 : Int → Int) (a6_0 : Int → Int) (k0 : 0 ≤ x0 ∧ x0 ≤ 23) (k1 : 0 ≤ x1 ∧ x1 ≤ 16777215) (k2 : 1 ≤ x2 ∧ x2 ≤ 48) (k7 : 0 ≤ x7 ∧ x7 ≤ 25) (k8 : 0 ≤ x8 ∧ x8 ≤ 23) (k9 : 0 ≤ x9 ∧ x9 ≤ 16777215) (k18 : 0 ≤ x18 ∧ x18 ≤ 23) (k29 : 0 ≤ x29 ∧ x29 ≤ 47) (k32 : 0 ≤ x32 ∧ x32 ≤ 24) (k34 : 0 ≤ x34 ∧ x34 ≤ 25) (k35 : (-2147483648) ≤ x35 ∧ x35 ≤ 2147483647) (d4 : x8 + 0 ≤ x18 ∧ x18 ≤ x8 + 0) (d6 : x8 + (-4294967296) ≤ x0 ∧ x0 ≤ x8 + 0) (d7 : x9 + (-4294967296) ≤ x1 ∧ x1 ≤ x9 + 0) (d9 : x0 + (-4294967296) ≤ x8 ∧ x8 ≤ x0 + 0) (d10 : x1 + (-4294967296) ≤ x9 ∧ x9 ≤ x1 + 0) (f3 : 1 * x32 + ((-1) * x0 + 0) ≤ 0) (f4 : (-1) * x32 + (1 * x0 + 0) ≤ 0) (f6 : 1 * x34 + ((-1) * x7 + 0) ≤ 0) (f7 : (-1) * x34 + (1 * x7 + 0) ≤ 0) (f8 : 1 * x35 + ((-1) * x1 + 0) ≤ 0) (f9 : (-1) * x35 + (1 * x1 + 0) ≤ 0) (f29 : QKO (a5_0) (a3_0) (a4_0) (a6_0) (x34) (x2) (x32) (x35) (x29)) : UN2 (a5_0) (a3_0) (a4_0) (a6_0) (x7) (x2) (x0) (x1) (x29) := by
  first
    | (have h1 := un2_back ‹QKO _ _ _ _ _ _ _ _ _›; rw [show x0 = x32 by omega, show x7 = x34 by omega, show x1 = x35 by omega]; exact h1)
    | (have h1 := un2_back ‹QKO _ _ _ _ _ _ _ _ _›; rw [show x0 = x36 by omega, show x7 = x38 by omega, show x1 = x39 by omega]; exact h1)
    | (have h1 := un2_back ‹QKO _ _ _ _ _ _ _ _ _›; rw [show x0 = x30 by omega, show x7 = x32 by omega, show x1 = x33 by omega]; exact h1)
def o_Fa_uniteAt_at_Grtail_Grhead_Fablock_5 : or_T := (6, 37, [(0, (0, 0, 23, [])), (1, (0, 0, 16777215, [])), (2, (0, 1, 48, [])), (3, (2, 0, 0, [52])), (4, (2, 0, 0, [53])), (5, (2, 0, 0, [38])), (6, (2, 0, 0, [59])), (7, (0, 0, 25, [])), (8, (0, 0, 23, [])), (9, (0, 0, 16777215, [])), (10, (0, 1, 48, [])), (11, (2, 0, 0, [52])), (12, (2, 0, 0, [53])), (13, (2, 0, 0, [38])), (14, (0, 0, 47, [])), (15, (0, 0, 47, [])), (16, (0, 0, 23, [])), (18, (0, 0, 23, [])), (24, (0, -1, -1, [])), (25, (0, -1, 47, [])), (26, (0, 0, 47, [])), (27, (0, 0, 47, [])), (28, (0, 0, 47, [])), (29, (0, 0, 47, [])), (30, (2, 0, 0, [52])), (31, (2, 0, 0, [53])), (32, (0, 0, 24, [])), (33, (2, 0, 0, [59])), (34, (0, 0, 25, [])), (35, (0, -2147483648, 2147483647, [])), (36, (0, 1, 48, []))], [(6, [36, 15], [1]), (24, [3, 30], []), (24, [4, 31], []), (23, [32, 8], [0, 1, -1]), (23, [32, 8], [0, -1, 1]), (24, [6, 33], []), (23, [34, 7], [0, 1, -1]), (23, [34, 7], [0, -1, 1]), (23, [35, 9], [0, 1, -1]), (23, [35, 9], [0, -1, 1]), (20, [29, 27], [50, 0, 0, 2, 6, 0, 2, 0, 0, 1, 0, 0, 2, 1, 0, 1, 1]), (20, [32, 8], [50, 0, 0, 1, 2, 1, 0, 1, 1]), (20, [29], [50, 0, 0, 0, 2, 0, 0, 1, 0]), (20, [34, 7], [50, 0, 0, 1, 2, 1, 0, 1, 1]), (20, [35, 9], [50, 0, 0, 1, 2, 1, 0, 1, 1]), (23, [14, 29], [0, -1, 1]), (23, [28, 29], [0, -1, 1]), (20, [29, 14, 28], [50, 0, 0, 3, 6, 1, 2, 1, 0, 1, 1, 1, 2, 1, 0, 1, 2]), (23, [14, 27], [0, 1, -1]), (23, [26, 27], [0, 1, -1]), (20, [27, 14, 26], [50, 0, 0, 3, 6, 1, 2, 1, 0, 1, 1, 1, 2, 1, 0, 1, 2]), (24, [0, 8], []), (24, [1, 9], []), (24, [2, 10], []), (24, [3, 11], []), (24, [4, 12], []), (24, [5, 13], []), (20, [13, 10], [61, 1, 566]), (20, [13, 30, 31, 10, 29, 32], [61, 3, 583]), (20, [13, 30, 31, 33, 34, 10, 32, 35, 29], [61, 4, 592]), (102, [35], [274877906944]), (23, [32, 8], [0, 1, -1]), (23, [32, 8], [0, -1, 1]), (23, [34, 7], [0, 1, -1]), (23, [34, 7], [0, -1, 1]), (23, [35, 9], [0, 1, -1]), (23, [35, 9], [0, -1, 1]), (23, [14, 29], [0, -1, 1]), (23, [28, 29], [0, -1, 1]), (23, [14, 27], [0, 1, -1]), (23, [26, 27], [0, 1, -1]), (7, [25, 14], [1]), (7, [14, 24], [1]), (7, [18, 8], [0]), (7, [16, 8], [1]), (7, [15, 10], [2])], [], [], [(20, [13, 11, 12, 10, 8, 29], [61, 3, 584]), (20, [13, 11, 12, 6, 7, 10, 8, 9, 29], [61, 4, 589])], [], [(36, 15, 1, 1), (36, 10, -4294967296, 0), (36, 2, -4294967296, 1), (36, 10, -4294967296, 1), (18, 8, 0, 0), (15, 10, -4294967296, -1), (0, 8, -4294967296, 0), (1, 9, -4294967296, 0), (2, 10, -4294967296, 0), (8, 0, -4294967296, 0), (9, 1, -4294967296, 0), (10, 2, -4294967296, 0), (14, 15, -4294967296, 46), (15, 2, -4294967296, 0), (15, 10, -4294967296, 0)])
theorem oo_Fa_uniteAt_at_Grtail_Grhead_Fablock_5 {kA : Nat → ClassId} : or_ok PRD kA GG o_Fa_uniteAt_at_Grtail_Grhead_Fablock_5 := by
  refine or_mk fun A ta ws vs hD hth hl => ?_
  intro t0 k0 t1 k1 t2 k2 t3 r3 t4 r4 t5 r5 t6 r6 t7 k7 t8 k8 t9 k9 t10 k10 t11 r11 t12 r12 t13 r13 t14 k14 t15 k15 t16 k16 t18 k18 t24 k24 t25 k25 t26 k26 t27 k27 t28 k28 t29 k29 t30 r30 t31 r31 t32 k32 t33 r33 t34 k34 t35 k35 t36 k36 d0 d1 d2 d3 d4 d5 d6 d7 d8 d9 d10 d11 d12 d13 d14 f0 f1 f2 f3 f4 f5 f6 f7 f8 f9 f10 f11 f12 f13 f14 f15 f16 f17 f18 f19 f20 f21 f22 f23 f24 f25 f26 f27 f28 f29 ta1 w1 le1 s1 f31 f32 f33 f34 f35 f36 f37 f38 f39 f40 f41 f42 f43 f44 f45
  replace f1 := shm_5 f1
  replace f2 := shm_5 f2
  replace f3 := shm_7 f3
  replace f4 := shm_22 f4
  replace f5 := shm_5 f5
  replace f6 := shm_7 f6
  replace f7 := shm_22 f7
  replace f8 := shm_7 f8
  replace f9 := shm_22 f9
  replace f12 := shm_722 f12
  replace f21 := shm_5 f21
  replace f22 := shm_5 f22
  replace f23 := shm_5 f23
  replace f24 := shm_5 f24
  replace f25 := shm_5 f25
  replace f26 := shm_5 f26
  replace f28 := shm_371 f28
  replace f29 := shm_372 f29
  have q30 : n_v vs 30 = n_v vs 3 := f1.symm
  have q31 : n_v vs 31 = n_v vs 4 := f2.symm
  have q33 : n_v vs 33 = n_v vs 6 := f5.symm
  have q8 : n_v vs 8 = n_v vs 0 := f21.symm
  have q9 : n_v vs 9 = n_v vs 1 := f22.symm
  have q10 : n_v vs 10 = n_v vs 2 := f23.symm
  have q11 : n_v vs 11 = n_v vs 3 := f24.symm
  have q12 : n_v vs 12 = n_v vs 4 := f25.symm
  have q13 : n_v vs 13 = n_v vs 5 := f26.symm
  simp only [q8, q9, q10, q13, q30, q31, q33] at f3 f4 f8 f9 f28 f29
  have nf0 : fc_1 PRD (20, [13, 11, 12, 10, 8, 29], [61, 3, 584]) ws (vs) := by
    refine ⟨nf_in hl rfl, sgq_1193 ?_⟩
    · show UNI (w_ei ws (v_ad (n_v vs 13))) (w_ei ws (v_ad (n_v vs 11))) (w_ei ws (v_ad (n_v vs 12))) (v_iv (n_v vs 10)) (v_iv (n_v vs 8)) (v_iv (n_v vs 29))
      simp only [q8, q10, q11, q12, q13]
      exact vc_Fa_uniteAt_at_Grtail_Grhead_Fablock_5_0 (v_iv (n_v vs 0)) (v_iv (n_v vs 2)) (v_iv (n_v vs 8)) (v_iv (n_v vs 15)) (v_iv (n_v vs 18)) (v_iv (n_v vs 29)) (v_iv (n_v vs 32)) (v_iv (n_v vs 36)) (w_ei ws (v_ad (n_v vs 5))) (w_ei ws (v_ad (n_v vs 3))) (w_ei ws (v_ad (n_v vs 4))) k0 k2 k8 k18 k29 k32 d4 d6 d9 f3 f4 f12 f28
  have nf1 : fc_1 PRD (20, [13, 11, 12, 6, 7, 10, 8, 9, 29], [61, 4, 589]) ws (vs) := by
    refine ⟨nf_in hl rfl, sgq_1194 ?_⟩
    · show UN2 (w_ei ws (v_ad (n_v vs 13))) (w_ei ws (v_ad (n_v vs 11))) (w_ei ws (v_ad (n_v vs 12))) (w_ei ws (v_ad (n_v vs 6))) (v_iv (n_v vs 7)) (v_iv (n_v vs 10)) (v_iv (n_v vs 8)) (v_iv (n_v vs 9)) (v_iv (n_v vs 29))
      simp only [q8, q9, q10, q11, q12, q13]
      exact vc_Fa_uniteAt_at_Grtail_Grhead_Fablock_5_1 (v_iv (n_v vs 0)) (v_iv (n_v vs 1)) (v_iv (n_v vs 2)) (v_iv (n_v vs 7)) (v_iv (n_v vs 8)) (v_iv (n_v vs 9)) (v_iv (n_v vs 15)) (v_iv (n_v vs 18)) (v_iv (n_v vs 24)) (v_iv (n_v vs 25)) (v_iv (n_v vs 26)) (v_iv (n_v vs 29)) (v_iv (n_v vs 32)) (v_iv (n_v vs 34)) (v_iv (n_v vs 35)) (v_iv (n_v vs 36)) (w_ei ws (v_ad (n_v vs 5))) (w_ei ws (v_ad (n_v vs 3))) (w_ei ws (v_ad (n_v vs 4))) (w_ei ws (v_ad (n_v vs 6))) k0 k1 k2 k7 k8 k9 k18 k29 k32 k34 k35 d4 d6 d7 d9 d10 f3 f4 f6 f7 f8 f9 f29
  refine ⟨(fun _ h => (by cases h)), [], trivial, ?_, (fun _ h => (by cases h))⟩
  rw [List.append_nil]
  exact List.forall_mem_cons.mpr ⟨⟨show (20 : Nat) < 100 from by decide, nf0⟩, List.forall_mem_cons.mpr ⟨⟨show (20 : Nat) < 100 from by decide, nf1⟩, (fun _ h => (by cases h))⟩⟩
set_option maxHeartbeats 4000000 in
theorem vc_Fa_uniteAt_at_Grtail_Grhead_Fablock_6_r0 (x2 : Int) (x15 : Int) (x16 : Int) (x18 : Int) (x19 : Int) (x25 : Int) (a5_0 : Int → Int) (a3_0 : Int → Int) (a4_0 : Int → Int) (k2 : 1 ≤ x2 ∧ x2 ≤ 48) (k15 : 0 ≤ x15 ∧ x15 ≤ 47) (k16 : 0 ≤ x16 ∧ x16 ≤ 23) (k18 : 0 ≤ x18 ∧ x18 ≤ 23) (k19 : 0 ≤ x19 ∧ x19 ≤ 23) (k25 : (-1) ≤ x25 ∧ x25 ≤ 47) (h0 : x25 = a5_0 (x15)) (h6 : x19 = a3_0 (x15)) (h8 : x18 = a4_0 (x15)) (h10 : x16 = a3_0 (x15)) (f11 : x15 < x2) (f12 : BLQ (a5_0) (x2)) : 0 ≤ x25 ∧ x25 ≤ 47 := by
  first
    | omega
    | (skip; (first | subst h0 | skip); (first | subst h6 | skip); (first | subst h8 | skip); (first | subst h10 | skip); have q := ‹BLQ _ _› x15 (by omega) (by omega); omega)
def o_Fa_uniteAt_at_Grtail_Grhead_Fablock_6 : or_T := (90, 26, [(0, (0, 0, 23, [])), (1, (0, 0, 16777215, [])), (2, (0, 1, 48, [])), (3, (2, 0, 0, [52])), (4, (2, 0, 0, [53])), (5, (2, 0, 0, [38])), (6, (2, 0, 0, [59])), (7, (0, 0, 25, [])), (8, (0, 0, 23, [])), (9, (0, 0, 16777215, [])), (10, (0, 1, 48, [])), (11, (2, 0, 0, [52])), (12, (2, 0, 0, [53])), (13, (2, 0, 0, [38])), (14, (0, -1, -1, [])), (15, (0, 0, 47, [])), (16, (0, 0, 23, [])), (18, (0, 0, 23, [])), (19, (0, 0, 23, [])), (20, (0, 0, 16777215, [])), (21, (0, 1, 1, [])), (22, (0, 1, 1, [])), (24, (0, -1, -1, [])), (25, (0, -1, 47, []))], [(10, [25, 13, 15], []), (7, [14, 24], [0]), (8, [22], [1]), (12, [22, 20], [2]), (16, [22, 20, 21], [0]), (16, [20, 9, 19], [4]), (10, [19, 11, 15], []), (7, [18, 8], [0]), (10, [18, 12, 15], []), (7, [16, 8], [1]), (10, [16, 11, 15], []), (7, [15, 10], [2]), (20, [13, 10], [61, 1, 566]), (20, [13, 11, 12, 10, 8, 14], [61, 3, 584]), (20, [13, 11, 12, 6, 7, 10, 8, 9, 14], [61, 4, 589]), (24, [0, 8], []), (24, [1, 9], []), (24, [2, 10], []), (24, [3, 11], []), (24, [4, 12], []), (24, [5, 13], [])], [(25, (0, 0, 47, []))], [], [], [], [(18, 8, 0, 0), (15, 10, -4294967296, -1), (0, 8, -4294967296, 0), (1, 9, -4294967296, 0), (2, 10, -4294967296, 0), (8, 0, -4294967296, 0), (9, 1, -4294967296, 0), (10, 2, -4294967296, 0), (15, 2, -4294967296, 0), (15, 10, -4294967296, 0)])
theorem oo_Fa_uniteAt_at_Grtail_Grhead_Fablock_6 {kA : Nat → ClassId} : or_ok PRD kA GG o_Fa_uniteAt_at_Grtail_Grhead_Fablock_6 := by
  refine or_mk fun A ta ws vs hD hth hl => ?_
  intro t0 k0 t1 k1 t2 k2 t3 r3 t4 r4 t5 r5 t6 r6 t7 k7 t8 k8 t9 k9 t10 k10 t11 r11 t12 r12 t13 r13 t14 k14 t15 k15 t16 k16 t18 k18 t19 k19 t20 k20 t21 k21 t22 k22 t24 k24 t25 k25 d0 d1 d2 d3 d4 d5 d6 d7 d8 d9 f0 f1 f2 f3 f4 f5 f6 f7 f8 f9 f10 f11 f12 f13 f14 f15 f16 f17 f18 f19 f20
  replace f0 := shm_107 f0
  replace f6 := shm_107 f6
  replace f8 := shm_107 f8
  replace f10 := shm_107 f10
  replace f11 := shm_6 f11
  replace f12 := shm_365 f12
  replace f17 := shm_5 f17
  replace f18 := shm_5 f18
  replace f19 := shm_5 f19
  replace f20 := shm_5 f20
  have q10 : n_v vs 10 = n_v vs 2 := f17.symm
  have q11 : n_v vs 11 = n_v vs 3 := f18.symm
  have q12 : n_v vs 12 = n_v vs 4 := f19.symm
  have q13 : n_v vs 13 = n_v vs 5 := f20.symm
  simp only [q13, q11, q12, q10] at f0 f6 f8 f10 f11 f12
  have h0 : v_iv (n_v vs 25) = w_ei ws (v_ad (n_v vs 5)) (v_iv (n_v vs 15)) := f0
  have h6 : v_iv (n_v vs 19) = w_ei ws (v_ad (n_v vs 3)) (v_iv (n_v vs 15)) := f6
  have h8 : v_iv (n_v vs 18) = w_ei ws (v_ad (n_v vs 4)) (v_iv (n_v vs 15)) := f8
  have h10 : v_iv (n_v vs 16) = w_ei ws (v_ad (n_v vs 3)) (v_iv (n_v vs 15)) := f10
  have hrf0 : 0 ≤ v_iv (n_v vs 25) ∧ v_iv (n_v vs 25) ≤ 47 := vc_Fa_uniteAt_at_Grtail_Grhead_Fablock_6_r0 (v_iv (n_v vs 2)) (v_iv (n_v vs 15)) (v_iv (n_v vs 16)) (v_iv (n_v vs 18)) (v_iv (n_v vs 19)) (v_iv (n_v vs 25)) (w_ei ws (v_ad (n_v vs 5))) (w_ei ws (v_ad (n_v vs 3))) (w_ei ws (v_ad (n_v vs 4))) k2 k15 k16 k18 k19 k25 h0 h6 h8 h10 f11 f12
  have rf25 : tv_ok ta (0, 0, 47, []) (n_v vs 25) := tv_in t25 (by first | omega | grind) (by first | omega | grind)
  refine ⟨List.forall_mem_cons.mpr ⟨rf25, (fun _ h => (by cases h))⟩, [], trivial, ?_, (fun _ h => (by cases h))⟩
  rw [List.append_nil]
  exact (fun _ h => (by cases h))
set_option maxHeartbeats 4000000 in
theorem vc_Fa_uniteAt_at_Grtail_Grhead_Fablock_7_0 (x0 : Int) (x2 : Int) (x8 : Int) (x14 : Int) (x15 : Int) (x18 : Int) (x25 : Int) (x26 : Int) (a5_0 : Int → Int) (a3_0 : Int → Int) (a4_0 : Int → Int) (k0 : 0 ≤ x0 ∧ x0 ≤ 23) (k2 : 1 ≤ x2 ∧ x2 ≤ 48) (k8 : 0 ≤ x8 ∧ x8 ≤ 23) (k14 : (-1) ≤ x14 ∧ x14 ≤ (-1)) (k15 : 0 ≤ x15 ∧ x15 ≤ 47) (k18 : 0 ≤ x18 ∧ x18 ≤ 23) (k25 : 0 ≤ x25 ∧ x25 ≤ 47) (k26 : 1 ≤ x26 ∧ x26 ≤ 48) (d0 : x15 + 1 ≤ x26 ∧ x26 ≤ x15 + 1) (d4 : x8 + 0 ≤ x18 ∧ x18 ≤ x8 + 0) (d6 : x8 + (-4294967296) ≤ x0 ∧ x0 ≤ x8 + 0) (d9 : x0 + (-4294967296) ≤ x8 ∧ x8 ≤ x0 + 0) (h1 : x25 = a5_0 (x15)) (h9 : x18 = a4_0 (x15)) (f12 : x15 < x2) (f14 : UNI (a5_0) (a3_0) (a4_0) (x2) (x0) (x14)) : UNI (a5_0) (a3_0) (a4_0) (x2) (x0) (x25) := by
  first
    | exact uni_first (e := x15) ‹UNI _ _ _ _ _ _› (by assumption) rfl (by omega) (by omega) (by first | exact Or.inl (by omega) | exact Or.inr (by omega))
set_option maxHeartbeats 4000000 in
theorem vc_Fa_uniteAt_at_Grtail_Grhead_Fablock_7_1 (x0 : Int) (x1 : Int) (x2 : Int) (x7 : Int) (x8 : Int) (x14 : Int) (x15 : Int) (x16 : Int) (x18 : Int) (x19 : Int) (x20 : Int) (x21 : Int) (x22 : Int) (x24 : Int) (x25 : Int) (x26 : Int) (a5_0 : Int → Int) (a3_0 : Int → Int) (a4_0 : Int → Int) (a6_0 : Int → Int) (k0 : 0 ≤ x0 ∧ x0 ≤ 23) (k1 : 0 ≤ x1 ∧ x1 ≤ 16777215) (k2 : 1 ≤ x2 ∧ x2 ≤ 48) (k7 : 0 ≤ x7 ∧ x7 ≤ 25) (k8 : 0 ≤ x8 ∧ x8 ≤ 23) (k14 : (-1) ≤ x14 ∧ x14 ≤ (-1)) (k15 : 0 ≤ x15 ∧ x15 ≤ 47) (k16 : 0 ≤ x16 ∧ x16 ≤ 23) (k18 : 0 ≤ x18 ∧ x18 ≤ 23) (k19 : 0 ≤ x19 ∧ x19 ≤ 23) (k20 : 0 ≤ x20 ∧ x20 ≤ 16777215) (k21 : 1 ≤ x21 ∧ x21 ≤ 1) (k22 : 1 ≤ x22 ∧ x22 ≤ 1) (k25 : 0 ≤ x25 ∧ x25 ≤ 47) (k26 : 1 ≤ x26 ∧ x26 ≤ 48) (d0 : x15 + 1 ≤ x26 ∧ x26 ≤ x15 + 1) (d4 : x8 + 0 ≤ x18 ∧ x18 ≤ x8 + 0) (d6 : x8 + (-4294967296) ≤ x0 ∧ x0 ≤ x8 + 0) (d9 : x0 + (-4294967296) ≤ x8 ∧ x8 ≤ x0 + 0) (h1 : x25 = a5_0 (x15)) (f5 : bvp (x22) = bvp (x20) &&& bvp (x21)) (f6 : bvp (x20) = bvp (x1) >>> (x19).toNat) (h7 : x19 = a3_0 (x15)) (h9 : x18 = a4_0 (x15)) (h11 : x16 = a3_0 (x15)) (f12 : x15 < x2) (f15 : UN2 (a5_0) (a3_0) (a4_0) (a6_0) (x7) (x2) (x0) (x1) (x14)) : UN2 (a5_0) (a3_0) (a4_0) (a6_0) (x7) (x2) (x0) (x1) (x25) := by
  first
    | exact un2_first (e := x15) ‹UN2 _ _ _ _ _ _ _ _ _› (by assumption) rfl (by omega) (by omega) (by first | exact Or.inl ⟨by omega, by omega, by rw [← ‹x17 = a4_0 x15›]; exact (bit_one (s := x1) (t := x18) (c := x20) (v := x17) (one := x19) (by assumption) (by assumption) (by omega) (by omega) (by omega) (by omega)).mpr (by omega)⟩ | exact Or.inr ⟨by omega, by omega, by rw [← ‹x19 = a3_0 x15›]; exact (bit_one (s := x1) (t := x20) (c := x22) (v := x19) (one := x21) (by assumption) (by assumption) (by omega) (by omega) (by omega) (by omega)).mpr (by omega)⟩ | exact Or.inr ⟨by omega, by omega, by rw [← ‹x23 = a3_0 x15›]; exact (bit_one (s := x1) (t := x24) (c := x26) (v := x23) (one := x25) (by assumption) (by assumption) (by omega) (by omega) (by omega) (by omega)).mpr (by omega)⟩)
def o_Fa_uniteAt_at_Grtail_Grhead_Fablock_7 : or_T := (6, 27, [(0, (0, 0, 23, [])), (1, (0, 0, 16777215, [])), (2, (0, 1, 48, [])), (3, (2, 0, 0, [52])), (4, (2, 0, 0, [53])), (5, (2, 0, 0, [38])), (6, (2, 0, 0, [59])), (7, (0, 0, 25, [])), (8, (0, 0, 23, [])), (9, (0, 0, 16777215, [])), (10, (0, 1, 48, [])), (11, (2, 0, 0, [52])), (12, (2, 0, 0, [53])), (13, (2, 0, 0, [38])), (14, (0, -1, -1, [])), (15, (0, 0, 47, [])), (16, (0, 0, 23, [])), (18, (0, 0, 23, [])), (19, (0, 0, 23, [])), (20, (0, 0, 16777215, [])), (21, (0, 1, 1, [])), (22, (0, 1, 1, [])), (24, (0, -1, -1, [])), (25, (0, 0, 47, [])), (26, (0, 1, 48, []))], [(6, [26, 15], [1]), (10, [25, 13, 15], []), (7, [14, 24], [0]), (8, [22], [1]), (12, [22, 20], [2]), (16, [22, 20, 21], [0]), (16, [20, 9, 19], [4]), (10, [19, 11, 15], []), (7, [18, 8], [0]), (10, [18, 12, 15], []), (7, [16, 8], [1]), (10, [16, 11, 15], []), (7, [15, 10], [2]), (20, [13, 10], [61, 1, 566]), (20, [13, 11, 12, 10, 8, 14], [61, 3, 584]), (20, [13, 11, 12, 6, 7, 10, 8, 9, 14], [61, 4, 589]), (24, [0, 8], []), (24, [1, 9], []), (24, [2, 10], []), (24, [3, 11], []), (24, [4, 12], []), (24, [5, 13], [])], [], [], [(20, [13, 11, 12, 10, 8, 25], [61, 3, 584]), (20, [13, 11, 12, 6, 7, 10, 8, 9, 25], [61, 4, 589])], [], [(26, 15, 1, 1), (26, 10, -4294967296, 0), (26, 2, -4294967296, 1), (26, 10, -4294967296, 1), (18, 8, 0, 0), (15, 10, -4294967296, -1), (0, 8, -4294967296, 0), (1, 9, -4294967296, 0), (2, 10, -4294967296, 0), (8, 0, -4294967296, 0), (9, 1, -4294967296, 0), (10, 2, -4294967296, 0), (15, 2, -4294967296, 0), (15, 10, -4294967296, 0)])
theorem oo_Fa_uniteAt_at_Grtail_Grhead_Fablock_7 {kA : Nat → ClassId} : or_ok PRD kA GG o_Fa_uniteAt_at_Grtail_Grhead_Fablock_7 := by
  refine or_mk fun A ta ws vs hD hth hl => ?_
  intro t0 k0 t1 k1 t2 k2 t3 r3 t4 r4 t5 r5 t6 r6 t7 k7 t8 k8 t9 k9 t10 k10 t11 r11 t12 r12 t13 r13 t14 k14 t15 k15 t16 k16 t18 k18 t19 k19 t20 k20 t21 k21 t22 k22 t24 k24 t25 k25 t26 k26 d0 d1 d2 d3 d4 d5 d6 d7 d8 d9 d10 d11 d12 d13 f0 f1 f2 f3 f4 f5 f6 f7 f8 f9 f10 f11 f12 f13 f14 f15 f16 f17 f18 f19 f20 f21
  replace f1 := shm_107 f1
  replace f5 := shm_11 f5
  replace f6 := shm_13 f6
  replace f7 := shm_107 f7
  replace f9 := shm_107 f9
  replace f11 := shm_107 f11
  replace f12 := shm_6 f12
  replace f14 := shm_1193 f14
  replace f15 := shm_1194 f15
  replace f16 := shm_5 f16
  replace f17 := shm_5 f17
  replace f18 := shm_5 f18
  replace f19 := shm_5 f19
  replace f20 := shm_5 f20
  replace f21 := shm_5 f21
  have q8 : n_v vs 8 = n_v vs 0 := f16.symm
  have q9 : n_v vs 9 = n_v vs 1 := f17.symm
  have q10 : n_v vs 10 = n_v vs 2 := f18.symm
  have q11 : n_v vs 11 = n_v vs 3 := f19.symm
  have q12 : n_v vs 12 = n_v vs 4 := f20.symm
  have q13 : n_v vs 13 = n_v vs 5 := f21.symm
  simp only [q13, q9, q11, q8, q12, q10] at f1 f6 f7 f9 f11 f12 f14 f15
  have h1 : v_iv (n_v vs 25) = w_ei ws (v_ad (n_v vs 5)) (v_iv (n_v vs 15)) := f1
  have h7 : v_iv (n_v vs 19) = w_ei ws (v_ad (n_v vs 3)) (v_iv (n_v vs 15)) := f7
  have h9 : v_iv (n_v vs 18) = w_ei ws (v_ad (n_v vs 4)) (v_iv (n_v vs 15)) := f9
  have h11 : v_iv (n_v vs 16) = w_ei ws (v_ad (n_v vs 3)) (v_iv (n_v vs 15)) := f11
  have nf0 : fc_1 PRD (20, [13, 11, 12, 10, 8, 25], [61, 3, 584]) ws (vs) := by
    refine ⟨nf_in hl rfl, sgq_1193 ?_⟩
    · show UNI (w_ei ws (v_ad (n_v vs 13))) (w_ei ws (v_ad (n_v vs 11))) (w_ei ws (v_ad (n_v vs 12))) (v_iv (n_v vs 10)) (v_iv (n_v vs 8)) (v_iv (n_v vs 25))
      simp only [q8, q10, q11, q12, q13]
      exact vc_Fa_uniteAt_at_Grtail_Grhead_Fablock_7_0 (v_iv (n_v vs 0)) (v_iv (n_v vs 2)) (v_iv (n_v vs 8)) (v_iv (n_v vs 14)) (v_iv (n_v vs 15)) (v_iv (n_v vs 18)) (v_iv (n_v vs 25)) (v_iv (n_v vs 26)) (w_ei ws (v_ad (n_v vs 5))) (w_ei ws (v_ad (n_v vs 3))) (w_ei ws (v_ad (n_v vs 4))) k0 k2 k8 k14 k15 k18 k25 k26 d0 d4 d6 d9 h1 h9 f12 f14
  have nf1 : fc_1 PRD (20, [13, 11, 12, 6, 7, 10, 8, 9, 25], [61, 4, 589]) ws (vs) := by
    refine ⟨nf_in hl rfl, sgq_1194 ?_⟩
    · show UN2 (w_ei ws (v_ad (n_v vs 13))) (w_ei ws (v_ad (n_v vs 11))) (w_ei ws (v_ad (n_v vs 12))) (w_ei ws (v_ad (n_v vs 6))) (v_iv (n_v vs 7)) (v_iv (n_v vs 10)) (v_iv (n_v vs 8)) (v_iv (n_v vs 9)) (v_iv (n_v vs 25))
      simp only [q8, q9, q10, q11, q12, q13]
      exact vc_Fa_uniteAt_at_Grtail_Grhead_Fablock_7_1 (v_iv (n_v vs 0)) (v_iv (n_v vs 1)) (v_iv (n_v vs 2)) (v_iv (n_v vs 7)) (v_iv (n_v vs 8)) (v_iv (n_v vs 14)) (v_iv (n_v vs 15)) (v_iv (n_v vs 16)) (v_iv (n_v vs 18)) (v_iv (n_v vs 19)) (v_iv (n_v vs 20)) (v_iv (n_v vs 21)) (v_iv (n_v vs 22)) (v_iv (n_v vs 24)) (v_iv (n_v vs 25)) (v_iv (n_v vs 26)) (w_ei ws (v_ad (n_v vs 5))) (w_ei ws (v_ad (n_v vs 3))) (w_ei ws (v_ad (n_v vs 4))) (w_ei ws (v_ad (n_v vs 6))) k0 k1 k2 k7 k8 k14 k15 k16 k18 k19 k20 k21 k22 k25 k26 d0 d4 d6 d9 h1 f5 f6 h7 h9 h11 f12 f15
  refine ⟨(fun _ h => (by cases h)), [], trivial, ?_, (fun _ h => (by cases h))⟩
  rw [List.append_nil]
  exact List.forall_mem_cons.mpr ⟨⟨show (20 : Nat) < 100 from by decide, nf0⟩, List.forall_mem_cons.mpr ⟨⟨show (20 : Nat) < 100 from by decide, nf1⟩, (fun _ h => (by cases h))⟩⟩
set_option maxHeartbeats 4000000 in
theorem vc_Fa_uniteAt_at_Grtail_Grhead_Fablock_8_r0 (x2 : Int) (x15 : Int) (x16 : Int) (x17 : Int) (x22 : Int) (x23 : Int) (x29 : Int) (x30 : Int) (a5_0 : Int → Int) (a3_0 : Int → Int) (a4_0 : Int → Int) (k2 : 1 ≤ x2 ∧ x2 ≤ 48) (k15 : 0 ≤ x15 ∧ x15 ≤ 47) (k16 : 0 ≤ x16 ∧ x16 ≤ 23) (k17 : 0 ≤ x17 ∧ x17 ≤ 23) (k22 : 0 ≤ x22 ∧ x22 ≤ 23) (k23 : 0 ≤ x23 ∧ x23 ≤ 23) (k29 : (-1) ≤ x29 ∧ x29 ≤ 47) (k30 : (-1) ≤ x30 ∧ x30 ≤ 47) (h0 : x30 = a5_0 (x15)) (h2 : x29 = a5_0 (x15)) (h8 : x23 = a3_0 (x15)) (h10 : x22 = a4_0 (x15)) (h15 : x17 = a4_0 (x15)) (h17 : x16 = a3_0 (x15)) (f18 : x15 < x2) (f19 : BLQ (a5_0) (x2)) : 0 ≤ x30 ∧ x30 ≤ 47 := by
  first
    | omega
    | (skip; (first | subst h0 | skip); (first | subst h2 | skip); (first | subst h8 | skip); (first | subst h10 | skip); (first | subst h15 | skip); (first | subst h17 | skip); have q := ‹BLQ _ _› x15 (by omega) (by omega); omega)
def o_Fa_uniteAt_at_Grtail_Grhead_Fablock_8 : or_T := (112, 31, [(0, (0, 0, 23, [])), (1, (0, 0, 16777215, [])), (2, (0, 1, 48, [])), (3, (2, 0, 0, [52])), (4, (2, 0, 0, [53])), (5, (2, 0, 0, [38])), (6, (2, 0, 0, [59])), (7, (0, 0, 25, [])), (8, (0, 0, 23, [])), (9, (0, 0, 16777215, [])), (10, (0, 1, 48, [])), (11, (2, 0, 0, [52])), (12, (2, 0, 0, [53])), (13, (2, 0, 0, [38])), (14, (0, 0, 47, [])), (15, (0, 0, 47, [])), (16, (0, 0, 23, [])), (17, (0, 0, 23, [])), (18, (0, 0, 16777215, [])), (19, (0, 1, 1, [])), (20, (0, 0, 0, [])), (22, (0, 0, 23, [])), (23, (0, 0, 23, [])), (24, (0, 0, 16777215, [])), (25, (0, 1, 1, [])), (26, (0, 1, 1, [])), (28, (0, -1, -1, [])), (29, (0, -1, 47, [])), (30, (0, -1, 47, []))], [(10, [30, 13, 15], []), (7, [29, 14], [1]), (10, [29, 13, 15], []), (7, [14, 28], [1]), (8, [26], [1]), (12, [26, 24], [2]), (16, [26, 24, 25], [0]), (16, [24, 9, 23], [4]), (10, [23, 11, 15], []), (7, [22, 8], [0]), (10, [22, 12, 15], []), (8, [20], [0]), (12, [20, 18], [2]), (16, [20, 18, 19], [0]), (16, [18, 9, 17], [4]), (10, [17, 12, 15], []), (7, [16, 8], [0]), (10, [16, 11, 15], []), (7, [15, 10], [2]), (20, [13, 10], [61, 1, 566]), (20, [13, 11, 12, 10, 8, 14], [61, 3, 584]), (20, [13, 11, 12, 6, 7, 10, 8, 9, 14], [61, 4, 589]), (24, [0, 8], []), (24, [1, 9], []), (24, [2, 10], []), (24, [3, 11], []), (24, [4, 12], []), (24, [5, 13], [])], [(30, (0, 0, 47, []))], [], [], [], [(22, 8, 0, 0), (16, 8, 0, 0), (15, 10, -4294967296, -1), (0, 8, -4294967296, 0), (1, 9, -4294967296, 0), (2, 10, -4294967296, 0), (8, 0, -4294967296, 0), (9, 1, -4294967296, 0), (10, 2, -4294967296, 0), (14, 15, -4294967296, 46), (15, 2, -4294967296, 0), (15, 10, -4294967296, 0)])
theorem oo_Fa_uniteAt_at_Grtail_Grhead_Fablock_8 {kA : Nat → ClassId} : or_ok PRD kA GG o_Fa_uniteAt_at_Grtail_Grhead_Fablock_8 := by
  refine or_mk fun A ta ws vs hD hth hl => ?_
  intro t0 k0 t1 k1 t2 k2 t3 r3 t4 r4 t5 r5 t6 r6 t7 k7 t8 k8 t9 k9 t10 k10 t11 r11 t12 r12 t13 r13 t14 k14 t15 k15 t16 k16 t17 k17 t18 k18 t19 k19 t20 k20 t22 k22 t23 k23 t24 k24 t25 k25 t26 k26 t28 k28 t29 k29 t30 k30 d0 d1 d2 d3 d4 d5 d6 d7 d8 d9 d10 d11 f0 f1 f2 f3 f4 f5 f6 f7 f8 f9 f10 f11 f12 f13 f14 f15 f16 f17 f18 f19 f20 f21 f22 f23 f24 f25 f26 f27
  replace f0 := shm_107 f0
  replace f2 := shm_107 f2
  replace f8 := shm_107 f8
  replace f10 := shm_107 f10
  replace f15 := shm_107 f15
  replace f17 := shm_107 f17
  replace f18 := shm_6 f18
  replace f19 := shm_365 f19
  replace f24 := shm_5 f24
  replace f25 := shm_5 f25
  replace f26 := shm_5 f26
  replace f27 := shm_5 f27
  have q10 : n_v vs 10 = n_v vs 2 := f24.symm
  have q11 : n_v vs 11 = n_v vs 3 := f25.symm
  have q12 : n_v vs 12 = n_v vs 4 := f26.symm
  have q13 : n_v vs 13 = n_v vs 5 := f27.symm
  simp only [q13, q11, q12, q10] at f0 f2 f8 f10 f15 f17 f18 f19
  have h0 : v_iv (n_v vs 30) = w_ei ws (v_ad (n_v vs 5)) (v_iv (n_v vs 15)) := f0
  have h2 : v_iv (n_v vs 29) = w_ei ws (v_ad (n_v vs 5)) (v_iv (n_v vs 15)) := f2
  have h8 : v_iv (n_v vs 23) = w_ei ws (v_ad (n_v vs 3)) (v_iv (n_v vs 15)) := f8
  have h10 : v_iv (n_v vs 22) = w_ei ws (v_ad (n_v vs 4)) (v_iv (n_v vs 15)) := f10
  have h15 : v_iv (n_v vs 17) = w_ei ws (v_ad (n_v vs 4)) (v_iv (n_v vs 15)) := f15
  have h17 : v_iv (n_v vs 16) = w_ei ws (v_ad (n_v vs 3)) (v_iv (n_v vs 15)) := f17
  have hrf0 : 0 ≤ v_iv (n_v vs 30) ∧ v_iv (n_v vs 30) ≤ 47 := vc_Fa_uniteAt_at_Grtail_Grhead_Fablock_8_r0 (v_iv (n_v vs 2)) (v_iv (n_v vs 15)) (v_iv (n_v vs 16)) (v_iv (n_v vs 17)) (v_iv (n_v vs 22)) (v_iv (n_v vs 23)) (v_iv (n_v vs 29)) (v_iv (n_v vs 30)) (w_ei ws (v_ad (n_v vs 5))) (w_ei ws (v_ad (n_v vs 3))) (w_ei ws (v_ad (n_v vs 4))) k2 k15 k16 k17 k22 k23 k29 k30 h0 h2 h8 h10 h15 h17 f18 f19
  have rf30 : tv_ok ta (0, 0, 47, []) (n_v vs 30) := tv_in t30 (by first | omega | grind) (by first | omega | grind)
  refine ⟨List.forall_mem_cons.mpr ⟨rf30, (fun _ h => (by cases h))⟩, [], trivial, ?_, (fun _ h => (by cases h))⟩
  rw [List.append_nil]
  exact (fun _ h => (by cases h))
set_option maxHeartbeats 4000000 in
theorem vc_Fa_uniteAt_at_Grtail_Grhead_Fablock_9_r0 (x15 : Int) (x16 : Int) (x17 : Int) (x22 : Int) (x23 : Int) (x29 : Int) (x30 : Int) (x32 : Int) (a5_0 : Int → Int) (a3_0 : Int → Int) (a4_0 : Int → Int) (k15 : 0 ≤ x15 ∧ x15 ≤ 47) (k16 : 0 ≤ x16 ∧ x16 ≤ 23) (k17 : 0 ≤ x17 ∧ x17 ≤ 23) (k22 : 0 ≤ x22 ∧ x22 ≤ 23) (k23 : 0 ≤ x23 ∧ x23 ≤ 23) (k29 : (-1) ≤ x29 ∧ x29 ≤ 47) (k30 : 0 ≤ x30 ∧ x30 ≤ 47) (k32 : (-1) ≤ x32 ∧ x32 ≤ 47) (h0 : x32 = a5_0 (x15)) (h4 : x30 = a5_0 (x15)) (h6 : x29 = a5_0 (x15)) (h12 : x23 = a3_0 (x15)) (h14 : x22 = a4_0 (x15)) (h19 : x17 = a4_0 (x15)) (h21 : x16 = a3_0 (x15)) : 0 ≤ x32 ∧ x32 ≤ 47 := by
  first
    | omega
    | (skip; (first | subst h0 | skip); (first | subst h4 | skip); (first | subst h6 | skip); (first | subst h12 | skip); (first | subst h14 | skip); (first | subst h19 | skip); (first | subst h21 | skip); have q := ‹BLQ _ _› x15 (by omega) (by omega); omega)
def o_Fa_uniteAt_at_Grtail_Grhead_Fablock_9 : or_T := (124, 33, [(0, (0, 0, 23, [])), (1, (0, 0, 16777215, [])), (2, (0, 1, 48, [])), (3, (2, 0, 0, [52])), (4, (2, 0, 0, [53])), (5, (2, 0, 0, [38])), (6, (2, 0, 0, [59])), (7, (0, 0, 25, [])), (8, (0, 0, 23, [])), (9, (0, 0, 16777215, [])), (10, (0, 1, 48, [])), (11, (2, 0, 0, [52])), (12, (2, 0, 0, [53])), (13, (2, 0, 0, [38])), (14, (0, 0, 47, [])), (15, (0, 0, 47, [])), (16, (0, 0, 23, [])), (17, (0, 0, 23, [])), (18, (0, 0, 16777215, [])), (19, (0, 1, 1, [])), (20, (0, 0, 0, [])), (22, (0, 0, 23, [])), (23, (0, 0, 23, [])), (24, (0, 0, 16777215, [])), (25, (0, 1, 1, [])), (26, (0, 1, 1, [])), (28, (0, -1, -1, [])), (29, (0, -1, 47, [])), (30, (0, 0, 47, [])), (31, (0, 0, 47, [])), (32, (0, -1, 47, []))], [(10, [32, 13, 15], []), (23, [14, 31], [0, 1, -1]), (23, [30, 31], [0, 1, -1]), (20, [31, 14, 30], [50, 0, 0, 3, 6, 1, 2, 1, 0, 1, 1, 1, 2, 1, 0, 1, 2]), (10, [30, 13, 15], []), (7, [29, 14], [1]), (10, [29, 13, 15], []), (7, [14, 28], [1]), (8, [26], [1]), (12, [26, 24], [2]), (16, [26, 24, 25], [0]), (16, [24, 9, 23], [4]), (10, [23, 11, 15], []), (7, [22, 8], [0]), (10, [22, 12, 15], []), (8, [20], [0]), (12, [20, 18], [2]), (16, [20, 18, 19], [0]), (16, [18, 9, 17], [4]), (10, [17, 12, 15], []), (7, [16, 8], [0]), (10, [16, 11, 15], []), (7, [15, 10], [2]), (20, [13, 10], [61, 1, 566]), (20, [13, 11, 12, 10, 8, 14], [61, 3, 584]), (20, [13, 11, 12, 6, 7, 10, 8, 9, 14], [61, 4, 589]), (24, [0, 8], []), (24, [1, 9], []), (24, [2, 10], []), (24, [3, 11], []), (24, [4, 12], []), (24, [5, 13], [])], [(32, (0, 0, 47, []))], [], [], [], [(22, 8, 0, 0), (16, 8, 0, 0), (15, 10, -4294967296, -1), (0, 8, -4294967296, 0), (1, 9, -4294967296, 0), (2, 10, -4294967296, 0), (8, 0, -4294967296, 0), (9, 1, -4294967296, 0), (10, 2, -4294967296, 0), (14, 15, -4294967296, 46), (15, 2, -4294967296, 0), (15, 10, -4294967296, 0)])
theorem oo_Fa_uniteAt_at_Grtail_Grhead_Fablock_9 {kA : Nat → ClassId} : or_ok PRD kA GG o_Fa_uniteAt_at_Grtail_Grhead_Fablock_9 := by
  refine or_mk fun A ta ws vs hD hth hl => ?_
  intro t0 k0 t1 k1 t2 k2 t3 r3 t4 r4 t5 r5 t6 r6 t7 k7 t8 k8 t9 k9 t10 k10 t11 r11 t12 r12 t13 r13 t14 k14 t15 k15 t16 k16 t17 k17 t18 k18 t19 k19 t20 k20 t22 k22 t23 k23 t24 k24 t25 k25 t26 k26 t28 k28 t29 k29 t30 k30 t31 k31 t32 k32 d0 d1 d2 d3 d4 d5 d6 d7 d8 d9 d10 d11 f0 f1 f2 f3 f4 f5 f6 f7 f8 f9 f10 f11 f12 f13 f14 f15 f16 f17 f18 f19 f20 f21 f22 f23 f24 f25 f26 f27 f28 f29 f30 f31
  replace f0 := shm_107 f0
  replace f4 := shm_107 f4
  replace f6 := shm_107 f6
  replace f12 := shm_107 f12
  replace f14 := shm_107 f14
  replace f19 := shm_107 f19
  replace f21 := shm_107 f21
  replace f29 := shm_5 f29
  replace f30 := shm_5 f30
  replace f31 := shm_5 f31
  have q11 : n_v vs 11 = n_v vs 3 := f29.symm
  have q12 : n_v vs 12 = n_v vs 4 := f30.symm
  have q13 : n_v vs 13 = n_v vs 5 := f31.symm
  simp only [q13, q11, q12] at f0 f4 f6 f12 f14 f19 f21
  have h0 : v_iv (n_v vs 32) = w_ei ws (v_ad (n_v vs 5)) (v_iv (n_v vs 15)) := f0
  have h4 : v_iv (n_v vs 30) = w_ei ws (v_ad (n_v vs 5)) (v_iv (n_v vs 15)) := f4
  have h6 : v_iv (n_v vs 29) = w_ei ws (v_ad (n_v vs 5)) (v_iv (n_v vs 15)) := f6
  have h12 : v_iv (n_v vs 23) = w_ei ws (v_ad (n_v vs 3)) (v_iv (n_v vs 15)) := f12
  have h14 : v_iv (n_v vs 22) = w_ei ws (v_ad (n_v vs 4)) (v_iv (n_v vs 15)) := f14
  have h19 : v_iv (n_v vs 17) = w_ei ws (v_ad (n_v vs 4)) (v_iv (n_v vs 15)) := f19
  have h21 : v_iv (n_v vs 16) = w_ei ws (v_ad (n_v vs 3)) (v_iv (n_v vs 15)) := f21
  have hrf0 : 0 ≤ v_iv (n_v vs 32) ∧ v_iv (n_v vs 32) ≤ 47 := vc_Fa_uniteAt_at_Grtail_Grhead_Fablock_9_r0 (v_iv (n_v vs 15)) (v_iv (n_v vs 16)) (v_iv (n_v vs 17)) (v_iv (n_v vs 22)) (v_iv (n_v vs 23)) (v_iv (n_v vs 29)) (v_iv (n_v vs 30)) (v_iv (n_v vs 32)) (w_ei ws (v_ad (n_v vs 5))) (w_ei ws (v_ad (n_v vs 3))) (w_ei ws (v_ad (n_v vs 4))) k15 k16 k17 k22 k23 k29 k30 k32 h0 h4 h6 h12 h14 h19 h21
  have rf32 : tv_ok ta (0, 0, 47, []) (n_v vs 32) := tv_in t32 (by first | omega | grind) (by first | omega | grind)
  refine ⟨List.forall_mem_cons.mpr ⟨rf32, (fun _ h => (by cases h))⟩, [], trivial, ?_, (fun _ h => (by cases h))⟩
  rw [List.append_nil]
  exact (fun _ h => (by cases h))
set_option maxHeartbeats 4000000 in
theorem vc_Fa_uniteAt_at_Grtail_Grhead_Fablock_10_2 (x0 : Int) (x8 : Int) (x15 : Int) (x16 : Int) (x17 : Int) (x22 : Int) (x23 : Int) (x29 : Int) (x30 : Int) (x32 : Int) (a5_0 : Int → Int) (a3_0 : Int → Int) (a4_0 : Int → Int) (gu : Int) (k0 : 0 ≤ x0 ∧ x0 ≤ 23) (k8 : 0 ≤ x8 ∧ x8 ≤ 23) (k15 : 0 ≤ x15 ∧ x15 ≤ 47) (k16 : 0 ≤ x16 ∧ x16 ≤ 23) (k17 : 0 ≤ x17 ∧ x17 ≤ 23) (k22 : 0 ≤ x22 ∧ x22 ≤ 23) (k23 : 0 ≤ x23 ∧ x23 ≤ 23) (k29 : (-1) ≤ x29 ∧ x29 ≤ 47) (k30 : 0 ≤ x30 ∧ x30 ≤ 47) (k32 : 0 ≤ x32 ∧ x32 ≤ 47) (d0 : x8 + 0 ≤ x22 ∧ x22 ≤ x8 + 0) (d3 : x8 + (-4294967296) ≤ x0 ∧ x0 ≤ x8 + 0) (d6 : x0 + (-4294967296) ≤ x8 ∧ x8 ≤ x0 + 0) (h3 : x32 = a5_0 (x15)) (h7 : x30 = a5_0 (x15)) (h9 : x29 = a5_0 (x15)) (h15 : x23 = a3_0 (x15)) (h17 : x22 = a4_0 (x15)) (h22 : x17 = a4_0 (x15)) (h24 : x16 = a3_0 (x15)) (eu2 : gu = x0) : 1 * gu + ((-1) * x0 + 0) ≤ 0 := by
  first
    | omega
    | (skip; (first | subst h3 | skip); (first | subst h7 | skip); (first | subst h9 | skip); (first | subst h15 | skip); (first | subst h17 | skip); (first | subst h22 | skip); (first | subst h24 | skip); have q := ‹BLQ _ _› x15 (by omega) (by omega); omega)
set_option maxHeartbeats 4000000 in
theorem vc_Fa_uniteAt_at_Grtail_Grhead_Fablock_10_3 (x0 : Int) (x8 : Int) (x15 : Int) (x16 : Int) (x17 : Int) (x22 : Int) (x23 : Int) (x29 : Int) (x30 : Int) (x32 : Int) (a5_0 : Int → Int) (a3_0 : Int → Int) (a4_0 : Int → Int) (gu : Int) (k0 : 0 ≤ x0 ∧ x0 ≤ 23) (k8 : 0 ≤ x8 ∧ x8 ≤ 23) (k15 : 0 ≤ x15 ∧ x15 ≤ 47) (k16 : 0 ≤ x16 ∧ x16 ≤ 23) (k17 : 0 ≤ x17 ∧ x17 ≤ 23) (k22 : 0 ≤ x22 ∧ x22 ≤ 23) (k23 : 0 ≤ x23 ∧ x23 ≤ 23) (k29 : (-1) ≤ x29 ∧ x29 ≤ 47) (k30 : 0 ≤ x30 ∧ x30 ≤ 47) (k32 : 0 ≤ x32 ∧ x32 ≤ 47) (d0 : x8 + 0 ≤ x22 ∧ x22 ≤ x8 + 0) (d3 : x8 + (-4294967296) ≤ x0 ∧ x0 ≤ x8 + 0) (d6 : x0 + (-4294967296) ≤ x8 ∧ x8 ≤ x0 + 0) (h3 : x32 = a5_0 (x15)) (h7 : x30 = a5_0 (x15)) (h9 : x29 = a5_0 (x15)) (h15 : x23 = a3_0 (x15)) (h17 : x22 = a4_0 (x15)) (h22 : x17 = a4_0 (x15)) (h24 : x16 = a3_0 (x15)) (eu2 : gu = x0) : (-1) * gu + (1 * x0 + 0) ≤ 0 := by
  first
    | omega
    | (skip; (first | subst h3 | skip); (first | subst h7 | skip); (first | subst h9 | skip); (first | subst h15 | skip); (first | subst h17 | skip); (first | subst h22 | skip); (first | subst h24 | skip); have q := ‹BLQ _ _› x15 (by omega) (by omega); omega)
set_option maxHeartbeats 4000000 in
theorem vc_Fa_uniteAt_at_Grtail_Grhead_Fablock_10_5 (x7 : Int) (x15 : Int) (x16 : Int) (x17 : Int) (x22 : Int) (x23 : Int) (x29 : Int) (x30 : Int) (x32 : Int) (a5_0 : Int → Int) (a3_0 : Int → Int) (a4_0 : Int → Int) (gc : Int) (k7 : 0 ≤ x7 ∧ x7 ≤ 25) (k15 : 0 ≤ x15 ∧ x15 ≤ 47) (k16 : 0 ≤ x16 ∧ x16 ≤ 23) (k17 : 0 ≤ x17 ∧ x17 ≤ 23) (k22 : 0 ≤ x22 ∧ x22 ≤ 23) (k23 : 0 ≤ x23 ∧ x23 ≤ 23) (k29 : (-1) ≤ x29 ∧ x29 ≤ 47) (k30 : 0 ≤ x30 ∧ x30 ≤ 47) (k32 : 0 ≤ x32 ∧ x32 ≤ 47) (h3 : x32 = a5_0 (x15)) (h7 : x30 = a5_0 (x15)) (h9 : x29 = a5_0 (x15)) (h15 : x23 = a3_0 (x15)) (h17 : x22 = a4_0 (x15)) (h22 : x17 = a4_0 (x15)) (h24 : x16 = a3_0 (x15)) (ec2 : gc = x7) : 1 * gc + ((-1) * x7 + 0) ≤ 0 := by
  first
    | omega
    | (skip; (first | subst h3 | skip); (first | subst h7 | skip); (first | subst h9 | skip); (first | subst h15 | skip); (first | subst h17 | skip); (first | subst h22 | skip); (first | subst h24 | skip); have q := ‹BLQ _ _› x15 (by omega) (by omega); omega)
set_option maxHeartbeats 4000000 in
theorem vc_Fa_uniteAt_at_Grtail_Grhead_Fablock_10_6 (x7 : Int) (x15 : Int) (x16 : Int) (x17 : Int) (x22 : Int) (x23 : Int) (x29 : Int) (x30 : Int) (x32 : Int) (a5_0 : Int → Int) (a3_0 : Int → Int) (a4_0 : Int → Int) (gc : Int) (k7 : 0 ≤ x7 ∧ x7 ≤ 25) (k15 : 0 ≤ x15 ∧ x15 ≤ 47) (k16 : 0 ≤ x16 ∧ x16 ≤ 23) (k17 : 0 ≤ x17 ∧ x17 ≤ 23) (k22 : 0 ≤ x22 ∧ x22 ≤ 23) (k23 : 0 ≤ x23 ∧ x23 ≤ 23) (k29 : (-1) ≤ x29 ∧ x29 ≤ 47) (k30 : 0 ≤ x30 ∧ x30 ≤ 47) (k32 : 0 ≤ x32 ∧ x32 ≤ 47) (h3 : x32 = a5_0 (x15)) (h7 : x30 = a5_0 (x15)) (h9 : x29 = a5_0 (x15)) (h15 : x23 = a3_0 (x15)) (h17 : x22 = a4_0 (x15)) (h22 : x17 = a4_0 (x15)) (h24 : x16 = a3_0 (x15)) (ec2 : gc = x7) : (-1) * gc + (1 * x7 + 0) ≤ 0 := by
  first
    | omega
    | (skip; (first | subst h3 | skip); (first | subst h7 | skip); (first | subst h9 | skip); (first | subst h15 | skip); (first | subst h17 | skip); (first | subst h22 | skip); (first | subst h24 | skip); have q := ‹BLQ _ _› x15 (by omega) (by omega); omega)
set_option maxHeartbeats 4000000 in
theorem vc_Fa_uniteAt_at_Grtail_Grhead_Fablock_10_7 (x1 : Int) (x9 : Int) (x15 : Int) (x16 : Int) (x17 : Int) (x22 : Int) (x23 : Int) (x29 : Int) (x30 : Int) (x32 : Int) (a5_0 : Int → Int) (a3_0 : Int → Int) (a4_0 : Int → Int) (gd : Int) (k1 : 0 ≤ x1 ∧ x1 ≤ 16777215) (k9 : 0 ≤ x9 ∧ x9 ≤ 16777215) (k15 : 0 ≤ x15 ∧ x15 ≤ 47) (k16 : 0 ≤ x16 ∧ x16 ≤ 23) (k17 : 0 ≤ x17 ∧ x17 ≤ 23) (k22 : 0 ≤ x22 ∧ x22 ≤ 23) (k23 : 0 ≤ x23 ∧ x23 ≤ 23) (k29 : (-1) ≤ x29 ∧ x29 ≤ 47) (k30 : 0 ≤ x30 ∧ x30 ≤ 47) (k32 : 0 ≤ x32 ∧ x32 ≤ 47) (d4 : x9 + (-4294967296) ≤ x1 ∧ x1 ≤ x9 + 0) (d7 : x1 + (-4294967296) ≤ x9 ∧ x9 ≤ x1 + 0) (h3 : x32 = a5_0 (x15)) (h7 : x30 = a5_0 (x15)) (h9 : x29 = a5_0 (x15)) (h15 : x23 = a3_0 (x15)) (h17 : x22 = a4_0 (x15)) (h22 : x17 = a4_0 (x15)) (h24 : x16 = a3_0 (x15)) (ed2 : gd = x1) : 1 * gd + ((-1) * x1 + 0) ≤ 0 := by
  first
    | omega
    | (skip; (first | subst h3 | skip); (first | subst h7 | skip); (first | subst h9 | skip); (first | subst h15 | skip); (first | subst h17 | skip); (first | subst h22 | skip); (first | subst h24 | skip); have q := ‹BLQ _ _› x15 (by omega) (by omega); omega)
set_option maxHeartbeats 4000000 in
theorem vc_Fa_uniteAt_at_Grtail_Grhead_Fablock_10_8 (x1 : Int) (x9 : Int) (x15 : Int) (x16 : Int) (x17 : Int) (x22 : Int) (x23 : Int) (x29 : Int) (x30 : Int) (x32 : Int) (a5_0 : Int → Int) (a3_0 : Int → Int) (a4_0 : Int → Int) (gd : Int) (k1 : 0 ≤ x1 ∧ x1 ≤ 16777215) (k9 : 0 ≤ x9 ∧ x9 ≤ 16777215) (k15 : 0 ≤ x15 ∧ x15 ≤ 47) (k16 : 0 ≤ x16 ∧ x16 ≤ 23) (k17 : 0 ≤ x17 ∧ x17 ≤ 23) (k22 : 0 ≤ x22 ∧ x22 ≤ 23) (k23 : 0 ≤ x23 ∧ x23 ≤ 23) (k29 : (-1) ≤ x29 ∧ x29 ≤ 47) (k30 : 0 ≤ x30 ∧ x30 ≤ 47) (k32 : 0 ≤ x32 ∧ x32 ≤ 47) (d4 : x9 + (-4294967296) ≤ x1 ∧ x1 ≤ x9 + 0) (d7 : x1 + (-4294967296) ≤ x9 ∧ x9 ≤ x1 + 0) (h3 : x32 = a5_0 (x15)) (h7 : x30 = a5_0 (x15)) (h9 : x29 = a5_0 (x15)) (h15 : x23 = a3_0 (x15)) (h17 : x22 = a4_0 (x15)) (h22 : x17 = a4_0 (x15)) (h24 : x16 = a3_0 (x15)) (ed2 : gd = x1) : (-1) * gd + (1 * x1 + 0) ≤ 0 := by
  first
    | omega
    | (skip; (first | subst h3 | skip); (first | subst h7 | skip); (first | subst h9 | skip); (first | subst h15 | skip); (first | subst h17 | skip); (first | subst h22 | skip); (first | subst h24 | skip); have q := ‹BLQ _ _› x15 (by omega) (by omega); omega)
set_option maxHeartbeats 4000000 in
theorem vc_Fa_uniteAt_at_Grtail_Grhead_Fablock_10_9 (x2 : Int) (a5_0 : Int → Int) (k2 : 1 ≤ x2 ∧ x2 ≤ 48) (f26 : BLQ (a5_0) (x2)) : BLQ (a5_0) (x2) := by
  first
    | assumption
  
set_option maxHeartbeats 4000000 in
theorem vc_Fa_uniteAt_at_Grtail_Grhead_Fablock_10_10 (x15 : Int) (x16 : Int) (x17 : Int) (x22 : Int) (x23 : Int) (x29 : Int) (x30 : Int) (x31 : Int) (x32 : Int) (x33 : Int) (a5_0 : Int → Int) (a3_0 : Int → Int) (a4_0 : Int → Int) (k15 : 0 ≤ x15 ∧ x15 ≤ 47) (k16 : 0 ≤ x16 ∧ x16 ≤ 23) (k17 : 0 ≤ x17 ∧ x17 ≤ 23) (k22 : 0 ≤ x22 ∧ x22 ≤ 23) (k23 : 0 ≤ x23 ∧ x23 ≤ 23) (k29 : (-1) ≤ x29 ∧ x29 ≤ 47) (k30 : 0 ≤ x30 ∧ x30 ≤ 47) (k31 : 0 ≤ x31 ∧ x31 ≤ 47) (k32 : 0 ≤ x32 ∧ x32 ≤ 47) (k33 : 0 ≤ x33 ∧ x33 ≤ 47) (f1 : (-1) * x32 + (1 * x33 + 0) ≤ 0) (h3 : x32 = a5_0 (x15)) (f5 : 1 * x30 + ((-1) * x31 + 0) ≤ 0) (h7 : x30 = a5_0 (x15)) (h9 : x29 = a5_0 (x15)) (h15 : x23 = a3_0 (x15)) (h17 : x22 = a4_0 (x15)) (h22 : x17 = a4_0 (x15)) (h24 : x16 = a3_0 (x15)) : (0 ≤ x33) ∧ (x33 ≤ x31) := by
  first
    | omega
    | (skip; (first | subst h3 | skip); (first | subst h7 | skip); (first | subst h9 | skip); (first | subst h15 | skip); (first | subst h17 | skip); (first | subst h22 | skip); (first | subst h24 | skip); have q := ‹BLQ _ _› x15 (by omega) (by omega); omega)
set_option maxHeartbeats 4000000 in
theorem vc_Fa_uniteAt_at_Grtail_Grhead_Fablock_10_11 (x0 : Int) (x2 : Int) (x8 : Int) (x14 : Int) (x15 : Int) (x16 : Int) (x22 : Int) (x26 : Int) (x28 : Int) (x29 : Int) (x30 : Int) (x31 : Int) (x32 : Int) (x33 : Int) (a5_0 : Int → Int) (a3_0 : Int → Int) (a4_0 : Int → Int) (gu : Int) (k0 : 0 ≤ x0 ∧ x0 ≤ 23) (k2 : 1 ≤ x2 ∧ x2 ≤ 48) (k8 : 0 ≤ x8 ∧ x8 ≤ 23) (k14 : 0 ≤ x14 ∧ x14 ≤ 47) (k15 : 0 ≤ x15 ∧ x15 ≤ 47) (k16 : 0 ≤ x16 ∧ x16 ≤ 23) (k22 : 0 ≤ x22 ∧ x22 ≤ 23) (k26 : 1 ≤ x26 ∧ x26 ≤ 1) (k28 : (-1) ≤ x28 ∧ x28 ≤ (-1)) (k29 : (-1) ≤ x29 ∧ x29 ≤ 47) (k30 : 0 ≤ x30 ∧ x30 ≤ 47) (k31 : 0 ≤ x31 ∧ x31 ≤ 47) (k32 : 0 ≤ x32 ∧ x32 ≤ 47) (k33 : 0 ≤ x33 ∧ x33 ≤ 47) (d0 : x8 + 0 ≤ x22 ∧ x22 ≤ x8 + 0) (d1 : x8 + 0 ≤ x16 ∧ x16 ≤ x8 + 0) (d3 : x8 + (-4294967296) ≤ x0 ∧ x0 ≤ x8 + 0) (d6 : x0 + (-4294967296) ≤ x8 ∧ x8 ≤ x0 + 0) (f0 : (-1) * x14 + (1 * x33 + 0) ≤ 0) (f1 : (-1) * x32 + (1 * x33 + 0) ≤ 0) (f2 : (x33 = x14) ∨ (x33 = x32)) (h3 : x32 = a5_0 (x15)) (f4 : 1 * x14 + ((-1) * x31 + 0) ≤ 0) (f5 : 1 * x30 + ((-1) * x31 + 0) ≤ 0) (f6 : (x31 = x14) ∨ (x31 = x30)) (h7 : x30 = a5_0 (x15)) (f8 : x29 ≠ x14) (h9 : x29 = a5_0 (x15)) (f10 : x14 ≠ x28) (f11 : x26 ≠ 0) (h17 : x22 = a4_0 (x15)) (h24 : x16 = a3_0 (x15)) (f25 : x15 < x2) (f27 : UNI (a5_0) (a3_0) (a4_0) (x2) (x0) (x14)) (eu2 : gu = x0) : RLP (a5_0) (a3_0) (a4_0) (x2) (x31) (x33) (gu) := by
  first
    | (rw [show gu = x0 by omega]; exact uni_rlp (e := x15) ‹UNI _ _ _ _ _ _› (by omega) rfl (by omega) (by omega) (by omega) (by first | exact Or.inl (by omega) | exact Or.inr (by omega)) (by omega) (by omega) (by omega) (by omega) (by omega) (by omega))
  
set_option maxHeartbeats 4000000 in
theorem vc_Fa_uniteAt_at_Grtail_Grhead_Fablock_10_12 (x0 : Int) (x1 : Int) (x2 : Int) (x7 : Int) (x8 : Int) (x14 : Int) (x15 : Int) (x16 : Int) (x17 : Int) (x18 : Int) (x19 : Int) (x20 : Int) (x22 : Int) (x23 : Int) (x24 : Int) (x25 : Int) (x26 : Int) (x28 : Int) (x29 : Int) (x30 : Int) (x31 : Int) (x32 : Int) (x33 : Int) (a5_0 : Int → Int) (a3_0 : Int → Int) (a4_0 : Int → Int) (a6_0 : Int → Int) (gu : Int) (gc : Int) (gd : Int) (k0 : 0 ≤ x0 ∧ x0 ≤ 23) (k1 : 0 ≤ x1 ∧ x1 ≤ 16777215) (k2 : 1 ≤ x2 ∧ x2 ≤ 48) (k7 : 0 ≤ x7 ∧ x7 ≤ 25) (k8 : 0 ≤ x8 ∧ x8 ≤ 23) (k14 : 0 ≤ x14 ∧ x14 ≤ 47) (k15 : 0 ≤ x15 ∧ x15 ≤ 47) (k16 : 0 ≤ x16 ∧ x16 ≤ 23) (k22 : 0 ≤ x22 ∧ x22 ≤ 23) (k23 : 0 ≤ x23 ∧ x23 ≤ 23) (k24 : 0 ≤ x24 ∧ x24 ≤ 16777215) (k25 : 1 ≤ x25 ∧ x25 ≤ 1) (k26 : 1 ≤ x26 ∧ x26 ≤ 1) (k28 : (-1) ≤ x28 ∧ x28 ≤ (-1)) (k29 : (-1) ≤ x29 ∧ x29 ≤ 47) (k30 : 0 ≤ x30 ∧ x30 ≤ 47) (k31 : 0 ≤ x31 ∧ x31 ≤ 47) (k32 : 0 ≤ x32 ∧ x32 ≤ 47) (k33 : 0 ≤ x33 ∧ x33 ≤ 47) (d0 : x8 + 0 ≤ x22 ∧ x22 ≤ x8 + 0) (d1 : x8 + 0 ≤ x16 ∧ x16 ≤ x8 + 0) (d3 : x8 + (-4294967296) ≤ x0 ∧ x0 ≤ x8 + 0) (d6 : x0 + (-4294967296) ≤ x8 ∧ x8 ≤ x0 + 0) (f0 : (-1) * x14 + (1 * x33 + 0) ≤ 0) (f1 : (-1) * x32 + (1 * x33 + 0) ≤ 0) (f2 : (x33 = x14) ∨ (x33 = x32)) (h3 : x32 = a5_0 (x15)) (f4 : 1 * x14 + ((-1) * x31 + 0) ≤ 0) (f5 : 1 * x30 + ((-1) * x31 + 0) ≤ 0) (f6 : (x31 = x14) ∨ (x31 = x30)) (h7 : x30 = a5_0 (x15)) (f8 : x29 ≠ x14) (h9 : x29 = a5_0 (x15)) (f10 : x14 ≠ x28) (f11 : x26 ≠ 0) (f13 : bvp (x26) = bvp (x24) &&& bvp (x25)) (f14 : bvp (x24) = bvp (x1) >>> (x23).toNat) (h15 : x23 = a3_0 (x15)) (h17 : x22 = a4_0 (x15)) (h24 : x16 = a3_0 (x15)) (f25 : x15 < x2) (f28 : UN2 (a5_0) (a3_0) (a4_0) (a6_0) (x7) (x2) (x0) (x1) (x14)) (eu2 : gu = x0) (ec2 : gc = x7) (ed2 : gd = x1) : QKP (a5_0) (a3_0) (a4_0) (a6_0) (gc) (x2) (gu) (gd) (x31) (x33) := by
  first
    | (rw [show gu = x0 by omega, show gc = x7 by omega, show gd = x1 by omega]; exact un2_qkp (e := x15) ‹UN2 _ _ _ _ _ _ _ _ _› (by omega) rfl (by omega) (by omega) (by omega) (by first | exact Or.inl ⟨by omega, by omega, by rw [← ‹x17 = a4_0 x15›]; exact (bit_one (s := x1) (t := x18) (c := x20) (v := x17) (one := x19) (by assumption) (by assumption) (by omega) (by omega) (by omega) (by omega)).mpr (by omega)⟩ | exact Or.inr ⟨by omega, by omega, by rw [← ‹x19 = a3_0 x15›]; exact (bit_one (s := x1) (t := x20) (c := x22) (v := x19) (one := x21) (by assumption) (by assumption) (by omega) (by omega) (by omega) (by omega)).mpr (by omega)⟩ | exact Or.inr ⟨by omega, by omega, by rw [← ‹x23 = a3_0 x15›]; exact (bit_one (s := x1) (t := x24) (c := x26) (v := x23) (one := x25) (by assumption) (by assumption) (by omega) (by omega) (by omega) (by omega)).mpr (by omega)⟩) (by omega) (by omega) (by omega) (by omega) (by omega) (by omega))
  
set_option maxHeartbeats 4000000 in
theorem vc_Fa_uniteAt_at_Grtail_Grhead_Fablock_10_13 (x0 : Int) (x15 : Int) (x16 : Int) (x17 : Int) (x22 : Int) (x23 : Int) (x29 : Int) (x30 : Int) (x32 : Int) (a5_0 : Int → Int) (a3_0 : Int → Int) (a4_0 : Int → Int) (gu : Int) (k0 : 0 ≤ x0 ∧ x0 ≤ 23) (k15 : 0 ≤ x15 ∧ x15 ≤ 47) (k16 : 0 ≤ x16 ∧ x16 ≤ 23) (k17 : 0 ≤ x17 ∧ x17 ≤ 23) (k22 : 0 ≤ x22 ∧ x22 ≤ 23) (k23 : 0 ≤ x23 ∧ x23 ≤ 23) (k29 : (-1) ≤ x29 ∧ x29 ≤ 47) (k30 : 0 ≤ x30 ∧ x30 ≤ 47) (k32 : 0 ≤ x32 ∧ x32 ≤ 47) (h3 : x32 = a5_0 (x15)) (h7 : x30 = a5_0 (x15)) (h9 : x29 = a5_0 (x15)) (h15 : x23 = a3_0 (x15)) (h17 : x22 = a4_0 (x15)) (h22 : x17 = a4_0 (x15)) (h24 : x16 = a3_0 (x15)) (eu2 : gu = x0) : gu = x0 := by
  first
    | omega
    | (skip; (first | subst h3 | skip); (first | subst h7 | skip); (first | subst h9 | skip); (first | subst h15 | skip); (first | subst h17 | skip); (first | subst h22 | skip); (first | subst h24 | skip); have q := ‹BLQ _ _› x15 (by omega) (by omega); omega)
set_option maxHeartbeats 4000000 in
theorem vc_Fa_uniteAt_at_Grtail_Grhead_Fablock_10_14 (x15 : Int) (x16 : Int) (x17 : Int) (x22 : Int) (x23 : Int) (x29 : Int) (x30 : Int) (x32 : Int) (x33 : Int) (a5_0 : Int → Int) (a3_0 : Int → Int) (a4_0 : Int → Int) (k15 : 0 ≤ x15 ∧ x15 ≤ 47) (k16 : 0 ≤ x16 ∧ x16 ≤ 23) (k17 : 0 ≤ x17 ∧ x17 ≤ 23) (k22 : 0 ≤ x22 ∧ x22 ≤ 23) (k23 : 0 ≤ x23 ∧ x23 ≤ 23) (k29 : (-1) ≤ x29 ∧ x29 ≤ 47) (k30 : 0 ≤ x30 ∧ x30 ≤ 47) (k32 : 0 ≤ x32 ∧ x32 ≤ 47) (k33 : 0 ≤ x33 ∧ x33 ≤ 47) (h3 : x32 = a5_0 (x15)) (h7 : x30 = a5_0 (x15)) (h9 : x29 = a5_0 (x15)) (h15 : x23 = a3_0 (x15)) (h17 : x22 = a4_0 (x15)) (h22 : x17 = a4_0 (x15)) (h24 : x16 = a3_0 (x15)) : 0 ≤ x33 := by
  first
    | omega
    | (skip; (first | subst h3 | skip); (first | subst h7 | skip); (first | subst h9 | skip); (first | subst h15 | skip); (first | subst h17 | skip); (first | subst h22 | skip); (first | subst h24 | skip); have q := ‹BLQ _ _› x15 (by omega) (by omega); omega)
set_option maxHeartbeats 4000000 in
theorem vc_Fa_uniteAt_at_Grtail_Grhead_Fablock_10_15 (x7 : Int) (x15 : Int) (x16 : Int) (x17 : Int) (x22 : Int) (x23 : Int) (x29 : Int) (x30 : Int) (x32 : Int) (a5_0 : Int → Int) (a3_0 : Int → Int) (a4_0 : Int → Int) (gc : Int) (k7 : 0 ≤ x7 ∧ x7 ≤ 25) (k15 : 0 ≤ x15 ∧ x15 ≤ 47) (k16 : 0 ≤ x16 ∧ x16 ≤ 23) (k17 : 0 ≤ x17 ∧ x17 ≤ 23) (k22 : 0 ≤ x22 ∧ x22 ≤ 23) (k23 : 0 ≤ x23 ∧ x23 ≤ 23) (k29 : (-1) ≤ x29 ∧ x29 ≤ 47) (k30 : 0 ≤ x30 ∧ x30 ≤ 47) (k32 : 0 ≤ x32 ∧ x32 ≤ 47) (h3 : x32 = a5_0 (x15)) (h7 : x30 = a5_0 (x15)) (h9 : x29 = a5_0 (x15)) (h15 : x23 = a3_0 (x15)) (h17 : x22 = a4_0 (x15)) (h22 : x17 = a4_0 (x15)) (h24 : x16 = a3_0 (x15)) (ec2 : gc = x7) : gc = x7 := by
  first
    | omega
    | (skip; (first | subst h3 | skip); (first | subst h7 | skip); (first | subst h9 | skip); (first | subst h15 | skip); (first | subst h17 | skip); (first | subst h22 | skip); (first | subst h24 | skip); have q := ‹BLQ _ _› x15 (by omega) (by omega); omega)
set_option maxHeartbeats 4000000 in
theorem vc_Fa_uniteAt_at_Grtail_Grhead_Fablock_10_16 (x1 : Int) (x15 : Int) (x16 : Int) (x17 : Int) (x22 : Int) (x23 : Int) (x29 : Int) (x30 : Int) (x32 : Int) (a5_0 : Int → Int) (a3_0 : Int → Int) (a4_0 : Int → Int) (gd : Int) (k1 : 0 ≤ x1 ∧ x1 ≤ 16777215) (k15 : 0 ≤ x15 ∧ x15 ≤ 47) (k16 : 0 ≤ x16 ∧ x16 ≤ 23) (k17 : 0 ≤ x17 ∧ x17 ≤ 23) (k22 : 0 ≤ x22 ∧ x22 ≤ 23) (k23 : 0 ≤ x23 ∧ x23 ≤ 23) (k29 : (-1) ≤ x29 ∧ x29 ≤ 47) (k30 : 0 ≤ x30 ∧ x30 ≤ 47) (k32 : 0 ≤ x32 ∧ x32 ≤ 47) (h3 : x32 = a5_0 (x15)) (h7 : x30 = a5_0 (x15)) (h9 : x29 = a5_0 (x15)) (h15 : x23 = a3_0 (x15)) (h17 : x22 = a4_0 (x15)) (h22 : x17 = a4_0 (x15)) (h24 : x16 = a3_0 (x15)) (ed2 : gd = x1) : gd = x1 := by
  first
    | omega
    | (skip; (first | subst h3 | skip); (first | subst h7 | skip); (first | subst h9 | skip); (first | subst h15 | skip); (first | subst h17 | skip); (first | subst h22 | skip); (first | subst h24 | skip); have q := ‹BLQ _ _› x15 (by omega) (by omega); omega)
def o_Fa_uniteAt_at_Grtail_Grhead_Fablock_10 : or_T := (136, 34, [(0, (0, 0, 23, [])), (1, (0, 0, 16777215, [])), (2, (0, 1, 48, [])), (3, (2, 0, 0, [52])), (4, (2, 0, 0, [53])), (5, (2, 0, 0, [38])), (6, (2, 0, 0, [59])), (7, (0, 0, 25, [])), (8, (0, 0, 23, [])), (9, (0, 0, 16777215, [])), (10, (0, 1, 48, [])), (11, (2, 0, 0, [52])), (12, (2, 0, 0, [53])), (13, (2, 0, 0, [38])), (14, (0, 0, 47, [])), (15, (0, 0, 47, [])), (16, (0, 0, 23, [])), (17, (0, 0, 23, [])), (18, (0, 0, 16777215, [])), (19, (0, 1, 1, [])), (20, (0, 0, 0, [])), (22, (0, 0, 23, [])), (23, (0, 0, 23, [])), (24, (0, 0, 16777215, [])), (25, (0, 1, 1, [])), (26, (0, 1, 1, [])), (28, (0, -1, -1, [])), (29, (0, -1, 47, [])), (30, (0, 0, 47, [])), (31, (0, 0, 47, [])), (32, (0, 0, 47, [])), (33, (0, 0, 47, []))], [(23, [14, 33], [0, -1, 1]), (23, [32, 33], [0, -1, 1]), (20, [33, 14, 32], [50, 0, 0, 3, 6, 1, 2, 1, 0, 1, 1, 1, 2, 1, 0, 1, 2]), (10, [32, 13, 15], []), (23, [14, 31], [0, 1, -1]), (23, [30, 31], [0, 1, -1]), (20, [31, 14, 30], [50, 0, 0, 3, 6, 1, 2, 1, 0, 1, 1, 1, 2, 1, 0, 1, 2]), (10, [30, 13, 15], []), (7, [29, 14], [1]), (10, [29, 13, 15], []), (7, [14, 28], [1]), (8, [26], [1]), (12, [26, 24], [2]), (16, [26, 24, 25], [0]), (16, [24, 9, 23], [4]), (10, [23, 11, 15], []), (7, [22, 8], [0]), (10, [22, 12, 15], []), (8, [20], [0]), (12, [20, 18], [2]), (16, [20, 18, 19], [0]), (16, [18, 9, 17], [4]), (10, [17, 12, 15], []), (7, [16, 8], [0]), (10, [16, 11, 15], []), (7, [15, 10], [2]), (20, [13, 10], [61, 1, 566]), (20, [13, 11, 12, 10, 8, 14], [61, 3, 584]), (20, [13, 11, 12, 6, 7, 10, 8, 9, 14], [61, 4, 589]), (24, [0, 8], []), (24, [1, 9], []), (24, [2, 10], []), (24, [3, 11], []), (24, [4, 12], []), (24, [5, 13], [])], [], [(2, 0, 0, [52]), (2, 0, 0, [53]), (0, 0, 24, []), (2, 0, 0, [59]), (0, 0, 25, []), (0, -2147483648, 2147483647, [])], [(24, [3, 34], []), (24, [4, 35], []), (23, [36, 8], [0, 1, -1]), (23, [36, 8], [0, -1, 1]), (24, [6, 37], []), (23, [38, 7], [0, 1, -1]), (23, [38, 7], [0, -1, 1]), (23, [39, 9], [0, 1, -1]), (23, [39, 9], [0, -1, 1]), (20, [13, 10], [61, 1, 566]), (20, [33, 31], [50, 0, 0, 2, 6, 0, 2, 0, 0, 1, 0, 0, 2, 1, 0, 1, 1]), (20, [13, 34, 35, 10, 31, 33, 36], [61, 3, 581]), (20, [13, 34, 35, 37, 38, 10, 36, 39, 31, 33], [61, 4, 590]), (20, [36, 8], [50, 0, 0, 1, 2, 1, 0, 1, 1]), (20, [33], [50, 0, 0, 0, 2, 0, 0, 1, 0]), (20, [38, 7], [50, 0, 0, 1, 2, 1, 0, 1, 1]), (20, [39, 9], [50, 0, 0, 1, 2, 1, 0, 1, 1])], [], [(22, 8, 0, 0), (16, 8, 0, 0), (15, 10, -4294967296, -1), (0, 8, -4294967296, 0), (1, 9, -4294967296, 0), (2, 10, -4294967296, 0), (8, 0, -4294967296, 0), (9, 1, -4294967296, 0), (10, 2, -4294967296, 0), (14, 15, -4294967296, 46), (15, 2, -4294967296, 0), (15, 10, -4294967296, 0)])
theorem oo_Fa_uniteAt_at_Grtail_Grhead_Fablock_10 {kA : Nat → ClassId} : or_ok PRD kA GG o_Fa_uniteAt_at_Grtail_Grhead_Fablock_10 := by
  refine or_mk fun A ta ws vs hD hth hl => ?_
  intro t0 k0 t1 k1 t2 k2 t3 r3 t4 r4 t5 r5 t6 r6 t7 k7 t8 k8 t9 k9 t10 k10 t11 r11 t12 r12 t13 r13 t14 k14 t15 k15 t16 k16 t17 k17 t18 k18 t19 k19 t20 k20 t22 k22 t23 k23 t24 k24 t25 k25 t26 k26 t28 k28 t29 k29 t30 k30 t31 k31 t32 k32 t33 k33 d0 d1 d2 d3 d4 d5 d6 d7 d8 d9 d10 d11 f0 f1 f2 f3 f4 f5 f6 f7 f8 f9 f10 f11 f12 f13 f14 f15 f16 f17 f18 f19 f20 f21 f22 f23 f24 f25 f26 f27 f28 f29 f30 f31 f32 f33 f34
  replace f0 := shm_22 f0
  replace f1 := shm_22 f1
  replace f2 := shm_898 f2
  replace f3 := shm_107 f3
  replace f4 := shm_7 f4
  replace f5 := shm_7 f5
  replace f6 := shm_898 f6
  replace f7 := shm_107 f7
  replace f8 := shm_40 f8
  replace f9 := shm_107 f9
  replace f10 := shm_40 f10
  replace f11 := shm_142 f11
  replace f13 := shm_11 f13
  replace f14 := shm_13 f14
  replace f15 := shm_107 f15
  replace f17 := shm_107 f17
  replace f22 := shm_107 f22
  replace f24 := shm_107 f24
  replace f25 := shm_6 f25
  replace f26 := shm_365 f26
  replace f27 := shm_1193 f27
  replace f28 := shm_1194 f28
  replace f29 := shm_5 f29
  replace f30 := shm_5 f30
  replace f31 := shm_5 f31
  replace f32 := shm_5 f32
  replace f33 := shm_5 f33
  replace f34 := shm_5 f34
  have q8 : n_v vs 8 = n_v vs 0 := f29.symm
  have q9 : n_v vs 9 = n_v vs 1 := f30.symm
  have q10 : n_v vs 10 = n_v vs 2 := f31.symm
  have q11 : n_v vs 11 = n_v vs 3 := f32.symm
  have q12 : n_v vs 12 = n_v vs 4 := f33.symm
  have q13 : n_v vs 13 = n_v vs 5 := f34.symm
  simp only [q13, q9, q11, q8, q12, q10] at f3 f7 f9 f14 f15 f17 f22 f24 f25 f26 f27 f28
  have h3 : v_iv (n_v vs 32) = w_ei ws (v_ad (n_v vs 5)) (v_iv (n_v vs 15)) := f3
  have h7 : v_iv (n_v vs 30) = w_ei ws (v_ad (n_v vs 5)) (v_iv (n_v vs 15)) := f7
  have h9 : v_iv (n_v vs 29) = w_ei ws (v_ad (n_v vs 5)) (v_iv (n_v vs 15)) := f9
  have h15 : v_iv (n_v vs 23) = w_ei ws (v_ad (n_v vs 3)) (v_iv (n_v vs 15)) := f15
  have h17 : v_iv (n_v vs 22) = w_ei ws (v_ad (n_v vs 4)) (v_iv (n_v vs 15)) := f17
  have h22 : v_iv (n_v vs 17) = w_ei ws (v_ad (n_v vs 4)) (v_iv (n_v vs 15)) := f22
  have h24 : v_iv (n_v vs 16) = w_ei ws (v_ad (n_v vs 3)) (v_iv (n_v vs 15)) := f24
  obtain ⟨u, eu, hu⟩ := iv_ex (ta := ta) (lo := 0) (hi := 24) (z := v_iv (n_v vs 0)) (by omega) (by omega) (by omega) (by omega)
  have eu2 : v_iv (Value.int u) = v_iv (n_v vs 0) := eu
  have eu3 : 0 ≤ v_iv (Value.int u) ∧ v_iv (Value.int u) ≤ 24 := tv_rng hu
  obtain ⟨c, ec, hc⟩ := iv_ex (ta := ta) (lo := 0) (hi := 25) (z := v_iv (n_v vs 7)) (by omega) (by omega) (by omega) (by omega)
  have ec2 : v_iv (Value.int c) = v_iv (n_v vs 7) := ec
  have ec3 : 0 ≤ v_iv (Value.int c) ∧ v_iv (Value.int c) ≤ 25 := tv_rng hc
  obtain ⟨d, ed, hd⟩ := iv_ex (ta := ta) (lo := (-2147483648)) (hi := 2147483647) (z := v_iv (n_v vs 1)) (by omega) (by omega) (by omega) (by omega)
  have ed2 : v_iv (Value.int d) = v_iv (n_v vs 1) := ed
  have ed3 : (-2147483648) ≤ v_iv (Value.int d) ∧ v_iv (Value.int d) ≤ 2147483647 := tv_rng hd
  have e_3 : n_v (vs ++ [n_v vs 3, n_v vs 4, Value.int u, n_v vs 6, Value.int c, Value.int d]) 3 = n_v vs 3 := n_v_old (by rw [hl]; decide)
  have e_4 : n_v (vs ++ [n_v vs 3, n_v vs 4, Value.int u, n_v vs 6, Value.int c, Value.int d]) 4 = n_v vs 4 := n_v_old (by rw [hl]; decide)
  have e_6 : n_v (vs ++ [n_v vs 3, n_v vs 4, Value.int u, n_v vs 6, Value.int c, Value.int d]) 6 = n_v vs 6 := n_v_old (by rw [hl]; decide)
  have e_7 : n_v (vs ++ [n_v vs 3, n_v vs 4, Value.int u, n_v vs 6, Value.int c, Value.int d]) 7 = n_v vs 7 := n_v_old (by rw [hl]; decide)
  have e_8 : n_v (vs ++ [n_v vs 3, n_v vs 4, Value.int u, n_v vs 6, Value.int c, Value.int d]) 8 = n_v vs 8 := n_v_old (by rw [hl]; decide)
  have e_9 : n_v (vs ++ [n_v vs 3, n_v vs 4, Value.int u, n_v vs 6, Value.int c, Value.int d]) 9 = n_v vs 9 := n_v_old (by rw [hl]; decide)
  have e_10 : n_v (vs ++ [n_v vs 3, n_v vs 4, Value.int u, n_v vs 6, Value.int c, Value.int d]) 10 = n_v vs 10 := n_v_old (by rw [hl]; decide)
  have e_13 : n_v (vs ++ [n_v vs 3, n_v vs 4, Value.int u, n_v vs 6, Value.int c, Value.int d]) 13 = n_v vs 13 := n_v_old (by rw [hl]; decide)
  have e_31 : n_v (vs ++ [n_v vs 3, n_v vs 4, Value.int u, n_v vs 6, Value.int c, Value.int d]) 31 = n_v vs 31 := n_v_old (by rw [hl]; decide)
  have e_33 : n_v (vs ++ [n_v vs 3, n_v vs 4, Value.int u, n_v vs 6, Value.int c, Value.int d]) 33 = n_v vs 33 := n_v_old (by rw [hl]; decide)
  have e_34 : n_v (vs ++ [n_v vs 3, n_v vs 4, Value.int u, n_v vs 6, Value.int c, Value.int d]) 34 = n_v vs 3 := n_v_newk (k := 0) hl rfl
  have e_35 : n_v (vs ++ [n_v vs 3, n_v vs 4, Value.int u, n_v vs 6, Value.int c, Value.int d]) 35 = n_v vs 4 := n_v_newk (k := 1) hl rfl
  have e_36 : n_v (vs ++ [n_v vs 3, n_v vs 4, Value.int u, n_v vs 6, Value.int c, Value.int d]) 36 = Value.int u := n_v_newk (k := 2) hl rfl
  have e_37 : n_v (vs ++ [n_v vs 3, n_v vs 4, Value.int u, n_v vs 6, Value.int c, Value.int d]) 37 = n_v vs 6 := n_v_newk (k := 3) hl rfl
  have e_38 : n_v (vs ++ [n_v vs 3, n_v vs 4, Value.int u, n_v vs 6, Value.int c, Value.int d]) 38 = Value.int c := n_v_newk (k := 4) hl rfl
  have e_39 : n_v (vs ++ [n_v vs 3, n_v vs 4, Value.int u, n_v vs 6, Value.int c, Value.int d]) 39 = Value.int d := n_v_newk (k := 5) hl rfl
  have nf0 : fc_1 PRD (24, [3, 34], []) ws (vs ++ [n_v vs 3, n_v vs 4, Value.int u, n_v vs 6, Value.int c, Value.int d]) := by
    refine ⟨nf_inA hl rfl, sgq_5 ?_⟩
    · show n_v (vs ++ [n_v vs 3, n_v vs 4, Value.int u, n_v vs 6, Value.int c, Value.int d]) 3 = n_v (vs ++ [n_v vs 3, n_v vs 4, Value.int u, n_v vs 6, Value.int c, Value.int d]) 34
      first | rfl | simp only [e_3, e_34, q8, q9, q10, q11, q12, q13]
  have nf1 : fc_1 PRD (24, [4, 35], []) ws (vs ++ [n_v vs 3, n_v vs 4, Value.int u, n_v vs 6, Value.int c, Value.int d]) := by
    refine ⟨nf_inA hl rfl, sgq_5 ?_⟩
    · show n_v (vs ++ [n_v vs 3, n_v vs 4, Value.int u, n_v vs 6, Value.int c, Value.int d]) 4 = n_v (vs ++ [n_v vs 3, n_v vs 4, Value.int u, n_v vs 6, Value.int c, Value.int d]) 35
      first | rfl | simp only [e_4, e_35, q8, q9, q10, q11, q12, q13]
  have nf2 : fc_1 PRD (23, [36, 8], [0, 1, -1]) ws (vs ++ [n_v vs 3, n_v vs 4, Value.int u, n_v vs 6, Value.int c, Value.int d]) := by
    refine ⟨nf_inA hl rfl, sgq_7 ?_⟩
    · show 1 * v_iv (n_v (vs ++ [n_v vs 3, n_v vs 4, Value.int u, n_v vs 6, Value.int c, Value.int d]) 36) + ((-1) * v_iv (n_v (vs ++ [n_v vs 3, n_v vs 4, Value.int u, n_v vs 6, Value.int c, Value.int d]) 8) + 0) ≤ 0
      simp only [e_8, e_36, q8]
      exact vc_Fa_uniteAt_at_Grtail_Grhead_Fablock_10_2 (v_iv (n_v vs 0)) (v_iv (n_v vs 8)) (v_iv (n_v vs 15)) (v_iv (n_v vs 16)) (v_iv (n_v vs 17)) (v_iv (n_v vs 22)) (v_iv (n_v vs 23)) (v_iv (n_v vs 29)) (v_iv (n_v vs 30)) (v_iv (n_v vs 32)) (w_ei ws (v_ad (n_v vs 5))) (w_ei ws (v_ad (n_v vs 3))) (w_ei ws (v_ad (n_v vs 4))) (v_iv (Value.int u)) k0 k8 k15 k16 k17 k22 k23 k29 k30 k32 d0 d3 d6 h3 h7 h9 h15 h17 h22 h24 eu2
  have nf3 : fc_1 PRD (23, [36, 8], [0, -1, 1]) ws (vs ++ [n_v vs 3, n_v vs 4, Value.int u, n_v vs 6, Value.int c, Value.int d]) := by
    refine ⟨nf_inA hl rfl, sgq_22 ?_⟩
    · show (-1) * v_iv (n_v (vs ++ [n_v vs 3, n_v vs 4, Value.int u, n_v vs 6, Value.int c, Value.int d]) 36) + (1 * v_iv (n_v (vs ++ [n_v vs 3, n_v vs 4, Value.int u, n_v vs 6, Value.int c, Value.int d]) 8) + 0) ≤ 0
      simp only [e_8, e_36, q8]
      exact vc_Fa_uniteAt_at_Grtail_Grhead_Fablock_10_3 (v_iv (n_v vs 0)) (v_iv (n_v vs 8)) (v_iv (n_v vs 15)) (v_iv (n_v vs 16)) (v_iv (n_v vs 17)) (v_iv (n_v vs 22)) (v_iv (n_v vs 23)) (v_iv (n_v vs 29)) (v_iv (n_v vs 30)) (v_iv (n_v vs 32)) (w_ei ws (v_ad (n_v vs 5))) (w_ei ws (v_ad (n_v vs 3))) (w_ei ws (v_ad (n_v vs 4))) (v_iv (Value.int u)) k0 k8 k15 k16 k17 k22 k23 k29 k30 k32 d0 d3 d6 h3 h7 h9 h15 h17 h22 h24 eu2
  have nf4 : fc_1 PRD (24, [6, 37], []) ws (vs ++ [n_v vs 3, n_v vs 4, Value.int u, n_v vs 6, Value.int c, Value.int d]) := by
    refine ⟨nf_inA hl rfl, sgq_5 ?_⟩
    · show n_v (vs ++ [n_v vs 3, n_v vs 4, Value.int u, n_v vs 6, Value.int c, Value.int d]) 6 = n_v (vs ++ [n_v vs 3, n_v vs 4, Value.int u, n_v vs 6, Value.int c, Value.int d]) 37
      first | rfl | simp only [e_6, e_37, q8, q9, q10, q11, q12, q13]
  have nf5 : fc_1 PRD (23, [38, 7], [0, 1, -1]) ws (vs ++ [n_v vs 3, n_v vs 4, Value.int u, n_v vs 6, Value.int c, Value.int d]) := by
    refine ⟨nf_inA hl rfl, sgq_7 ?_⟩
    · show 1 * v_iv (n_v (vs ++ [n_v vs 3, n_v vs 4, Value.int u, n_v vs 6, Value.int c, Value.int d]) 38) + ((-1) * v_iv (n_v (vs ++ [n_v vs 3, n_v vs 4, Value.int u, n_v vs 6, Value.int c, Value.int d]) 7) + 0) ≤ 0
      simp only [e_7, e_38]
      exact vc_Fa_uniteAt_at_Grtail_Grhead_Fablock_10_5 (v_iv (n_v vs 7)) (v_iv (n_v vs 15)) (v_iv (n_v vs 16)) (v_iv (n_v vs 17)) (v_iv (n_v vs 22)) (v_iv (n_v vs 23)) (v_iv (n_v vs 29)) (v_iv (n_v vs 30)) (v_iv (n_v vs 32)) (w_ei ws (v_ad (n_v vs 5))) (w_ei ws (v_ad (n_v vs 3))) (w_ei ws (v_ad (n_v vs 4))) (v_iv (Value.int c)) k7 k15 k16 k17 k22 k23 k29 k30 k32 h3 h7 h9 h15 h17 h22 h24 ec2
  have nf6 : fc_1 PRD (23, [38, 7], [0, -1, 1]) ws (vs ++ [n_v vs 3, n_v vs 4, Value.int u, n_v vs 6, Value.int c, Value.int d]) := by
    refine ⟨nf_inA hl rfl, sgq_22 ?_⟩
    · show (-1) * v_iv (n_v (vs ++ [n_v vs 3, n_v vs 4, Value.int u, n_v vs 6, Value.int c, Value.int d]) 38) + (1 * v_iv (n_v (vs ++ [n_v vs 3, n_v vs 4, Value.int u, n_v vs 6, Value.int c, Value.int d]) 7) + 0) ≤ 0
      simp only [e_7, e_38]
      exact vc_Fa_uniteAt_at_Grtail_Grhead_Fablock_10_6 (v_iv (n_v vs 7)) (v_iv (n_v vs 15)) (v_iv (n_v vs 16)) (v_iv (n_v vs 17)) (v_iv (n_v vs 22)) (v_iv (n_v vs 23)) (v_iv (n_v vs 29)) (v_iv (n_v vs 30)) (v_iv (n_v vs 32)) (w_ei ws (v_ad (n_v vs 5))) (w_ei ws (v_ad (n_v vs 3))) (w_ei ws (v_ad (n_v vs 4))) (v_iv (Value.int c)) k7 k15 k16 k17 k22 k23 k29 k30 k32 h3 h7 h9 h15 h17 h22 h24 ec2
  have nf7 : fc_1 PRD (23, [39, 9], [0, 1, -1]) ws (vs ++ [n_v vs 3, n_v vs 4, Value.int u, n_v vs 6, Value.int c, Value.int d]) := by
    refine ⟨nf_inA hl rfl, sgq_7 ?_⟩
    · show 1 * v_iv (n_v (vs ++ [n_v vs 3, n_v vs 4, Value.int u, n_v vs 6, Value.int c, Value.int d]) 39) + ((-1) * v_iv (n_v (vs ++ [n_v vs 3, n_v vs 4, Value.int u, n_v vs 6, Value.int c, Value.int d]) 9) + 0) ≤ 0
      simp only [e_9, e_39, q9]
      exact vc_Fa_uniteAt_at_Grtail_Grhead_Fablock_10_7 (v_iv (n_v vs 1)) (v_iv (n_v vs 9)) (v_iv (n_v vs 15)) (v_iv (n_v vs 16)) (v_iv (n_v vs 17)) (v_iv (n_v vs 22)) (v_iv (n_v vs 23)) (v_iv (n_v vs 29)) (v_iv (n_v vs 30)) (v_iv (n_v vs 32)) (w_ei ws (v_ad (n_v vs 5))) (w_ei ws (v_ad (n_v vs 3))) (w_ei ws (v_ad (n_v vs 4))) (v_iv (Value.int d)) k1 k9 k15 k16 k17 k22 k23 k29 k30 k32 d4 d7 h3 h7 h9 h15 h17 h22 h24 ed2
  have nf8 : fc_1 PRD (23, [39, 9], [0, -1, 1]) ws (vs ++ [n_v vs 3, n_v vs 4, Value.int u, n_v vs 6, Value.int c, Value.int d]) := by
    refine ⟨nf_inA hl rfl, sgq_22 ?_⟩
    · show (-1) * v_iv (n_v (vs ++ [n_v vs 3, n_v vs 4, Value.int u, n_v vs 6, Value.int c, Value.int d]) 39) + (1 * v_iv (n_v (vs ++ [n_v vs 3, n_v vs 4, Value.int u, n_v vs 6, Value.int c, Value.int d]) 9) + 0) ≤ 0
      simp only [e_9, e_39, q9]
      exact vc_Fa_uniteAt_at_Grtail_Grhead_Fablock_10_8 (v_iv (n_v vs 1)) (v_iv (n_v vs 9)) (v_iv (n_v vs 15)) (v_iv (n_v vs 16)) (v_iv (n_v vs 17)) (v_iv (n_v vs 22)) (v_iv (n_v vs 23)) (v_iv (n_v vs 29)) (v_iv (n_v vs 30)) (v_iv (n_v vs 32)) (w_ei ws (v_ad (n_v vs 5))) (w_ei ws (v_ad (n_v vs 3))) (w_ei ws (v_ad (n_v vs 4))) (v_iv (Value.int d)) k1 k9 k15 k16 k17 k22 k23 k29 k30 k32 d4 d7 h3 h7 h9 h15 h17 h22 h24 ed2
  have nf9 : fc_1 PRD (20, [13, 10], [61, 1, 566]) ws (vs ++ [n_v vs 3, n_v vs 4, Value.int u, n_v vs 6, Value.int c, Value.int d]) := by
    refine ⟨nf_inA hl rfl, sgq_365 ?_⟩
    · show BLQ (w_ei ws (v_ad (n_v (vs ++ [n_v vs 3, n_v vs 4, Value.int u, n_v vs 6, Value.int c, Value.int d]) 13))) (v_iv (n_v (vs ++ [n_v vs 3, n_v vs 4, Value.int u, n_v vs 6, Value.int c, Value.int d]) 10))
      simp only [e_10, e_13, q10, q13]
      exact vc_Fa_uniteAt_at_Grtail_Grhead_Fablock_10_9 (v_iv (n_v vs 2)) (w_ei ws (v_ad (n_v vs 5))) k2 f26
  have nf10 : fc_1 PRD (20, [33, 31], [50, 0, 0, 2, 6, 0, 2, 0, 0, 1, 0, 0, 2, 1, 0, 1, 1]) ws (vs ++ [n_v vs 3, n_v vs 4, Value.int u, n_v vs 6, Value.int c, Value.int d]) := by
    refine ⟨nf_inA hl rfl, sgq_366 ?_⟩
    · show (0 ≤ v_iv (n_v (vs ++ [n_v vs 3, n_v vs 4, Value.int u, n_v vs 6, Value.int c, Value.int d]) 33)) ∧ (v_iv (n_v (vs ++ [n_v vs 3, n_v vs 4, Value.int u, n_v vs 6, Value.int c, Value.int d]) 33) ≤ v_iv (n_v (vs ++ [n_v vs 3, n_v vs 4, Value.int u, n_v vs 6, Value.int c, Value.int d]) 31))
      simp only [e_31, e_33]
      exact vc_Fa_uniteAt_at_Grtail_Grhead_Fablock_10_10 (v_iv (n_v vs 15)) (v_iv (n_v vs 16)) (v_iv (n_v vs 17)) (v_iv (n_v vs 22)) (v_iv (n_v vs 23)) (v_iv (n_v vs 29)) (v_iv (n_v vs 30)) (v_iv (n_v vs 31)) (v_iv (n_v vs 32)) (v_iv (n_v vs 33)) (w_ei ws (v_ad (n_v vs 5))) (w_ei ws (v_ad (n_v vs 3))) (w_ei ws (v_ad (n_v vs 4))) k15 k16 k17 k22 k23 k29 k30 k31 k32 k33 f1 h3 f5 h7 h9 h15 h17 h22 h24
  have nf11 : fc_1 PRD (20, [13, 34, 35, 10, 31, 33, 36], [61, 3, 581]) ws (vs ++ [n_v vs 3, n_v vs 4, Value.int u, n_v vs 6, Value.int c, Value.int d]) := by
    refine ⟨nf_inA hl rfl, sgq_367 ?_⟩
    · show RLP (w_ei ws (v_ad (n_v (vs ++ [n_v vs 3, n_v vs 4, Value.int u, n_v vs 6, Value.int c, Value.int d]) 13))) (w_ei ws (v_ad (n_v (vs ++ [n_v vs 3, n_v vs 4, Value.int u, n_v vs 6, Value.int c, Value.int d]) 34))) (w_ei ws (v_ad (n_v (vs ++ [n_v vs 3, n_v vs 4, Value.int u, n_v vs 6, Value.int c, Value.int d]) 35))) (v_iv (n_v (vs ++ [n_v vs 3, n_v vs 4, Value.int u, n_v vs 6, Value.int c, Value.int d]) 10)) (v_iv (n_v (vs ++ [n_v vs 3, n_v vs 4, Value.int u, n_v vs 6, Value.int c, Value.int d]) 31)) (v_iv (n_v (vs ++ [n_v vs 3, n_v vs 4, Value.int u, n_v vs 6, Value.int c, Value.int d]) 33)) (v_iv (n_v (vs ++ [n_v vs 3, n_v vs 4, Value.int u, n_v vs 6, Value.int c, Value.int d]) 36))
      simp only [e_10, e_13, e_31, e_33, e_34, e_35, e_36, q10, q13]
      exact vc_Fa_uniteAt_at_Grtail_Grhead_Fablock_10_11 (v_iv (n_v vs 0)) (v_iv (n_v vs 2)) (v_iv (n_v vs 8)) (v_iv (n_v vs 14)) (v_iv (n_v vs 15)) (v_iv (n_v vs 16)) (v_iv (n_v vs 22)) (v_iv (n_v vs 26)) (v_iv (n_v vs 28)) (v_iv (n_v vs 29)) (v_iv (n_v vs 30)) (v_iv (n_v vs 31)) (v_iv (n_v vs 32)) (v_iv (n_v vs 33)) (w_ei ws (v_ad (n_v vs 5))) (w_ei ws (v_ad (n_v vs 3))) (w_ei ws (v_ad (n_v vs 4))) (v_iv (Value.int u)) k0 k2 k8 k14 k15 k16 k22 k26 k28 k29 k30 k31 k32 k33 d0 d1 d3 d6 f0 f1 f2 h3 f4 f5 f6 h7 f8 h9 f10 f11 h17 h24 f25 f27 eu2
  have nf12 : fc_1 PRD (20, [13, 34, 35, 37, 38, 10, 36, 39, 31, 33], [61, 4, 590]) ws (vs ++ [n_v vs 3, n_v vs 4, Value.int u, n_v vs 6, Value.int c, Value.int d]) := by
    refine ⟨nf_inA hl rfl, sgq_368 ?_⟩
    · show QKP (w_ei ws (v_ad (n_v (vs ++ [n_v vs 3, n_v vs 4, Value.int u, n_v vs 6, Value.int c, Value.int d]) 13))) (w_ei ws (v_ad (n_v (vs ++ [n_v vs 3, n_v vs 4, Value.int u, n_v vs 6, Value.int c, Value.int d]) 34))) (w_ei ws (v_ad (n_v (vs ++ [n_v vs 3, n_v vs 4, Value.int u, n_v vs 6, Value.int c, Value.int d]) 35))) (w_ei ws (v_ad (n_v (vs ++ [n_v vs 3, n_v vs 4, Value.int u, n_v vs 6, Value.int c, Value.int d]) 37))) (v_iv (n_v (vs ++ [n_v vs 3, n_v vs 4, Value.int u, n_v vs 6, Value.int c, Value.int d]) 38)) (v_iv (n_v (vs ++ [n_v vs 3, n_v vs 4, Value.int u, n_v vs 6, Value.int c, Value.int d]) 10)) (v_iv (n_v (vs ++ [n_v vs 3, n_v vs 4, Value.int u, n_v vs 6, Value.int c, Value.int d]) 36)) (v_iv (n_v (vs ++ [n_v vs 3, n_v vs 4, Value.int u, n_v vs 6, Value.int c, Value.int d]) 39)) (v_iv (n_v (vs ++ [n_v vs 3, n_v vs 4, Value.int u, n_v vs 6, Value.int c, Value.int d]) 31)) (v_iv (n_v (vs ++ [n_v vs 3, n_v vs 4, Value.int u, n_v vs 6, Value.int c, Value.int d]) 33))
      simp only [e_10, e_13, e_31, e_33, e_34, e_35, e_36, e_37, e_38, e_39, q10, q13]
      exact vc_Fa_uniteAt_at_Grtail_Grhead_Fablock_10_12 (v_iv (n_v vs 0)) (v_iv (n_v vs 1)) (v_iv (n_v vs 2)) (v_iv (n_v vs 7)) (v_iv (n_v vs 8)) (v_iv (n_v vs 14)) (v_iv (n_v vs 15)) (v_iv (n_v vs 16)) (v_iv (n_v vs 17)) (v_iv (n_v vs 18)) (v_iv (n_v vs 19)) (v_iv (n_v vs 20)) (v_iv (n_v vs 22)) (v_iv (n_v vs 23)) (v_iv (n_v vs 24)) (v_iv (n_v vs 25)) (v_iv (n_v vs 26)) (v_iv (n_v vs 28)) (v_iv (n_v vs 29)) (v_iv (n_v vs 30)) (v_iv (n_v vs 31)) (v_iv (n_v vs 32)) (v_iv (n_v vs 33)) (w_ei ws (v_ad (n_v vs 5))) (w_ei ws (v_ad (n_v vs 3))) (w_ei ws (v_ad (n_v vs 4))) (w_ei ws (v_ad (n_v vs 6))) (v_iv (Value.int u)) (v_iv (Value.int c)) (v_iv (Value.int d)) k0 k1 k2 k7 k8 k14 k15 k16 k22 k23 k24 k25 k26 k28 k29 k30 k31 k32 k33 d0 d1 d3 d6 f0 f1 f2 h3 f4 f5 f6 h7 f8 h9 f10 f11 f13 f14 h15 h17 h24 f25 f28 eu2 ec2 ed2
  have nf13 : fc_1 PRD (20, [36, 8], [50, 0, 0, 1, 2, 1, 0, 1, 1]) ws (vs ++ [n_v vs 3, n_v vs 4, Value.int u, n_v vs 6, Value.int c, Value.int d]) := by
    refine ⟨nf_inA hl rfl, sgq_48 ?_⟩
    · show v_iv (n_v (vs ++ [n_v vs 3, n_v vs 4, Value.int u, n_v vs 6, Value.int c, Value.int d]) 36) = v_iv (n_v (vs ++ [n_v vs 3, n_v vs 4, Value.int u, n_v vs 6, Value.int c, Value.int d]) 8)
      simp only [e_8, e_36, q8]
      exact vc_Fa_uniteAt_at_Grtail_Grhead_Fablock_10_13 (v_iv (n_v vs 0)) (v_iv (n_v vs 15)) (v_iv (n_v vs 16)) (v_iv (n_v vs 17)) (v_iv (n_v vs 22)) (v_iv (n_v vs 23)) (v_iv (n_v vs 29)) (v_iv (n_v vs 30)) (v_iv (n_v vs 32)) (w_ei ws (v_ad (n_v vs 5))) (w_ei ws (v_ad (n_v vs 3))) (w_ei ws (v_ad (n_v vs 4))) (v_iv (Value.int u)) k0 k15 k16 k17 k22 k23 k29 k30 k32 h3 h7 h9 h15 h17 h22 h24 eu2
  have nf14 : fc_1 PRD (20, [33], [50, 0, 0, 0, 2, 0, 0, 1, 0]) ws (vs ++ [n_v vs 3, n_v vs 4, Value.int u, n_v vs 6, Value.int c, Value.int d]) := by
    refine ⟨nf_inA hl rfl, sgq_722 ?_⟩
    · show 0 ≤ v_iv (n_v (vs ++ [n_v vs 3, n_v vs 4, Value.int u, n_v vs 6, Value.int c, Value.int d]) 33)
      rw [e_33]
      exact vc_Fa_uniteAt_at_Grtail_Grhead_Fablock_10_14 (v_iv (n_v vs 15)) (v_iv (n_v vs 16)) (v_iv (n_v vs 17)) (v_iv (n_v vs 22)) (v_iv (n_v vs 23)) (v_iv (n_v vs 29)) (v_iv (n_v vs 30)) (v_iv (n_v vs 32)) (v_iv (n_v vs 33)) (w_ei ws (v_ad (n_v vs 5))) (w_ei ws (v_ad (n_v vs 3))) (w_ei ws (v_ad (n_v vs 4))) k15 k16 k17 k22 k23 k29 k30 k32 k33 h3 h7 h9 h15 h17 h22 h24
  have nf15 : fc_1 PRD (20, [38, 7], [50, 0, 0, 1, 2, 1, 0, 1, 1]) ws (vs ++ [n_v vs 3, n_v vs 4, Value.int u, n_v vs 6, Value.int c, Value.int d]) := by
    refine ⟨nf_inA hl rfl, sgq_48 ?_⟩
    · show v_iv (n_v (vs ++ [n_v vs 3, n_v vs 4, Value.int u, n_v vs 6, Value.int c, Value.int d]) 38) = v_iv (n_v (vs ++ [n_v vs 3, n_v vs 4, Value.int u, n_v vs 6, Value.int c, Value.int d]) 7)
      simp only [e_7, e_38]
      exact vc_Fa_uniteAt_at_Grtail_Grhead_Fablock_10_15 (v_iv (n_v vs 7)) (v_iv (n_v vs 15)) (v_iv (n_v vs 16)) (v_iv (n_v vs 17)) (v_iv (n_v vs 22)) (v_iv (n_v vs 23)) (v_iv (n_v vs 29)) (v_iv (n_v vs 30)) (v_iv (n_v vs 32)) (w_ei ws (v_ad (n_v vs 5))) (w_ei ws (v_ad (n_v vs 3))) (w_ei ws (v_ad (n_v vs 4))) (v_iv (Value.int c)) k7 k15 k16 k17 k22 k23 k29 k30 k32 h3 h7 h9 h15 h17 h22 h24 ec2
  have nf16 : fc_1 PRD (20, [39, 9], [50, 0, 0, 1, 2, 1, 0, 1, 1]) ws (vs ++ [n_v vs 3, n_v vs 4, Value.int u, n_v vs 6, Value.int c, Value.int d]) := by
    refine ⟨nf_inA hl rfl, sgq_48 ?_⟩
    · show v_iv (n_v (vs ++ [n_v vs 3, n_v vs 4, Value.int u, n_v vs 6, Value.int c, Value.int d]) 39) = v_iv (n_v (vs ++ [n_v vs 3, n_v vs 4, Value.int u, n_v vs 6, Value.int c, Value.int d]) 9)
      simp only [e_9, e_39, q9]
      exact vc_Fa_uniteAt_at_Grtail_Grhead_Fablock_10_16 (v_iv (n_v vs 1)) (v_iv (n_v vs 15)) (v_iv (n_v vs 16)) (v_iv (n_v vs 17)) (v_iv (n_v vs 22)) (v_iv (n_v vs 23)) (v_iv (n_v vs 29)) (v_iv (n_v vs 30)) (v_iv (n_v vs 32)) (w_ei ws (v_ad (n_v vs 5))) (w_ei ws (v_ad (n_v vs 3))) (w_ei ws (v_ad (n_v vs 4))) (v_iv (Value.int d)) k1 k15 k16 k17 k22 k23 k29 k30 k32 h3 h7 h9 h15 h17 h22 h24 ed2
  exact ⟨(fun _ h => (by cases h)), [n_v vs 3, n_v vs 4, Value.int u, n_v vs 6, Value.int c, Value.int d], ag_six t3 t4 hu t6 hc hd, List.forall_mem_cons.mpr ⟨⟨show (24 : Nat) < 100 from by decide, nf0⟩, List.forall_mem_cons.mpr ⟨⟨show (24 : Nat) < 100 from by decide, nf1⟩, List.forall_mem_cons.mpr ⟨⟨show (23 : Nat) < 100 from by decide, nf2⟩, List.forall_mem_cons.mpr ⟨⟨show (23 : Nat) < 100 from by decide, nf3⟩, List.forall_mem_cons.mpr ⟨⟨show (24 : Nat) < 100 from by decide, nf4⟩, List.forall_mem_cons.mpr ⟨⟨show (23 : Nat) < 100 from by decide, nf5⟩, List.forall_mem_cons.mpr ⟨⟨show (23 : Nat) < 100 from by decide, nf6⟩, List.forall_mem_cons.mpr ⟨⟨show (23 : Nat) < 100 from by decide, nf7⟩, List.forall_mem_cons.mpr ⟨⟨show (23 : Nat) < 100 from by decide, nf8⟩, List.forall_mem_cons.mpr ⟨⟨show (20 : Nat) < 100 from by decide, nf9⟩, List.forall_mem_cons.mpr ⟨⟨show (20 : Nat) < 100 from by decide, nf10⟩, List.forall_mem_cons.mpr ⟨⟨show (20 : Nat) < 100 from by decide, nf11⟩, List.forall_mem_cons.mpr ⟨⟨show (20 : Nat) < 100 from by decide, nf12⟩, List.forall_mem_cons.mpr ⟨⟨show (20 : Nat) < 100 from by decide, nf13⟩, List.forall_mem_cons.mpr ⟨⟨show (20 : Nat) < 100 from by decide, nf14⟩, List.forall_mem_cons.mpr ⟨⟨show (20 : Nat) < 100 from by decide, nf15⟩, List.forall_mem_cons.mpr ⟨⟨show (20 : Nat) < 100 from by decide, nf16⟩, (fun _ h => (by cases h))⟩⟩⟩⟩⟩⟩⟩⟩⟩⟩⟩⟩⟩⟩⟩⟩⟩, (fun _ h => (by cases h))⟩
set_option maxHeartbeats 4000000 in
theorem vc_Fa_uniteAt_at_Grtail_Grhead_Fablock_11_0 (x0 : Int) (x2 : Int) (x8 : Int) (x15 : Int) (x22 : Int) (x30 : Int) (x32 : Int) (x33 : Int) (x36 : Int) (a5_0 : Int → Int) (a3_0 : Int → Int) (a4_0 : Int → Int) (k0 : 0 ≤ x0 ∧ x0 ≤ 23) (k2 : 1 ≤ x2 ∧ x2 ≤ 48) (k8 : 0 ≤ x8 ∧ x8 ≤ 23) (k22 : 0 ≤ x22 ∧ x22 ≤ 23) (k33 : 0 ≤ x33 ∧ x33 ≤ 47) (k36 : 0 ≤ x36 ∧ x36 ≤ 24) (d4 : x8 + 0 ≤ x22 ∧ x22 ≤ x8 + 0) (d7 : x8 + (-4294967296) ≤ x0 ∧ x0 ≤ x8 + 0) (d10 : x0 + (-4294967296) ≤ x8 ∧ x8 ≤ x0 + 0) (f3 : 1 * x36 + ((-1) * x0 + 0) ≤ 0) (f4 : (-1) * x36 + (1 * x0 + 0) ≤ 0) (f12 : 0 ≤ x33) (f28 : RLO (a5_0) (a3_0) (a4_0) (x2) (x33) (x36)) : UNI (a5_0) (a3_0) (a4_0) (x2) (x0) (x33) := by
  first
    | (have q := (‹RLO _ _ _ _ _ _›); have h1 := uni_back q (by omega); rw [show x0 = x32 by omega]; exact h1)
    | (have q := (‹RLO _ _ _ _ _ _›); have h1 := uni_back q (by omega); rw [show x0 = x36 by omega]; exact h1)
    | (have q := (‹RLO _ _ _ _ _ _›); have h1 := uni_back q (by omega); rw [show x0 = x30 by omega]; exact h1)
set_option maxHeartbeats 4000000 in
theorem vc_Fa_uniteAt_at_Grtail_Grhead_Fablock_11_1 (x0 : Int) (x1 : Int) (x2 : Int) (x7 : Int) (x8 : Int) (x9 : Int) (x15 : Int) (x22 : Int) (x30 : Int) (x32 : Int) (x33 : Int) (x36 : Int) (x38 : Int) (x39 : Int) (a5_0 : Int → Int) (a3_0 : Int → Int) (a4_0 : Int → Int) (a6_0 : Int → Int) (k0 : 0 ≤ x0 ∧ x0 ≤ 23) (k1 : 0 ≤ x1 ∧ x1 ≤ 16777215) (k2 : 1 ≤ x2 ∧ x2 ≤ 48) (k7 : 0 ≤ x7 ∧ x7 ≤ 25) (k8 : 0 ≤ x8 ∧ x8 ≤ 23) (k9 : 0 ≤ x9 ∧ x9 ≤ 16777215) (k22 : 0 ≤ x22 ∧ x22 ≤ 23) (k33 : 0 ≤ x33 ∧ x33 ≤ 47) (k36 : 0 ≤ x36 ∧ x36 ≤ 24) (k38 : 0 ≤ x38 ∧ x38 ≤ 25) (k39 : (-2147483648) ≤ x39 ∧ x39 ≤ 2147483647) (d4 : x8 + 0 ≤ x22 ∧ x22 ≤ x8 + 0) (d7 : x8 + (-4294967296) ≤ x0 ∧ x0 ≤ x8 + 0) (d8 : x9 + (-4294967296) ≤ x1 ∧ x1 ≤ x9 + 0) (d10 : x0 + (-4294967296) ≤ x8 ∧ x8 ≤ x0 + 0) (d11 : x1 + (-4294967296) ≤ x9 ∧ x9 ≤ x1 + 0) (f3 : 1 * x36 + ((-1) * x0 + 0) ≤ 0) (f4 : (-1) * x36 + (1 * x0 + 0) ≤ 0) (f6 : 1 * x38 + ((-1) * x7 + 0) ≤ 0) (f7 : (-1) * x38 + (1 * x7 + 0) ≤ 0) (f8 : 1 * x39 + ((-1) * x1 + 0) ≤ 0) (f9 : (-1) * x39 + (1 * x1 + 0) ≤ 0) (f29 : QKO (a5_0) (a3_0) (a4_0) (a6_0) (x38) (x2) (x36) (x39) (x33)) : UN2 (a5_0) (a3_0) (a4_0) (a6_0) (x7) (x2) (x0) (x1) (x33) := by
  first
    | (have h1 := un2_back ‹QKO _ _ _ _ _ _ _ _ _›; rw [show x0 = x32 by omega, show x7 = x34 by omega, show x1 = x35 by omega]; exact h1)
    | (have h1 := un2_back ‹QKO _ _ _ _ _ _ _ _ _›; rw [show x0 = x36 by omega, show x7 = x38 by omega, show x1 = x39 by omega]; exact h1)
    | (have h1 := un2_back ‹QKO _ _ _ _ _ _ _ _ _›; rw [show x0 = x30 by omega, show x7 = x32 by omega, show x1 = x33 by omega]; exact h1)
def o_Fa_uniteAt_at_Grtail_Grhead_Fablock_11 : or_T := (6, 41, [(0, (0, 0, 23, [])), (1, (0, 0, 16777215, [])), (2, (0, 1, 48, [])), (7, (0, 0, 25, [])), (8, (0, 0, 23, [])), (9, (0, 0, 16777215, [])), (22, (0, 0, 23, [])), (33, (0, 0, 47, [])), (36, (0, 0, 24, [])), (38, (0, 0, 25, [])), (39, (0, -2147483648, 2147483647, []))], [(24, [3, 34], []), (24, [4, 35], []), (23, [36, 8], [0, 1, -1]), (23, [36, 8], [0, -1, 1]), (24, [6, 37], []), (23, [38, 7], [0, 1, -1]), (23, [38, 7], [0, -1, 1]), (23, [39, 9], [0, 1, -1]), (23, [39, 9], [0, -1, 1]), (20, [33], [50, 0, 0, 0, 2, 0, 0, 1, 0]), (24, [0, 8], []), (24, [1, 9], []), (24, [2, 10], []), (24, [3, 11], []), (24, [4, 12], []), (24, [5, 13], []), (20, [13, 34, 35, 10, 33, 36], [61, 3, 583]), (20, [13, 34, 35, 37, 38, 10, 36, 39, 33], [61, 4, 592])], [], [], [(20, [13, 11, 12, 10, 8, 33], [61, 3, 584]), (20, [13, 11, 12, 6, 7, 10, 8, 9, 33], [61, 4, 589])], [], [(22, 8, 0, 0), (0, 8, -4294967296, 0), (1, 9, -4294967296, 0), (8, 0, -4294967296, 0), (9, 1, -4294967296, 0)])
theorem oo_Fa_uniteAt_at_Grtail_Grhead_Fablock_11 {kA : Nat → ClassId} : or_ok PRD kA GG o_Fa_uniteAt_at_Grtail_Grhead_Fablock_11 := by
  refine or_mk fun A ta ws vs hD hth hl => ?_
  intro t0 k0 t1 k1 t2 k2 t7 k7 t8 k8 t9 k9 t22 k22 t33 k33 t36 k36 t38 k38 t39 k39 d4 d7 d8 d10 d11 f1 f2 f3 f4 f5 f6 f7 f8 f9 f12 f21 f22 f23 f24 f25 f26 f28 f29
  replace f1 := shm_5 f1
  replace f2 := shm_5 f2
  replace f3 := shm_7 f3
  replace f4 := shm_22 f4
  replace f5 := shm_5 f5
  replace f6 := shm_7 f6
  replace f7 := shm_22 f7
  replace f8 := shm_7 f8
  replace f9 := shm_22 f9
  replace f12 := shm_722 f12
  replace f21 := shm_5 f21
  replace f22 := shm_5 f22
  replace f23 := shm_5 f23
  replace f24 := shm_5 f24
  replace f25 := shm_5 f25
  replace f26 := shm_5 f26
  replace f28 := shm_371 f28
  replace f29 := shm_372 f29
  have q34 : n_v vs 34 = n_v vs 3 := f1.symm
  have q35 : n_v vs 35 = n_v vs 4 := f2.symm
  have q37 : n_v vs 37 = n_v vs 6 := f5.symm
  have q8 : n_v vs 8 = n_v vs 0 := f21.symm
  have q9 : n_v vs 9 = n_v vs 1 := f22.symm
  have q10 : n_v vs 10 = n_v vs 2 := f23.symm
  have q11 : n_v vs 11 = n_v vs 3 := f24.symm
  have q12 : n_v vs 12 = n_v vs 4 := f25.symm
  have q13 : n_v vs 13 = n_v vs 5 := f26.symm
  simp only [q8, q9, q10, q13, q34, q35, q37] at f3 f4 f8 f9 f28 f29
  have nf0 : fc_1 PRD (20, [13, 11, 12, 10, 8, 33], [61, 3, 584]) ws (vs) := by
    refine ⟨nf_in hl rfl, sgq_1193 ?_⟩
    · show UNI (w_ei ws (v_ad (n_v vs 13))) (w_ei ws (v_ad (n_v vs 11))) (w_ei ws (v_ad (n_v vs 12))) (v_iv (n_v vs 10)) (v_iv (n_v vs 8)) (v_iv (n_v vs 33))
      simp only [q8, q10, q11, q12, q13]
      exact vc_Fa_uniteAt_at_Grtail_Grhead_Fablock_11_0 (v_iv (n_v vs 0)) (v_iv (n_v vs 2)) (v_iv (n_v vs 8)) (v_iv (n_v vs 15)) (v_iv (n_v vs 22)) (v_iv (n_v vs 30)) (v_iv (n_v vs 32)) (v_iv (n_v vs 33)) (v_iv (n_v vs 36)) (w_ei ws (v_ad (n_v vs 5))) (w_ei ws (v_ad (n_v vs 3))) (w_ei ws (v_ad (n_v vs 4))) k0 k2 k8 k22 k33 k36 d4 d7 d10 f3 f4 f12 f28
  have nf1 : fc_1 PRD (20, [13, 11, 12, 6, 7, 10, 8, 9, 33], [61, 4, 589]) ws (vs) := by
    refine ⟨nf_in hl rfl, sgq_1194 ?_⟩
    · show UN2 (w_ei ws (v_ad (n_v vs 13))) (w_ei ws (v_ad (n_v vs 11))) (w_ei ws (v_ad (n_v vs 12))) (w_ei ws (v_ad (n_v vs 6))) (v_iv (n_v vs 7)) (v_iv (n_v vs 10)) (v_iv (n_v vs 8)) (v_iv (n_v vs 9)) (v_iv (n_v vs 33))
      simp only [q8, q9, q10, q11, q12, q13]
      exact vc_Fa_uniteAt_at_Grtail_Grhead_Fablock_11_1 (v_iv (n_v vs 0)) (v_iv (n_v vs 1)) (v_iv (n_v vs 2)) (v_iv (n_v vs 7)) (v_iv (n_v vs 8)) (v_iv (n_v vs 9)) (v_iv (n_v vs 15)) (v_iv (n_v vs 22)) (v_iv (n_v vs 30)) (v_iv (n_v vs 32)) (v_iv (n_v vs 33)) (v_iv (n_v vs 36)) (v_iv (n_v vs 38)) (v_iv (n_v vs 39)) (w_ei ws (v_ad (n_v vs 5))) (w_ei ws (v_ad (n_v vs 3))) (w_ei ws (v_ad (n_v vs 4))) (w_ei ws (v_ad (n_v vs 6))) k0 k1 k2 k7 k8 k9 k22 k33 k36 k38 k39 d4 d7 d8 d10 d11 f3 f4 f6 f7 f8 f9 f29
  refine ⟨(fun _ h => (by cases h)), [], trivial, ?_, (fun _ h => (by cases h))⟩
  rw [List.append_nil]
  exact List.forall_mem_cons.mpr ⟨⟨show (20 : Nat) < 100 from by decide, nf0⟩, List.forall_mem_cons.mpr ⟨⟨show (20 : Nat) < 100 from by decide, nf1⟩, (fun _ h => (by cases h))⟩⟩
set_option maxHeartbeats 4000000 in
theorem vc_Fa_uniteAt_at_Grtail_Grhead_Fablock_12_r0 (x2 : Int) (x15 : Int) (x16 : Int) (x17 : Int) (x22 : Int) (x23 : Int) (x29 : Int) (a5_0 : Int → Int) (a3_0 : Int → Int) (a4_0 : Int → Int) (k2 : 1 ≤ x2 ∧ x2 ≤ 48) (k15 : 0 ≤ x15 ∧ x15 ≤ 47) (k16 : 0 ≤ x16 ∧ x16 ≤ 23) (k17 : 0 ≤ x17 ∧ x17 ≤ 23) (k22 : 0 ≤ x22 ∧ x22 ≤ 23) (k23 : 0 ≤ x23 ∧ x23 ≤ 23) (k29 : (-1) ≤ x29 ∧ x29 ≤ 47) (h0 : x29 = a5_0 (x15)) (h6 : x23 = a3_0 (x15)) (h8 : x22 = a4_0 (x15)) (h13 : x17 = a4_0 (x15)) (h15 : x16 = a3_0 (x15)) (f16 : x15 < x2) (f17 : BLQ (a5_0) (x2)) : 0 ≤ x29 ∧ x29 ≤ 47 := by
  first
    | omega
    | (skip; (first | subst h0 | skip); (first | subst h6 | skip); (first | subst h8 | skip); (first | subst h13 | skip); (first | subst h15 | skip); have q := ‹BLQ _ _› x15 (by omega) (by omega); omega)
def o_Fa_uniteAt_at_Grtail_Grhead_Fablock_12 : or_T := (90, 30, [(0, (0, 0, 23, [])), (1, (0, 0, 16777215, [])), (2, (0, 1, 48, [])), (3, (2, 0, 0, [52])), (4, (2, 0, 0, [53])), (5, (2, 0, 0, [38])), (6, (2, 0, 0, [59])), (7, (0, 0, 25, [])), (8, (0, 0, 23, [])), (9, (0, 0, 16777215, [])), (10, (0, 1, 48, [])), (11, (2, 0, 0, [52])), (12, (2, 0, 0, [53])), (13, (2, 0, 0, [38])), (14, (0, -1, -1, [])), (15, (0, 0, 47, [])), (16, (0, 0, 23, [])), (17, (0, 0, 23, [])), (18, (0, 0, 16777215, [])), (19, (0, 1, 1, [])), (20, (0, 0, 0, [])), (22, (0, 0, 23, [])), (23, (0, 0, 23, [])), (24, (0, 0, 16777215, [])), (25, (0, 1, 1, [])), (26, (0, 1, 1, [])), (28, (0, -1, -1, [])), (29, (0, -1, 47, []))], [(10, [29, 13, 15], []), (7, [14, 28], [0]), (8, [26], [1]), (12, [26, 24], [2]), (16, [26, 24, 25], [0]), (16, [24, 9, 23], [4]), (10, [23, 11, 15], []), (7, [22, 8], [0]), (10, [22, 12, 15], []), (8, [20], [0]), (12, [20, 18], [2]), (16, [20, 18, 19], [0]), (16, [18, 9, 17], [4]), (10, [17, 12, 15], []), (7, [16, 8], [0]), (10, [16, 11, 15], []), (7, [15, 10], [2]), (20, [13, 10], [61, 1, 566]), (20, [13, 11, 12, 10, 8, 14], [61, 3, 584]), (20, [13, 11, 12, 6, 7, 10, 8, 9, 14], [61, 4, 589]), (24, [0, 8], []), (24, [1, 9], []), (24, [2, 10], []), (24, [3, 11], []), (24, [4, 12], []), (24, [5, 13], [])], [(29, (0, 0, 47, []))], [], [], [], [(22, 8, 0, 0), (16, 8, 0, 0), (15, 10, -4294967296, -1), (0, 8, -4294967296, 0), (1, 9, -4294967296, 0), (2, 10, -4294967296, 0), (8, 0, -4294967296, 0), (9, 1, -4294967296, 0), (10, 2, -4294967296, 0), (15, 2, -4294967296, 0), (15, 10, -4294967296, 0)])
theorem oo_Fa_uniteAt_at_Grtail_Grhead_Fablock_12 {kA : Nat → ClassId} : or_ok PRD kA GG o_Fa_uniteAt_at_Grtail_Grhead_Fablock_12 := by
  refine or_mk fun A ta ws vs hD hth hl => ?_
  intro t0 k0 t1 k1 t2 k2 t3 r3 t4 r4 t5 r5 t6 r6 t7 k7 t8 k8 t9 k9 t10 k10 t11 r11 t12 r12 t13 r13 t14 k14 t15 k15 t16 k16 t17 k17 t18 k18 t19 k19 t20 k20 t22 k22 t23 k23 t24 k24 t25 k25 t26 k26 t28 k28 t29 k29 d0 d1 d2 d3 d4 d5 d6 d7 d8 d9 d10 f0 f1 f2 f3 f4 f5 f6 f7 f8 f9 f10 f11 f12 f13 f14 f15 f16 f17 f18 f19 f20 f21 f22 f23 f24 f25
  replace f0 := shm_107 f0
  replace f6 := shm_107 f6
  replace f8 := shm_107 f8
  replace f13 := shm_107 f13
  replace f15 := shm_107 f15
  replace f16 := shm_6 f16
  replace f17 := shm_365 f17
  replace f22 := shm_5 f22
  replace f23 := shm_5 f23
  replace f24 := shm_5 f24
  replace f25 := shm_5 f25
  have q10 : n_v vs 10 = n_v vs 2 := f22.symm
  have q11 : n_v vs 11 = n_v vs 3 := f23.symm
  have q12 : n_v vs 12 = n_v vs 4 := f24.symm
  have q13 : n_v vs 13 = n_v vs 5 := f25.symm
  simp only [q13, q11, q12, q10] at f0 f6 f8 f13 f15 f16 f17
  have h0 : v_iv (n_v vs 29) = w_ei ws (v_ad (n_v vs 5)) (v_iv (n_v vs 15)) := f0
  have h6 : v_iv (n_v vs 23) = w_ei ws (v_ad (n_v vs 3)) (v_iv (n_v vs 15)) := f6
  have h8 : v_iv (n_v vs 22) = w_ei ws (v_ad (n_v vs 4)) (v_iv (n_v vs 15)) := f8
  have h13 : v_iv (n_v vs 17) = w_ei ws (v_ad (n_v vs 4)) (v_iv (n_v vs 15)) := f13
  have h15 : v_iv (n_v vs 16) = w_ei ws (v_ad (n_v vs 3)) (v_iv (n_v vs 15)) := f15
  have hrf0 : 0 ≤ v_iv (n_v vs 29) ∧ v_iv (n_v vs 29) ≤ 47 := vc_Fa_uniteAt_at_Grtail_Grhead_Fablock_12_r0 (v_iv (n_v vs 2)) (v_iv (n_v vs 15)) (v_iv (n_v vs 16)) (v_iv (n_v vs 17)) (v_iv (n_v vs 22)) (v_iv (n_v vs 23)) (v_iv (n_v vs 29)) (w_ei ws (v_ad (n_v vs 5))) (w_ei ws (v_ad (n_v vs 3))) (w_ei ws (v_ad (n_v vs 4))) k2 k15 k16 k17 k22 k23 k29 h0 h6 h8 h13 h15 f16 f17
  have rf29 : tv_ok ta (0, 0, 47, []) (n_v vs 29) := tv_in t29 (by first | omega | grind) (by first | omega | grind)
  refine ⟨List.forall_mem_cons.mpr ⟨rf29, (fun _ h => (by cases h))⟩, [], trivial, ?_, (fun _ h => (by cases h))⟩
  rw [List.append_nil]
  exact (fun _ h => (by cases h))
set_option maxHeartbeats 4000000 in
theorem vc_Fa_uniteAt_at_Grtail_Grhead_Fablock_13_0 (x0 : Int) (x2 : Int) (x8 : Int) (x14 : Int) (x15 : Int) (x16 : Int) (x22 : Int) (x29 : Int) (x30 : Int) (a5_0 : Int → Int) (a3_0 : Int → Int) (a4_0 : Int → Int) (k0 : 0 ≤ x0 ∧ x0 ≤ 23) (k2 : 1 ≤ x2 ∧ x2 ≤ 48) (k8 : 0 ≤ x8 ∧ x8 ≤ 23) (k14 : (-1) ≤ x14 ∧ x14 ≤ (-1)) (k15 : 0 ≤ x15 ∧ x15 ≤ 47) (k16 : 0 ≤ x16 ∧ x16 ≤ 23) (k22 : 0 ≤ x22 ∧ x22 ≤ 23) (k29 : 0 ≤ x29 ∧ x29 ≤ 47) (k30 : 1 ≤ x30 ∧ x30 ≤ 48) (d0 : x15 + 1 ≤ x30 ∧ x30 ≤ x15 + 1) (d4 : x8 + 0 ≤ x22 ∧ x22 ≤ x8 + 0) (d5 : x8 + 0 ≤ x16 ∧ x16 ≤ x8 + 0) (d7 : x8 + (-4294967296) ≤ x0 ∧ x0 ≤ x8 + 0) (d10 : x0 + (-4294967296) ≤ x8 ∧ x8 ≤ x0 + 0) (h1 : x29 = a5_0 (x15)) (h9 : x22 = a4_0 (x15)) (h16 : x16 = a3_0 (x15)) (f17 : x15 < x2) (f19 : UNI (a5_0) (a3_0) (a4_0) (x2) (x0) (x14)) : UNI (a5_0) (a3_0) (a4_0) (x2) (x0) (x29) := by
  first
    | exact uni_first (e := x15) ‹UNI _ _ _ _ _ _› (by assumption) rfl (by omega) (by omega) (by first | exact Or.inl (by omega) | exact Or.inr (by omega))
set_option maxHeartbeats 4000000 in
theorem vc_Fa_uniteAt_at_Grtail_Grhead_Fablock_13_1 (x0 : Int) (x1 : Int) (x2 : Int) (x7 : Int) (x8 : Int) (x14 : Int) (x15 : Int) (x16 : Int) (x17 : Int) (x18 : Int) (x19 : Int) (x20 : Int) (x22 : Int) (x23 : Int) (x24 : Int) (x25 : Int) (x26 : Int) (x29 : Int) (x30 : Int) (a5_0 : Int → Int) (a3_0 : Int → Int) (a4_0 : Int → Int) (a6_0 : Int → Int) (k0 : 0 ≤ x0 ∧ x0 ≤ 23) (k1 : 0 ≤ x1 ∧ x1 ≤ 16777215) (k2 : 1 ≤ x2 ∧ x2 ≤ 48) (k7 : 0 ≤ x7 ∧ x7 ≤ 25) (k8 : 0 ≤ x8 ∧ x8 ≤ 23) (k14 : (-1) ≤ x14 ∧ x14 ≤ (-1)) (k15 : 0 ≤ x15 ∧ x15 ≤ 47) (k16 : 0 ≤ x16 ∧ x16 ≤ 23) (k22 : 0 ≤ x22 ∧ x22 ≤ 23) (k23 : 0 ≤ x23 ∧ x23 ≤ 23) (k24 : 0 ≤ x24 ∧ x24 ≤ 16777215) (k25 : 1 ≤ x25 ∧ x25 ≤ 1) (k26 : 1 ≤ x26 ∧ x26 ≤ 1) (k29 : 0 ≤ x29 ∧ x29 ≤ 47) (k30 : 1 ≤ x30 ∧ x30 ≤ 48) (d0 : x15 + 1 ≤ x30 ∧ x30 ≤ x15 + 1) (d4 : x8 + 0 ≤ x22 ∧ x22 ≤ x8 + 0) (d5 : x8 + 0 ≤ x16 ∧ x16 ≤ x8 + 0) (d7 : x8 + (-4294967296) ≤ x0 ∧ x0 ≤ x8 + 0) (d10 : x0 + (-4294967296) ≤ x8 ∧ x8 ≤ x0 + 0) (h1 : x29 = a5_0 (x15)) (f5 : bvp (x26) = bvp (x24) &&& bvp (x25)) (f6 : bvp (x24) = bvp (x1) >>> (x23).toNat) (h7 : x23 = a3_0 (x15)) (h9 : x22 = a4_0 (x15)) (h16 : x16 = a3_0 (x15)) (f17 : x15 < x2) (f20 : UN2 (a5_0) (a3_0) (a4_0) (a6_0) (x7) (x2) (x0) (x1) (x14)) : UN2 (a5_0) (a3_0) (a4_0) (a6_0) (x7) (x2) (x0) (x1) (x29) := by
  first
    | exact un2_first (e := x15) ‹UN2 _ _ _ _ _ _ _ _ _› (by assumption) rfl (by omega) (by omega) (by first | exact Or.inl ⟨by omega, by omega, by rw [← ‹x17 = a4_0 x15›]; exact (bit_one (s := x1) (t := x18) (c := x20) (v := x17) (one := x19) (by assumption) (by assumption) (by omega) (by omega) (by omega) (by omega)).mpr (by omega)⟩ | exact Or.inr ⟨by omega, by omega, by rw [← ‹x19 = a3_0 x15›]; exact (bit_one (s := x1) (t := x20) (c := x22) (v := x19) (one := x21) (by assumption) (by assumption) (by omega) (by omega) (by omega) (by omega)).mpr (by omega)⟩ | exact Or.inr ⟨by omega, by omega, by rw [← ‹x23 = a3_0 x15›]; exact (bit_one (s := x1) (t := x24) (c := x26) (v := x23) (one := x25) (by assumption) (by assumption) (by omega) (by omega) (by omega) (by omega)).mpr (by omega)⟩)
def o_Fa_uniteAt_at_Grtail_Grhead_Fablock_13 : or_T := (6, 31, [(0, (0, 0, 23, [])), (1, (0, 0, 16777215, [])), (2, (0, 1, 48, [])), (3, (2, 0, 0, [52])), (4, (2, 0, 0, [53])), (5, (2, 0, 0, [38])), (6, (2, 0, 0, [59])), (7, (0, 0, 25, [])), (8, (0, 0, 23, [])), (9, (0, 0, 16777215, [])), (10, (0, 1, 48, [])), (11, (2, 0, 0, [52])), (12, (2, 0, 0, [53])), (13, (2, 0, 0, [38])), (14, (0, -1, -1, [])), (15, (0, 0, 47, [])), (16, (0, 0, 23, [])), (17, (0, 0, 23, [])), (18, (0, 0, 16777215, [])), (19, (0, 1, 1, [])), (20, (0, 0, 0, [])), (22, (0, 0, 23, [])), (23, (0, 0, 23, [])), (24, (0, 0, 16777215, [])), (25, (0, 1, 1, [])), (26, (0, 1, 1, [])), (28, (0, -1, -1, [])), (29, (0, 0, 47, [])), (30, (0, 1, 48, []))], [(6, [30, 15], [1]), (10, [29, 13, 15], []), (7, [14, 28], [0]), (8, [26], [1]), (12, [26, 24], [2]), (16, [26, 24, 25], [0]), (16, [24, 9, 23], [4]), (10, [23, 11, 15], []), (7, [22, 8], [0]), (10, [22, 12, 15], []), (8, [20], [0]), (12, [20, 18], [2]), (16, [20, 18, 19], [0]), (16, [18, 9, 17], [4]), (10, [17, 12, 15], []), (7, [16, 8], [0]), (10, [16, 11, 15], []), (7, [15, 10], [2]), (20, [13, 10], [61, 1, 566]), (20, [13, 11, 12, 10, 8, 14], [61, 3, 584]), (20, [13, 11, 12, 6, 7, 10, 8, 9, 14], [61, 4, 589]), (24, [0, 8], []), (24, [1, 9], []), (24, [2, 10], []), (24, [3, 11], []), (24, [4, 12], []), (24, [5, 13], [])], [], [], [(20, [13, 11, 12, 10, 8, 29], [61, 3, 584]), (20, [13, 11, 12, 6, 7, 10, 8, 9, 29], [61, 4, 589])], [], [(30, 15, 1, 1), (30, 10, -4294967296, 0), (30, 2, -4294967296, 1), (30, 10, -4294967296, 1), (22, 8, 0, 0), (16, 8, 0, 0), (15, 10, -4294967296, -1), (0, 8, -4294967296, 0), (1, 9, -4294967296, 0), (2, 10, -4294967296, 0), (8, 0, -4294967296, 0), (9, 1, -4294967296, 0), (10, 2, -4294967296, 0), (15, 2, -4294967296, 0), (15, 10, -4294967296, 0)])
theorem oo_Fa_uniteAt_at_Grtail_Grhead_Fablock_13 {kA : Nat → ClassId} : or_ok PRD kA GG o_Fa_uniteAt_at_Grtail_Grhead_Fablock_13 := by
  refine or_mk fun A ta ws vs hD hth hl => ?_
  intro t0 k0 t1 k1 t2 k2 t3 r3 t4 r4 t5 r5 t6 r6 t7 k7 t8 k8 t9 k9 t10 k10 t11 r11 t12 r12 t13 r13 t14 k14 t15 k15 t16 k16 t17 k17 t18 k18 t19 k19 t20 k20 t22 k22 t23 k23 t24 k24 t25 k25 t26 k26 t28 k28 t29 k29 t30 k30 d0 d1 d2 d3 d4 d5 d6 d7 d8 d9 d10 d11 d12 d13 d14 f0 f1 f2 f3 f4 f5 f6 f7 f8 f9 f10 f11 f12 f13 f14 f15 f16 f17 f18 f19 f20 f21 f22 f23 f24 f25 f26
  replace f1 := shm_107 f1
  replace f5 := shm_11 f5
  replace f6 := shm_13 f6
  replace f7 := shm_107 f7
  replace f9 := shm_107 f9
  replace f16 := shm_107 f16
  replace f17 := shm_6 f17
  replace f19 := shm_1193 f19
  replace f20 := shm_1194 f20
  replace f21 := shm_5 f21
  replace f22 := shm_5 f22
  replace f23 := shm_5 f23
  replace f24 := shm_5 f24
  replace f25 := shm_5 f25
  replace f26 := shm_5 f26
  have q8 : n_v vs 8 = n_v vs 0 := f21.symm
  have q9 : n_v vs 9 = n_v vs 1 := f22.symm
  have q10 : n_v vs 10 = n_v vs 2 := f23.symm
  have q11 : n_v vs 11 = n_v vs 3 := f24.symm
  have q12 : n_v vs 12 = n_v vs 4 := f25.symm
  have q13 : n_v vs 13 = n_v vs 5 := f26.symm
  simp only [q13, q9, q11, q8, q12, q10] at f1 f6 f7 f9 f16 f17 f19 f20
  have h1 : v_iv (n_v vs 29) = w_ei ws (v_ad (n_v vs 5)) (v_iv (n_v vs 15)) := f1
  have h7 : v_iv (n_v vs 23) = w_ei ws (v_ad (n_v vs 3)) (v_iv (n_v vs 15)) := f7
  have h9 : v_iv (n_v vs 22) = w_ei ws (v_ad (n_v vs 4)) (v_iv (n_v vs 15)) := f9
  have h16 : v_iv (n_v vs 16) = w_ei ws (v_ad (n_v vs 3)) (v_iv (n_v vs 15)) := f16
  have nf0 : fc_1 PRD (20, [13, 11, 12, 10, 8, 29], [61, 3, 584]) ws (vs) := by
    refine ⟨nf_in hl rfl, sgq_1193 ?_⟩
    · show UNI (w_ei ws (v_ad (n_v vs 13))) (w_ei ws (v_ad (n_v vs 11))) (w_ei ws (v_ad (n_v vs 12))) (v_iv (n_v vs 10)) (v_iv (n_v vs 8)) (v_iv (n_v vs 29))
      simp only [q8, q10, q11, q12, q13]
      exact vc_Fa_uniteAt_at_Grtail_Grhead_Fablock_13_0 (v_iv (n_v vs 0)) (v_iv (n_v vs 2)) (v_iv (n_v vs 8)) (v_iv (n_v vs 14)) (v_iv (n_v vs 15)) (v_iv (n_v vs 16)) (v_iv (n_v vs 22)) (v_iv (n_v vs 29)) (v_iv (n_v vs 30)) (w_ei ws (v_ad (n_v vs 5))) (w_ei ws (v_ad (n_v vs 3))) (w_ei ws (v_ad (n_v vs 4))) k0 k2 k8 k14 k15 k16 k22 k29 k30 d0 d4 d5 d7 d10 h1 h9 h16 f17 f19
  have nf1 : fc_1 PRD (20, [13, 11, 12, 6, 7, 10, 8, 9, 29], [61, 4, 589]) ws (vs) := by
    refine ⟨nf_in hl rfl, sgq_1194 ?_⟩
    · show UN2 (w_ei ws (v_ad (n_v vs 13))) (w_ei ws (v_ad (n_v vs 11))) (w_ei ws (v_ad (n_v vs 12))) (w_ei ws (v_ad (n_v vs 6))) (v_iv (n_v vs 7)) (v_iv (n_v vs 10)) (v_iv (n_v vs 8)) (v_iv (n_v vs 9)) (v_iv (n_v vs 29))
      simp only [q8, q9, q10, q11, q12, q13]
      exact vc_Fa_uniteAt_at_Grtail_Grhead_Fablock_13_1 (v_iv (n_v vs 0)) (v_iv (n_v vs 1)) (v_iv (n_v vs 2)) (v_iv (n_v vs 7)) (v_iv (n_v vs 8)) (v_iv (n_v vs 14)) (v_iv (n_v vs 15)) (v_iv (n_v vs 16)) (v_iv (n_v vs 17)) (v_iv (n_v vs 18)) (v_iv (n_v vs 19)) (v_iv (n_v vs 20)) (v_iv (n_v vs 22)) (v_iv (n_v vs 23)) (v_iv (n_v vs 24)) (v_iv (n_v vs 25)) (v_iv (n_v vs 26)) (v_iv (n_v vs 29)) (v_iv (n_v vs 30)) (w_ei ws (v_ad (n_v vs 5))) (w_ei ws (v_ad (n_v vs 3))) (w_ei ws (v_ad (n_v vs 4))) (w_ei ws (v_ad (n_v vs 6))) k0 k1 k2 k7 k8 k14 k15 k16 k22 k23 k24 k25 k26 k29 k30 d0 d4 d5 d7 d10 h1 f5 f6 h7 h9 h16 f17 f20
  refine ⟨(fun _ h => (by cases h)), [], trivial, ?_, (fun _ h => (by cases h))⟩
  rw [List.append_nil]
  exact List.forall_mem_cons.mpr ⟨⟨show (20 : Nat) < 100 from by decide, nf0⟩, List.forall_mem_cons.mpr ⟨⟨show (20 : Nat) < 100 from by decide, nf1⟩, (fun _ h => (by cases h))⟩⟩
set_option maxHeartbeats 4000000 in
theorem vc_Fa_uniteAt_at_Grtail_Grhead_Fablock_14_r0 (x2 : Int) (x15 : Int) (x16 : Int) (x17 : Int) (x22 : Int) (x25 : Int) (x26 : Int) (a5_0 : Int → Int) (a4_0 : Int → Int) (a3_0 : Int → Int) (k2 : 1 ≤ x2 ∧ x2 ≤ 48) (k15 : 0 ≤ x15 ∧ x15 ≤ 47) (k16 : 0 ≤ x16 ∧ x16 ≤ 23) (k17 : 0 ≤ x17 ∧ x17 ≤ 23) (k22 : 0 ≤ x22 ∧ x22 ≤ 23) (k25 : (-1) ≤ x25 ∧ x25 ≤ 47) (k26 : (-1) ≤ x26 ∧ x26 ≤ 47) (h0 : x26 = a5_0 (x15)) (h2 : x25 = a5_0 (x15)) (h5 : x22 = a4_0 (x15)) (h10 : x17 = a4_0 (x15)) (h12 : x16 = a3_0 (x15)) (f13 : x15 < x2) (f14 : BLQ (a5_0) (x2)) : 0 ≤ x26 ∧ x26 ≤ 47 := by
  first
    | omega
    | (skip; (first | subst h0 | skip); (first | subst h2 | skip); (first | subst h5 | skip); (first | subst h10 | skip); (first | subst h12 | skip); have q := ‹BLQ _ _› x15 (by omega) (by omega); omega)
def o_Fa_uniteAt_at_Grtail_Grhead_Fablock_14 : or_T := (112, 27, [(0, (0, 0, 23, [])), (1, (0, 0, 16777215, [])), (2, (0, 1, 48, [])), (3, (2, 0, 0, [52])), (4, (2, 0, 0, [53])), (5, (2, 0, 0, [38])), (6, (2, 0, 0, [59])), (7, (0, 0, 25, [])), (8, (0, 0, 23, [])), (9, (0, 0, 16777215, [])), (10, (0, 1, 48, [])), (11, (2, 0, 0, [52])), (12, (2, 0, 0, [53])), (13, (2, 0, 0, [38])), (14, (0, 0, 47, [])), (15, (0, 0, 47, [])), (16, (0, 0, 23, [])), (17, (0, 0, 23, [])), (18, (0, 0, 16777215, [])), (19, (0, 1, 1, [])), (20, (0, 1, 1, [])), (22, (0, 0, 23, [])), (24, (0, -1, -1, [])), (25, (0, -1, 47, [])), (26, (0, -1, 47, []))], [(10, [26, 13, 15], []), (7, [25, 14], [1]), (10, [25, 13, 15], []), (7, [14, 24], [1]), (7, [22, 8], [1]), (10, [22, 12, 15], []), (8, [20], [1]), (12, [20, 18], [2]), (16, [20, 18, 19], [0]), (16, [18, 9, 17], [4]), (10, [17, 12, 15], []), (7, [16, 8], [0]), (10, [16, 11, 15], []), (7, [15, 10], [2]), (20, [13, 10], [61, 1, 566]), (20, [13, 11, 12, 10, 8, 14], [61, 3, 584]), (20, [13, 11, 12, 6, 7, 10, 8, 9, 14], [61, 4, 589]), (24, [0, 8], []), (24, [1, 9], []), (24, [2, 10], []), (24, [3, 11], []), (24, [4, 12], []), (24, [5, 13], [])], [(26, (0, 0, 47, []))], [], [], [], [(16, 8, 0, 0), (15, 10, -4294967296, -1), (0, 8, -4294967296, 0), (1, 9, -4294967296, 0), (2, 10, -4294967296, 0), (8, 0, -4294967296, 0), (9, 1, -4294967296, 0), (10, 2, -4294967296, 0), (14, 15, -4294967296, 46), (15, 2, -4294967296, 0), (15, 10, -4294967296, 0)])
theorem oo_Fa_uniteAt_at_Grtail_Grhead_Fablock_14 {kA : Nat → ClassId} : or_ok PRD kA GG o_Fa_uniteAt_at_Grtail_Grhead_Fablock_14 := by
  refine or_mk fun A ta ws vs hD hth hl => ?_
  intro t0 k0 t1 k1 t2 k2 t3 r3 t4 r4 t5 r5 t6 r6 t7 k7 t8 k8 t9 k9 t10 k10 t11 r11 t12 r12 t13 r13 t14 k14 t15 k15 t16 k16 t17 k17 t18 k18 t19 k19 t20 k20 t22 k22 t24 k24 t25 k25 t26 k26 d0 d1 d2 d3 d4 d5 d6 d7 d8 d9 d10 f0 f1 f2 f3 f4 f5 f6 f7 f8 f9 f10 f11 f12 f13 f14 f15 f16 f17 f18 f19 f20 f21 f22
  replace f0 := shm_107 f0
  replace f2 := shm_107 f2
  replace f5 := shm_107 f5
  replace f10 := shm_107 f10
  replace f12 := shm_107 f12
  replace f13 := shm_6 f13
  replace f14 := shm_365 f14
  replace f19 := shm_5 f19
  replace f20 := shm_5 f20
  replace f21 := shm_5 f21
  replace f22 := shm_5 f22
  have q10 : n_v vs 10 = n_v vs 2 := f19.symm
  have q11 : n_v vs 11 = n_v vs 3 := f20.symm
  have q12 : n_v vs 12 = n_v vs 4 := f21.symm
  have q13 : n_v vs 13 = n_v vs 5 := f22.symm
  simp only [q13, q12, q11, q10] at f0 f2 f5 f10 f12 f13 f14
  have h0 : v_iv (n_v vs 26) = w_ei ws (v_ad (n_v vs 5)) (v_iv (n_v vs 15)) := f0
  have h2 : v_iv (n_v vs 25) = w_ei ws (v_ad (n_v vs 5)) (v_iv (n_v vs 15)) := f2
  have h5 : v_iv (n_v vs 22) = w_ei ws (v_ad (n_v vs 4)) (v_iv (n_v vs 15)) := f5
  have h10 : v_iv (n_v vs 17) = w_ei ws (v_ad (n_v vs 4)) (v_iv (n_v vs 15)) := f10
  have h12 : v_iv (n_v vs 16) = w_ei ws (v_ad (n_v vs 3)) (v_iv (n_v vs 15)) := f12
  have hrf0 : 0 ≤ v_iv (n_v vs 26) ∧ v_iv (n_v vs 26) ≤ 47 := vc_Fa_uniteAt_at_Grtail_Grhead_Fablock_14_r0 (v_iv (n_v vs 2)) (v_iv (n_v vs 15)) (v_iv (n_v vs 16)) (v_iv (n_v vs 17)) (v_iv (n_v vs 22)) (v_iv (n_v vs 25)) (v_iv (n_v vs 26)) (w_ei ws (v_ad (n_v vs 5))) (w_ei ws (v_ad (n_v vs 4))) (w_ei ws (v_ad (n_v vs 3))) k2 k15 k16 k17 k22 k25 k26 h0 h2 h5 h10 h12 f13 f14
  have rf26 : tv_ok ta (0, 0, 47, []) (n_v vs 26) := tv_in t26 (by first | omega | grind) (by first | omega | grind)
  refine ⟨List.forall_mem_cons.mpr ⟨rf26, (fun _ h => (by cases h))⟩, [], trivial, ?_, (fun _ h => (by cases h))⟩
  rw [List.append_nil]
  exact (fun _ h => (by cases h))

set_option maxHeartbeats 4000000 in
theorem vc_Fa_uniteAt_at_Grtail_Grhead_Fablock_15_r0 (x15 : Int) (x16 : Int) (x17 : Int) (x22 : Int) (x25 : Int) (x26 : Int) (x28 : Int) (a5_0 : Int → Int) (a4_0 : Int → Int) (a3_0 : Int → Int) (k15 : 0 ≤ x15 ∧ x15 ≤ 47) (k16 : 0 ≤ x16 ∧ x16 ≤ 23) (k17 : 0 ≤ x17 ∧ x17 ≤ 23) (k22 : 0 ≤ x22 ∧ x22 ≤ 23) (k25 : (-1) ≤ x25 ∧ x25 ≤ 47) (k26 : 0 ≤ x26 ∧ x26 ≤ 47) (k28 : (-1) ≤ x28 ∧ x28 ≤ 47) (h0 : x28 = a5_0 (x15)) (h4 : x26 = a5_0 (x15)) (h6 : x25 = a5_0 (x15)) (h9 : x22 = a4_0 (x15)) (h14 : x17 = a4_0 (x15)) (h16 : x16 = a3_0 (x15)) : 0 ≤ x28 ∧ x28 ≤ 47 := by
  first
    | omega
    | (skip; (first | subst h0 | skip); (first | subst h4 | skip); (first | subst h6 | skip); (first | subst h9 | skip); (first | subst h14 | skip); (first | subst h16 | skip); have q := ‹BLQ _ _› x15 (by omega) (by omega); omega)
def o_Fa_uniteAt_at_Grtail_Grhead_Fablock_15 : or_T := (124, 29, [(0, (0, 0, 23, [])), (1, (0, 0, 16777215, [])), (2, (0, 1, 48, [])), (3, (2, 0, 0, [52])), (4, (2, 0, 0, [53])), (5, (2, 0, 0, [38])), (6, (2, 0, 0, [59])), (7, (0, 0, 25, [])), (8, (0, 0, 23, [])), (9, (0, 0, 16777215, [])), (10, (0, 1, 48, [])), (11, (2, 0, 0, [52])), (12, (2, 0, 0, [53])), (13, (2, 0, 0, [38])), (14, (0, 0, 47, [])), (15, (0, 0, 47, [])), (16, (0, 0, 23, [])), (17, (0, 0, 23, [])), (18, (0, 0, 16777215, [])), (19, (0, 1, 1, [])), (20, (0, 1, 1, [])), (22, (0, 0, 23, [])), (24, (0, -1, -1, [])), (25, (0, -1, 47, [])), (26, (0, 0, 47, [])), (27, (0, 0, 47, [])), (28, (0, -1, 47, []))], [(10, [28, 13, 15], []), (23, [14, 27], [0, 1, -1]), (23, [26, 27], [0, 1, -1]), (20, [27, 14, 26], [50, 0, 0, 3, 6, 1, 2, 1, 0, 1, 1, 1, 2, 1, 0, 1, 2]), (10, [26, 13, 15], []), (7, [25, 14], [1]), (10, [25, 13, 15], []), (7, [14, 24], [1]), (7, [22, 8], [1]), (10, [22, 12, 15], []), (8, [20], [1]), (12, [20, 18], [2]), (16, [20, 18, 19], [0]), (16, [18, 9, 17], [4]), (10, [17, 12, 15], []), (7, [16, 8], [0]), (10, [16, 11, 15], []), (7, [15, 10], [2]), (20, [13, 10], [61, 1, 566]), (20, [13, 11, 12, 10, 8, 14], [61, 3, 584]), (20, [13, 11, 12, 6, 7, 10, 8, 9, 14], [61, 4, 589]), (24, [0, 8], []), (24, [1, 9], []), (24, [2, 10], []), (24, [3, 11], []), (24, [4, 12], []), (24, [5, 13], [])], [(28, (0, 0, 47, []))], [], [], [], [(16, 8, 0, 0), (15, 10, -4294967296, -1), (0, 8, -4294967296, 0), (1, 9, -4294967296, 0), (2, 10, -4294967296, 0), (8, 0, -4294967296, 0), (9, 1, -4294967296, 0), (10, 2, -4294967296, 0), (14, 15, -4294967296, 46), (15, 2, -4294967296, 0), (15, 10, -4294967296, 0)])
theorem oo_Fa_uniteAt_at_Grtail_Grhead_Fablock_15 {kA : Nat → ClassId} : or_ok PRD kA GG o_Fa_uniteAt_at_Grtail_Grhead_Fablock_15 := by
  refine or_mk fun A ta ws vs hD hth hl => ?_
  intro t0 k0 t1 k1 t2 k2 t3 r3 t4 r4 t5 r5 t6 r6 t7 k7 t8 k8 t9 k9 t10 k10 t11 r11 t12 r12 t13 r13 t14 k14 t15 k15 t16 k16 t17 k17 t18 k18 t19 k19 t20 k20 t22 k22 t24 k24 t25 k25 t26 k26 t27 k27 t28 k28 d0 d1 d2 d3 d4 d5 d6 d7 d8 d9 d10 f0 f1 f2 f3 f4 f5 f6 f7 f8 f9 f10 f11 f12 f13 f14 f15 f16 f17 f18 f19 f20 f21 f22 f23 f24 f25 f26
  replace f0 := shm_107 f0
  replace f4 := shm_107 f4
  replace f6 := shm_107 f6
  replace f9 := shm_107 f9
  replace f14 := shm_107 f14
  replace f16 := shm_107 f16
  replace f24 := shm_5 f24
  replace f25 := shm_5 f25
  replace f26 := shm_5 f26
  have q11 : n_v vs 11 = n_v vs 3 := f24.symm
  have q12 : n_v vs 12 = n_v vs 4 := f25.symm
  have q13 : n_v vs 13 = n_v vs 5 := f26.symm
  simp only [q13, q12, q11] at f0 f4 f6 f9 f14 f16
  have h0 : v_iv (n_v vs 28) = w_ei ws (v_ad (n_v vs 5)) (v_iv (n_v vs 15)) := f0
  have h4 : v_iv (n_v vs 26) = w_ei ws (v_ad (n_v vs 5)) (v_iv (n_v vs 15)) := f4
  have h6 : v_iv (n_v vs 25) = w_ei ws (v_ad (n_v vs 5)) (v_iv (n_v vs 15)) := f6
  have h9 : v_iv (n_v vs 22) = w_ei ws (v_ad (n_v vs 4)) (v_iv (n_v vs 15)) := f9
  have h14 : v_iv (n_v vs 17) = w_ei ws (v_ad (n_v vs 4)) (v_iv (n_v vs 15)) := f14
  have h16 : v_iv (n_v vs 16) = w_ei ws (v_ad (n_v vs 3)) (v_iv (n_v vs 15)) := f16
  have hrf0 : 0 ≤ v_iv (n_v vs 28) ∧ v_iv (n_v vs 28) ≤ 47 := vc_Fa_uniteAt_at_Grtail_Grhead_Fablock_15_r0 (v_iv (n_v vs 15)) (v_iv (n_v vs 16)) (v_iv (n_v vs 17)) (v_iv (n_v vs 22)) (v_iv (n_v vs 25)) (v_iv (n_v vs 26)) (v_iv (n_v vs 28)) (w_ei ws (v_ad (n_v vs 5))) (w_ei ws (v_ad (n_v vs 4))) (w_ei ws (v_ad (n_v vs 3))) k15 k16 k17 k22 k25 k26 k28 h0 h4 h6 h9 h14 h16
  have rf28 : tv_ok ta (0, 0, 47, []) (n_v vs 28) := tv_in t28 (by first | omega | grind) (by first | omega | grind)
  refine ⟨List.forall_mem_cons.mpr ⟨rf28, (fun _ h => (by cases h))⟩, [], trivial, ?_, (fun _ h => (by cases h))⟩
  rw [List.append_nil]
  exact (fun _ h => (by cases h))
set_option maxHeartbeats 4000000 in
theorem vc_Fa_uniteAt_at_Grtail_Grhead_Fablock_16_2 (x0 : Int) (x8 : Int) (x15 : Int) (x16 : Int) (x17 : Int) (x22 : Int) (x25 : Int) (x26 : Int) (x28 : Int) (a5_0 : Int → Int) (a4_0 : Int → Int) (a3_0 : Int → Int) (gu : Int) (k0 : 0 ≤ x0 ∧ x0 ≤ 23) (k8 : 0 ≤ x8 ∧ x8 ≤ 23) (k15 : 0 ≤ x15 ∧ x15 ≤ 47) (k16 : 0 ≤ x16 ∧ x16 ≤ 23) (k17 : 0 ≤ x17 ∧ x17 ≤ 23) (k22 : 0 ≤ x22 ∧ x22 ≤ 23) (k25 : (-1) ≤ x25 ∧ x25 ≤ 47) (k26 : 0 ≤ x26 ∧ x26 ≤ 47) (k28 : 0 ≤ x28 ∧ x28 ≤ 47) (d0 : x8 + 0 ≤ x16 ∧ x16 ≤ x8 + 0) (d2 : x8 + (-4294967296) ≤ x0 ∧ x0 ≤ x8 + 0) (d5 : x0 + (-4294967296) ≤ x8 ∧ x8 ≤ x0 + 0) (h3 : x28 = a5_0 (x15)) (h7 : x26 = a5_0 (x15)) (h9 : x25 = a5_0 (x15)) (h12 : x22 = a4_0 (x15)) (h17 : x17 = a4_0 (x15)) (h19 : x16 = a3_0 (x15)) (eu2 : gu = x0) : 1 * gu + ((-1) * x0 + 0) ≤ 0 := by
  first
    | omega
    | (skip; (first | subst h3 | skip); (first | subst h7 | skip); (first | subst h9 | skip); (first | subst h12 | skip); (first | subst h17 | skip); (first | subst h19 | skip); have q := ‹BLQ _ _› x15 (by omega) (by omega); omega)
set_option maxHeartbeats 4000000 in
theorem vc_Fa_uniteAt_at_Grtail_Grhead_Fablock_16_3 (x0 : Int) (x8 : Int) (x15 : Int) (x16 : Int) (x17 : Int) (x22 : Int) (x25 : Int) (x26 : Int) (x28 : Int) (a5_0 : Int → Int) (a4_0 : Int → Int) (a3_0 : Int → Int) (gu : Int) (k0 : 0 ≤ x0 ∧ x0 ≤ 23) (k8 : 0 ≤ x8 ∧ x8 ≤ 23) (k15 : 0 ≤ x15 ∧ x15 ≤ 47) (k16 : 0 ≤ x16 ∧ x16 ≤ 23) (k17 : 0 ≤ x17 ∧ x17 ≤ 23) (k22 : 0 ≤ x22 ∧ x22 ≤ 23) (k25 : (-1) ≤ x25 ∧ x25 ≤ 47) (k26 : 0 ≤ x26 ∧ x26 ≤ 47) (k28 : 0 ≤ x28 ∧ x28 ≤ 47) (d0 : x8 + 0 ≤ x16 ∧ x16 ≤ x8 + 0) (d2 : x8 + (-4294967296) ≤ x0 ∧ x0 ≤ x8 + 0) (d5 : x0 + (-4294967296) ≤ x8 ∧ x8 ≤ x0 + 0) (h3 : x28 = a5_0 (x15)) (h7 : x26 = a5_0 (x15)) (h9 : x25 = a5_0 (x15)) (h12 : x22 = a4_0 (x15)) (h17 : x17 = a4_0 (x15)) (h19 : x16 = a3_0 (x15)) (eu2 : gu = x0) : (-1) * gu + (1 * x0 + 0) ≤ 0 := by
  first
    | omega
    | (skip; (first | subst h3 | skip); (first | subst h7 | skip); (first | subst h9 | skip); (first | subst h12 | skip); (first | subst h17 | skip); (first | subst h19 | skip); have q := ‹BLQ _ _› x15 (by omega) (by omega); omega)
set_option maxHeartbeats 4000000 in
theorem vc_Fa_uniteAt_at_Grtail_Grhead_Fablock_16_5 (x7 : Int) (x15 : Int) (x16 : Int) (x17 : Int) (x22 : Int) (x25 : Int) (x26 : Int) (x28 : Int) (a5_0 : Int → Int) (a4_0 : Int → Int) (a3_0 : Int → Int) (gc : Int) (k7 : 0 ≤ x7 ∧ x7 ≤ 25) (k15 : 0 ≤ x15 ∧ x15 ≤ 47) (k16 : 0 ≤ x16 ∧ x16 ≤ 23) (k17 : 0 ≤ x17 ∧ x17 ≤ 23) (k22 : 0 ≤ x22 ∧ x22 ≤ 23) (k25 : (-1) ≤ x25 ∧ x25 ≤ 47) (k26 : 0 ≤ x26 ∧ x26 ≤ 47) (k28 : 0 ≤ x28 ∧ x28 ≤ 47) (h3 : x28 = a5_0 (x15)) (h7 : x26 = a5_0 (x15)) (h9 : x25 = a5_0 (x15)) (h12 : x22 = a4_0 (x15)) (h17 : x17 = a4_0 (x15)) (h19 : x16 = a3_0 (x15)) (ec2 : gc = x7) : 1 * gc + ((-1) * x7 + 0) ≤ 0 := by
  first
    | omega
    | (skip; (first | subst h3 | skip); (first | subst h7 | skip); (first | subst h9 | skip); (first | subst h12 | skip); (first | subst h17 | skip); (first | subst h19 | skip); have q := ‹BLQ _ _› x15 (by omega) (by omega); omega)
set_option maxHeartbeats 4000000 in
theorem vc_Fa_uniteAt_at_Grtail_Grhead_Fablock_16_6 (x7 : Int) (x15 : Int) (x16 : Int) (x17 : Int) (x22 : Int) (x25 : Int) (x26 : Int) (x28 : Int) (a5_0 : Int → Int) (a4_0 : Int → Int) (a3_0 : Int → Int) (gc : Int) (k7 : 0 ≤ x7 ∧ x7 ≤ 25) (k15 : 0 ≤ x15 ∧ x15 ≤ 47) (k16 : 0 ≤ x16 ∧ x16 ≤ 23) (k17 : 0 ≤ x17 ∧ x17 ≤ 23) (k22 : 0 ≤ x22 ∧ x22 ≤ 23) (k25 : (-1) ≤ x25 ∧ x25 ≤ 47) (k26 : 0 ≤ x26 ∧ x26 ≤ 47) (k28 : 0 ≤ x28 ∧ x28 ≤ 47) (h3 : x28 = a5_0 (x15)) (h7 : x26 = a5_0 (x15)) (h9 : x25 = a5_0 (x15)) (h12 : x22 = a4_0 (x15)) (h17 : x17 = a4_0 (x15)) (h19 : x16 = a3_0 (x15)) (ec2 : gc = x7) : (-1) * gc + (1 * x7 + 0) ≤ 0 := by
  first
    | omega
    | (skip; (first | subst h3 | skip); (first | subst h7 | skip); (first | subst h9 | skip); (first | subst h12 | skip); (first | subst h17 | skip); (first | subst h19 | skip); have q := ‹BLQ _ _› x15 (by omega) (by omega); omega)
set_option maxHeartbeats 4000000 in
theorem vc_Fa_uniteAt_at_Grtail_Grhead_Fablock_16_7 (x1 : Int) (x9 : Int) (x15 : Int) (x16 : Int) (x17 : Int) (x22 : Int) (x25 : Int) (x26 : Int) (x28 : Int) (a5_0 : Int → Int) (a4_0 : Int → Int) (a3_0 : Int → Int) (gd : Int) (k1 : 0 ≤ x1 ∧ x1 ≤ 16777215) (k9 : 0 ≤ x9 ∧ x9 ≤ 16777215) (k15 : 0 ≤ x15 ∧ x15 ≤ 47) (k16 : 0 ≤ x16 ∧ x16 ≤ 23) (k17 : 0 ≤ x17 ∧ x17 ≤ 23) (k22 : 0 ≤ x22 ∧ x22 ≤ 23) (k25 : (-1) ≤ x25 ∧ x25 ≤ 47) (k26 : 0 ≤ x26 ∧ x26 ≤ 47) (k28 : 0 ≤ x28 ∧ x28 ≤ 47) (d3 : x9 + (-4294967296) ≤ x1 ∧ x1 ≤ x9 + 0) (d6 : x1 + (-4294967296) ≤ x9 ∧ x9 ≤ x1 + 0) (h3 : x28 = a5_0 (x15)) (h7 : x26 = a5_0 (x15)) (h9 : x25 = a5_0 (x15)) (h12 : x22 = a4_0 (x15)) (h17 : x17 = a4_0 (x15)) (h19 : x16 = a3_0 (x15)) (ed2 : gd = x1) : 1 * gd + ((-1) * x1 + 0) ≤ 0 := by
  first
    | omega
    | (skip; (first | subst h3 | skip); (first | subst h7 | skip); (first | subst h9 | skip); (first | subst h12 | skip); (first | subst h17 | skip); (first | subst h19 | skip); have q := ‹BLQ _ _› x15 (by omega) (by omega); omega)
set_option maxHeartbeats 4000000 in
theorem vc_Fa_uniteAt_at_Grtail_Grhead_Fablock_16_8 (x1 : Int) (x9 : Int) (x15 : Int) (x16 : Int) (x17 : Int) (x22 : Int) (x25 : Int) (x26 : Int) (x28 : Int) (a5_0 : Int → Int) (a4_0 : Int → Int) (a3_0 : Int → Int) (gd : Int) (k1 : 0 ≤ x1 ∧ x1 ≤ 16777215) (k9 : 0 ≤ x9 ∧ x9 ≤ 16777215) (k15 : 0 ≤ x15 ∧ x15 ≤ 47) (k16 : 0 ≤ x16 ∧ x16 ≤ 23) (k17 : 0 ≤ x17 ∧ x17 ≤ 23) (k22 : 0 ≤ x22 ∧ x22 ≤ 23) (k25 : (-1) ≤ x25 ∧ x25 ≤ 47) (k26 : 0 ≤ x26 ∧ x26 ≤ 47) (k28 : 0 ≤ x28 ∧ x28 ≤ 47) (d3 : x9 + (-4294967296) ≤ x1 ∧ x1 ≤ x9 + 0) (d6 : x1 + (-4294967296) ≤ x9 ∧ x9 ≤ x1 + 0) (h3 : x28 = a5_0 (x15)) (h7 : x26 = a5_0 (x15)) (h9 : x25 = a5_0 (x15)) (h12 : x22 = a4_0 (x15)) (h17 : x17 = a4_0 (x15)) (h19 : x16 = a3_0 (x15)) (ed2 : gd = x1) : (-1) * gd + (1 * x1 + 0) ≤ 0 := by
  first
    | omega
    | (skip; (first | subst h3 | skip); (first | subst h7 | skip); (first | subst h9 | skip); (first | subst h12 | skip); (first | subst h17 | skip); (first | subst h19 | skip); have q := ‹BLQ _ _› x15 (by omega) (by omega); omega)
set_option maxHeartbeats 4000000 in
theorem vc_Fa_uniteAt_at_Grtail_Grhead_Fablock_16_9 (x2 : Int) (a5_0 : Int → Int) (k2 : 1 ≤ x2 ∧ x2 ≤ 48) (f21 : BLQ (a5_0) (x2)) : BLQ (a5_0) (x2) := by
  first
    | assumption
  
set_option maxHeartbeats 4000000 in
theorem vc_Fa_uniteAt_at_Grtail_Grhead_Fablock_16_10 (x15 : Int) (x16 : Int) (x17 : Int) (x22 : Int) (x25 : Int) (x26 : Int) (x27 : Int) (x28 : Int) (x29 : Int) (a5_0 : Int → Int) (a4_0 : Int → Int) (a3_0 : Int → Int) (k15 : 0 ≤ x15 ∧ x15 ≤ 47) (k16 : 0 ≤ x16 ∧ x16 ≤ 23) (k17 : 0 ≤ x17 ∧ x17 ≤ 23) (k22 : 0 ≤ x22 ∧ x22 ≤ 23) (k25 : (-1) ≤ x25 ∧ x25 ≤ 47) (k26 : 0 ≤ x26 ∧ x26 ≤ 47) (k27 : 0 ≤ x27 ∧ x27 ≤ 47) (k28 : 0 ≤ x28 ∧ x28 ≤ 47) (k29 : 0 ≤ x29 ∧ x29 ≤ 47) (f1 : (-1) * x28 + (1 * x29 + 0) ≤ 0) (h3 : x28 = a5_0 (x15)) (f5 : 1 * x26 + ((-1) * x27 + 0) ≤ 0) (h7 : x26 = a5_0 (x15)) (h9 : x25 = a5_0 (x15)) (h12 : x22 = a4_0 (x15)) (h17 : x17 = a4_0 (x15)) (h19 : x16 = a3_0 (x15)) : (0 ≤ x29) ∧ (x29 ≤ x27) := by
  first
    | omega
    | (skip; (first | subst h3 | skip); (first | subst h7 | skip); (first | subst h9 | skip); (first | subst h12 | skip); (first | subst h17 | skip); (first | subst h19 | skip); have q := ‹BLQ _ _› x15 (by omega) (by omega); omega)
set_option maxHeartbeats 4000000 in
theorem vc_Fa_uniteAt_at_Grtail_Grhead_Fablock_16_11 (x0 : Int) (x2 : Int) (x8 : Int) (x14 : Int) (x15 : Int) (x16 : Int) (x20 : Int) (x22 : Int) (x24 : Int) (x25 : Int) (x26 : Int) (x27 : Int) (x28 : Int) (x29 : Int) (a5_0 : Int → Int) (a4_0 : Int → Int) (a3_0 : Int → Int) (gu : Int) (k0 : 0 ≤ x0 ∧ x0 ≤ 23) (k2 : 1 ≤ x2 ∧ x2 ≤ 48) (k8 : 0 ≤ x8 ∧ x8 ≤ 23) (k14 : 0 ≤ x14 ∧ x14 ≤ 47) (k15 : 0 ≤ x15 ∧ x15 ≤ 47) (k16 : 0 ≤ x16 ∧ x16 ≤ 23) (k20 : 1 ≤ x20 ∧ x20 ≤ 1) (k22 : 0 ≤ x22 ∧ x22 ≤ 23) (k24 : (-1) ≤ x24 ∧ x24 ≤ (-1)) (k25 : (-1) ≤ x25 ∧ x25 ≤ 47) (k26 : 0 ≤ x26 ∧ x26 ≤ 47) (k27 : 0 ≤ x27 ∧ x27 ≤ 47) (k28 : 0 ≤ x28 ∧ x28 ≤ 47) (k29 : 0 ≤ x29 ∧ x29 ≤ 47) (d0 : x8 + 0 ≤ x16 ∧ x16 ≤ x8 + 0) (d2 : x8 + (-4294967296) ≤ x0 ∧ x0 ≤ x8 + 0) (d5 : x0 + (-4294967296) ≤ x8 ∧ x8 ≤ x0 + 0) (f0 : (-1) * x14 + (1 * x29 + 0) ≤ 0) (f1 : (-1) * x28 + (1 * x29 + 0) ≤ 0) (f2 : (x29 = x14) ∨ (x29 = x28)) (h3 : x28 = a5_0 (x15)) (f4 : 1 * x14 + ((-1) * x27 + 0) ≤ 0) (f5 : 1 * x26 + ((-1) * x27 + 0) ≤ 0) (f6 : (x27 = x14) ∨ (x27 = x26)) (h7 : x26 = a5_0 (x15)) (f8 : x25 ≠ x14) (h9 : x25 = a5_0 (x15)) (f10 : x14 ≠ x24) (f11 : x22 ≠ x0) (f13 : x20 ≠ 0) (h19 : x16 = a3_0 (x15)) (f20 : x15 < x2) (f22 : UNI (a5_0) (a3_0) (a4_0) (x2) (x0) (x14)) (eu2 : gu = x0) : RLP (a5_0) (a3_0) (a4_0) (x2) (x27) (x29) (gu) := by
  first
    | (rw [show gu = x0 by omega]; exact uni_rlp (e := x15) ‹UNI _ _ _ _ _ _› (by omega) rfl (by omega) (by omega) (by omega) (by first | exact Or.inl (by omega) | exact Or.inr (by omega)) (by omega) (by omega) (by omega) (by omega) (by omega) (by omega))
  
set_option maxHeartbeats 4000000 in
theorem vc_Fa_uniteAt_at_Grtail_Grhead_Fablock_16_12 (x0 : Int) (x1 : Int) (x2 : Int) (x7 : Int) (x8 : Int) (x14 : Int) (x15 : Int) (x16 : Int) (x17 : Int) (x18 : Int) (x19 : Int) (x20 : Int) (x22 : Int) (x24 : Int) (x25 : Int) (x26 : Int) (x27 : Int) (x28 : Int) (x29 : Int) (a5_0 : Int → Int) (a4_0 : Int → Int) (a3_0 : Int → Int) (a6_0 : Int → Int) (gu : Int) (gc : Int) (gd : Int) (k0 : 0 ≤ x0 ∧ x0 ≤ 23) (k1 : 0 ≤ x1 ∧ x1 ≤ 16777215) (k2 : 1 ≤ x2 ∧ x2 ≤ 48) (k7 : 0 ≤ x7 ∧ x7 ≤ 25) (k8 : 0 ≤ x8 ∧ x8 ≤ 23) (k14 : 0 ≤ x14 ∧ x14 ≤ 47) (k15 : 0 ≤ x15 ∧ x15 ≤ 47) (k16 : 0 ≤ x16 ∧ x16 ≤ 23) (k17 : 0 ≤ x17 ∧ x17 ≤ 23) (k18 : 0 ≤ x18 ∧ x18 ≤ 16777215) (k19 : 1 ≤ x19 ∧ x19 ≤ 1) (k20 : 1 ≤ x20 ∧ x20 ≤ 1) (k22 : 0 ≤ x22 ∧ x22 ≤ 23) (k24 : (-1) ≤ x24 ∧ x24 ≤ (-1)) (k25 : (-1) ≤ x25 ∧ x25 ≤ 47) (k26 : 0 ≤ x26 ∧ x26 ≤ 47) (k27 : 0 ≤ x27 ∧ x27 ≤ 47) (k28 : 0 ≤ x28 ∧ x28 ≤ 47) (k29 : 0 ≤ x29 ∧ x29 ≤ 47) (d0 : x8 + 0 ≤ x16 ∧ x16 ≤ x8 + 0) (d2 : x8 + (-4294967296) ≤ x0 ∧ x0 ≤ x8 + 0) (d5 : x0 + (-4294967296) ≤ x8 ∧ x8 ≤ x0 + 0) (f0 : (-1) * x14 + (1 * x29 + 0) ≤ 0) (f1 : (-1) * x28 + (1 * x29 + 0) ≤ 0) (f2 : (x29 = x14) ∨ (x29 = x28)) (h3 : x28 = a5_0 (x15)) (f4 : 1 * x14 + ((-1) * x27 + 0) ≤ 0) (f5 : 1 * x26 + ((-1) * x27 + 0) ≤ 0) (f6 : (x27 = x14) ∨ (x27 = x26)) (h7 : x26 = a5_0 (x15)) (f8 : x25 ≠ x14) (h9 : x25 = a5_0 (x15)) (f10 : x14 ≠ x24) (f11 : x22 ≠ x0) (f13 : x20 ≠ 0) (f15 : bvp (x20) = bvp (x18) &&& bvp (x19)) (f16 : bvp (x18) = bvp (x1) >>> (x17).toNat) (h17 : x17 = a4_0 (x15)) (h19 : x16 = a3_0 (x15)) (f20 : x15 < x2) (f23 : UN2 (a5_0) (a3_0) (a4_0) (a6_0) (x7) (x2) (x0) (x1) (x14)) (eu2 : gu = x0) (ec2 : gc = x7) (ed2 : gd = x1) : QKP (a5_0) (a3_0) (a4_0) (a6_0) (gc) (x2) (gu) (gd) (x27) (x29) := by
  first
    | (rw [show gu = x0 by omega, show gc = x7 by omega, show gd = x1 by omega]; exact un2_qkp (e := x15) ‹UN2 _ _ _ _ _ _ _ _ _› (by omega) rfl (by omega) (by omega) (by omega) (by first | exact Or.inl ⟨by omega, by omega, by rw [← ‹x17 = a4_0 x15›]; exact (bit_one (s := x1) (t := x18) (c := x20) (v := x17) (one := x19) (by assumption) (by assumption) (by omega) (by omega) (by omega) (by omega)).mpr (by omega)⟩ | exact Or.inr ⟨by omega, by omega, by rw [← ‹x19 = a3_0 x15›]; exact (bit_one (s := x1) (t := x20) (c := x22) (v := x19) (one := x21) (by assumption) (by assumption) (by omega) (by omega) (by omega) (by omega)).mpr (by omega)⟩ | exact Or.inr ⟨by omega, by omega, by rw [← ‹x23 = a3_0 x15›]; exact (bit_one (s := x1) (t := x24) (c := x26) (v := x23) (one := x25) (by assumption) (by assumption) (by omega) (by omega) (by omega) (by omega)).mpr (by omega)⟩) (by omega) (by omega) (by omega) (by omega) (by omega) (by omega))
  
set_option maxHeartbeats 4000000 in
theorem vc_Fa_uniteAt_at_Grtail_Grhead_Fablock_16_13 (x0 : Int) (x15 : Int) (x16 : Int) (x17 : Int) (x22 : Int) (x25 : Int) (x26 : Int) (x28 : Int) (a5_0 : Int → Int) (a4_0 : Int → Int) (a3_0 : Int → Int) (gu : Int) (k0 : 0 ≤ x0 ∧ x0 ≤ 23) (k15 : 0 ≤ x15 ∧ x15 ≤ 47) (k16 : 0 ≤ x16 ∧ x16 ≤ 23) (k17 : 0 ≤ x17 ∧ x17 ≤ 23) (k22 : 0 ≤ x22 ∧ x22 ≤ 23) (k25 : (-1) ≤ x25 ∧ x25 ≤ 47) (k26 : 0 ≤ x26 ∧ x26 ≤ 47) (k28 : 0 ≤ x28 ∧ x28 ≤ 47) (h3 : x28 = a5_0 (x15)) (h7 : x26 = a5_0 (x15)) (h9 : x25 = a5_0 (x15)) (h12 : x22 = a4_0 (x15)) (h17 : x17 = a4_0 (x15)) (h19 : x16 = a3_0 (x15)) (eu2 : gu = x0) : gu = x0 := by
  first
    | omega
    | (skip; (first | subst h3 | skip); (first | subst h7 | skip); (first | subst h9 | skip); (first | subst h12 | skip); (first | subst h17 | skip); (first | subst h19 | skip); have q := ‹BLQ _ _› x15 (by omega) (by omega); omega)
set_option maxHeartbeats 4000000 in
theorem vc_Fa_uniteAt_at_Grtail_Grhead_Fablock_16_14 (x15 : Int) (x16 : Int) (x17 : Int) (x22 : Int) (x25 : Int) (x26 : Int) (x28 : Int) (x29 : Int) (a5_0 : Int → Int) (a4_0 : Int → Int) (a3_0 : Int → Int) (k15 : 0 ≤ x15 ∧ x15 ≤ 47) (k16 : 0 ≤ x16 ∧ x16 ≤ 23) (k17 : 0 ≤ x17 ∧ x17 ≤ 23) (k22 : 0 ≤ x22 ∧ x22 ≤ 23) (k25 : (-1) ≤ x25 ∧ x25 ≤ 47) (k26 : 0 ≤ x26 ∧ x26 ≤ 47) (k28 : 0 ≤ x28 ∧ x28 ≤ 47) (k29 : 0 ≤ x29 ∧ x29 ≤ 47) (h3 : x28 = a5_0 (x15)) (h7 : x26 = a5_0 (x15)) (h9 : x25 = a5_0 (x15)) (h12 : x22 = a4_0 (x15)) (h17 : x17 = a4_0 (x15)) (h19 : x16 = a3_0 (x15)) : 0 ≤ x29 := by
  first
    | omega
    | (skip; (first | subst h3 | skip); (first | subst h7 | skip); (first | subst h9 | skip); (first | subst h12 | skip); (first | subst h17 | skip); (first | subst h19 | skip); have q := ‹BLQ _ _› x15 (by omega) (by omega); omega)
set_option maxHeartbeats 4000000 in
theorem vc_Fa_uniteAt_at_Grtail_Grhead_Fablock_16_15 (x7 : Int) (x15 : Int) (x16 : Int) (x17 : Int) (x22 : Int) (x25 : Int) (x26 : Int) (x28 : Int) (a5_0 : Int → Int) (a4_0 : Int → Int) (a3_0 : Int → Int) (gc : Int) (k7 : 0 ≤ x7 ∧ x7 ≤ 25) (k15 : 0 ≤ x15 ∧ x15 ≤ 47) (k16 : 0 ≤ x16 ∧ x16 ≤ 23) (k17 : 0 ≤ x17 ∧ x17 ≤ 23) (k22 : 0 ≤ x22 ∧ x22 ≤ 23) (k25 : (-1) ≤ x25 ∧ x25 ≤ 47) (k26 : 0 ≤ x26 ∧ x26 ≤ 47) (k28 : 0 ≤ x28 ∧ x28 ≤ 47) (h3 : x28 = a5_0 (x15)) (h7 : x26 = a5_0 (x15)) (h9 : x25 = a5_0 (x15)) (h12 : x22 = a4_0 (x15)) (h17 : x17 = a4_0 (x15)) (h19 : x16 = a3_0 (x15)) (ec2 : gc = x7) : gc = x7 := by
  first
    | omega
    | (skip; (first | subst h3 | skip); (first | subst h7 | skip); (first | subst h9 | skip); (first | subst h12 | skip); (first | subst h17 | skip); (first | subst h19 | skip); have q := ‹BLQ _ _› x15 (by omega) (by omega); omega)
set_option maxHeartbeats 4000000 in
theorem vc_Fa_uniteAt_at_Grtail_Grhead_Fablock_16_16 (x1 : Int) (x15 : Int) (x16 : Int) (x17 : Int) (x22 : Int) (x25 : Int) (x26 : Int) (x28 : Int) (a5_0 : Int → Int) (a4_0 : Int → Int) (a3_0 : Int → Int) (gd : Int) (k1 : 0 ≤ x1 ∧ x1 ≤ 16777215) (k15 : 0 ≤ x15 ∧ x15 ≤ 47) (k16 : 0 ≤ x16 ∧ x16 ≤ 23) (k17 : 0 ≤ x17 ∧ x17 ≤ 23) (k22 : 0 ≤ x22 ∧ x22 ≤ 23) (k25 : (-1) ≤ x25 ∧ x25 ≤ 47) (k26 : 0 ≤ x26 ∧ x26 ≤ 47) (k28 : 0 ≤ x28 ∧ x28 ≤ 47) (h3 : x28 = a5_0 (x15)) (h7 : x26 = a5_0 (x15)) (h9 : x25 = a5_0 (x15)) (h12 : x22 = a4_0 (x15)) (h17 : x17 = a4_0 (x15)) (h19 : x16 = a3_0 (x15)) (ed2 : gd = x1) : gd = x1 := by
  first
    | omega
    | (skip; (first | subst h3 | skip); (first | subst h7 | skip); (first | subst h9 | skip); (first | subst h12 | skip); (first | subst h17 | skip); (first | subst h19 | skip); have q := ‹BLQ _ _› x15 (by omega) (by omega); omega)
def o_Fa_uniteAt_at_Grtail_Grhead_Fablock_16 : or_T := (136, 30, [(0, (0, 0, 23, [])), (1, (0, 0, 16777215, [])), (2, (0, 1, 48, [])), (3, (2, 0, 0, [52])), (4, (2, 0, 0, [53])), (5, (2, 0, 0, [38])), (6, (2, 0, 0, [59])), (7, (0, 0, 25, [])), (8, (0, 0, 23, [])), (9, (0, 0, 16777215, [])), (10, (0, 1, 48, [])), (11, (2, 0, 0, [52])), (12, (2, 0, 0, [53])), (13, (2, 0, 0, [38])), (14, (0, 0, 47, [])), (15, (0, 0, 47, [])), (16, (0, 0, 23, [])), (17, (0, 0, 23, [])), (18, (0, 0, 16777215, [])), (19, (0, 1, 1, [])), (20, (0, 1, 1, [])), (22, (0, 0, 23, [])), (24, (0, -1, -1, [])), (25, (0, -1, 47, [])), (26, (0, 0, 47, [])), (27, (0, 0, 47, [])), (28, (0, 0, 47, [])), (29, (0, 0, 47, []))], [(23, [14, 29], [0, -1, 1]), (23, [28, 29], [0, -1, 1]), (20, [29, 14, 28], [50, 0, 0, 3, 6, 1, 2, 1, 0, 1, 1, 1, 2, 1, 0, 1, 2]), (10, [28, 13, 15], []), (23, [14, 27], [0, 1, -1]), (23, [26, 27], [0, 1, -1]), (20, [27, 14, 26], [50, 0, 0, 3, 6, 1, 2, 1, 0, 1, 1, 1, 2, 1, 0, 1, 2]), (10, [26, 13, 15], []), (7, [25, 14], [1]), (10, [25, 13, 15], []), (7, [14, 24], [1]), (7, [22, 8], [1]), (10, [22, 12, 15], []), (8, [20], [1]), (12, [20, 18], [2]), (16, [20, 18, 19], [0]), (16, [18, 9, 17], [4]), (10, [17, 12, 15], []), (7, [16, 8], [0]), (10, [16, 11, 15], []), (7, [15, 10], [2]), (20, [13, 10], [61, 1, 566]), (20, [13, 11, 12, 10, 8, 14], [61, 3, 584]), (20, [13, 11, 12, 6, 7, 10, 8, 9, 14], [61, 4, 589]), (24, [0, 8], []), (24, [1, 9], []), (24, [2, 10], []), (24, [3, 11], []), (24, [4, 12], []), (24, [5, 13], [])], [], [(2, 0, 0, [52]), (2, 0, 0, [53]), (0, 0, 24, []), (2, 0, 0, [59]), (0, 0, 25, []), (0, -2147483648, 2147483647, [])], [(24, [3, 30], []), (24, [4, 31], []), (23, [32, 8], [0, 1, -1]), (23, [32, 8], [0, -1, 1]), (24, [6, 33], []), (23, [34, 7], [0, 1, -1]), (23, [34, 7], [0, -1, 1]), (23, [35, 9], [0, 1, -1]), (23, [35, 9], [0, -1, 1]), (20, [13, 10], [61, 1, 566]), (20, [29, 27], [50, 0, 0, 2, 6, 0, 2, 0, 0, 1, 0, 0, 2, 1, 0, 1, 1]), (20, [13, 30, 31, 10, 27, 29, 32], [61, 3, 581]), (20, [13, 30, 31, 33, 34, 10, 32, 35, 27, 29], [61, 4, 590]), (20, [32, 8], [50, 0, 0, 1, 2, 1, 0, 1, 1]), (20, [29], [50, 0, 0, 0, 2, 0, 0, 1, 0]), (20, [34, 7], [50, 0, 0, 1, 2, 1, 0, 1, 1]), (20, [35, 9], [50, 0, 0, 1, 2, 1, 0, 1, 1])], [], [(16, 8, 0, 0), (15, 10, -4294967296, -1), (0, 8, -4294967296, 0), (1, 9, -4294967296, 0), (2, 10, -4294967296, 0), (8, 0, -4294967296, 0), (9, 1, -4294967296, 0), (10, 2, -4294967296, 0), (14, 15, -4294967296, 46), (15, 2, -4294967296, 0), (15, 10, -4294967296, 0)])
theorem oo_Fa_uniteAt_at_Grtail_Grhead_Fablock_16 {kA : Nat → ClassId} : or_ok PRD kA GG o_Fa_uniteAt_at_Grtail_Grhead_Fablock_16 := by
  refine or_mk fun A ta ws vs hD hth hl => ?_
  intro t0 k0 t1 k1 t2 k2 t3 r3 t4 r4 t5 r5 t6 r6 t7 k7 t8 k8 t9 k9 t10 k10 t11 r11 t12 r12 t13 r13 t14 k14 t15 k15 t16 k16 t17 k17 t18 k18 t19 k19 t20 k20 t22 k22 t24 k24 t25 k25 t26 k26 t27 k27 t28 k28 t29 k29 d0 d1 d2 d3 d4 d5 d6 d7 d8 d9 d10 f0 f1 f2 f3 f4 f5 f6 f7 f8 f9 f10 f11 f12 f13 f14 f15 f16 f17 f18 f19 f20 f21 f22 f23 f24 f25 f26 f27 f28 f29
  replace f0 := shm_22 f0
  replace f1 := shm_22 f1
  replace f2 := shm_898 f2
  replace f3 := shm_107 f3
  replace f4 := shm_7 f4
  replace f5 := shm_7 f5
  replace f6 := shm_898 f6
  replace f7 := shm_107 f7
  replace f8 := shm_40 f8
  replace f9 := shm_107 f9
  replace f10 := shm_40 f10
  replace f11 := shm_40 f11
  replace f12 := shm_107 f12
  replace f13 := shm_142 f13
  replace f15 := shm_11 f15
  replace f16 := shm_13 f16
  replace f17 := shm_107 f17
  replace f19 := shm_107 f19
  replace f20 := shm_6 f20
  replace f21 := shm_365 f21
  replace f22 := shm_1193 f22
  replace f23 := shm_1194 f23
  replace f24 := shm_5 f24
  replace f25 := shm_5 f25
  replace f26 := shm_5 f26
  replace f27 := shm_5 f27
  replace f28 := shm_5 f28
  replace f29 := shm_5 f29
  have q8 : n_v vs 8 = n_v vs 0 := f24.symm
  have q9 : n_v vs 9 = n_v vs 1 := f25.symm
  have q10 : n_v vs 10 = n_v vs 2 := f26.symm
  have q11 : n_v vs 11 = n_v vs 3 := f27.symm
  have q12 : n_v vs 12 = n_v vs 4 := f28.symm
  have q13 : n_v vs 13 = n_v vs 5 := f29.symm
  simp only [q13, q8, q12, q9, q11, q10] at f3 f7 f9 f11 f12 f16 f17 f19 f20 f21 f22 f23
  have h3 : v_iv (n_v vs 28) = w_ei ws (v_ad (n_v vs 5)) (v_iv (n_v vs 15)) := f3
  have h7 : v_iv (n_v vs 26) = w_ei ws (v_ad (n_v vs 5)) (v_iv (n_v vs 15)) := f7
  have h9 : v_iv (n_v vs 25) = w_ei ws (v_ad (n_v vs 5)) (v_iv (n_v vs 15)) := f9
  have h12 : v_iv (n_v vs 22) = w_ei ws (v_ad (n_v vs 4)) (v_iv (n_v vs 15)) := f12
  have h17 : v_iv (n_v vs 17) = w_ei ws (v_ad (n_v vs 4)) (v_iv (n_v vs 15)) := f17
  have h19 : v_iv (n_v vs 16) = w_ei ws (v_ad (n_v vs 3)) (v_iv (n_v vs 15)) := f19
  obtain ⟨u, eu, hu⟩ := iv_ex (ta := ta) (lo := 0) (hi := 24) (z := v_iv (n_v vs 0)) (by omega) (by omega) (by omega) (by omega)
  have eu2 : v_iv (Value.int u) = v_iv (n_v vs 0) := eu
  have eu3 : 0 ≤ v_iv (Value.int u) ∧ v_iv (Value.int u) ≤ 24 := tv_rng hu
  obtain ⟨c, ec, hc⟩ := iv_ex (ta := ta) (lo := 0) (hi := 25) (z := v_iv (n_v vs 7)) (by omega) (by omega) (by omega) (by omega)
  have ec2 : v_iv (Value.int c) = v_iv (n_v vs 7) := ec
  have ec3 : 0 ≤ v_iv (Value.int c) ∧ v_iv (Value.int c) ≤ 25 := tv_rng hc
  obtain ⟨d, ed, hd⟩ := iv_ex (ta := ta) (lo := (-2147483648)) (hi := 2147483647) (z := v_iv (n_v vs 1)) (by omega) (by omega) (by omega) (by omega)
  have ed2 : v_iv (Value.int d) = v_iv (n_v vs 1) := ed
  have ed3 : (-2147483648) ≤ v_iv (Value.int d) ∧ v_iv (Value.int d) ≤ 2147483647 := tv_rng hd
  have e_3 : n_v (vs ++ [n_v vs 3, n_v vs 4, Value.int u, n_v vs 6, Value.int c, Value.int d]) 3 = n_v vs 3 := n_v_old (by rw [hl]; decide)
  have e_4 : n_v (vs ++ [n_v vs 3, n_v vs 4, Value.int u, n_v vs 6, Value.int c, Value.int d]) 4 = n_v vs 4 := n_v_old (by rw [hl]; decide)
  have e_6 : n_v (vs ++ [n_v vs 3, n_v vs 4, Value.int u, n_v vs 6, Value.int c, Value.int d]) 6 = n_v vs 6 := n_v_old (by rw [hl]; decide)
  have e_7 : n_v (vs ++ [n_v vs 3, n_v vs 4, Value.int u, n_v vs 6, Value.int c, Value.int d]) 7 = n_v vs 7 := n_v_old (by rw [hl]; decide)
  have e_8 : n_v (vs ++ [n_v vs 3, n_v vs 4, Value.int u, n_v vs 6, Value.int c, Value.int d]) 8 = n_v vs 8 := n_v_old (by rw [hl]; decide)
  have e_9 : n_v (vs ++ [n_v vs 3, n_v vs 4, Value.int u, n_v vs 6, Value.int c, Value.int d]) 9 = n_v vs 9 := n_v_old (by rw [hl]; decide)
  have e_10 : n_v (vs ++ [n_v vs 3, n_v vs 4, Value.int u, n_v vs 6, Value.int c, Value.int d]) 10 = n_v vs 10 := n_v_old (by rw [hl]; decide)
  have e_13 : n_v (vs ++ [n_v vs 3, n_v vs 4, Value.int u, n_v vs 6, Value.int c, Value.int d]) 13 = n_v vs 13 := n_v_old (by rw [hl]; decide)
  have e_27 : n_v (vs ++ [n_v vs 3, n_v vs 4, Value.int u, n_v vs 6, Value.int c, Value.int d]) 27 = n_v vs 27 := n_v_old (by rw [hl]; decide)
  have e_29 : n_v (vs ++ [n_v vs 3, n_v vs 4, Value.int u, n_v vs 6, Value.int c, Value.int d]) 29 = n_v vs 29 := n_v_old (by rw [hl]; decide)
  have e_30 : n_v (vs ++ [n_v vs 3, n_v vs 4, Value.int u, n_v vs 6, Value.int c, Value.int d]) 30 = n_v vs 3 := n_v_newk (k := 0) hl rfl
  have e_31 : n_v (vs ++ [n_v vs 3, n_v vs 4, Value.int u, n_v vs 6, Value.int c, Value.int d]) 31 = n_v vs 4 := n_v_newk (k := 1) hl rfl
  have e_32 : n_v (vs ++ [n_v vs 3, n_v vs 4, Value.int u, n_v vs 6, Value.int c, Value.int d]) 32 = Value.int u := n_v_newk (k := 2) hl rfl
  have e_33 : n_v (vs ++ [n_v vs 3, n_v vs 4, Value.int u, n_v vs 6, Value.int c, Value.int d]) 33 = n_v vs 6 := n_v_newk (k := 3) hl rfl
  have e_34 : n_v (vs ++ [n_v vs 3, n_v vs 4, Value.int u, n_v vs 6, Value.int c, Value.int d]) 34 = Value.int c := n_v_newk (k := 4) hl rfl
  have e_35 : n_v (vs ++ [n_v vs 3, n_v vs 4, Value.int u, n_v vs 6, Value.int c, Value.int d]) 35 = Value.int d := n_v_newk (k := 5) hl rfl
  have nf0 : fc_1 PRD (24, [3, 30], []) ws (vs ++ [n_v vs 3, n_v vs 4, Value.int u, n_v vs 6, Value.int c, Value.int d]) := by
    refine ⟨nf_inA hl rfl, sgq_5 ?_⟩
    · show n_v (vs ++ [n_v vs 3, n_v vs 4, Value.int u, n_v vs 6, Value.int c, Value.int d]) 3 = n_v (vs ++ [n_v vs 3, n_v vs 4, Value.int u, n_v vs 6, Value.int c, Value.int d]) 30
      first | rfl | simp only [e_3, e_30, q8, q9, q10, q11, q12, q13]
  have nf1 : fc_1 PRD (24, [4, 31], []) ws (vs ++ [n_v vs 3, n_v vs 4, Value.int u, n_v vs 6, Value.int c, Value.int d]) := by
    refine ⟨nf_inA hl rfl, sgq_5 ?_⟩
    · show n_v (vs ++ [n_v vs 3, n_v vs 4, Value.int u, n_v vs 6, Value.int c, Value.int d]) 4 = n_v (vs ++ [n_v vs 3, n_v vs 4, Value.int u, n_v vs 6, Value.int c, Value.int d]) 31
      first | rfl | simp only [e_4, e_31, q8, q9, q10, q11, q12, q13]
  have nf2 : fc_1 PRD (23, [32, 8], [0, 1, -1]) ws (vs ++ [n_v vs 3, n_v vs 4, Value.int u, n_v vs 6, Value.int c, Value.int d]) := by
    refine ⟨nf_inA hl rfl, sgq_7 ?_⟩
    · show 1 * v_iv (n_v (vs ++ [n_v vs 3, n_v vs 4, Value.int u, n_v vs 6, Value.int c, Value.int d]) 32) + ((-1) * v_iv (n_v (vs ++ [n_v vs 3, n_v vs 4, Value.int u, n_v vs 6, Value.int c, Value.int d]) 8) + 0) ≤ 0
      simp only [e_8, e_32, q8]
      exact vc_Fa_uniteAt_at_Grtail_Grhead_Fablock_16_2 (v_iv (n_v vs 0)) (v_iv (n_v vs 8)) (v_iv (n_v vs 15)) (v_iv (n_v vs 16)) (v_iv (n_v vs 17)) (v_iv (n_v vs 22)) (v_iv (n_v vs 25)) (v_iv (n_v vs 26)) (v_iv (n_v vs 28)) (w_ei ws (v_ad (n_v vs 5))) (w_ei ws (v_ad (n_v vs 4))) (w_ei ws (v_ad (n_v vs 3))) (v_iv (Value.int u)) k0 k8 k15 k16 k17 k22 k25 k26 k28 d0 d2 d5 h3 h7 h9 h12 h17 h19 eu2
  have nf3 : fc_1 PRD (23, [32, 8], [0, -1, 1]) ws (vs ++ [n_v vs 3, n_v vs 4, Value.int u, n_v vs 6, Value.int c, Value.int d]) := by
    refine ⟨nf_inA hl rfl, sgq_22 ?_⟩
    · show (-1) * v_iv (n_v (vs ++ [n_v vs 3, n_v vs 4, Value.int u, n_v vs 6, Value.int c, Value.int d]) 32) + (1 * v_iv (n_v (vs ++ [n_v vs 3, n_v vs 4, Value.int u, n_v vs 6, Value.int c, Value.int d]) 8) + 0) ≤ 0
      simp only [e_8, e_32, q8]
      exact vc_Fa_uniteAt_at_Grtail_Grhead_Fablock_16_3 (v_iv (n_v vs 0)) (v_iv (n_v vs 8)) (v_iv (n_v vs 15)) (v_iv (n_v vs 16)) (v_iv (n_v vs 17)) (v_iv (n_v vs 22)) (v_iv (n_v vs 25)) (v_iv (n_v vs 26)) (v_iv (n_v vs 28)) (w_ei ws (v_ad (n_v vs 5))) (w_ei ws (v_ad (n_v vs 4))) (w_ei ws (v_ad (n_v vs 3))) (v_iv (Value.int u)) k0 k8 k15 k16 k17 k22 k25 k26 k28 d0 d2 d5 h3 h7 h9 h12 h17 h19 eu2
  have nf4 : fc_1 PRD (24, [6, 33], []) ws (vs ++ [n_v vs 3, n_v vs 4, Value.int u, n_v vs 6, Value.int c, Value.int d]) := by
    refine ⟨nf_inA hl rfl, sgq_5 ?_⟩
    · show n_v (vs ++ [n_v vs 3, n_v vs 4, Value.int u, n_v vs 6, Value.int c, Value.int d]) 6 = n_v (vs ++ [n_v vs 3, n_v vs 4, Value.int u, n_v vs 6, Value.int c, Value.int d]) 33
      first | rfl | simp only [e_6, e_33, q8, q9, q10, q11, q12, q13]
  have nf5 : fc_1 PRD (23, [34, 7], [0, 1, -1]) ws (vs ++ [n_v vs 3, n_v vs 4, Value.int u, n_v vs 6, Value.int c, Value.int d]) := by
    refine ⟨nf_inA hl rfl, sgq_7 ?_⟩
    · show 1 * v_iv (n_v (vs ++ [n_v vs 3, n_v vs 4, Value.int u, n_v vs 6, Value.int c, Value.int d]) 34) + ((-1) * v_iv (n_v (vs ++ [n_v vs 3, n_v vs 4, Value.int u, n_v vs 6, Value.int c, Value.int d]) 7) + 0) ≤ 0
      simp only [e_7, e_34]
      exact vc_Fa_uniteAt_at_Grtail_Grhead_Fablock_16_5 (v_iv (n_v vs 7)) (v_iv (n_v vs 15)) (v_iv (n_v vs 16)) (v_iv (n_v vs 17)) (v_iv (n_v vs 22)) (v_iv (n_v vs 25)) (v_iv (n_v vs 26)) (v_iv (n_v vs 28)) (w_ei ws (v_ad (n_v vs 5))) (w_ei ws (v_ad (n_v vs 4))) (w_ei ws (v_ad (n_v vs 3))) (v_iv (Value.int c)) k7 k15 k16 k17 k22 k25 k26 k28 h3 h7 h9 h12 h17 h19 ec2
  have nf6 : fc_1 PRD (23, [34, 7], [0, -1, 1]) ws (vs ++ [n_v vs 3, n_v vs 4, Value.int u, n_v vs 6, Value.int c, Value.int d]) := by
    refine ⟨nf_inA hl rfl, sgq_22 ?_⟩
    · show (-1) * v_iv (n_v (vs ++ [n_v vs 3, n_v vs 4, Value.int u, n_v vs 6, Value.int c, Value.int d]) 34) + (1 * v_iv (n_v (vs ++ [n_v vs 3, n_v vs 4, Value.int u, n_v vs 6, Value.int c, Value.int d]) 7) + 0) ≤ 0
      simp only [e_7, e_34]
      exact vc_Fa_uniteAt_at_Grtail_Grhead_Fablock_16_6 (v_iv (n_v vs 7)) (v_iv (n_v vs 15)) (v_iv (n_v vs 16)) (v_iv (n_v vs 17)) (v_iv (n_v vs 22)) (v_iv (n_v vs 25)) (v_iv (n_v vs 26)) (v_iv (n_v vs 28)) (w_ei ws (v_ad (n_v vs 5))) (w_ei ws (v_ad (n_v vs 4))) (w_ei ws (v_ad (n_v vs 3))) (v_iv (Value.int c)) k7 k15 k16 k17 k22 k25 k26 k28 h3 h7 h9 h12 h17 h19 ec2
  have nf7 : fc_1 PRD (23, [35, 9], [0, 1, -1]) ws (vs ++ [n_v vs 3, n_v vs 4, Value.int u, n_v vs 6, Value.int c, Value.int d]) := by
    refine ⟨nf_inA hl rfl, sgq_7 ?_⟩
    · show 1 * v_iv (n_v (vs ++ [n_v vs 3, n_v vs 4, Value.int u, n_v vs 6, Value.int c, Value.int d]) 35) + ((-1) * v_iv (n_v (vs ++ [n_v vs 3, n_v vs 4, Value.int u, n_v vs 6, Value.int c, Value.int d]) 9) + 0) ≤ 0
      simp only [e_9, e_35, q9]
      exact vc_Fa_uniteAt_at_Grtail_Grhead_Fablock_16_7 (v_iv (n_v vs 1)) (v_iv (n_v vs 9)) (v_iv (n_v vs 15)) (v_iv (n_v vs 16)) (v_iv (n_v vs 17)) (v_iv (n_v vs 22)) (v_iv (n_v vs 25)) (v_iv (n_v vs 26)) (v_iv (n_v vs 28)) (w_ei ws (v_ad (n_v vs 5))) (w_ei ws (v_ad (n_v vs 4))) (w_ei ws (v_ad (n_v vs 3))) (v_iv (Value.int d)) k1 k9 k15 k16 k17 k22 k25 k26 k28 d3 d6 h3 h7 h9 h12 h17 h19 ed2
  have nf8 : fc_1 PRD (23, [35, 9], [0, -1, 1]) ws (vs ++ [n_v vs 3, n_v vs 4, Value.int u, n_v vs 6, Value.int c, Value.int d]) := by
    refine ⟨nf_inA hl rfl, sgq_22 ?_⟩
    · show (-1) * v_iv (n_v (vs ++ [n_v vs 3, n_v vs 4, Value.int u, n_v vs 6, Value.int c, Value.int d]) 35) + (1 * v_iv (n_v (vs ++ [n_v vs 3, n_v vs 4, Value.int u, n_v vs 6, Value.int c, Value.int d]) 9) + 0) ≤ 0
      simp only [e_9, e_35, q9]
      exact vc_Fa_uniteAt_at_Grtail_Grhead_Fablock_16_8 (v_iv (n_v vs 1)) (v_iv (n_v vs 9)) (v_iv (n_v vs 15)) (v_iv (n_v vs 16)) (v_iv (n_v vs 17)) (v_iv (n_v vs 22)) (v_iv (n_v vs 25)) (v_iv (n_v vs 26)) (v_iv (n_v vs 28)) (w_ei ws (v_ad (n_v vs 5))) (w_ei ws (v_ad (n_v vs 4))) (w_ei ws (v_ad (n_v vs 3))) (v_iv (Value.int d)) k1 k9 k15 k16 k17 k22 k25 k26 k28 d3 d6 h3 h7 h9 h12 h17 h19 ed2
  have nf9 : fc_1 PRD (20, [13, 10], [61, 1, 566]) ws (vs ++ [n_v vs 3, n_v vs 4, Value.int u, n_v vs 6, Value.int c, Value.int d]) := by
    refine ⟨nf_inA hl rfl, sgq_365 ?_⟩
    · show BLQ (w_ei ws (v_ad (n_v (vs ++ [n_v vs 3, n_v vs 4, Value.int u, n_v vs 6, Value.int c, Value.int d]) 13))) (v_iv (n_v (vs ++ [n_v vs 3, n_v vs 4, Value.int u, n_v vs 6, Value.int c, Value.int d]) 10))
      simp only [e_10, e_13, q10, q13]
      exact vc_Fa_uniteAt_at_Grtail_Grhead_Fablock_16_9 (v_iv (n_v vs 2)) (w_ei ws (v_ad (n_v vs 5))) k2 f21
  have nf10 : fc_1 PRD (20, [29, 27], [50, 0, 0, 2, 6, 0, 2, 0, 0, 1, 0, 0, 2, 1, 0, 1, 1]) ws (vs ++ [n_v vs 3, n_v vs 4, Value.int u, n_v vs 6, Value.int c, Value.int d]) := by
    refine ⟨nf_inA hl rfl, sgq_366 ?_⟩
    · show (0 ≤ v_iv (n_v (vs ++ [n_v vs 3, n_v vs 4, Value.int u, n_v vs 6, Value.int c, Value.int d]) 29)) ∧ (v_iv (n_v (vs ++ [n_v vs 3, n_v vs 4, Value.int u, n_v vs 6, Value.int c, Value.int d]) 29) ≤ v_iv (n_v (vs ++ [n_v vs 3, n_v vs 4, Value.int u, n_v vs 6, Value.int c, Value.int d]) 27))
      simp only [e_27, e_29]
      exact vc_Fa_uniteAt_at_Grtail_Grhead_Fablock_16_10 (v_iv (n_v vs 15)) (v_iv (n_v vs 16)) (v_iv (n_v vs 17)) (v_iv (n_v vs 22)) (v_iv (n_v vs 25)) (v_iv (n_v vs 26)) (v_iv (n_v vs 27)) (v_iv (n_v vs 28)) (v_iv (n_v vs 29)) (w_ei ws (v_ad (n_v vs 5))) (w_ei ws (v_ad (n_v vs 4))) (w_ei ws (v_ad (n_v vs 3))) k15 k16 k17 k22 k25 k26 k27 k28 k29 f1 h3 f5 h7 h9 h12 h17 h19
  have nf11 : fc_1 PRD (20, [13, 30, 31, 10, 27, 29, 32], [61, 3, 581]) ws (vs ++ [n_v vs 3, n_v vs 4, Value.int u, n_v vs 6, Value.int c, Value.int d]) := by
    refine ⟨nf_inA hl rfl, sgq_367 ?_⟩
    · show RLP (w_ei ws (v_ad (n_v (vs ++ [n_v vs 3, n_v vs 4, Value.int u, n_v vs 6, Value.int c, Value.int d]) 13))) (w_ei ws (v_ad (n_v (vs ++ [n_v vs 3, n_v vs 4, Value.int u, n_v vs 6, Value.int c, Value.int d]) 30))) (w_ei ws (v_ad (n_v (vs ++ [n_v vs 3, n_v vs 4, Value.int u, n_v vs 6, Value.int c, Value.int d]) 31))) (v_iv (n_v (vs ++ [n_v vs 3, n_v vs 4, Value.int u, n_v vs 6, Value.int c, Value.int d]) 10)) (v_iv (n_v (vs ++ [n_v vs 3, n_v vs 4, Value.int u, n_v vs 6, Value.int c, Value.int d]) 27)) (v_iv (n_v (vs ++ [n_v vs 3, n_v vs 4, Value.int u, n_v vs 6, Value.int c, Value.int d]) 29)) (v_iv (n_v (vs ++ [n_v vs 3, n_v vs 4, Value.int u, n_v vs 6, Value.int c, Value.int d]) 32))
      simp only [e_10, e_13, e_27, e_29, e_30, e_31, e_32, q10, q13]
      exact vc_Fa_uniteAt_at_Grtail_Grhead_Fablock_16_11 (v_iv (n_v vs 0)) (v_iv (n_v vs 2)) (v_iv (n_v vs 8)) (v_iv (n_v vs 14)) (v_iv (n_v vs 15)) (v_iv (n_v vs 16)) (v_iv (n_v vs 20)) (v_iv (n_v vs 22)) (v_iv (n_v vs 24)) (v_iv (n_v vs 25)) (v_iv (n_v vs 26)) (v_iv (n_v vs 27)) (v_iv (n_v vs 28)) (v_iv (n_v vs 29)) (w_ei ws (v_ad (n_v vs 5))) (w_ei ws (v_ad (n_v vs 4))) (w_ei ws (v_ad (n_v vs 3))) (v_iv (Value.int u)) k0 k2 k8 k14 k15 k16 k20 k22 k24 k25 k26 k27 k28 k29 d0 d2 d5 f0 f1 f2 h3 f4 f5 f6 h7 f8 h9 f10 f11 f13 h19 f20 f22 eu2
  have nf12 : fc_1 PRD (20, [13, 30, 31, 33, 34, 10, 32, 35, 27, 29], [61, 4, 590]) ws (vs ++ [n_v vs 3, n_v vs 4, Value.int u, n_v vs 6, Value.int c, Value.int d]) := by
    refine ⟨nf_inA hl rfl, sgq_368 ?_⟩
    · show QKP (w_ei ws (v_ad (n_v (vs ++ [n_v vs 3, n_v vs 4, Value.int u, n_v vs 6, Value.int c, Value.int d]) 13))) (w_ei ws (v_ad (n_v (vs ++ [n_v vs 3, n_v vs 4, Value.int u, n_v vs 6, Value.int c, Value.int d]) 30))) (w_ei ws (v_ad (n_v (vs ++ [n_v vs 3, n_v vs 4, Value.int u, n_v vs 6, Value.int c, Value.int d]) 31))) (w_ei ws (v_ad (n_v (vs ++ [n_v vs 3, n_v vs 4, Value.int u, n_v vs 6, Value.int c, Value.int d]) 33))) (v_iv (n_v (vs ++ [n_v vs 3, n_v vs 4, Value.int u, n_v vs 6, Value.int c, Value.int d]) 34)) (v_iv (n_v (vs ++ [n_v vs 3, n_v vs 4, Value.int u, n_v vs 6, Value.int c, Value.int d]) 10)) (v_iv (n_v (vs ++ [n_v vs 3, n_v vs 4, Value.int u, n_v vs 6, Value.int c, Value.int d]) 32)) (v_iv (n_v (vs ++ [n_v vs 3, n_v vs 4, Value.int u, n_v vs 6, Value.int c, Value.int d]) 35)) (v_iv (n_v (vs ++ [n_v vs 3, n_v vs 4, Value.int u, n_v vs 6, Value.int c, Value.int d]) 27)) (v_iv (n_v (vs ++ [n_v vs 3, n_v vs 4, Value.int u, n_v vs 6, Value.int c, Value.int d]) 29))
      simp only [e_10, e_13, e_27, e_29, e_30, e_31, e_32, e_33, e_34, e_35, q10, q13]
      exact vc_Fa_uniteAt_at_Grtail_Grhead_Fablock_16_12 (v_iv (n_v vs 0)) (v_iv (n_v vs 1)) (v_iv (n_v vs 2)) (v_iv (n_v vs 7)) (v_iv (n_v vs 8)) (v_iv (n_v vs 14)) (v_iv (n_v vs 15)) (v_iv (n_v vs 16)) (v_iv (n_v vs 17)) (v_iv (n_v vs 18)) (v_iv (n_v vs 19)) (v_iv (n_v vs 20)) (v_iv (n_v vs 22)) (v_iv (n_v vs 24)) (v_iv (n_v vs 25)) (v_iv (n_v vs 26)) (v_iv (n_v vs 27)) (v_iv (n_v vs 28)) (v_iv (n_v vs 29)) (w_ei ws (v_ad (n_v vs 5))) (w_ei ws (v_ad (n_v vs 4))) (w_ei ws (v_ad (n_v vs 3))) (w_ei ws (v_ad (n_v vs 6))) (v_iv (Value.int u)) (v_iv (Value.int c)) (v_iv (Value.int d)) k0 k1 k2 k7 k8 k14 k15 k16 k17 k18 k19 k20 k22 k24 k25 k26 k27 k28 k29 d0 d2 d5 f0 f1 f2 h3 f4 f5 f6 h7 f8 h9 f10 f11 f13 f15 f16 h17 h19 f20 f23 eu2 ec2 ed2
  have nf13 : fc_1 PRD (20, [32, 8], [50, 0, 0, 1, 2, 1, 0, 1, 1]) ws (vs ++ [n_v vs 3, n_v vs 4, Value.int u, n_v vs 6, Value.int c, Value.int d]) := by
    refine ⟨nf_inA hl rfl, sgq_48 ?_⟩
    · show v_iv (n_v (vs ++ [n_v vs 3, n_v vs 4, Value.int u, n_v vs 6, Value.int c, Value.int d]) 32) = v_iv (n_v (vs ++ [n_v vs 3, n_v vs 4, Value.int u, n_v vs 6, Value.int c, Value.int d]) 8)
      simp only [e_8, e_32, q8]
      exact vc_Fa_uniteAt_at_Grtail_Grhead_Fablock_16_13 (v_iv (n_v vs 0)) (v_iv (n_v vs 15)) (v_iv (n_v vs 16)) (v_iv (n_v vs 17)) (v_iv (n_v vs 22)) (v_iv (n_v vs 25)) (v_iv (n_v vs 26)) (v_iv (n_v vs 28)) (w_ei ws (v_ad (n_v vs 5))) (w_ei ws (v_ad (n_v vs 4))) (w_ei ws (v_ad (n_v vs 3))) (v_iv (Value.int u)) k0 k15 k16 k17 k22 k25 k26 k28 h3 h7 h9 h12 h17 h19 eu2
  have nf14 : fc_1 PRD (20, [29], [50, 0, 0, 0, 2, 0, 0, 1, 0]) ws (vs ++ [n_v vs 3, n_v vs 4, Value.int u, n_v vs 6, Value.int c, Value.int d]) := by
    refine ⟨nf_inA hl rfl, sgq_722 ?_⟩
    · show 0 ≤ v_iv (n_v (vs ++ [n_v vs 3, n_v vs 4, Value.int u, n_v vs 6, Value.int c, Value.int d]) 29)
      rw [e_29]
      exact vc_Fa_uniteAt_at_Grtail_Grhead_Fablock_16_14 (v_iv (n_v vs 15)) (v_iv (n_v vs 16)) (v_iv (n_v vs 17)) (v_iv (n_v vs 22)) (v_iv (n_v vs 25)) (v_iv (n_v vs 26)) (v_iv (n_v vs 28)) (v_iv (n_v vs 29)) (w_ei ws (v_ad (n_v vs 5))) (w_ei ws (v_ad (n_v vs 4))) (w_ei ws (v_ad (n_v vs 3))) k15 k16 k17 k22 k25 k26 k28 k29 h3 h7 h9 h12 h17 h19
  have nf15 : fc_1 PRD (20, [34, 7], [50, 0, 0, 1, 2, 1, 0, 1, 1]) ws (vs ++ [n_v vs 3, n_v vs 4, Value.int u, n_v vs 6, Value.int c, Value.int d]) := by
    refine ⟨nf_inA hl rfl, sgq_48 ?_⟩
    · show v_iv (n_v (vs ++ [n_v vs 3, n_v vs 4, Value.int u, n_v vs 6, Value.int c, Value.int d]) 34) = v_iv (n_v (vs ++ [n_v vs 3, n_v vs 4, Value.int u, n_v vs 6, Value.int c, Value.int d]) 7)
      simp only [e_7, e_34]
      exact vc_Fa_uniteAt_at_Grtail_Grhead_Fablock_16_15 (v_iv (n_v vs 7)) (v_iv (n_v vs 15)) (v_iv (n_v vs 16)) (v_iv (n_v vs 17)) (v_iv (n_v vs 22)) (v_iv (n_v vs 25)) (v_iv (n_v vs 26)) (v_iv (n_v vs 28)) (w_ei ws (v_ad (n_v vs 5))) (w_ei ws (v_ad (n_v vs 4))) (w_ei ws (v_ad (n_v vs 3))) (v_iv (Value.int c)) k7 k15 k16 k17 k22 k25 k26 k28 h3 h7 h9 h12 h17 h19 ec2
  have nf16 : fc_1 PRD (20, [35, 9], [50, 0, 0, 1, 2, 1, 0, 1, 1]) ws (vs ++ [n_v vs 3, n_v vs 4, Value.int u, n_v vs 6, Value.int c, Value.int d]) := by
    refine ⟨nf_inA hl rfl, sgq_48 ?_⟩
    · show v_iv (n_v (vs ++ [n_v vs 3, n_v vs 4, Value.int u, n_v vs 6, Value.int c, Value.int d]) 35) = v_iv (n_v (vs ++ [n_v vs 3, n_v vs 4, Value.int u, n_v vs 6, Value.int c, Value.int d]) 9)
      simp only [e_9, e_35, q9]
      exact vc_Fa_uniteAt_at_Grtail_Grhead_Fablock_16_16 (v_iv (n_v vs 1)) (v_iv (n_v vs 15)) (v_iv (n_v vs 16)) (v_iv (n_v vs 17)) (v_iv (n_v vs 22)) (v_iv (n_v vs 25)) (v_iv (n_v vs 26)) (v_iv (n_v vs 28)) (w_ei ws (v_ad (n_v vs 5))) (w_ei ws (v_ad (n_v vs 4))) (w_ei ws (v_ad (n_v vs 3))) (v_iv (Value.int d)) k1 k15 k16 k17 k22 k25 k26 k28 h3 h7 h9 h12 h17 h19 ed2
  exact ⟨(fun _ h => (by cases h)), [n_v vs 3, n_v vs 4, Value.int u, n_v vs 6, Value.int c, Value.int d], ag_six t3 t4 hu t6 hc hd, List.forall_mem_cons.mpr ⟨⟨show (24 : Nat) < 100 from by decide, nf0⟩, List.forall_mem_cons.mpr ⟨⟨show (24 : Nat) < 100 from by decide, nf1⟩, List.forall_mem_cons.mpr ⟨⟨show (23 : Nat) < 100 from by decide, nf2⟩, List.forall_mem_cons.mpr ⟨⟨show (23 : Nat) < 100 from by decide, nf3⟩, List.forall_mem_cons.mpr ⟨⟨show (24 : Nat) < 100 from by decide, nf4⟩, List.forall_mem_cons.mpr ⟨⟨show (23 : Nat) < 100 from by decide, nf5⟩, List.forall_mem_cons.mpr ⟨⟨show (23 : Nat) < 100 from by decide, nf6⟩, List.forall_mem_cons.mpr ⟨⟨show (23 : Nat) < 100 from by decide, nf7⟩, List.forall_mem_cons.mpr ⟨⟨show (23 : Nat) < 100 from by decide, nf8⟩, List.forall_mem_cons.mpr ⟨⟨show (20 : Nat) < 100 from by decide, nf9⟩, List.forall_mem_cons.mpr ⟨⟨show (20 : Nat) < 100 from by decide, nf10⟩, List.forall_mem_cons.mpr ⟨⟨show (20 : Nat) < 100 from by decide, nf11⟩, List.forall_mem_cons.mpr ⟨⟨show (20 : Nat) < 100 from by decide, nf12⟩, List.forall_mem_cons.mpr ⟨⟨show (20 : Nat) < 100 from by decide, nf13⟩, List.forall_mem_cons.mpr ⟨⟨show (20 : Nat) < 100 from by decide, nf14⟩, List.forall_mem_cons.mpr ⟨⟨show (20 : Nat) < 100 from by decide, nf15⟩, List.forall_mem_cons.mpr ⟨⟨show (20 : Nat) < 100 from by decide, nf16⟩, (fun _ h => (by cases h))⟩⟩⟩⟩⟩⟩⟩⟩⟩⟩⟩⟩⟩⟩⟩⟩⟩, (fun _ h => (by cases h))⟩
set_option maxHeartbeats 4000000 in
theorem vc_Fa_uniteAt_at_Grtail_Grhead_Fablock_17_0 (x0 : Int) (x2 : Int) (x8 : Int) (x15 : Int) (x16 : Int) (x29 : Int) (x32 : Int) (x36 : Int) (a5_0 : Int → Int) (a3_0 : Int → Int) (a4_0 : Int → Int) (k0 : 0 ≤ x0 ∧ x0 ≤ 23) (k2 : 1 ≤ x2 ∧ x2 ≤ 48) (k8 : 0 ≤ x8 ∧ x8 ≤ 23) (k16 : 0 ≤ x16 ∧ x16 ≤ 23) (k29 : 0 ≤ x29 ∧ x29 ≤ 47) (k32 : 0 ≤ x32 ∧ x32 ≤ 24) (d4 : x8 + 0 ≤ x16 ∧ x16 ≤ x8 + 0) (d6 : x8 + (-4294967296) ≤ x0 ∧ x0 ≤ x8 + 0) (d9 : x0 + (-4294967296) ≤ x8 ∧ x8 ≤ x0 + 0) (f3 : 1 * x32 + ((-1) * x0 + 0) ≤ 0) (f4 : (-1) * x32 + (1 * x0 + 0) ≤ 0) (f12 : 0 ≤ x29) (f28 : RLO (a5_0) (a3_0) (a4_0) (x2) (x29) (x32)) : UNI (a5_0) (a3_0) (a4_0) (x2) (x0) (x29) := by
  first
    | (have q := (‹RLO _ _ _ _ _ _›); have h1 := uni_back q (by omega); rw [show x0 = x32 by omega]; exact h1)
    | (have q := (‹RLO _ _ _ _ _ _›); have h1 := uni_back q (by omega); rw [show x0 = x36 by omega]; exact h1)
    | (have q := (‹RLO _ _ _ _ _ _›); have h1 := uni_back q (by omega); rw [show x0 = x30 by omega]; exact h1)
set_option maxHeartbeats 4000000 in
theorem vc_Fa_uniteAt_at_Grtail_Grhead_Fablock_17_1 (x0 : Int) (x1 : Int) (x2 : Int) (x7 : Int) (x8 : Int) (x9 : Int) (x15 : Int) (x16 : Int) (x22 : Int) (x24 : Int) (x25 : Int) (x26 : Int) (x29 : Int) (x32 : Int) (x34 : Int) (x35 : Int) (x36 : Int) (a5_0 : Int → Int) (a3_0 : Int → Int) (a4_0 : Int → Int) (a6_0 : Int → Int) (k0 : 0 ≤ x0 ∧ x0 ≤ 23) (k1 : 0 ≤ x1 ∧ x1 ≤ 16777215) (k2 : 1 ≤ x2 ∧ x2 ≤ 48) (k7 : 0 ≤ x7 ∧ x7 ≤ 25) (k8 : 0 ≤ x8 ∧ x8 ≤ 23) (k9 : 0 ≤ x9 ∧ x9 ≤ 16777215) (k16 : 0 ≤ x16 ∧ x16 ≤ 23) (k29 : 0 ≤ x29 ∧ x29 ≤ 47) (k32 : 0 ≤ x32 ∧ x32 ≤ 24) (k34 : 0 ≤ x34 ∧ x34 ≤ 25) (k35 : (-2147483648) ≤ x35 ∧ x35 ≤ 2147483647) (d4 : x8 + 0 ≤ x16 ∧ x16 ≤ x8 + 0) (d6 : x8 + (-4294967296) ≤ x0 ∧ x0 ≤ x8 + 0) (d7 : x9 + (-4294967296) ≤ x1 ∧ x1 ≤ x9 + 0) (d9 : x0 + (-4294967296) ≤ x8 ∧ x8 ≤ x0 + 0) (d10 : x1 + (-4294967296) ≤ x9 ∧ x9 ≤ x1 + 0) (f3 : 1 * x32 + ((-1) * x0 + 0) ≤ 0) (f4 : (-1) * x32 + (1 * x0 + 0) ≤ 0) (f6 : 1 * x34 + ((-1) * x7 + 0) ≤ 0) (f7 : (-1) * x34 + (1 * x7 + 0) ≤ 0) (f8 : 1 * x35 + ((-1) * x1 + 0) ≤ 0) (f9 : (-1) * x35 + (1 * x1 + 0) ≤ 0) (f29 : QKO (a5_0) (a3_0) (a4_0) (a6_0) (x34) (x2) (x32) (x35) (x29)) : UN2 (a5_0) (a3_0) (a4_0) (a6_0) (x7) (x2) (x0) (x1) (x29) := by
  first
    | (have h1 := un2_back ‹QKO _ _ _ _ _ _ _ _ _›; rw [show x0 = x32 by omega, show x7 = x34 by omega, show x1 = x35 by omega]; exact h1)
    | (have h1 := un2_back ‹QKO _ _ _ _ _ _ _ _ _›; rw [show x0 = x36 by omega, show x7 = x38 by omega, show x1 = x39 by omega]; exact h1)
    | (have h1 := un2_back ‹QKO _ _ _ _ _ _ _ _ _›; rw [show x0 = x30 by omega, show x7 = x32 by omega, show x1 = x33 by omega]; exact h1)
def o_Fa_uniteAt_at_Grtail_Grhead_Fablock_17 : or_T := (6, 37, [(0, (0, 0, 23, [])), (1, (0, 0, 16777215, [])), (2, (0, 1, 48, [])), (3, (2, 0, 0, [52])), (4, (2, 0, 0, [53])), (5, (2, 0, 0, [38])), (6, (2, 0, 0, [59])), (7, (0, 0, 25, [])), (8, (0, 0, 23, [])), (9, (0, 0, 16777215, [])), (10, (0, 1, 48, [])), (11, (2, 0, 0, [52])), (12, (2, 0, 0, [53])), (13, (2, 0, 0, [38])), (14, (0, 0, 47, [])), (15, (0, 0, 47, [])), (16, (0, 0, 23, [])), (22, (0, 0, 23, [])), (24, (0, -1, -1, [])), (25, (0, -1, 47, [])), (26, (0, 0, 47, [])), (27, (0, 0, 47, [])), (28, (0, 0, 47, [])), (29, (0, 0, 47, [])), (30, (2, 0, 0, [52])), (31, (2, 0, 0, [53])), (32, (0, 0, 24, [])), (33, (2, 0, 0, [59])), (34, (0, 0, 25, [])), (35, (0, -2147483648, 2147483647, [])), (36, (0, 1, 48, []))], [(6, [36, 15], [1]), (24, [3, 30], []), (24, [4, 31], []), (23, [32, 8], [0, 1, -1]), (23, [32, 8], [0, -1, 1]), (24, [6, 33], []), (23, [34, 7], [0, 1, -1]), (23, [34, 7], [0, -1, 1]), (23, [35, 9], [0, 1, -1]), (23, [35, 9], [0, -1, 1]), (20, [29, 27], [50, 0, 0, 2, 6, 0, 2, 0, 0, 1, 0, 0, 2, 1, 0, 1, 1]), (20, [32, 8], [50, 0, 0, 1, 2, 1, 0, 1, 1]), (20, [29], [50, 0, 0, 0, 2, 0, 0, 1, 0]), (20, [34, 7], [50, 0, 0, 1, 2, 1, 0, 1, 1]), (20, [35, 9], [50, 0, 0, 1, 2, 1, 0, 1, 1]), (23, [14, 29], [0, -1, 1]), (23, [28, 29], [0, -1, 1]), (20, [29, 14, 28], [50, 0, 0, 3, 6, 1, 2, 1, 0, 1, 1, 1, 2, 1, 0, 1, 2]), (23, [14, 27], [0, 1, -1]), (23, [26, 27], [0, 1, -1]), (20, [27, 14, 26], [50, 0, 0, 3, 6, 1, 2, 1, 0, 1, 1, 1, 2, 1, 0, 1, 2]), (24, [0, 8], []), (24, [1, 9], []), (24, [2, 10], []), (24, [3, 11], []), (24, [4, 12], []), (24, [5, 13], []), (20, [13, 10], [61, 1, 566]), (20, [13, 30, 31, 10, 29, 32], [61, 3, 583]), (20, [13, 30, 31, 33, 34, 10, 32, 35, 29], [61, 4, 592]), (102, [35], [274877906944]), (23, [32, 8], [0, 1, -1]), (23, [32, 8], [0, -1, 1]), (23, [34, 7], [0, 1, -1]), (23, [34, 7], [0, -1, 1]), (23, [35, 9], [0, 1, -1]), (23, [35, 9], [0, -1, 1]), (23, [14, 29], [0, -1, 1]), (23, [28, 29], [0, -1, 1]), (23, [14, 27], [0, 1, -1]), (23, [26, 27], [0, 1, -1]), (7, [25, 14], [1]), (7, [14, 24], [1]), (7, [22, 8], [1]), (7, [16, 8], [0]), (7, [15, 10], [2])], [], [], [(20, [13, 11, 12, 10, 8, 29], [61, 3, 584]), (20, [13, 11, 12, 6, 7, 10, 8, 9, 29], [61, 4, 589])], [], [(36, 15, 1, 1), (36, 10, -4294967296, 0), (36, 2, -4294967296, 1), (36, 10, -4294967296, 1), (16, 8, 0, 0), (15, 10, -4294967296, -1), (0, 8, -4294967296, 0), (1, 9, -4294967296, 0), (2, 10, -4294967296, 0), (8, 0, -4294967296, 0), (9, 1, -4294967296, 0), (10, 2, -4294967296, 0), (14, 15, -4294967296, 46), (15, 2, -4294967296, 0), (15, 10, -4294967296, 0)])
theorem oo_Fa_uniteAt_at_Grtail_Grhead_Fablock_17 {kA : Nat → ClassId} : or_ok PRD kA GG o_Fa_uniteAt_at_Grtail_Grhead_Fablock_17 := by
  refine or_mk fun A ta ws vs hD hth hl => ?_
  intro t0 k0 t1 k1 t2 k2 t3 r3 t4 r4 t5 r5 t6 r6 t7 k7 t8 k8 t9 k9 t10 k10 t11 r11 t12 r12 t13 r13 t14 k14 t15 k15 t16 k16 t22 k22 t24 k24 t25 k25 t26 k26 t27 k27 t28 k28 t29 k29 t30 r30 t31 r31 t32 k32 t33 r33 t34 k34 t35 k35 t36 k36 d0 d1 d2 d3 d4 d5 d6 d7 d8 d9 d10 d11 d12 d13 d14 f0 f1 f2 f3 f4 f5 f6 f7 f8 f9 f10 f11 f12 f13 f14 f15 f16 f17 f18 f19 f20 f21 f22 f23 f24 f25 f26 f27 f28 f29 ta1 w1 le1 s1 f31 f32 f33 f34 f35 f36 f37 f38 f39 f40 f41 f42 f43 f44 f45
  replace f1 := shm_5 f1
  replace f2 := shm_5 f2
  replace f3 := shm_7 f3
  replace f4 := shm_22 f4
  replace f5 := shm_5 f5
  replace f6 := shm_7 f6
  replace f7 := shm_22 f7
  replace f8 := shm_7 f8
  replace f9 := shm_22 f9
  replace f12 := shm_722 f12
  replace f21 := shm_5 f21
  replace f22 := shm_5 f22
  replace f23 := shm_5 f23
  replace f24 := shm_5 f24
  replace f25 := shm_5 f25
  replace f26 := shm_5 f26
  replace f28 := shm_371 f28
  replace f29 := shm_372 f29
  have q30 : n_v vs 30 = n_v vs 3 := f1.symm
  have q31 : n_v vs 31 = n_v vs 4 := f2.symm
  have q33 : n_v vs 33 = n_v vs 6 := f5.symm
  have q8 : n_v vs 8 = n_v vs 0 := f21.symm
  have q9 : n_v vs 9 = n_v vs 1 := f22.symm
  have q10 : n_v vs 10 = n_v vs 2 := f23.symm
  have q11 : n_v vs 11 = n_v vs 3 := f24.symm
  have q12 : n_v vs 12 = n_v vs 4 := f25.symm
  have q13 : n_v vs 13 = n_v vs 5 := f26.symm
  simp only [q8, q9, q10, q13, q30, q31, q33] at f3 f4 f8 f9 f28 f29
  have nf0 : fc_1 PRD (20, [13, 11, 12, 10, 8, 29], [61, 3, 584]) ws (vs) := by
    refine ⟨nf_in hl rfl, sgq_1193 ?_⟩
    · show UNI (w_ei ws (v_ad (n_v vs 13))) (w_ei ws (v_ad (n_v vs 11))) (w_ei ws (v_ad (n_v vs 12))) (v_iv (n_v vs 10)) (v_iv (n_v vs 8)) (v_iv (n_v vs 29))
      simp only [q8, q10, q11, q12, q13]
      exact vc_Fa_uniteAt_at_Grtail_Grhead_Fablock_17_0 (v_iv (n_v vs 0)) (v_iv (n_v vs 2)) (v_iv (n_v vs 8)) (v_iv (n_v vs 15)) (v_iv (n_v vs 16)) (v_iv (n_v vs 29)) (v_iv (n_v vs 32)) (v_iv (n_v vs 36)) (w_ei ws (v_ad (n_v vs 5))) (w_ei ws (v_ad (n_v vs 3))) (w_ei ws (v_ad (n_v vs 4))) k0 k2 k8 k16 k29 k32 d4 d6 d9 f3 f4 f12 f28
  have nf1 : fc_1 PRD (20, [13, 11, 12, 6, 7, 10, 8, 9, 29], [61, 4, 589]) ws (vs) := by
    refine ⟨nf_in hl rfl, sgq_1194 ?_⟩
    · show UN2 (w_ei ws (v_ad (n_v vs 13))) (w_ei ws (v_ad (n_v vs 11))) (w_ei ws (v_ad (n_v vs 12))) (w_ei ws (v_ad (n_v vs 6))) (v_iv (n_v vs 7)) (v_iv (n_v vs 10)) (v_iv (n_v vs 8)) (v_iv (n_v vs 9)) (v_iv (n_v vs 29))
      simp only [q8, q9, q10, q11, q12, q13]
      exact vc_Fa_uniteAt_at_Grtail_Grhead_Fablock_17_1 (v_iv (n_v vs 0)) (v_iv (n_v vs 1)) (v_iv (n_v vs 2)) (v_iv (n_v vs 7)) (v_iv (n_v vs 8)) (v_iv (n_v vs 9)) (v_iv (n_v vs 15)) (v_iv (n_v vs 16)) (v_iv (n_v vs 22)) (v_iv (n_v vs 24)) (v_iv (n_v vs 25)) (v_iv (n_v vs 26)) (v_iv (n_v vs 29)) (v_iv (n_v vs 32)) (v_iv (n_v vs 34)) (v_iv (n_v vs 35)) (v_iv (n_v vs 36)) (w_ei ws (v_ad (n_v vs 5))) (w_ei ws (v_ad (n_v vs 3))) (w_ei ws (v_ad (n_v vs 4))) (w_ei ws (v_ad (n_v vs 6))) k0 k1 k2 k7 k8 k9 k16 k29 k32 k34 k35 d4 d6 d7 d9 d10 f3 f4 f6 f7 f8 f9 f29
  refine ⟨(fun _ h => (by cases h)), [], trivial, ?_, (fun _ h => (by cases h))⟩
  rw [List.append_nil]
  exact List.forall_mem_cons.mpr ⟨⟨show (20 : Nat) < 100 from by decide, nf0⟩, List.forall_mem_cons.mpr ⟨⟨show (20 : Nat) < 100 from by decide, nf1⟩, (fun _ h => (by cases h))⟩⟩
set_option maxHeartbeats 4000000 in
theorem vc_Fa_uniteAt_at_Grtail_Grhead_Fablock_18_r0 (x2 : Int) (x15 : Int) (x16 : Int) (x17 : Int) (x22 : Int) (x25 : Int) (a5_0 : Int → Int) (a4_0 : Int → Int) (a3_0 : Int → Int) (k2 : 1 ≤ x2 ∧ x2 ≤ 48) (k15 : 0 ≤ x15 ∧ x15 ≤ 47) (k16 : 0 ≤ x16 ∧ x16 ≤ 23) (k17 : 0 ≤ x17 ∧ x17 ≤ 23) (k22 : 0 ≤ x22 ∧ x22 ≤ 23) (k25 : (-1) ≤ x25 ∧ x25 ≤ 47) (h0 : x25 = a5_0 (x15)) (h3 : x22 = a4_0 (x15)) (h8 : x17 = a4_0 (x15)) (h10 : x16 = a3_0 (x15)) (f11 : x15 < x2) (f12 : BLQ (a5_0) (x2)) : 0 ≤ x25 ∧ x25 ≤ 47 := by
  first
    | omega
    | (skip; (first | subst h0 | skip); (first | subst h3 | skip); (first | subst h8 | skip); (first | subst h10 | skip); have q := ‹BLQ _ _› x15 (by omega) (by omega); omega)
def o_Fa_uniteAt_at_Grtail_Grhead_Fablock_18 : or_T := (90, 26, [(0, (0, 0, 23, [])), (1, (0, 0, 16777215, [])), (2, (0, 1, 48, [])), (3, (2, 0, 0, [52])), (4, (2, 0, 0, [53])), (5, (2, 0, 0, [38])), (6, (2, 0, 0, [59])), (7, (0, 0, 25, [])), (8, (0, 0, 23, [])), (9, (0, 0, 16777215, [])), (10, (0, 1, 48, [])), (11, (2, 0, 0, [52])), (12, (2, 0, 0, [53])), (13, (2, 0, 0, [38])), (14, (0, -1, -1, [])), (15, (0, 0, 47, [])), (16, (0, 0, 23, [])), (17, (0, 0, 23, [])), (18, (0, 0, 16777215, [])), (19, (0, 1, 1, [])), (20, (0, 1, 1, [])), (22, (0, 0, 23, [])), (24, (0, -1, -1, [])), (25, (0, -1, 47, []))], [(10, [25, 13, 15], []), (7, [14, 24], [0]), (7, [22, 8], [1]), (10, [22, 12, 15], []), (8, [20], [1]), (12, [20, 18], [2]), (16, [20, 18, 19], [0]), (16, [18, 9, 17], [4]), (10, [17, 12, 15], []), (7, [16, 8], [0]), (10, [16, 11, 15], []), (7, [15, 10], [2]), (20, [13, 10], [61, 1, 566]), (20, [13, 11, 12, 10, 8, 14], [61, 3, 584]), (20, [13, 11, 12, 6, 7, 10, 8, 9, 14], [61, 4, 589]), (24, [0, 8], []), (24, [1, 9], []), (24, [2, 10], []), (24, [3, 11], []), (24, [4, 12], []), (24, [5, 13], [])], [(25, (0, 0, 47, []))], [], [], [], [(16, 8, 0, 0), (15, 10, -4294967296, -1), (0, 8, -4294967296, 0), (1, 9, -4294967296, 0), (2, 10, -4294967296, 0), (8, 0, -4294967296, 0), (9, 1, -4294967296, 0), (10, 2, -4294967296, 0), (15, 2, -4294967296, 0), (15, 10, -4294967296, 0)])
theorem oo_Fa_uniteAt_at_Grtail_Grhead_Fablock_18 {kA : Nat → ClassId} : or_ok PRD kA GG o_Fa_uniteAt_at_Grtail_Grhead_Fablock_18 := by
  refine or_mk fun A ta ws vs hD hth hl => ?_
  intro t0 k0 t1 k1 t2 k2 t3 r3 t4 r4 t5 r5 t6 r6 t7 k7 t8 k8 t9 k9 t10 k10 t11 r11 t12 r12 t13 r13 t14 k14 t15 k15 t16 k16 t17 k17 t18 k18 t19 k19 t20 k20 t22 k22 t24 k24 t25 k25 d0 d1 d2 d3 d4 d5 d6 d7 d8 d9 f0 f1 f2 f3 f4 f5 f6 f7 f8 f9 f10 f11 f12 f13 f14 f15 f16 f17 f18 f19 f20
  replace f0 := shm_107 f0
  replace f3 := shm_107 f3
  replace f8 := shm_107 f8
  replace f10 := shm_107 f10
  replace f11 := shm_6 f11
  replace f12 := shm_365 f12
  replace f17 := shm_5 f17
  replace f18 := shm_5 f18
  replace f19 := shm_5 f19
  replace f20 := shm_5 f20
  have q10 : n_v vs 10 = n_v vs 2 := f17.symm
  have q11 : n_v vs 11 = n_v vs 3 := f18.symm
  have q12 : n_v vs 12 = n_v vs 4 := f19.symm
  have q13 : n_v vs 13 = n_v vs 5 := f20.symm
  simp only [q13, q12, q11, q10] at f0 f3 f8 f10 f11 f12
  have h0 : v_iv (n_v vs 25) = w_ei ws (v_ad (n_v vs 5)) (v_iv (n_v vs 15)) := f0
  have h3 : v_iv (n_v vs 22) = w_ei ws (v_ad (n_v vs 4)) (v_iv (n_v vs 15)) := f3
  have h8 : v_iv (n_v vs 17) = w_ei ws (v_ad (n_v vs 4)) (v_iv (n_v vs 15)) := f8
  have h10 : v_iv (n_v vs 16) = w_ei ws (v_ad (n_v vs 3)) (v_iv (n_v vs 15)) := f10
  have hrf0 : 0 ≤ v_iv (n_v vs 25) ∧ v_iv (n_v vs 25) ≤ 47 := vc_Fa_uniteAt_at_Grtail_Grhead_Fablock_18_r0 (v_iv (n_v vs 2)) (v_iv (n_v vs 15)) (v_iv (n_v vs 16)) (v_iv (n_v vs 17)) (v_iv (n_v vs 22)) (v_iv (n_v vs 25)) (w_ei ws (v_ad (n_v vs 5))) (w_ei ws (v_ad (n_v vs 4))) (w_ei ws (v_ad (n_v vs 3))) k2 k15 k16 k17 k22 k25 h0 h3 h8 h10 f11 f12
  have rf25 : tv_ok ta (0, 0, 47, []) (n_v vs 25) := tv_in t25 (by first | omega | grind) (by first | omega | grind)
  refine ⟨List.forall_mem_cons.mpr ⟨rf25, (fun _ h => (by cases h))⟩, [], trivial, ?_, (fun _ h => (by cases h))⟩
  rw [List.append_nil]
  exact (fun _ h => (by cases h))
set_option maxHeartbeats 4000000 in
theorem vc_Fa_uniteAt_at_Grtail_Grhead_Fablock_19_0 (x0 : Int) (x2 : Int) (x8 : Int) (x14 : Int) (x15 : Int) (x16 : Int) (x25 : Int) (x26 : Int) (a5_0 : Int → Int) (a4_0 : Int → Int) (a3_0 : Int → Int) (k0 : 0 ≤ x0 ∧ x0 ≤ 23) (k2 : 1 ≤ x2 ∧ x2 ≤ 48) (k8 : 0 ≤ x8 ∧ x8 ≤ 23) (k14 : (-1) ≤ x14 ∧ x14 ≤ (-1)) (k15 : 0 ≤ x15 ∧ x15 ≤ 47) (k16 : 0 ≤ x16 ∧ x16 ≤ 23) (k25 : 0 ≤ x25 ∧ x25 ≤ 47) (k26 : 1 ≤ x26 ∧ x26 ≤ 48) (d0 : x15 + 1 ≤ x26 ∧ x26 ≤ x15 + 1) (d4 : x8 + 0 ≤ x16 ∧ x16 ≤ x8 + 0) (d6 : x8 + (-4294967296) ≤ x0 ∧ x0 ≤ x8 + 0) (d9 : x0 + (-4294967296) ≤ x8 ∧ x8 ≤ x0 + 0) (h1 : x25 = a5_0 (x15)) (h11 : x16 = a3_0 (x15)) (f12 : x15 < x2) (f14 : UNI (a5_0) (a3_0) (a4_0) (x2) (x0) (x14)) : UNI (a5_0) (a3_0) (a4_0) (x2) (x0) (x25) := by
  first
    | exact uni_first (e := x15) ‹UNI _ _ _ _ _ _› (by assumption) rfl (by omega) (by omega) (by first | exact Or.inl (by omega) | exact Or.inr (by omega))
set_option maxHeartbeats 4000000 in
theorem vc_Fa_uniteAt_at_Grtail_Grhead_Fablock_19_1 (x0 : Int) (x1 : Int) (x2 : Int) (x7 : Int) (x8 : Int) (x14 : Int) (x15 : Int) (x16 : Int) (x17 : Int) (x18 : Int) (x19 : Int) (x20 : Int) (x22 : Int) (x24 : Int) (x25 : Int) (x26 : Int) (a5_0 : Int → Int) (a4_0 : Int → Int) (a3_0 : Int → Int) (a6_0 : Int → Int) (k0 : 0 ≤ x0 ∧ x0 ≤ 23) (k1 : 0 ≤ x1 ∧ x1 ≤ 16777215) (k2 : 1 ≤ x2 ∧ x2 ≤ 48) (k7 : 0 ≤ x7 ∧ x7 ≤ 25) (k8 : 0 ≤ x8 ∧ x8 ≤ 23) (k14 : (-1) ≤ x14 ∧ x14 ≤ (-1)) (k15 : 0 ≤ x15 ∧ x15 ≤ 47) (k16 : 0 ≤ x16 ∧ x16 ≤ 23) (k17 : 0 ≤ x17 ∧ x17 ≤ 23) (k18 : 0 ≤ x18 ∧ x18 ≤ 16777215) (k19 : 1 ≤ x19 ∧ x19 ≤ 1) (k20 : 1 ≤ x20 ∧ x20 ≤ 1) (k25 : 0 ≤ x25 ∧ x25 ≤ 47) (k26 : 1 ≤ x26 ∧ x26 ≤ 48) (d0 : x15 + 1 ≤ x26 ∧ x26 ≤ x15 + 1) (d4 : x8 + 0 ≤ x16 ∧ x16 ≤ x8 + 0) (d6 : x8 + (-4294967296) ≤ x0 ∧ x0 ≤ x8 + 0) (d9 : x0 + (-4294967296) ≤ x8 ∧ x8 ≤ x0 + 0) (h1 : x25 = a5_0 (x15)) (f7 : bvp (x20) = bvp (x18) &&& bvp (x19)) (f8 : bvp (x18) = bvp (x1) >>> (x17).toNat) (h9 : x17 = a4_0 (x15)) (h11 : x16 = a3_0 (x15)) (f12 : x15 < x2) (f15 : UN2 (a5_0) (a3_0) (a4_0) (a6_0) (x7) (x2) (x0) (x1) (x14)) : UN2 (a5_0) (a3_0) (a4_0) (a6_0) (x7) (x2) (x0) (x1) (x25) := by
  first
    | exact un2_first (e := x15) ‹UN2 _ _ _ _ _ _ _ _ _› (by assumption) rfl (by omega) (by omega) (by first | exact Or.inl ⟨by omega, by omega, by rw [← ‹x17 = a4_0 x15›]; exact (bit_one (s := x1) (t := x18) (c := x20) (v := x17) (one := x19) (by assumption) (by assumption) (by omega) (by omega) (by omega) (by omega)).mpr (by omega)⟩ | exact Or.inr ⟨by omega, by omega, by rw [← ‹x19 = a3_0 x15›]; exact (bit_one (s := x1) (t := x20) (c := x22) (v := x19) (one := x21) (by assumption) (by assumption) (by omega) (by omega) (by omega) (by omega)).mpr (by omega)⟩ | exact Or.inr ⟨by omega, by omega, by rw [← ‹x23 = a3_0 x15›]; exact (bit_one (s := x1) (t := x24) (c := x26) (v := x23) (one := x25) (by assumption) (by assumption) (by omega) (by omega) (by omega) (by omega)).mpr (by omega)⟩)
def o_Fa_uniteAt_at_Grtail_Grhead_Fablock_19 : or_T := (6, 27, [(0, (0, 0, 23, [])), (1, (0, 0, 16777215, [])), (2, (0, 1, 48, [])), (3, (2, 0, 0, [52])), (4, (2, 0, 0, [53])), (5, (2, 0, 0, [38])), (6, (2, 0, 0, [59])), (7, (0, 0, 25, [])), (8, (0, 0, 23, [])), (9, (0, 0, 16777215, [])), (10, (0, 1, 48, [])), (11, (2, 0, 0, [52])), (12, (2, 0, 0, [53])), (13, (2, 0, 0, [38])), (14, (0, -1, -1, [])), (15, (0, 0, 47, [])), (16, (0, 0, 23, [])), (17, (0, 0, 23, [])), (18, (0, 0, 16777215, [])), (19, (0, 1, 1, [])), (20, (0, 1, 1, [])), (22, (0, 0, 23, [])), (24, (0, -1, -1, [])), (25, (0, 0, 47, [])), (26, (0, 1, 48, []))], [(6, [26, 15], [1]), (10, [25, 13, 15], []), (7, [14, 24], [0]), (7, [22, 8], [1]), (10, [22, 12, 15], []), (8, [20], [1]), (12, [20, 18], [2]), (16, [20, 18, 19], [0]), (16, [18, 9, 17], [4]), (10, [17, 12, 15], []), (7, [16, 8], [0]), (10, [16, 11, 15], []), (7, [15, 10], [2]), (20, [13, 10], [61, 1, 566]), (20, [13, 11, 12, 10, 8, 14], [61, 3, 584]), (20, [13, 11, 12, 6, 7, 10, 8, 9, 14], [61, 4, 589]), (24, [0, 8], []), (24, [1, 9], []), (24, [2, 10], []), (24, [3, 11], []), (24, [4, 12], []), (24, [5, 13], [])], [], [], [(20, [13, 11, 12, 10, 8, 25], [61, 3, 584]), (20, [13, 11, 12, 6, 7, 10, 8, 9, 25], [61, 4, 589])], [], [(26, 15, 1, 1), (26, 10, -4294967296, 0), (26, 2, -4294967296, 1), (26, 10, -4294967296, 1), (16, 8, 0, 0), (15, 10, -4294967296, -1), (0, 8, -4294967296, 0), (1, 9, -4294967296, 0), (2, 10, -4294967296, 0), (8, 0, -4294967296, 0), (9, 1, -4294967296, 0), (10, 2, -4294967296, 0), (15, 2, -4294967296, 0), (15, 10, -4294967296, 0)])
theorem oo_Fa_uniteAt_at_Grtail_Grhead_Fablock_19 {kA : Nat → ClassId} : or_ok PRD kA GG o_Fa_uniteAt_at_Grtail_Grhead_Fablock_19 := by
  refine or_mk fun A ta ws vs hD hth hl => ?_
  intro t0 k0 t1 k1 t2 k2 t3 r3 t4 r4 t5 r5 t6 r6 t7 k7 t8 k8 t9 k9 t10 k10 t11 r11 t12 r12 t13 r13 t14 k14 t15 k15 t16 k16 t17 k17 t18 k18 t19 k19 t20 k20 t22 k22 t24 k24 t25 k25 t26 k26 d0 d1 d2 d3 d4 d5 d6 d7 d8 d9 d10 d11 d12 d13 f0 f1 f2 f3 f4 f5 f6 f7 f8 f9 f10 f11 f12 f13 f14 f15 f16 f17 f18 f19 f20 f21
  replace f1 := shm_107 f1
  replace f7 := shm_11 f7
  replace f8 := shm_13 f8
  replace f9 := shm_107 f9
  replace f11 := shm_107 f11
  replace f12 := shm_6 f12
  replace f14 := shm_1193 f14
  replace f15 := shm_1194 f15
  replace f16 := shm_5 f16
  replace f17 := shm_5 f17
  replace f18 := shm_5 f18
  replace f19 := shm_5 f19
  replace f20 := shm_5 f20
  replace f21 := shm_5 f21
  have q8 : n_v vs 8 = n_v vs 0 := f16.symm
  have q9 : n_v vs 9 = n_v vs 1 := f17.symm
  have q10 : n_v vs 10 = n_v vs 2 := f18.symm
  have q11 : n_v vs 11 = n_v vs 3 := f19.symm
  have q12 : n_v vs 12 = n_v vs 4 := f20.symm
  have q13 : n_v vs 13 = n_v vs 5 := f21.symm
  simp only [q13, q8, q12, q9, q11, q10] at f1 f8 f9 f11 f12 f14 f15
  have h1 : v_iv (n_v vs 25) = w_ei ws (v_ad (n_v vs 5)) (v_iv (n_v vs 15)) := f1
  have h9 : v_iv (n_v vs 17) = w_ei ws (v_ad (n_v vs 4)) (v_iv (n_v vs 15)) := f9
  have h11 : v_iv (n_v vs 16) = w_ei ws (v_ad (n_v vs 3)) (v_iv (n_v vs 15)) := f11
  have nf0 : fc_1 PRD (20, [13, 11, 12, 10, 8, 25], [61, 3, 584]) ws (vs) := by
    refine ⟨nf_in hl rfl, sgq_1193 ?_⟩
    · show UNI (w_ei ws (v_ad (n_v vs 13))) (w_ei ws (v_ad (n_v vs 11))) (w_ei ws (v_ad (n_v vs 12))) (v_iv (n_v vs 10)) (v_iv (n_v vs 8)) (v_iv (n_v vs 25))
      simp only [q8, q10, q11, q12, q13]
      exact vc_Fa_uniteAt_at_Grtail_Grhead_Fablock_19_0 (v_iv (n_v vs 0)) (v_iv (n_v vs 2)) (v_iv (n_v vs 8)) (v_iv (n_v vs 14)) (v_iv (n_v vs 15)) (v_iv (n_v vs 16)) (v_iv (n_v vs 25)) (v_iv (n_v vs 26)) (w_ei ws (v_ad (n_v vs 5))) (w_ei ws (v_ad (n_v vs 4))) (w_ei ws (v_ad (n_v vs 3))) k0 k2 k8 k14 k15 k16 k25 k26 d0 d4 d6 d9 h1 h11 f12 f14
  have nf1 : fc_1 PRD (20, [13, 11, 12, 6, 7, 10, 8, 9, 25], [61, 4, 589]) ws (vs) := by
    refine ⟨nf_in hl rfl, sgq_1194 ?_⟩
    · show UN2 (w_ei ws (v_ad (n_v vs 13))) (w_ei ws (v_ad (n_v vs 11))) (w_ei ws (v_ad (n_v vs 12))) (w_ei ws (v_ad (n_v vs 6))) (v_iv (n_v vs 7)) (v_iv (n_v vs 10)) (v_iv (n_v vs 8)) (v_iv (n_v vs 9)) (v_iv (n_v vs 25))
      simp only [q8, q9, q10, q11, q12, q13]
      exact vc_Fa_uniteAt_at_Grtail_Grhead_Fablock_19_1 (v_iv (n_v vs 0)) (v_iv (n_v vs 1)) (v_iv (n_v vs 2)) (v_iv (n_v vs 7)) (v_iv (n_v vs 8)) (v_iv (n_v vs 14)) (v_iv (n_v vs 15)) (v_iv (n_v vs 16)) (v_iv (n_v vs 17)) (v_iv (n_v vs 18)) (v_iv (n_v vs 19)) (v_iv (n_v vs 20)) (v_iv (n_v vs 22)) (v_iv (n_v vs 24)) (v_iv (n_v vs 25)) (v_iv (n_v vs 26)) (w_ei ws (v_ad (n_v vs 5))) (w_ei ws (v_ad (n_v vs 4))) (w_ei ws (v_ad (n_v vs 3))) (w_ei ws (v_ad (n_v vs 6))) k0 k1 k2 k7 k8 k14 k15 k16 k17 k18 k19 k20 k25 k26 d0 d4 d6 d9 h1 f7 f8 h9 h11 f12 f15
  refine ⟨(fun _ h => (by cases h)), [], trivial, ?_, (fun _ h => (by cases h))⟩
  rw [List.append_nil]
  exact List.forall_mem_cons.mpr ⟨⟨show (20 : Nat) < 100 from by decide, nf0⟩, List.forall_mem_cons.mpr ⟨⟨show (20 : Nat) < 100 from by decide, nf1⟩, (fun _ h => (by cases h))⟩⟩
set_option maxHeartbeats 4000000 in
theorem vc_Fa_uniteAt_at_Grtail_Grhead_Fablock_20_r0 (x2 : Int) (x15 : Int) (x16 : Int) (x17 : Int) (x22 : Int) (x23 : Int) (x29 : Int) (x30 : Int) (a5_0 : Int → Int) (a3_0 : Int → Int) (a4_0 : Int → Int) (k2 : 1 ≤ x2 ∧ x2 ≤ 48) (k15 : 0 ≤ x15 ∧ x15 ≤ 47) (k16 : 0 ≤ x16 ∧ x16 ≤ 23) (k17 : 0 ≤ x17 ∧ x17 ≤ 23) (k22 : 0 ≤ x22 ∧ x22 ≤ 23) (k23 : 0 ≤ x23 ∧ x23 ≤ 23) (k29 : (-1) ≤ x29 ∧ x29 ≤ 47) (k30 : (-1) ≤ x30 ∧ x30 ≤ 47) (h0 : x30 = a5_0 (x15)) (h2 : x29 = a5_0 (x15)) (h8 : x23 = a3_0 (x15)) (h10 : x22 = a4_0 (x15)) (h15 : x17 = a4_0 (x15)) (h17 : x16 = a3_0 (x15)) (f18 : x15 < x2) (f19 : BLQ (a5_0) (x2)) : 0 ≤ x30 ∧ x30 ≤ 47 := by
  first
    | omega
    | (skip; (first | subst h0 | skip); (first | subst h2 | skip); (first | subst h8 | skip); (first | subst h10 | skip); (first | subst h15 | skip); (first | subst h17 | skip); have q := ‹BLQ _ _› x15 (by omega) (by omega); omega)
def o_Fa_uniteAt_at_Grtail_Grhead_Fablock_20 : or_T := (112, 31, [(0, (0, 0, 23, [])), (1, (0, 0, 16777215, [])), (2, (0, 1, 48, [])), (3, (2, 0, 0, [52])), (4, (2, 0, 0, [53])), (5, (2, 0, 0, [38])), (6, (2, 0, 0, [59])), (7, (0, 0, 25, [])), (8, (0, 0, 23, [])), (9, (0, 0, 16777215, [])), (10, (0, 1, 48, [])), (11, (2, 0, 0, [52])), (12, (2, 0, 0, [53])), (13, (2, 0, 0, [38])), (14, (0, 0, 47, [])), (15, (0, 0, 47, [])), (16, (0, 0, 23, [])), (17, (0, 0, 23, [])), (18, (0, 0, 16777215, [])), (19, (0, 1, 1, [])), (20, (0, 1, 1, [])), (22, (0, 0, 23, [])), (23, (0, 0, 23, [])), (24, (0, 0, 16777215, [])), (25, (0, 1, 1, [])), (26, (0, 0, 0, [])), (28, (0, -1, -1, [])), (29, (0, -1, 47, [])), (30, (0, -1, 47, []))], [(10, [30, 13, 15], []), (7, [29, 14], [1]), (10, [29, 13, 15], []), (7, [14, 28], [1]), (8, [26], [0]), (12, [26, 24], [2]), (16, [26, 24, 25], [0]), (16, [24, 9, 23], [4]), (10, [23, 11, 15], []), (7, [22, 8], [0]), (10, [22, 12, 15], []), (8, [20], [1]), (12, [20, 18], [2]), (16, [20, 18, 19], [0]), (16, [18, 9, 17], [4]), (10, [17, 12, 15], []), (7, [16, 8], [0]), (10, [16, 11, 15], []), (7, [15, 10], [2]), (20, [13, 10], [61, 1, 566]), (20, [13, 11, 12, 10, 8, 14], [61, 3, 584]), (20, [13, 11, 12, 6, 7, 10, 8, 9, 14], [61, 4, 589]), (24, [0, 8], []), (24, [1, 9], []), (24, [2, 10], []), (24, [3, 11], []), (24, [4, 12], []), (24, [5, 13], [])], [(30, (0, 0, 47, []))], [], [], [], [(22, 8, 0, 0), (16, 8, 0, 0), (15, 10, -4294967296, -1), (0, 8, -4294967296, 0), (1, 9, -4294967296, 0), (2, 10, -4294967296, 0), (8, 0, -4294967296, 0), (9, 1, -4294967296, 0), (10, 2, -4294967296, 0), (14, 15, -4294967296, 46), (15, 2, -4294967296, 0), (15, 10, -4294967296, 0)])
theorem oo_Fa_uniteAt_at_Grtail_Grhead_Fablock_20 {kA : Nat → ClassId} : or_ok PRD kA GG o_Fa_uniteAt_at_Grtail_Grhead_Fablock_20 := by
  refine or_mk fun A ta ws vs hD hth hl => ?_
  intro t0 k0 t1 k1 t2 k2 t3 r3 t4 r4 t5 r5 t6 r6 t7 k7 t8 k8 t9 k9 t10 k10 t11 r11 t12 r12 t13 r13 t14 k14 t15 k15 t16 k16 t17 k17 t18 k18 t19 k19 t20 k20 t22 k22 t23 k23 t24 k24 t25 k25 t26 k26 t28 k28 t29 k29 t30 k30 d0 d1 d2 d3 d4 d5 d6 d7 d8 d9 d10 d11 f0 f1 f2 f3 f4 f5 f6 f7 f8 f9 f10 f11 f12 f13 f14 f15 f16 f17 f18 f19 f20 f21 f22 f23 f24 f25 f26 f27
  replace f0 := shm_107 f0
  replace f2 := shm_107 f2
  replace f8 := shm_107 f8
  replace f10 := shm_107 f10
  replace f15 := shm_107 f15
  replace f17 := shm_107 f17
  replace f18 := shm_6 f18
  replace f19 := shm_365 f19
  replace f24 := shm_5 f24
  replace f25 := shm_5 f25
  replace f26 := shm_5 f26
  replace f27 := shm_5 f27
  have q10 : n_v vs 10 = n_v vs 2 := f24.symm
  have q11 : n_v vs 11 = n_v vs 3 := f25.symm
  have q12 : n_v vs 12 = n_v vs 4 := f26.symm
  have q13 : n_v vs 13 = n_v vs 5 := f27.symm
  simp only [q13, q11, q12, q10] at f0 f2 f8 f10 f15 f17 f18 f19
  have h0 : v_iv (n_v vs 30) = w_ei ws (v_ad (n_v vs 5)) (v_iv (n_v vs 15)) := f0
  have h2 : v_iv (n_v vs 29) = w_ei ws (v_ad (n_v vs 5)) (v_iv (n_v vs 15)) := f2
  have h8 : v_iv (n_v vs 23) = w_ei ws (v_ad (n_v vs 3)) (v_iv (n_v vs 15)) := f8
  have h10 : v_iv (n_v vs 22) = w_ei ws (v_ad (n_v vs 4)) (v_iv (n_v vs 15)) := f10
  have h15 : v_iv (n_v vs 17) = w_ei ws (v_ad (n_v vs 4)) (v_iv (n_v vs 15)) := f15
  have h17 : v_iv (n_v vs 16) = w_ei ws (v_ad (n_v vs 3)) (v_iv (n_v vs 15)) := f17
  have hrf0 : 0 ≤ v_iv (n_v vs 30) ∧ v_iv (n_v vs 30) ≤ 47 := vc_Fa_uniteAt_at_Grtail_Grhead_Fablock_20_r0 (v_iv (n_v vs 2)) (v_iv (n_v vs 15)) (v_iv (n_v vs 16)) (v_iv (n_v vs 17)) (v_iv (n_v vs 22)) (v_iv (n_v vs 23)) (v_iv (n_v vs 29)) (v_iv (n_v vs 30)) (w_ei ws (v_ad (n_v vs 5))) (w_ei ws (v_ad (n_v vs 3))) (w_ei ws (v_ad (n_v vs 4))) k2 k15 k16 k17 k22 k23 k29 k30 h0 h2 h8 h10 h15 h17 f18 f19
  have rf30 : tv_ok ta (0, 0, 47, []) (n_v vs 30) := tv_in t30 (by first | omega | grind) (by first | omega | grind)
  refine ⟨List.forall_mem_cons.mpr ⟨rf30, (fun _ h => (by cases h))⟩, [], trivial, ?_, (fun _ h => (by cases h))⟩
  rw [List.append_nil]
  exact (fun _ h => (by cases h))
set_option maxHeartbeats 4000000 in
theorem vc_Fa_uniteAt_at_Grtail_Grhead_Fablock_21_r0 (x15 : Int) (x16 : Int) (x17 : Int) (x22 : Int) (x23 : Int) (x29 : Int) (x30 : Int) (x32 : Int) (a5_0 : Int → Int) (a3_0 : Int → Int) (a4_0 : Int → Int) (k15 : 0 ≤ x15 ∧ x15 ≤ 47) (k16 : 0 ≤ x16 ∧ x16 ≤ 23) (k17 : 0 ≤ x17 ∧ x17 ≤ 23) (k22 : 0 ≤ x22 ∧ x22 ≤ 23) (k23 : 0 ≤ x23 ∧ x23 ≤ 23) (k29 : (-1) ≤ x29 ∧ x29 ≤ 47) (k30 : 0 ≤ x30 ∧ x30 ≤ 47) (k32 : (-1) ≤ x32 ∧ x32 ≤ 47) (h0 : x32 = a5_0 (x15)) (h4 : x30 = a5_0 (x15)) (h6 : x29 = a5_0 (x15)) (h12 : x23 = a3_0 (x15)) (h14 : x22 = a4_0 (x15)) (h19 : x17 = a4_0 (x15)) (h21 : x16 = a3_0 (x15)) : 0 ≤ x32 ∧ x32 ≤ 47 := by
  first
    | omega
    | (skip; (first | subst h0 | skip); (first | subst h4 | skip); (first | subst h6 | skip); (first | subst h12 | skip); (first | subst h14 | skip); (first | subst h19 | skip); (first | subst h21 | skip); have q := ‹BLQ _ _› x15 (by omega) (by omega); omega)
def o_Fa_uniteAt_at_Grtail_Grhead_Fablock_21 : or_T := (124, 33, [(0, (0, 0, 23, [])), (1, (0, 0, 16777215, [])), (2, (0, 1, 48, [])), (3, (2, 0, 0, [52])), (4, (2, 0, 0, [53])), (5, (2, 0, 0, [38])), (6, (2, 0, 0, [59])), (7, (0, 0, 25, [])), (8, (0, 0, 23, [])), (9, (0, 0, 16777215, [])), (10, (0, 1, 48, [])), (11, (2, 0, 0, [52])), (12, (2, 0, 0, [53])), (13, (2, 0, 0, [38])), (14, (0, 0, 47, [])), (15, (0, 0, 47, [])), (16, (0, 0, 23, [])), (17, (0, 0, 23, [])), (18, (0, 0, 16777215, [])), (19, (0, 1, 1, [])), (20, (0, 1, 1, [])), (22, (0, 0, 23, [])), (23, (0, 0, 23, [])), (24, (0, 0, 16777215, [])), (25, (0, 1, 1, [])), (26, (0, 0, 0, [])), (28, (0, -1, -1, [])), (29, (0, -1, 47, [])), (30, (0, 0, 47, [])), (31, (0, 0, 47, [])), (32, (0, -1, 47, []))], [(10, [32, 13, 15], []), (23, [14, 31], [0, 1, -1]), (23, [30, 31], [0, 1, -1]), (20, [31, 14, 30], [50, 0, 0, 3, 6, 1, 2, 1, 0, 1, 1, 1, 2, 1, 0, 1, 2]), (10, [30, 13, 15], []), (7, [29, 14], [1]), (10, [29, 13, 15], []), (7, [14, 28], [1]), (8, [26], [0]), (12, [26, 24], [2]), (16, [26, 24, 25], [0]), (16, [24, 9, 23], [4]), (10, [23, 11, 15], []), (7, [22, 8], [0]), (10, [22, 12, 15], []), (8, [20], [1]), (12, [20, 18], [2]), (16, [20, 18, 19], [0]), (16, [18, 9, 17], [4]), (10, [17, 12, 15], []), (7, [16, 8], [0]), (10, [16, 11, 15], []), (7, [15, 10], [2]), (20, [13, 10], [61, 1, 566]), (20, [13, 11, 12, 10, 8, 14], [61, 3, 584]), (20, [13, 11, 12, 6, 7, 10, 8, 9, 14], [61, 4, 589]), (24, [0, 8], []), (24, [1, 9], []), (24, [2, 10], []), (24, [3, 11], []), (24, [4, 12], []), (24, [5, 13], [])], [(32, (0, 0, 47, []))], [], [], [], [(22, 8, 0, 0), (16, 8, 0, 0), (15, 10, -4294967296, -1), (0, 8, -4294967296, 0), (1, 9, -4294967296, 0), (2, 10, -4294967296, 0), (8, 0, -4294967296, 0), (9, 1, -4294967296, 0), (10, 2, -4294967296, 0), (14, 15, -4294967296, 46), (15, 2, -4294967296, 0), (15, 10, -4294967296, 0)])
theorem oo_Fa_uniteAt_at_Grtail_Grhead_Fablock_21 {kA : Nat → ClassId} : or_ok PRD kA GG o_Fa_uniteAt_at_Grtail_Grhead_Fablock_21 := by
  refine or_mk fun A ta ws vs hD hth hl => ?_
  intro t0 k0 t1 k1 t2 k2 t3 r3 t4 r4 t5 r5 t6 r6 t7 k7 t8 k8 t9 k9 t10 k10 t11 r11 t12 r12 t13 r13 t14 k14 t15 k15 t16 k16 t17 k17 t18 k18 t19 k19 t20 k20 t22 k22 t23 k23 t24 k24 t25 k25 t26 k26 t28 k28 t29 k29 t30 k30 t31 k31 t32 k32 d0 d1 d2 d3 d4 d5 d6 d7 d8 d9 d10 d11 f0 f1 f2 f3 f4 f5 f6 f7 f8 f9 f10 f11 f12 f13 f14 f15 f16 f17 f18 f19 f20 f21 f22 f23 f24 f25 f26 f27 f28 f29 f30 f31
  replace f0 := shm_107 f0
  replace f4 := shm_107 f4
  replace f6 := shm_107 f6
  replace f12 := shm_107 f12
  replace f14 := shm_107 f14
  replace f19 := shm_107 f19
  replace f21 := shm_107 f21
  replace f29 := shm_5 f29
  replace f30 := shm_5 f30
  replace f31 := shm_5 f31
  have q11 : n_v vs 11 = n_v vs 3 := f29.symm
  have q12 : n_v vs 12 = n_v vs 4 := f30.symm
  have q13 : n_v vs 13 = n_v vs 5 := f31.symm
  simp only [q13, q11, q12] at f0 f4 f6 f12 f14 f19 f21
  have h0 : v_iv (n_v vs 32) = w_ei ws (v_ad (n_v vs 5)) (v_iv (n_v vs 15)) := f0
  have h4 : v_iv (n_v vs 30) = w_ei ws (v_ad (n_v vs 5)) (v_iv (n_v vs 15)) := f4
  have h6 : v_iv (n_v vs 29) = w_ei ws (v_ad (n_v vs 5)) (v_iv (n_v vs 15)) := f6
  have h12 : v_iv (n_v vs 23) = w_ei ws (v_ad (n_v vs 3)) (v_iv (n_v vs 15)) := f12
  have h14 : v_iv (n_v vs 22) = w_ei ws (v_ad (n_v vs 4)) (v_iv (n_v vs 15)) := f14
  have h19 : v_iv (n_v vs 17) = w_ei ws (v_ad (n_v vs 4)) (v_iv (n_v vs 15)) := f19
  have h21 : v_iv (n_v vs 16) = w_ei ws (v_ad (n_v vs 3)) (v_iv (n_v vs 15)) := f21
  have hrf0 : 0 ≤ v_iv (n_v vs 32) ∧ v_iv (n_v vs 32) ≤ 47 := vc_Fa_uniteAt_at_Grtail_Grhead_Fablock_21_r0 (v_iv (n_v vs 15)) (v_iv (n_v vs 16)) (v_iv (n_v vs 17)) (v_iv (n_v vs 22)) (v_iv (n_v vs 23)) (v_iv (n_v vs 29)) (v_iv (n_v vs 30)) (v_iv (n_v vs 32)) (w_ei ws (v_ad (n_v vs 5))) (w_ei ws (v_ad (n_v vs 3))) (w_ei ws (v_ad (n_v vs 4))) k15 k16 k17 k22 k23 k29 k30 k32 h0 h4 h6 h12 h14 h19 h21
  have rf32 : tv_ok ta (0, 0, 47, []) (n_v vs 32) := tv_in t32 (by first | omega | grind) (by first | omega | grind)
  refine ⟨List.forall_mem_cons.mpr ⟨rf32, (fun _ h => (by cases h))⟩, [], trivial, ?_, (fun _ h => (by cases h))⟩
  rw [List.append_nil]
  exact (fun _ h => (by cases h))
set_option maxHeartbeats 4000000 in
theorem vc_Fa_uniteAt_at_Grtail_Grhead_Fablock_22_2 (x0 : Int) (x8 : Int) (x15 : Int) (x16 : Int) (x17 : Int) (x22 : Int) (x23 : Int) (x29 : Int) (x30 : Int) (x32 : Int) (a5_0 : Int → Int) (a3_0 : Int → Int) (a4_0 : Int → Int) (gu : Int) (k0 : 0 ≤ x0 ∧ x0 ≤ 23) (k8 : 0 ≤ x8 ∧ x8 ≤ 23) (k15 : 0 ≤ x15 ∧ x15 ≤ 47) (k16 : 0 ≤ x16 ∧ x16 ≤ 23) (k17 : 0 ≤ x17 ∧ x17 ≤ 23) (k22 : 0 ≤ x22 ∧ x22 ≤ 23) (k23 : 0 ≤ x23 ∧ x23 ≤ 23) (k29 : (-1) ≤ x29 ∧ x29 ≤ 47) (k30 : 0 ≤ x30 ∧ x30 ≤ 47) (k32 : 0 ≤ x32 ∧ x32 ≤ 47) (d0 : x8 + 0 ≤ x22 ∧ x22 ≤ x8 + 0) (d3 : x8 + (-4294967296) ≤ x0 ∧ x0 ≤ x8 + 0) (d6 : x0 + (-4294967296) ≤ x8 ∧ x8 ≤ x0 + 0) (h3 : x32 = a5_0 (x15)) (h7 : x30 = a5_0 (x15)) (h9 : x29 = a5_0 (x15)) (h15 : x23 = a3_0 (x15)) (h17 : x22 = a4_0 (x15)) (h22 : x17 = a4_0 (x15)) (h24 : x16 = a3_0 (x15)) (eu2 : gu = x0) : 1 * gu + ((-1) * x0 + 0) ≤ 0 := by
  first
    | omega
    | (skip; (first | subst h3 | skip); (first | subst h7 | skip); (first | subst h9 | skip); (first | subst h15 | skip); (first | subst h17 | skip); (first | subst h22 | skip); (first | subst h24 | skip); have q := ‹BLQ _ _› x15 (by omega) (by omega); omega)
set_option maxHeartbeats 4000000 in
theorem vc_Fa_uniteAt_at_Grtail_Grhead_Fablock_22_3 (x0 : Int) (x8 : Int) (x15 : Int) (x16 : Int) (x17 : Int) (x22 : Int) (x23 : Int) (x29 : Int) (x30 : Int) (x32 : Int) (a5_0 : Int → Int) (a3_0 : Int → Int) (a4_0 : Int → Int) (gu : Int) (k0 : 0 ≤ x0 ∧ x0 ≤ 23) (k8 : 0 ≤ x8 ∧ x8 ≤ 23) (k15 : 0 ≤ x15 ∧ x15 ≤ 47) (k16 : 0 ≤ x16 ∧ x16 ≤ 23) (k17 : 0 ≤ x17 ∧ x17 ≤ 23) (k22 : 0 ≤ x22 ∧ x22 ≤ 23) (k23 : 0 ≤ x23 ∧ x23 ≤ 23) (k29 : (-1) ≤ x29 ∧ x29 ≤ 47) (k30 : 0 ≤ x30 ∧ x30 ≤ 47) (k32 : 0 ≤ x32 ∧ x32 ≤ 47) (d0 : x8 + 0 ≤ x22 ∧ x22 ≤ x8 + 0) (d3 : x8 + (-4294967296) ≤ x0 ∧ x0 ≤ x8 + 0) (d6 : x0 + (-4294967296) ≤ x8 ∧ x8 ≤ x0 + 0) (h3 : x32 = a5_0 (x15)) (h7 : x30 = a5_0 (x15)) (h9 : x29 = a5_0 (x15)) (h15 : x23 = a3_0 (x15)) (h17 : x22 = a4_0 (x15)) (h22 : x17 = a4_0 (x15)) (h24 : x16 = a3_0 (x15)) (eu2 : gu = x0) : (-1) * gu + (1 * x0 + 0) ≤ 0 := by
  first
    | omega
    | (skip; (first | subst h3 | skip); (first | subst h7 | skip); (first | subst h9 | skip); (first | subst h15 | skip); (first | subst h17 | skip); (first | subst h22 | skip); (first | subst h24 | skip); have q := ‹BLQ _ _› x15 (by omega) (by omega); omega)
set_option maxHeartbeats 4000000 in
theorem vc_Fa_uniteAt_at_Grtail_Grhead_Fablock_22_5 (x7 : Int) (x15 : Int) (x16 : Int) (x17 : Int) (x22 : Int) (x23 : Int) (x29 : Int) (x30 : Int) (x32 : Int) (a5_0 : Int → Int) (a3_0 : Int → Int) (a4_0 : Int → Int) (gc : Int) (k7 : 0 ≤ x7 ∧ x7 ≤ 25) (k15 : 0 ≤ x15 ∧ x15 ≤ 47) (k16 : 0 ≤ x16 ∧ x16 ≤ 23) (k17 : 0 ≤ x17 ∧ x17 ≤ 23) (k22 : 0 ≤ x22 ∧ x22 ≤ 23) (k23 : 0 ≤ x23 ∧ x23 ≤ 23) (k29 : (-1) ≤ x29 ∧ x29 ≤ 47) (k30 : 0 ≤ x30 ∧ x30 ≤ 47) (k32 : 0 ≤ x32 ∧ x32 ≤ 47) (h3 : x32 = a5_0 (x15)) (h7 : x30 = a5_0 (x15)) (h9 : x29 = a5_0 (x15)) (h15 : x23 = a3_0 (x15)) (h17 : x22 = a4_0 (x15)) (h22 : x17 = a4_0 (x15)) (h24 : x16 = a3_0 (x15)) (ec2 : gc = x7) : 1 * gc + ((-1) * x7 + 0) ≤ 0 := by
  first
    | omega
    | (skip; (first | subst h3 | skip); (first | subst h7 | skip); (first | subst h9 | skip); (first | subst h15 | skip); (first | subst h17 | skip); (first | subst h22 | skip); (first | subst h24 | skip); have q := ‹BLQ _ _› x15 (by omega) (by omega); omega)
set_option maxHeartbeats 4000000 in
theorem vc_Fa_uniteAt_at_Grtail_Grhead_Fablock_22_6 (x7 : Int) (x15 : Int) (x16 : Int) (x17 : Int) (x22 : Int) (x23 : Int) (x29 : Int) (x30 : Int) (x32 : Int) (a5_0 : Int → Int) (a3_0 : Int → Int) (a4_0 : Int → Int) (gc : Int) (k7 : 0 ≤ x7 ∧ x7 ≤ 25) (k15 : 0 ≤ x15 ∧ x15 ≤ 47) (k16 : 0 ≤ x16 ∧ x16 ≤ 23) (k17 : 0 ≤ x17 ∧ x17 ≤ 23) (k22 : 0 ≤ x22 ∧ x22 ≤ 23) (k23 : 0 ≤ x23 ∧ x23 ≤ 23) (k29 : (-1) ≤ x29 ∧ x29 ≤ 47) (k30 : 0 ≤ x30 ∧ x30 ≤ 47) (k32 : 0 ≤ x32 ∧ x32 ≤ 47) (h3 : x32 = a5_0 (x15)) (h7 : x30 = a5_0 (x15)) (h9 : x29 = a5_0 (x15)) (h15 : x23 = a3_0 (x15)) (h17 : x22 = a4_0 (x15)) (h22 : x17 = a4_0 (x15)) (h24 : x16 = a3_0 (x15)) (ec2 : gc = x7) : (-1) * gc + (1 * x7 + 0) ≤ 0 := by
  first
    | omega
    | (skip; (first | subst h3 | skip); (first | subst h7 | skip); (first | subst h9 | skip); (first | subst h15 | skip); (first | subst h17 | skip); (first | subst h22 | skip); (first | subst h24 | skip); have q := ‹BLQ _ _› x15 (by omega) (by omega); omega)
set_option maxHeartbeats 4000000 in
theorem vc_Fa_uniteAt_at_Grtail_Grhead_Fablock_22_7 (x1 : Int) (x9 : Int) (x15 : Int) (x16 : Int) (x17 : Int) (x22 : Int) (x23 : Int) (x29 : Int) (x30 : Int) (x32 : Int) (a5_0 : Int → Int) (a3_0 : Int → Int) (a4_0 : Int → Int) (gd : Int) (k1 : 0 ≤ x1 ∧ x1 ≤ 16777215) (k9 : 0 ≤ x9 ∧ x9 ≤ 16777215) (k15 : 0 ≤ x15 ∧ x15 ≤ 47) (k16 : 0 ≤ x16 ∧ x16 ≤ 23) (k17 : 0 ≤ x17 ∧ x17 ≤ 23) (k22 : 0 ≤ x22 ∧ x22 ≤ 23) (k23 : 0 ≤ x23 ∧ x23 ≤ 23) (k29 : (-1) ≤ x29 ∧ x29 ≤ 47) (k30 : 0 ≤ x30 ∧ x30 ≤ 47) (k32 : 0 ≤ x32 ∧ x32 ≤ 47) (d4 : x9 + (-4294967296) ≤ x1 ∧ x1 ≤ x9 + 0) (d7 : x1 + (-4294967296) ≤ x9 ∧ x9 ≤ x1 + 0) (h3 : x32 = a5_0 (x15)) (h7 : x30 = a5_0 (x15)) (h9 : x29 = a5_0 (x15)) (h15 : x23 = a3_0 (x15)) (h17 : x22 = a4_0 (x15)) (h22 : x17 = a4_0 (x15)) (h24 : x16 = a3_0 (x15)) (ed2 : gd = x1) : 1 * gd + ((-1) * x1 + 0) ≤ 0 := by
  first
    | omega
    | (skip; (first | subst h3 | skip); (first | subst h7 | skip); (first | subst h9 | skip); (first | subst h15 | skip); (first | subst h17 | skip); (first | subst h22 | skip); (first | subst h24 | skip); have q := ‹BLQ _ _› x15 (by omega) (by omega); omega)
set_option maxHeartbeats 4000000 in
theorem vc_Fa_uniteAt_at_Grtail_Grhead_Fablock_22_8 (x1 : Int) (x9 : Int) (x15 : Int) (x16 : Int) (x17 : Int) (x22 : Int) (x23 : Int) (x29 : Int) (x30 : Int) (x32 : Int) (a5_0 : Int → Int) (a3_0 : Int → Int) (a4_0 : Int → Int) (gd : Int) (k1 : 0 ≤ x1 ∧ x1 ≤ 16777215) (k9 : 0 ≤ x9 ∧ x9 ≤ 16777215) (k15 : 0 ≤ x15 ∧ x15 ≤ 47) (k16 : 0 ≤ x16 ∧ x16 ≤ 23) (k17 : 0 ≤ x17 ∧ x17 ≤ 23) (k22 : 0 ≤ x22 ∧ x22 ≤ 23) (k23 : 0 ≤ x23 ∧ x23 ≤ 23) (k29 : (-1) ≤ x29 ∧ x29 ≤ 47) (k30 : 0 ≤ x30 ∧ x30 ≤ 47) (k32 : 0 ≤ x32 ∧ x32 ≤ 47) (d4 : x9 + (-4294967296) ≤ x1 ∧ x1 ≤ x9 + 0) (d7 : x1 + (-4294967296) ≤ x9 ∧ x9 ≤ x1 + 0) (h3 : x32 = a5_0 (x15)) (h7 : x30 = a5_0 (x15)) (h9 : x29 = a5_0 (x15)) (h15 : x23 = a3_0 (x15)) (h17 : x22 = a4_0 (x15)) (h22 : x17 = a4_0 (x15)) (h24 : x16 = a3_0 (x15)) (ed2 : gd = x1) : (-1) * gd + (1 * x1 + 0) ≤ 0 := by
  first
    | omega
    | (skip; (first | subst h3 | skip); (first | subst h7 | skip); (first | subst h9 | skip); (first | subst h15 | skip); (first | subst h17 | skip); (first | subst h22 | skip); (first | subst h24 | skip); have q := ‹BLQ _ _› x15 (by omega) (by omega); omega)
set_option maxHeartbeats 4000000 in
theorem vc_Fa_uniteAt_at_Grtail_Grhead_Fablock_22_9 (x2 : Int) (a5_0 : Int → Int) (k2 : 1 ≤ x2 ∧ x2 ≤ 48) (f26 : BLQ (a5_0) (x2)) : BLQ (a5_0) (x2) := by
  first
    | assumption
  
set_option maxHeartbeats 4000000 in
theorem vc_Fa_uniteAt_at_Grtail_Grhead_Fablock_22_10 (x15 : Int) (x16 : Int) (x17 : Int) (x22 : Int) (x23 : Int) (x29 : Int) (x30 : Int) (x31 : Int) (x32 : Int) (x33 : Int) (a5_0 : Int → Int) (a3_0 : Int → Int) (a4_0 : Int → Int) (k15 : 0 ≤ x15 ∧ x15 ≤ 47) (k16 : 0 ≤ x16 ∧ x16 ≤ 23) (k17 : 0 ≤ x17 ∧ x17 ≤ 23) (k22 : 0 ≤ x22 ∧ x22 ≤ 23) (k23 : 0 ≤ x23 ∧ x23 ≤ 23) (k29 : (-1) ≤ x29 ∧ x29 ≤ 47) (k30 : 0 ≤ x30 ∧ x30 ≤ 47) (k31 : 0 ≤ x31 ∧ x31 ≤ 47) (k32 : 0 ≤ x32 ∧ x32 ≤ 47) (k33 : 0 ≤ x33 ∧ x33 ≤ 47) (f1 : (-1) * x32 + (1 * x33 + 0) ≤ 0) (h3 : x32 = a5_0 (x15)) (f5 : 1 * x30 + ((-1) * x31 + 0) ≤ 0) (h7 : x30 = a5_0 (x15)) (h9 : x29 = a5_0 (x15)) (h15 : x23 = a3_0 (x15)) (h17 : x22 = a4_0 (x15)) (h22 : x17 = a4_0 (x15)) (h24 : x16 = a3_0 (x15)) : (0 ≤ x33) ∧ (x33 ≤ x31) := by
  first
    | omega
    | (skip; (first | subst h3 | skip); (first | subst h7 | skip); (first | subst h9 | skip); (first | subst h15 | skip); (first | subst h17 | skip); (first | subst h22 | skip); (first | subst h24 | skip); have q := ‹BLQ _ _› x15 (by omega) (by omega); omega)
set_option maxHeartbeats 4000000 in
theorem vc_Fa_uniteAt_at_Grtail_Grhead_Fablock_22_11 (x0 : Int) (x2 : Int) (x8 : Int) (x14 : Int) (x15 : Int) (x16 : Int) (x20 : Int) (x22 : Int) (x28 : Int) (x29 : Int) (x30 : Int) (x31 : Int) (x32 : Int) (x33 : Int) (a5_0 : Int → Int) (a3_0 : Int → Int) (a4_0 : Int → Int) (gu : Int) (k0 : 0 ≤ x0 ∧ x0 ≤ 23) (k2 : 1 ≤ x2 ∧ x2 ≤ 48) (k8 : 0 ≤ x8 ∧ x8 ≤ 23) (k14 : 0 ≤ x14 ∧ x14 ≤ 47) (k15 : 0 ≤ x15 ∧ x15 ≤ 47) (k16 : 0 ≤ x16 ∧ x16 ≤ 23) (k20 : 1 ≤ x20 ∧ x20 ≤ 1) (k22 : 0 ≤ x22 ∧ x22 ≤ 23) (k28 : (-1) ≤ x28 ∧ x28 ≤ (-1)) (k29 : (-1) ≤ x29 ∧ x29 ≤ 47) (k30 : 0 ≤ x30 ∧ x30 ≤ 47) (k31 : 0 ≤ x31 ∧ x31 ≤ 47) (k32 : 0 ≤ x32 ∧ x32 ≤ 47) (k33 : 0 ≤ x33 ∧ x33 ≤ 47) (d0 : x8 + 0 ≤ x22 ∧ x22 ≤ x8 + 0) (d1 : x8 + 0 ≤ x16 ∧ x16 ≤ x8 + 0) (d3 : x8 + (-4294967296) ≤ x0 ∧ x0 ≤ x8 + 0) (d6 : x0 + (-4294967296) ≤ x8 ∧ x8 ≤ x0 + 0) (f0 : (-1) * x14 + (1 * x33 + 0) ≤ 0) (f1 : (-1) * x32 + (1 * x33 + 0) ≤ 0) (f2 : (x33 = x14) ∨ (x33 = x32)) (h3 : x32 = a5_0 (x15)) (f4 : 1 * x14 + ((-1) * x31 + 0) ≤ 0) (f5 : 1 * x30 + ((-1) * x31 + 0) ≤ 0) (f6 : (x31 = x14) ∨ (x31 = x30)) (h7 : x30 = a5_0 (x15)) (f8 : x29 ≠ x14) (h9 : x29 = a5_0 (x15)) (f10 : x14 ≠ x28) (h17 : x22 = a4_0 (x15)) (f18 : x20 ≠ 0) (h24 : x16 = a3_0 (x15)) (f25 : x15 < x2) (f27 : UNI (a5_0) (a3_0) (a4_0) (x2) (x0) (x14)) (eu2 : gu = x0) : RLP (a5_0) (a3_0) (a4_0) (x2) (x31) (x33) (gu) := by
  first
    | (rw [show gu = x0 by omega]; exact uni_rlp (e := x15) ‹UNI _ _ _ _ _ _› (by omega) rfl (by omega) (by omega) (by omega) (by first | exact Or.inl (by omega) | exact Or.inr (by omega)) (by omega) (by omega) (by omega) (by omega) (by omega) (by omega))
  
set_option maxHeartbeats 4000000 in
theorem vc_Fa_uniteAt_at_Grtail_Grhead_Fablock_22_12 (x0 : Int) (x1 : Int) (x2 : Int) (x7 : Int) (x8 : Int) (x14 : Int) (x15 : Int) (x16 : Int) (x17 : Int) (x18 : Int) (x19 : Int) (x20 : Int) (x22 : Int) (x23 : Int) (x24 : Int) (x25 : Int) (x26 : Int) (x28 : Int) (x29 : Int) (x30 : Int) (x31 : Int) (x32 : Int) (x33 : Int) (a5_0 : Int → Int) (a3_0 : Int → Int) (a4_0 : Int → Int) (a6_0 : Int → Int) (gu : Int) (gc : Int) (gd : Int) (k0 : 0 ≤ x0 ∧ x0 ≤ 23) (k1 : 0 ≤ x1 ∧ x1 ≤ 16777215) (k2 : 1 ≤ x2 ∧ x2 ≤ 48) (k7 : 0 ≤ x7 ∧ x7 ≤ 25) (k8 : 0 ≤ x8 ∧ x8 ≤ 23) (k14 : 0 ≤ x14 ∧ x14 ≤ 47) (k15 : 0 ≤ x15 ∧ x15 ≤ 47) (k16 : 0 ≤ x16 ∧ x16 ≤ 23) (k17 : 0 ≤ x17 ∧ x17 ≤ 23) (k18 : 0 ≤ x18 ∧ x18 ≤ 16777215) (k19 : 1 ≤ x19 ∧ x19 ≤ 1) (k20 : 1 ≤ x20 ∧ x20 ≤ 1) (k22 : 0 ≤ x22 ∧ x22 ≤ 23) (k23 : 0 ≤ x23 ∧ x23 ≤ 23) (k28 : (-1) ≤ x28 ∧ x28 ≤ (-1)) (k29 : (-1) ≤ x29 ∧ x29 ≤ 47) (k30 : 0 ≤ x30 ∧ x30 ≤ 47) (k31 : 0 ≤ x31 ∧ x31 ≤ 47) (k32 : 0 ≤ x32 ∧ x32 ≤ 47) (k33 : 0 ≤ x33 ∧ x33 ≤ 47) (d0 : x8 + 0 ≤ x22 ∧ x22 ≤ x8 + 0) (d1 : x8 + 0 ≤ x16 ∧ x16 ≤ x8 + 0) (d3 : x8 + (-4294967296) ≤ x0 ∧ x0 ≤ x8 + 0) (d6 : x0 + (-4294967296) ≤ x8 ∧ x8 ≤ x0 + 0) (f0 : (-1) * x14 + (1 * x33 + 0) ≤ 0) (f1 : (-1) * x32 + (1 * x33 + 0) ≤ 0) (f2 : (x33 = x14) ∨ (x33 = x32)) (h3 : x32 = a5_0 (x15)) (f4 : 1 * x14 + ((-1) * x31 + 0) ≤ 0) (f5 : 1 * x30 + ((-1) * x31 + 0) ≤ 0) (f6 : (x31 = x14) ∨ (x31 = x30)) (h7 : x30 = a5_0 (x15)) (f8 : x29 ≠ x14) (h9 : x29 = a5_0 (x15)) (f10 : x14 ≠ x28) (h15 : x23 = a3_0 (x15)) (h17 : x22 = a4_0 (x15)) (f18 : x20 ≠ 0) (f20 : bvp (x20) = bvp (x18) &&& bvp (x19)) (f21 : bvp (x18) = bvp (x1) >>> (x17).toNat) (h22 : x17 = a4_0 (x15)) (h24 : x16 = a3_0 (x15)) (f25 : x15 < x2) (f28 : UN2 (a5_0) (a3_0) (a4_0) (a6_0) (x7) (x2) (x0) (x1) (x14)) (eu2 : gu = x0) (ec2 : gc = x7) (ed2 : gd = x1) : QKP (a5_0) (a3_0) (a4_0) (a6_0) (gc) (x2) (gu) (gd) (x31) (x33) := by
  first
    | (rw [show gu = x0 by omega, show gc = x7 by omega, show gd = x1 by omega]; exact un2_qkp (e := x15) ‹UN2 _ _ _ _ _ _ _ _ _› (by omega) rfl (by omega) (by omega) (by omega) (by first | exact Or.inl ⟨by omega, by omega, by rw [← ‹x17 = a4_0 x15›]; exact (bit_one (s := x1) (t := x18) (c := x20) (v := x17) (one := x19) (by assumption) (by assumption) (by omega) (by omega) (by omega) (by omega)).mpr (by omega)⟩ | exact Or.inr ⟨by omega, by omega, by rw [← ‹x19 = a3_0 x15›]; exact (bit_one (s := x1) (t := x20) (c := x22) (v := x19) (one := x21) (by assumption) (by assumption) (by omega) (by omega) (by omega) (by omega)).mpr (by omega)⟩ | exact Or.inr ⟨by omega, by omega, by rw [← ‹x23 = a3_0 x15›]; exact (bit_one (s := x1) (t := x24) (c := x26) (v := x23) (one := x25) (by assumption) (by assumption) (by omega) (by omega) (by omega) (by omega)).mpr (by omega)⟩) (by omega) (by omega) (by omega) (by omega) (by omega) (by omega))
  
set_option maxHeartbeats 4000000 in
theorem vc_Fa_uniteAt_at_Grtail_Grhead_Fablock_22_13 (x0 : Int) (x15 : Int) (x16 : Int) (x17 : Int) (x22 : Int) (x23 : Int) (x29 : Int) (x30 : Int) (x32 : Int) (a5_0 : Int → Int) (a3_0 : Int → Int) (a4_0 : Int → Int) (gu : Int) (k0 : 0 ≤ x0 ∧ x0 ≤ 23) (k15 : 0 ≤ x15 ∧ x15 ≤ 47) (k16 : 0 ≤ x16 ∧ x16 ≤ 23) (k17 : 0 ≤ x17 ∧ x17 ≤ 23) (k22 : 0 ≤ x22 ∧ x22 ≤ 23) (k23 : 0 ≤ x23 ∧ x23 ≤ 23) (k29 : (-1) ≤ x29 ∧ x29 ≤ 47) (k30 : 0 ≤ x30 ∧ x30 ≤ 47) (k32 : 0 ≤ x32 ∧ x32 ≤ 47) (h3 : x32 = a5_0 (x15)) (h7 : x30 = a5_0 (x15)) (h9 : x29 = a5_0 (x15)) (h15 : x23 = a3_0 (x15)) (h17 : x22 = a4_0 (x15)) (h22 : x17 = a4_0 (x15)) (h24 : x16 = a3_0 (x15)) (eu2 : gu = x0) : gu = x0 := by
  first
    | omega
    | (skip; (first | subst h3 | skip); (first | subst h7 | skip); (first | subst h9 | skip); (first | subst h15 | skip); (first | subst h17 | skip); (first | subst h22 | skip); (first | subst h24 | skip); have q := ‹BLQ _ _› x15 (by omega) (by omega); omega)
set_option maxHeartbeats 4000000 in
theorem vc_Fa_uniteAt_at_Grtail_Grhead_Fablock_22_14 (x15 : Int) (x16 : Int) (x17 : Int) (x22 : Int) (x23 : Int) (x29 : Int) (x30 : Int) (x32 : Int) (x33 : Int) (a5_0 : Int → Int) (a3_0 : Int → Int) (a4_0 : Int → Int) (k15 : 0 ≤ x15 ∧ x15 ≤ 47) (k16 : 0 ≤ x16 ∧ x16 ≤ 23) (k17 : 0 ≤ x17 ∧ x17 ≤ 23) (k22 : 0 ≤ x22 ∧ x22 ≤ 23) (k23 : 0 ≤ x23 ∧ x23 ≤ 23) (k29 : (-1) ≤ x29 ∧ x29 ≤ 47) (k30 : 0 ≤ x30 ∧ x30 ≤ 47) (k32 : 0 ≤ x32 ∧ x32 ≤ 47) (k33 : 0 ≤ x33 ∧ x33 ≤ 47) (h3 : x32 = a5_0 (x15)) (h7 : x30 = a5_0 (x15)) (h9 : x29 = a5_0 (x15)) (h15 : x23 = a3_0 (x15)) (h17 : x22 = a4_0 (x15)) (h22 : x17 = a4_0 (x15)) (h24 : x16 = a3_0 (x15)) : 0 ≤ x33 := by
  first
    | omega
    | (skip; (first | subst h3 | skip); (first | subst h7 | skip); (first | subst h9 | skip); (first | subst h15 | skip); (first | subst h17 | skip); (first | subst h22 | skip); (first | subst h24 | skip); have q := ‹BLQ _ _› x15 (by omega) (by omega); omega)
set_option maxHeartbeats 4000000 in
theorem vc_Fa_uniteAt_at_Grtail_Grhead_Fablock_22_15 (x7 : Int) (x15 : Int) (x16 : Int) (x17 : Int) (x22 : Int) (x23 : Int) (x29 : Int) (x30 : Int) (x32 : Int) (a5_0 : Int → Int) (a3_0 : Int → Int) (a4_0 : Int → Int) (gc : Int) (k7 : 0 ≤ x7 ∧ x7 ≤ 25) (k15 : 0 ≤ x15 ∧ x15 ≤ 47) (k16 : 0 ≤ x16 ∧ x16 ≤ 23) (k17 : 0 ≤ x17 ∧ x17 ≤ 23) (k22 : 0 ≤ x22 ∧ x22 ≤ 23) (k23 : 0 ≤ x23 ∧ x23 ≤ 23) (k29 : (-1) ≤ x29 ∧ x29 ≤ 47) (k30 : 0 ≤ x30 ∧ x30 ≤ 47) (k32 : 0 ≤ x32 ∧ x32 ≤ 47) (h3 : x32 = a5_0 (x15)) (h7 : x30 = a5_0 (x15)) (h9 : x29 = a5_0 (x15)) (h15 : x23 = a3_0 (x15)) (h17 : x22 = a4_0 (x15)) (h22 : x17 = a4_0 (x15)) (h24 : x16 = a3_0 (x15)) (ec2 : gc = x7) : gc = x7 := by
  first
    | omega
    | (skip; (first | subst h3 | skip); (first | subst h7 | skip); (first | subst h9 | skip); (first | subst h15 | skip); (first | subst h17 | skip); (first | subst h22 | skip); (first | subst h24 | skip); have q := ‹BLQ _ _› x15 (by omega) (by omega); omega)
set_option maxHeartbeats 4000000 in
theorem vc_Fa_uniteAt_at_Grtail_Grhead_Fablock_22_16 (x1 : Int) (x15 : Int) (x16 : Int) (x17 : Int) (x22 : Int) (x23 : Int) (x29 : Int) (x30 : Int) (x32 : Int) (a5_0 : Int → Int) (a3_0 : Int → Int) (a4_0 : Int → Int) (gd : Int) (k1 : 0 ≤ x1 ∧ x1 ≤ 16777215) (k15 : 0 ≤ x15 ∧ x15 ≤ 47) (k16 : 0 ≤ x16 ∧ x16 ≤ 23) (k17 : 0 ≤ x17 ∧ x17 ≤ 23) (k22 : 0 ≤ x22 ∧ x22 ≤ 23) (k23 : 0 ≤ x23 ∧ x23 ≤ 23) (k29 : (-1) ≤ x29 ∧ x29 ≤ 47) (k30 : 0 ≤ x30 ∧ x30 ≤ 47) (k32 : 0 ≤ x32 ∧ x32 ≤ 47) (h3 : x32 = a5_0 (x15)) (h7 : x30 = a5_0 (x15)) (h9 : x29 = a5_0 (x15)) (h15 : x23 = a3_0 (x15)) (h17 : x22 = a4_0 (x15)) (h22 : x17 = a4_0 (x15)) (h24 : x16 = a3_0 (x15)) (ed2 : gd = x1) : gd = x1 := by
  first
    | omega
    | (skip; (first | subst h3 | skip); (first | subst h7 | skip); (first | subst h9 | skip); (first | subst h15 | skip); (first | subst h17 | skip); (first | subst h22 | skip); (first | subst h24 | skip); have q := ‹BLQ _ _› x15 (by omega) (by omega); omega)
def o_Fa_uniteAt_at_Grtail_Grhead_Fablock_22 : or_T := (136, 34, [(0, (0, 0, 23, [])), (1, (0, 0, 16777215, [])), (2, (0, 1, 48, [])), (3, (2, 0, 0, [52])), (4, (2, 0, 0, [53])), (5, (2, 0, 0, [38])), (6, (2, 0, 0, [59])), (7, (0, 0, 25, [])), (8, (0, 0, 23, [])), (9, (0, 0, 16777215, [])), (10, (0, 1, 48, [])), (11, (2, 0, 0, [52])), (12, (2, 0, 0, [53])), (13, (2, 0, 0, [38])), (14, (0, 0, 47, [])), (15, (0, 0, 47, [])), (16, (0, 0, 23, [])), (17, (0, 0, 23, [])), (18, (0, 0, 16777215, [])), (19, (0, 1, 1, [])), (20, (0, 1, 1, [])), (22, (0, 0, 23, [])), (23, (0, 0, 23, [])), (24, (0, 0, 16777215, [])), (25, (0, 1, 1, [])), (26, (0, 0, 0, [])), (28, (0, -1, -1, [])), (29, (0, -1, 47, [])), (30, (0, 0, 47, [])), (31, (0, 0, 47, [])), (32, (0, 0, 47, [])), (33, (0, 0, 47, []))], [(23, [14, 33], [0, -1, 1]), (23, [32, 33], [0, -1, 1]), (20, [33, 14, 32], [50, 0, 0, 3, 6, 1, 2, 1, 0, 1, 1, 1, 2, 1, 0, 1, 2]), (10, [32, 13, 15], []), (23, [14, 31], [0, 1, -1]), (23, [30, 31], [0, 1, -1]), (20, [31, 14, 30], [50, 0, 0, 3, 6, 1, 2, 1, 0, 1, 1, 1, 2, 1, 0, 1, 2]), (10, [30, 13, 15], []), (7, [29, 14], [1]), (10, [29, 13, 15], []), (7, [14, 28], [1]), (8, [26], [0]), (12, [26, 24], [2]), (16, [26, 24, 25], [0]), (16, [24, 9, 23], [4]), (10, [23, 11, 15], []), (7, [22, 8], [0]), (10, [22, 12, 15], []), (8, [20], [1]), (12, [20, 18], [2]), (16, [20, 18, 19], [0]), (16, [18, 9, 17], [4]), (10, [17, 12, 15], []), (7, [16, 8], [0]), (10, [16, 11, 15], []), (7, [15, 10], [2]), (20, [13, 10], [61, 1, 566]), (20, [13, 11, 12, 10, 8, 14], [61, 3, 584]), (20, [13, 11, 12, 6, 7, 10, 8, 9, 14], [61, 4, 589]), (24, [0, 8], []), (24, [1, 9], []), (24, [2, 10], []), (24, [3, 11], []), (24, [4, 12], []), (24, [5, 13], [])], [], [(2, 0, 0, [52]), (2, 0, 0, [53]), (0, 0, 24, []), (2, 0, 0, [59]), (0, 0, 25, []), (0, -2147483648, 2147483647, [])], [(24, [3, 34], []), (24, [4, 35], []), (23, [36, 8], [0, 1, -1]), (23, [36, 8], [0, -1, 1]), (24, [6, 37], []), (23, [38, 7], [0, 1, -1]), (23, [38, 7], [0, -1, 1]), (23, [39, 9], [0, 1, -1]), (23, [39, 9], [0, -1, 1]), (20, [13, 10], [61, 1, 566]), (20, [33, 31], [50, 0, 0, 2, 6, 0, 2, 0, 0, 1, 0, 0, 2, 1, 0, 1, 1]), (20, [13, 34, 35, 10, 31, 33, 36], [61, 3, 581]), (20, [13, 34, 35, 37, 38, 10, 36, 39, 31, 33], [61, 4, 590]), (20, [36, 8], [50, 0, 0, 1, 2, 1, 0, 1, 1]), (20, [33], [50, 0, 0, 0, 2, 0, 0, 1, 0]), (20, [38, 7], [50, 0, 0, 1, 2, 1, 0, 1, 1]), (20, [39, 9], [50, 0, 0, 1, 2, 1, 0, 1, 1])], [], [(22, 8, 0, 0), (16, 8, 0, 0), (15, 10, -4294967296, -1), (0, 8, -4294967296, 0), (1, 9, -4294967296, 0), (2, 10, -4294967296, 0), (8, 0, -4294967296, 0), (9, 1, -4294967296, 0), (10, 2, -4294967296, 0), (14, 15, -4294967296, 46), (15, 2, -4294967296, 0), (15, 10, -4294967296, 0)])
theorem oo_Fa_uniteAt_at_Grtail_Grhead_Fablock_22 {kA : Nat → ClassId} : or_ok PRD kA GG o_Fa_uniteAt_at_Grtail_Grhead_Fablock_22 := by
  refine or_mk fun A ta ws vs hD hth hl => ?_
  intro t0 k0 t1 k1 t2 k2 t3 r3 t4 r4 t5 r5 t6 r6 t7 k7 t8 k8 t9 k9 t10 k10 t11 r11 t12 r12 t13 r13 t14 k14 t15 k15 t16 k16 t17 k17 t18 k18 t19 k19 t20 k20 t22 k22 t23 k23 t24 k24 t25 k25 t26 k26 t28 k28 t29 k29 t30 k30 t31 k31 t32 k32 t33 k33 d0 d1 d2 d3 d4 d5 d6 d7 d8 d9 d10 d11 f0 f1 f2 f3 f4 f5 f6 f7 f8 f9 f10 f11 f12 f13 f14 f15 f16 f17 f18 f19 f20 f21 f22 f23 f24 f25 f26 f27 f28 f29 f30 f31 f32 f33 f34
  replace f0 := shm_22 f0
  replace f1 := shm_22 f1
  replace f2 := shm_898 f2
  replace f3 := shm_107 f3
  replace f4 := shm_7 f4
  replace f5 := shm_7 f5
  replace f6 := shm_898 f6
  replace f7 := shm_107 f7
  replace f8 := shm_40 f8
  replace f9 := shm_107 f9
  replace f10 := shm_40 f10
  replace f15 := shm_107 f15
  replace f17 := shm_107 f17
  replace f18 := shm_142 f18
  replace f20 := shm_11 f20
  replace f21 := shm_13 f21
  replace f22 := shm_107 f22
  replace f24 := shm_107 f24
  replace f25 := shm_6 f25
  replace f26 := shm_365 f26
  replace f27 := shm_1193 f27
  replace f28 := shm_1194 f28
  replace f29 := shm_5 f29
  replace f30 := shm_5 f30
  replace f31 := shm_5 f31
  replace f32 := shm_5 f32
  replace f33 := shm_5 f33
  replace f34 := shm_5 f34
  have q8 : n_v vs 8 = n_v vs 0 := f29.symm
  have q9 : n_v vs 9 = n_v vs 1 := f30.symm
  have q10 : n_v vs 10 = n_v vs 2 := f31.symm
  have q11 : n_v vs 11 = n_v vs 3 := f32.symm
  have q12 : n_v vs 12 = n_v vs 4 := f33.symm
  have q13 : n_v vs 13 = n_v vs 5 := f34.symm
  simp only [q13, q9, q11, q8, q12, q10] at f3 f7 f9 f15 f17 f21 f22 f24 f25 f26 f27 f28
  have h3 : v_iv (n_v vs 32) = w_ei ws (v_ad (n_v vs 5)) (v_iv (n_v vs 15)) := f3
  have h7 : v_iv (n_v vs 30) = w_ei ws (v_ad (n_v vs 5)) (v_iv (n_v vs 15)) := f7
  have h9 : v_iv (n_v vs 29) = w_ei ws (v_ad (n_v vs 5)) (v_iv (n_v vs 15)) := f9
  have h15 : v_iv (n_v vs 23) = w_ei ws (v_ad (n_v vs 3)) (v_iv (n_v vs 15)) := f15
  have h17 : v_iv (n_v vs 22) = w_ei ws (v_ad (n_v vs 4)) (v_iv (n_v vs 15)) := f17
  have h22 : v_iv (n_v vs 17) = w_ei ws (v_ad (n_v vs 4)) (v_iv (n_v vs 15)) := f22
  have h24 : v_iv (n_v vs 16) = w_ei ws (v_ad (n_v vs 3)) (v_iv (n_v vs 15)) := f24
  obtain ⟨u, eu, hu⟩ := iv_ex (ta := ta) (lo := 0) (hi := 24) (z := v_iv (n_v vs 0)) (by omega) (by omega) (by omega) (by omega)
  have eu2 : v_iv (Value.int u) = v_iv (n_v vs 0) := eu
  have eu3 : 0 ≤ v_iv (Value.int u) ∧ v_iv (Value.int u) ≤ 24 := tv_rng hu
  obtain ⟨c, ec, hc⟩ := iv_ex (ta := ta) (lo := 0) (hi := 25) (z := v_iv (n_v vs 7)) (by omega) (by omega) (by omega) (by omega)
  have ec2 : v_iv (Value.int c) = v_iv (n_v vs 7) := ec
  have ec3 : 0 ≤ v_iv (Value.int c) ∧ v_iv (Value.int c) ≤ 25 := tv_rng hc
  obtain ⟨d, ed, hd⟩ := iv_ex (ta := ta) (lo := (-2147483648)) (hi := 2147483647) (z := v_iv (n_v vs 1)) (by omega) (by omega) (by omega) (by omega)
  have ed2 : v_iv (Value.int d) = v_iv (n_v vs 1) := ed
  have ed3 : (-2147483648) ≤ v_iv (Value.int d) ∧ v_iv (Value.int d) ≤ 2147483647 := tv_rng hd
  have e_3 : n_v (vs ++ [n_v vs 3, n_v vs 4, Value.int u, n_v vs 6, Value.int c, Value.int d]) 3 = n_v vs 3 := n_v_old (by rw [hl]; decide)
  have e_4 : n_v (vs ++ [n_v vs 3, n_v vs 4, Value.int u, n_v vs 6, Value.int c, Value.int d]) 4 = n_v vs 4 := n_v_old (by rw [hl]; decide)
  have e_6 : n_v (vs ++ [n_v vs 3, n_v vs 4, Value.int u, n_v vs 6, Value.int c, Value.int d]) 6 = n_v vs 6 := n_v_old (by rw [hl]; decide)
  have e_7 : n_v (vs ++ [n_v vs 3, n_v vs 4, Value.int u, n_v vs 6, Value.int c, Value.int d]) 7 = n_v vs 7 := n_v_old (by rw [hl]; decide)
  have e_8 : n_v (vs ++ [n_v vs 3, n_v vs 4, Value.int u, n_v vs 6, Value.int c, Value.int d]) 8 = n_v vs 8 := n_v_old (by rw [hl]; decide)
  have e_9 : n_v (vs ++ [n_v vs 3, n_v vs 4, Value.int u, n_v vs 6, Value.int c, Value.int d]) 9 = n_v vs 9 := n_v_old (by rw [hl]; decide)
  have e_10 : n_v (vs ++ [n_v vs 3, n_v vs 4, Value.int u, n_v vs 6, Value.int c, Value.int d]) 10 = n_v vs 10 := n_v_old (by rw [hl]; decide)
  have e_13 : n_v (vs ++ [n_v vs 3, n_v vs 4, Value.int u, n_v vs 6, Value.int c, Value.int d]) 13 = n_v vs 13 := n_v_old (by rw [hl]; decide)
  have e_31 : n_v (vs ++ [n_v vs 3, n_v vs 4, Value.int u, n_v vs 6, Value.int c, Value.int d]) 31 = n_v vs 31 := n_v_old (by rw [hl]; decide)
  have e_33 : n_v (vs ++ [n_v vs 3, n_v vs 4, Value.int u, n_v vs 6, Value.int c, Value.int d]) 33 = n_v vs 33 := n_v_old (by rw [hl]; decide)
  have e_34 : n_v (vs ++ [n_v vs 3, n_v vs 4, Value.int u, n_v vs 6, Value.int c, Value.int d]) 34 = n_v vs 3 := n_v_newk (k := 0) hl rfl
  have e_35 : n_v (vs ++ [n_v vs 3, n_v vs 4, Value.int u, n_v vs 6, Value.int c, Value.int d]) 35 = n_v vs 4 := n_v_newk (k := 1) hl rfl
  have e_36 : n_v (vs ++ [n_v vs 3, n_v vs 4, Value.int u, n_v vs 6, Value.int c, Value.int d]) 36 = Value.int u := n_v_newk (k := 2) hl rfl
  have e_37 : n_v (vs ++ [n_v vs 3, n_v vs 4, Value.int u, n_v vs 6, Value.int c, Value.int d]) 37 = n_v vs 6 := n_v_newk (k := 3) hl rfl
  have e_38 : n_v (vs ++ [n_v vs 3, n_v vs 4, Value.int u, n_v vs 6, Value.int c, Value.int d]) 38 = Value.int c := n_v_newk (k := 4) hl rfl
  have e_39 : n_v (vs ++ [n_v vs 3, n_v vs 4, Value.int u, n_v vs 6, Value.int c, Value.int d]) 39 = Value.int d := n_v_newk (k := 5) hl rfl
  have nf0 : fc_1 PRD (24, [3, 34], []) ws (vs ++ [n_v vs 3, n_v vs 4, Value.int u, n_v vs 6, Value.int c, Value.int d]) := by
    refine ⟨nf_inA hl rfl, sgq_5 ?_⟩
    · show n_v (vs ++ [n_v vs 3, n_v vs 4, Value.int u, n_v vs 6, Value.int c, Value.int d]) 3 = n_v (vs ++ [n_v vs 3, n_v vs 4, Value.int u, n_v vs 6, Value.int c, Value.int d]) 34
      first | rfl | simp only [e_3, e_34, q8, q9, q10, q11, q12, q13]
  have nf1 : fc_1 PRD (24, [4, 35], []) ws (vs ++ [n_v vs 3, n_v vs 4, Value.int u, n_v vs 6, Value.int c, Value.int d]) := by
    refine ⟨nf_inA hl rfl, sgq_5 ?_⟩
    · show n_v (vs ++ [n_v vs 3, n_v vs 4, Value.int u, n_v vs 6, Value.int c, Value.int d]) 4 = n_v (vs ++ [n_v vs 3, n_v vs 4, Value.int u, n_v vs 6, Value.int c, Value.int d]) 35
      first | rfl | simp only [e_4, e_35, q8, q9, q10, q11, q12, q13]
  have nf2 : fc_1 PRD (23, [36, 8], [0, 1, -1]) ws (vs ++ [n_v vs 3, n_v vs 4, Value.int u, n_v vs 6, Value.int c, Value.int d]) := by
    refine ⟨nf_inA hl rfl, sgq_7 ?_⟩
    · show 1 * v_iv (n_v (vs ++ [n_v vs 3, n_v vs 4, Value.int u, n_v vs 6, Value.int c, Value.int d]) 36) + ((-1) * v_iv (n_v (vs ++ [n_v vs 3, n_v vs 4, Value.int u, n_v vs 6, Value.int c, Value.int d]) 8) + 0) ≤ 0
      simp only [e_8, e_36, q8]
      exact vc_Fa_uniteAt_at_Grtail_Grhead_Fablock_22_2 (v_iv (n_v vs 0)) (v_iv (n_v vs 8)) (v_iv (n_v vs 15)) (v_iv (n_v vs 16)) (v_iv (n_v vs 17)) (v_iv (n_v vs 22)) (v_iv (n_v vs 23)) (v_iv (n_v vs 29)) (v_iv (n_v vs 30)) (v_iv (n_v vs 32)) (w_ei ws (v_ad (n_v vs 5))) (w_ei ws (v_ad (n_v vs 3))) (w_ei ws (v_ad (n_v vs 4))) (v_iv (Value.int u)) k0 k8 k15 k16 k17 k22 k23 k29 k30 k32 d0 d3 d6 h3 h7 h9 h15 h17 h22 h24 eu2
  have nf3 : fc_1 PRD (23, [36, 8], [0, -1, 1]) ws (vs ++ [n_v vs 3, n_v vs 4, Value.int u, n_v vs 6, Value.int c, Value.int d]) := by
    refine ⟨nf_inA hl rfl, sgq_22 ?_⟩
    · show (-1) * v_iv (n_v (vs ++ [n_v vs 3, n_v vs 4, Value.int u, n_v vs 6, Value.int c, Value.int d]) 36) + (1 * v_iv (n_v (vs ++ [n_v vs 3, n_v vs 4, Value.int u, n_v vs 6, Value.int c, Value.int d]) 8) + 0) ≤ 0
      simp only [e_8, e_36, q8]
      exact vc_Fa_uniteAt_at_Grtail_Grhead_Fablock_22_3 (v_iv (n_v vs 0)) (v_iv (n_v vs 8)) (v_iv (n_v vs 15)) (v_iv (n_v vs 16)) (v_iv (n_v vs 17)) (v_iv (n_v vs 22)) (v_iv (n_v vs 23)) (v_iv (n_v vs 29)) (v_iv (n_v vs 30)) (v_iv (n_v vs 32)) (w_ei ws (v_ad (n_v vs 5))) (w_ei ws (v_ad (n_v vs 3))) (w_ei ws (v_ad (n_v vs 4))) (v_iv (Value.int u)) k0 k8 k15 k16 k17 k22 k23 k29 k30 k32 d0 d3 d6 h3 h7 h9 h15 h17 h22 h24 eu2
  have nf4 : fc_1 PRD (24, [6, 37], []) ws (vs ++ [n_v vs 3, n_v vs 4, Value.int u, n_v vs 6, Value.int c, Value.int d]) := by
    refine ⟨nf_inA hl rfl, sgq_5 ?_⟩
    · show n_v (vs ++ [n_v vs 3, n_v vs 4, Value.int u, n_v vs 6, Value.int c, Value.int d]) 6 = n_v (vs ++ [n_v vs 3, n_v vs 4, Value.int u, n_v vs 6, Value.int c, Value.int d]) 37
      first | rfl | simp only [e_6, e_37, q8, q9, q10, q11, q12, q13]
  have nf5 : fc_1 PRD (23, [38, 7], [0, 1, -1]) ws (vs ++ [n_v vs 3, n_v vs 4, Value.int u, n_v vs 6, Value.int c, Value.int d]) := by
    refine ⟨nf_inA hl rfl, sgq_7 ?_⟩
    · show 1 * v_iv (n_v (vs ++ [n_v vs 3, n_v vs 4, Value.int u, n_v vs 6, Value.int c, Value.int d]) 38) + ((-1) * v_iv (n_v (vs ++ [n_v vs 3, n_v vs 4, Value.int u, n_v vs 6, Value.int c, Value.int d]) 7) + 0) ≤ 0
      simp only [e_7, e_38]
      exact vc_Fa_uniteAt_at_Grtail_Grhead_Fablock_22_5 (v_iv (n_v vs 7)) (v_iv (n_v vs 15)) (v_iv (n_v vs 16)) (v_iv (n_v vs 17)) (v_iv (n_v vs 22)) (v_iv (n_v vs 23)) (v_iv (n_v vs 29)) (v_iv (n_v vs 30)) (v_iv (n_v vs 32)) (w_ei ws (v_ad (n_v vs 5))) (w_ei ws (v_ad (n_v vs 3))) (w_ei ws (v_ad (n_v vs 4))) (v_iv (Value.int c)) k7 k15 k16 k17 k22 k23 k29 k30 k32 h3 h7 h9 h15 h17 h22 h24 ec2
  have nf6 : fc_1 PRD (23, [38, 7], [0, -1, 1]) ws (vs ++ [n_v vs 3, n_v vs 4, Value.int u, n_v vs 6, Value.int c, Value.int d]) := by
    refine ⟨nf_inA hl rfl, sgq_22 ?_⟩
    · show (-1) * v_iv (n_v (vs ++ [n_v vs 3, n_v vs 4, Value.int u, n_v vs 6, Value.int c, Value.int d]) 38) + (1 * v_iv (n_v (vs ++ [n_v vs 3, n_v vs 4, Value.int u, n_v vs 6, Value.int c, Value.int d]) 7) + 0) ≤ 0
      simp only [e_7, e_38]
      exact vc_Fa_uniteAt_at_Grtail_Grhead_Fablock_22_6 (v_iv (n_v vs 7)) (v_iv (n_v vs 15)) (v_iv (n_v vs 16)) (v_iv (n_v vs 17)) (v_iv (n_v vs 22)) (v_iv (n_v vs 23)) (v_iv (n_v vs 29)) (v_iv (n_v vs 30)) (v_iv (n_v vs 32)) (w_ei ws (v_ad (n_v vs 5))) (w_ei ws (v_ad (n_v vs 3))) (w_ei ws (v_ad (n_v vs 4))) (v_iv (Value.int c)) k7 k15 k16 k17 k22 k23 k29 k30 k32 h3 h7 h9 h15 h17 h22 h24 ec2
  have nf7 : fc_1 PRD (23, [39, 9], [0, 1, -1]) ws (vs ++ [n_v vs 3, n_v vs 4, Value.int u, n_v vs 6, Value.int c, Value.int d]) := by
    refine ⟨nf_inA hl rfl, sgq_7 ?_⟩
    · show 1 * v_iv (n_v (vs ++ [n_v vs 3, n_v vs 4, Value.int u, n_v vs 6, Value.int c, Value.int d]) 39) + ((-1) * v_iv (n_v (vs ++ [n_v vs 3, n_v vs 4, Value.int u, n_v vs 6, Value.int c, Value.int d]) 9) + 0) ≤ 0
      simp only [e_9, e_39, q9]
      exact vc_Fa_uniteAt_at_Grtail_Grhead_Fablock_22_7 (v_iv (n_v vs 1)) (v_iv (n_v vs 9)) (v_iv (n_v vs 15)) (v_iv (n_v vs 16)) (v_iv (n_v vs 17)) (v_iv (n_v vs 22)) (v_iv (n_v vs 23)) (v_iv (n_v vs 29)) (v_iv (n_v vs 30)) (v_iv (n_v vs 32)) (w_ei ws (v_ad (n_v vs 5))) (w_ei ws (v_ad (n_v vs 3))) (w_ei ws (v_ad (n_v vs 4))) (v_iv (Value.int d)) k1 k9 k15 k16 k17 k22 k23 k29 k30 k32 d4 d7 h3 h7 h9 h15 h17 h22 h24 ed2
  have nf8 : fc_1 PRD (23, [39, 9], [0, -1, 1]) ws (vs ++ [n_v vs 3, n_v vs 4, Value.int u, n_v vs 6, Value.int c, Value.int d]) := by
    refine ⟨nf_inA hl rfl, sgq_22 ?_⟩
    · show (-1) * v_iv (n_v (vs ++ [n_v vs 3, n_v vs 4, Value.int u, n_v vs 6, Value.int c, Value.int d]) 39) + (1 * v_iv (n_v (vs ++ [n_v vs 3, n_v vs 4, Value.int u, n_v vs 6, Value.int c, Value.int d]) 9) + 0) ≤ 0
      simp only [e_9, e_39, q9]
      exact vc_Fa_uniteAt_at_Grtail_Grhead_Fablock_22_8 (v_iv (n_v vs 1)) (v_iv (n_v vs 9)) (v_iv (n_v vs 15)) (v_iv (n_v vs 16)) (v_iv (n_v vs 17)) (v_iv (n_v vs 22)) (v_iv (n_v vs 23)) (v_iv (n_v vs 29)) (v_iv (n_v vs 30)) (v_iv (n_v vs 32)) (w_ei ws (v_ad (n_v vs 5))) (w_ei ws (v_ad (n_v vs 3))) (w_ei ws (v_ad (n_v vs 4))) (v_iv (Value.int d)) k1 k9 k15 k16 k17 k22 k23 k29 k30 k32 d4 d7 h3 h7 h9 h15 h17 h22 h24 ed2
  have nf9 : fc_1 PRD (20, [13, 10], [61, 1, 566]) ws (vs ++ [n_v vs 3, n_v vs 4, Value.int u, n_v vs 6, Value.int c, Value.int d]) := by
    refine ⟨nf_inA hl rfl, sgq_365 ?_⟩
    · show BLQ (w_ei ws (v_ad (n_v (vs ++ [n_v vs 3, n_v vs 4, Value.int u, n_v vs 6, Value.int c, Value.int d]) 13))) (v_iv (n_v (vs ++ [n_v vs 3, n_v vs 4, Value.int u, n_v vs 6, Value.int c, Value.int d]) 10))
      simp only [e_10, e_13, q10, q13]
      exact vc_Fa_uniteAt_at_Grtail_Grhead_Fablock_22_9 (v_iv (n_v vs 2)) (w_ei ws (v_ad (n_v vs 5))) k2 f26
  have nf10 : fc_1 PRD (20, [33, 31], [50, 0, 0, 2, 6, 0, 2, 0, 0, 1, 0, 0, 2, 1, 0, 1, 1]) ws (vs ++ [n_v vs 3, n_v vs 4, Value.int u, n_v vs 6, Value.int c, Value.int d]) := by
    refine ⟨nf_inA hl rfl, sgq_366 ?_⟩
    · show (0 ≤ v_iv (n_v (vs ++ [n_v vs 3, n_v vs 4, Value.int u, n_v vs 6, Value.int c, Value.int d]) 33)) ∧ (v_iv (n_v (vs ++ [n_v vs 3, n_v vs 4, Value.int u, n_v vs 6, Value.int c, Value.int d]) 33) ≤ v_iv (n_v (vs ++ [n_v vs 3, n_v vs 4, Value.int u, n_v vs 6, Value.int c, Value.int d]) 31))
      simp only [e_31, e_33]
      exact vc_Fa_uniteAt_at_Grtail_Grhead_Fablock_22_10 (v_iv (n_v vs 15)) (v_iv (n_v vs 16)) (v_iv (n_v vs 17)) (v_iv (n_v vs 22)) (v_iv (n_v vs 23)) (v_iv (n_v vs 29)) (v_iv (n_v vs 30)) (v_iv (n_v vs 31)) (v_iv (n_v vs 32)) (v_iv (n_v vs 33)) (w_ei ws (v_ad (n_v vs 5))) (w_ei ws (v_ad (n_v vs 3))) (w_ei ws (v_ad (n_v vs 4))) k15 k16 k17 k22 k23 k29 k30 k31 k32 k33 f1 h3 f5 h7 h9 h15 h17 h22 h24
  have nf11 : fc_1 PRD (20, [13, 34, 35, 10, 31, 33, 36], [61, 3, 581]) ws (vs ++ [n_v vs 3, n_v vs 4, Value.int u, n_v vs 6, Value.int c, Value.int d]) := by
    refine ⟨nf_inA hl rfl, sgq_367 ?_⟩
    · show RLP (w_ei ws (v_ad (n_v (vs ++ [n_v vs 3, n_v vs 4, Value.int u, n_v vs 6, Value.int c, Value.int d]) 13))) (w_ei ws (v_ad (n_v (vs ++ [n_v vs 3, n_v vs 4, Value.int u, n_v vs 6, Value.int c, Value.int d]) 34))) (w_ei ws (v_ad (n_v (vs ++ [n_v vs 3, n_v vs 4, Value.int u, n_v vs 6, Value.int c, Value.int d]) 35))) (v_iv (n_v (vs ++ [n_v vs 3, n_v vs 4, Value.int u, n_v vs 6, Value.int c, Value.int d]) 10)) (v_iv (n_v (vs ++ [n_v vs 3, n_v vs 4, Value.int u, n_v vs 6, Value.int c, Value.int d]) 31)) (v_iv (n_v (vs ++ [n_v vs 3, n_v vs 4, Value.int u, n_v vs 6, Value.int c, Value.int d]) 33)) (v_iv (n_v (vs ++ [n_v vs 3, n_v vs 4, Value.int u, n_v vs 6, Value.int c, Value.int d]) 36))
      simp only [e_10, e_13, e_31, e_33, e_34, e_35, e_36, q10, q13]
      exact vc_Fa_uniteAt_at_Grtail_Grhead_Fablock_22_11 (v_iv (n_v vs 0)) (v_iv (n_v vs 2)) (v_iv (n_v vs 8)) (v_iv (n_v vs 14)) (v_iv (n_v vs 15)) (v_iv (n_v vs 16)) (v_iv (n_v vs 20)) (v_iv (n_v vs 22)) (v_iv (n_v vs 28)) (v_iv (n_v vs 29)) (v_iv (n_v vs 30)) (v_iv (n_v vs 31)) (v_iv (n_v vs 32)) (v_iv (n_v vs 33)) (w_ei ws (v_ad (n_v vs 5))) (w_ei ws (v_ad (n_v vs 3))) (w_ei ws (v_ad (n_v vs 4))) (v_iv (Value.int u)) k0 k2 k8 k14 k15 k16 k20 k22 k28 k29 k30 k31 k32 k33 d0 d1 d3 d6 f0 f1 f2 h3 f4 f5 f6 h7 f8 h9 f10 h17 f18 h24 f25 f27 eu2
  have nf12 : fc_1 PRD (20, [13, 34, 35, 37, 38, 10, 36, 39, 31, 33], [61, 4, 590]) ws (vs ++ [n_v vs 3, n_v vs 4, Value.int u, n_v vs 6, Value.int c, Value.int d]) := by
    refine ⟨nf_inA hl rfl, sgq_368 ?_⟩
    · show QKP (w_ei ws (v_ad (n_v (vs ++ [n_v vs 3, n_v vs 4, Value.int u, n_v vs 6, Value.int c, Value.int d]) 13))) (w_ei ws (v_ad (n_v (vs ++ [n_v vs 3, n_v vs 4, Value.int u, n_v vs 6, Value.int c, Value.int d]) 34))) (w_ei ws (v_ad (n_v (vs ++ [n_v vs 3, n_v vs 4, Value.int u, n_v vs 6, Value.int c, Value.int d]) 35))) (w_ei ws (v_ad (n_v (vs ++ [n_v vs 3, n_v vs 4, Value.int u, n_v vs 6, Value.int c, Value.int d]) 37))) (v_iv (n_v (vs ++ [n_v vs 3, n_v vs 4, Value.int u, n_v vs 6, Value.int c, Value.int d]) 38)) (v_iv (n_v (vs ++ [n_v vs 3, n_v vs 4, Value.int u, n_v vs 6, Value.int c, Value.int d]) 10)) (v_iv (n_v (vs ++ [n_v vs 3, n_v vs 4, Value.int u, n_v vs 6, Value.int c, Value.int d]) 36)) (v_iv (n_v (vs ++ [n_v vs 3, n_v vs 4, Value.int u, n_v vs 6, Value.int c, Value.int d]) 39)) (v_iv (n_v (vs ++ [n_v vs 3, n_v vs 4, Value.int u, n_v vs 6, Value.int c, Value.int d]) 31)) (v_iv (n_v (vs ++ [n_v vs 3, n_v vs 4, Value.int u, n_v vs 6, Value.int c, Value.int d]) 33))
      simp only [e_10, e_13, e_31, e_33, e_34, e_35, e_36, e_37, e_38, e_39, q10, q13]
      exact vc_Fa_uniteAt_at_Grtail_Grhead_Fablock_22_12 (v_iv (n_v vs 0)) (v_iv (n_v vs 1)) (v_iv (n_v vs 2)) (v_iv (n_v vs 7)) (v_iv (n_v vs 8)) (v_iv (n_v vs 14)) (v_iv (n_v vs 15)) (v_iv (n_v vs 16)) (v_iv (n_v vs 17)) (v_iv (n_v vs 18)) (v_iv (n_v vs 19)) (v_iv (n_v vs 20)) (v_iv (n_v vs 22)) (v_iv (n_v vs 23)) (v_iv (n_v vs 24)) (v_iv (n_v vs 25)) (v_iv (n_v vs 26)) (v_iv (n_v vs 28)) (v_iv (n_v vs 29)) (v_iv (n_v vs 30)) (v_iv (n_v vs 31)) (v_iv (n_v vs 32)) (v_iv (n_v vs 33)) (w_ei ws (v_ad (n_v vs 5))) (w_ei ws (v_ad (n_v vs 3))) (w_ei ws (v_ad (n_v vs 4))) (w_ei ws (v_ad (n_v vs 6))) (v_iv (Value.int u)) (v_iv (Value.int c)) (v_iv (Value.int d)) k0 k1 k2 k7 k8 k14 k15 k16 k17 k18 k19 k20 k22 k23 k28 k29 k30 k31 k32 k33 d0 d1 d3 d6 f0 f1 f2 h3 f4 f5 f6 h7 f8 h9 f10 h15 h17 f18 f20 f21 h22 h24 f25 f28 eu2 ec2 ed2
  have nf13 : fc_1 PRD (20, [36, 8], [50, 0, 0, 1, 2, 1, 0, 1, 1]) ws (vs ++ [n_v vs 3, n_v vs 4, Value.int u, n_v vs 6, Value.int c, Value.int d]) := by
    refine ⟨nf_inA hl rfl, sgq_48 ?_⟩
    · show v_iv (n_v (vs ++ [n_v vs 3, n_v vs 4, Value.int u, n_v vs 6, Value.int c, Value.int d]) 36) = v_iv (n_v (vs ++ [n_v vs 3, n_v vs 4, Value.int u, n_v vs 6, Value.int c, Value.int d]) 8)
      simp only [e_8, e_36, q8]
      exact vc_Fa_uniteAt_at_Grtail_Grhead_Fablock_22_13 (v_iv (n_v vs 0)) (v_iv (n_v vs 15)) (v_iv (n_v vs 16)) (v_iv (n_v vs 17)) (v_iv (n_v vs 22)) (v_iv (n_v vs 23)) (v_iv (n_v vs 29)) (v_iv (n_v vs 30)) (v_iv (n_v vs 32)) (w_ei ws (v_ad (n_v vs 5))) (w_ei ws (v_ad (n_v vs 3))) (w_ei ws (v_ad (n_v vs 4))) (v_iv (Value.int u)) k0 k15 k16 k17 k22 k23 k29 k30 k32 h3 h7 h9 h15 h17 h22 h24 eu2
  have nf14 : fc_1 PRD (20, [33], [50, 0, 0, 0, 2, 0, 0, 1, 0]) ws (vs ++ [n_v vs 3, n_v vs 4, Value.int u, n_v vs 6, Value.int c, Value.int d]) := by
    refine ⟨nf_inA hl rfl, sgq_722 ?_⟩
    · show 0 ≤ v_iv (n_v (vs ++ [n_v vs 3, n_v vs 4, Value.int u, n_v vs 6, Value.int c, Value.int d]) 33)
      rw [e_33]
      exact vc_Fa_uniteAt_at_Grtail_Grhead_Fablock_22_14 (v_iv (n_v vs 15)) (v_iv (n_v vs 16)) (v_iv (n_v vs 17)) (v_iv (n_v vs 22)) (v_iv (n_v vs 23)) (v_iv (n_v vs 29)) (v_iv (n_v vs 30)) (v_iv (n_v vs 32)) (v_iv (n_v vs 33)) (w_ei ws (v_ad (n_v vs 5))) (w_ei ws (v_ad (n_v vs 3))) (w_ei ws (v_ad (n_v vs 4))) k15 k16 k17 k22 k23 k29 k30 k32 k33 h3 h7 h9 h15 h17 h22 h24
  have nf15 : fc_1 PRD (20, [38, 7], [50, 0, 0, 1, 2, 1, 0, 1, 1]) ws (vs ++ [n_v vs 3, n_v vs 4, Value.int u, n_v vs 6, Value.int c, Value.int d]) := by
    refine ⟨nf_inA hl rfl, sgq_48 ?_⟩
    · show v_iv (n_v (vs ++ [n_v vs 3, n_v vs 4, Value.int u, n_v vs 6, Value.int c, Value.int d]) 38) = v_iv (n_v (vs ++ [n_v vs 3, n_v vs 4, Value.int u, n_v vs 6, Value.int c, Value.int d]) 7)
      simp only [e_7, e_38]
      exact vc_Fa_uniteAt_at_Grtail_Grhead_Fablock_22_15 (v_iv (n_v vs 7)) (v_iv (n_v vs 15)) (v_iv (n_v vs 16)) (v_iv (n_v vs 17)) (v_iv (n_v vs 22)) (v_iv (n_v vs 23)) (v_iv (n_v vs 29)) (v_iv (n_v vs 30)) (v_iv (n_v vs 32)) (w_ei ws (v_ad (n_v vs 5))) (w_ei ws (v_ad (n_v vs 3))) (w_ei ws (v_ad (n_v vs 4))) (v_iv (Value.int c)) k7 k15 k16 k17 k22 k23 k29 k30 k32 h3 h7 h9 h15 h17 h22 h24 ec2
  have nf16 : fc_1 PRD (20, [39, 9], [50, 0, 0, 1, 2, 1, 0, 1, 1]) ws (vs ++ [n_v vs 3, n_v vs 4, Value.int u, n_v vs 6, Value.int c, Value.int d]) := by
    refine ⟨nf_inA hl rfl, sgq_48 ?_⟩
    · show v_iv (n_v (vs ++ [n_v vs 3, n_v vs 4, Value.int u, n_v vs 6, Value.int c, Value.int d]) 39) = v_iv (n_v (vs ++ [n_v vs 3, n_v vs 4, Value.int u, n_v vs 6, Value.int c, Value.int d]) 9)
      simp only [e_9, e_39, q9]
      exact vc_Fa_uniteAt_at_Grtail_Grhead_Fablock_22_16 (v_iv (n_v vs 1)) (v_iv (n_v vs 15)) (v_iv (n_v vs 16)) (v_iv (n_v vs 17)) (v_iv (n_v vs 22)) (v_iv (n_v vs 23)) (v_iv (n_v vs 29)) (v_iv (n_v vs 30)) (v_iv (n_v vs 32)) (w_ei ws (v_ad (n_v vs 5))) (w_ei ws (v_ad (n_v vs 3))) (w_ei ws (v_ad (n_v vs 4))) (v_iv (Value.int d)) k1 k15 k16 k17 k22 k23 k29 k30 k32 h3 h7 h9 h15 h17 h22 h24 ed2
  exact ⟨(fun _ h => (by cases h)), [n_v vs 3, n_v vs 4, Value.int u, n_v vs 6, Value.int c, Value.int d], ag_six t3 t4 hu t6 hc hd, List.forall_mem_cons.mpr ⟨⟨show (24 : Nat) < 100 from by decide, nf0⟩, List.forall_mem_cons.mpr ⟨⟨show (24 : Nat) < 100 from by decide, nf1⟩, List.forall_mem_cons.mpr ⟨⟨show (23 : Nat) < 100 from by decide, nf2⟩, List.forall_mem_cons.mpr ⟨⟨show (23 : Nat) < 100 from by decide, nf3⟩, List.forall_mem_cons.mpr ⟨⟨show (24 : Nat) < 100 from by decide, nf4⟩, List.forall_mem_cons.mpr ⟨⟨show (23 : Nat) < 100 from by decide, nf5⟩, List.forall_mem_cons.mpr ⟨⟨show (23 : Nat) < 100 from by decide, nf6⟩, List.forall_mem_cons.mpr ⟨⟨show (23 : Nat) < 100 from by decide, nf7⟩, List.forall_mem_cons.mpr ⟨⟨show (23 : Nat) < 100 from by decide, nf8⟩, List.forall_mem_cons.mpr ⟨⟨show (20 : Nat) < 100 from by decide, nf9⟩, List.forall_mem_cons.mpr ⟨⟨show (20 : Nat) < 100 from by decide, nf10⟩, List.forall_mem_cons.mpr ⟨⟨show (20 : Nat) < 100 from by decide, nf11⟩, List.forall_mem_cons.mpr ⟨⟨show (20 : Nat) < 100 from by decide, nf12⟩, List.forall_mem_cons.mpr ⟨⟨show (20 : Nat) < 100 from by decide, nf13⟩, List.forall_mem_cons.mpr ⟨⟨show (20 : Nat) < 100 from by decide, nf14⟩, List.forall_mem_cons.mpr ⟨⟨show (20 : Nat) < 100 from by decide, nf15⟩, List.forall_mem_cons.mpr ⟨⟨show (20 : Nat) < 100 from by decide, nf16⟩, (fun _ h => (by cases h))⟩⟩⟩⟩⟩⟩⟩⟩⟩⟩⟩⟩⟩⟩⟩⟩⟩, (fun _ h => (by cases h))⟩
set_option maxHeartbeats 4000000 in
theorem vc_Fa_uniteAt_at_Grtail_Grhead_Fablock_23_r0 (x2 : Int) (x15 : Int) (x16 : Int) (x17 : Int) (x22 : Int) (x23 : Int) (x29 : Int) (a5_0 : Int → Int) (a3_0 : Int → Int) (a4_0 : Int → Int) (k2 : 1 ≤ x2 ∧ x2 ≤ 48) (k15 : 0 ≤ x15 ∧ x15 ≤ 47) (k16 : 0 ≤ x16 ∧ x16 ≤ 23) (k17 : 0 ≤ x17 ∧ x17 ≤ 23) (k22 : 0 ≤ x22 ∧ x22 ≤ 23) (k23 : 0 ≤ x23 ∧ x23 ≤ 23) (k29 : (-1) ≤ x29 ∧ x29 ≤ 47) (h0 : x29 = a5_0 (x15)) (h6 : x23 = a3_0 (x15)) (h8 : x22 = a4_0 (x15)) (h13 : x17 = a4_0 (x15)) (h15 : x16 = a3_0 (x15)) (f16 : x15 < x2) (f17 : BLQ (a5_0) (x2)) : 0 ≤ x29 ∧ x29 ≤ 47 := by
  first
    | omega
    | (skip; (first | subst h0 | skip); (first | subst h6 | skip); (first | subst h8 | skip); (first | subst h13 | skip); (first | subst h15 | skip); have q := ‹BLQ _ _› x15 (by omega) (by omega); omega)
def o_Fa_uniteAt_at_Grtail_Grhead_Fablock_23 : or_T := (90, 30, [(0, (0, 0, 23, [])), (1, (0, 0, 16777215, [])), (2, (0, 1, 48, [])), (3, (2, 0, 0, [52])), (4, (2, 0, 0, [53])), (5, (2, 0, 0, [38])), (6, (2, 0, 0, [59])), (7, (0, 0, 25, [])), (8, (0, 0, 23, [])), (9, (0, 0, 16777215, [])), (10, (0, 1, 48, [])), (11, (2, 0, 0, [52])), (12, (2, 0, 0, [53])), (13, (2, 0, 0, [38])), (14, (0, -1, -1, [])), (15, (0, 0, 47, [])), (16, (0, 0, 23, [])), (17, (0, 0, 23, [])), (18, (0, 0, 16777215, [])), (19, (0, 1, 1, [])), (20, (0, 1, 1, [])), (22, (0, 0, 23, [])), (23, (0, 0, 23, [])), (24, (0, 0, 16777215, [])), (25, (0, 1, 1, [])), (26, (0, 0, 0, [])), (28, (0, -1, -1, [])), (29, (0, -1, 47, []))], [(10, [29, 13, 15], []), (7, [14, 28], [0]), (8, [26], [0]), (12, [26, 24], [2]), (16, [26, 24, 25], [0]), (16, [24, 9, 23], [4]), (10, [23, 11, 15], []), (7, [22, 8], [0]), (10, [22, 12, 15], []), (8, [20], [1]), (12, [20, 18], [2]), (16, [20, 18, 19], [0]), (16, [18, 9, 17], [4]), (10, [17, 12, 15], []), (7, [16, 8], [0]), (10, [16, 11, 15], []), (7, [15, 10], [2]), (20, [13, 10], [61, 1, 566]), (20, [13, 11, 12, 10, 8, 14], [61, 3, 584]), (20, [13, 11, 12, 6, 7, 10, 8, 9, 14], [61, 4, 589]), (24, [0, 8], []), (24, [1, 9], []), (24, [2, 10], []), (24, [3, 11], []), (24, [4, 12], []), (24, [5, 13], [])], [(29, (0, 0, 47, []))], [], [], [], [(22, 8, 0, 0), (16, 8, 0, 0), (15, 10, -4294967296, -1), (0, 8, -4294967296, 0), (1, 9, -4294967296, 0), (2, 10, -4294967296, 0), (8, 0, -4294967296, 0), (9, 1, -4294967296, 0), (10, 2, -4294967296, 0), (15, 2, -4294967296, 0), (15, 10, -4294967296, 0)])
theorem oo_Fa_uniteAt_at_Grtail_Grhead_Fablock_23 {kA : Nat → ClassId} : or_ok PRD kA GG o_Fa_uniteAt_at_Grtail_Grhead_Fablock_23 := by
  refine or_mk fun A ta ws vs hD hth hl => ?_
  intro t0 k0 t1 k1 t2 k2 t3 r3 t4 r4 t5 r5 t6 r6 t7 k7 t8 k8 t9 k9 t10 k10 t11 r11 t12 r12 t13 r13 t14 k14 t15 k15 t16 k16 t17 k17 t18 k18 t19 k19 t20 k20 t22 k22 t23 k23 t24 k24 t25 k25 t26 k26 t28 k28 t29 k29 d0 d1 d2 d3 d4 d5 d6 d7 d8 d9 d10 f0 f1 f2 f3 f4 f5 f6 f7 f8 f9 f10 f11 f12 f13 f14 f15 f16 f17 f18 f19 f20 f21 f22 f23 f24 f25
  replace f0 := shm_107 f0
  replace f6 := shm_107 f6
  replace f8 := shm_107 f8
  replace f13 := shm_107 f13
  replace f15 := shm_107 f15
  replace f16 := shm_6 f16
  replace f17 := shm_365 f17
  replace f22 := shm_5 f22
  replace f23 := shm_5 f23
  replace f24 := shm_5 f24
  replace f25 := shm_5 f25
  have q10 : n_v vs 10 = n_v vs 2 := f22.symm
  have q11 : n_v vs 11 = n_v vs 3 := f23.symm
  have q12 : n_v vs 12 = n_v vs 4 := f24.symm
  have q13 : n_v vs 13 = n_v vs 5 := f25.symm
  simp only [q13, q11, q12, q10] at f0 f6 f8 f13 f15 f16 f17
  have h0 : v_iv (n_v vs 29) = w_ei ws (v_ad (n_v vs 5)) (v_iv (n_v vs 15)) := f0
  have h6 : v_iv (n_v vs 23) = w_ei ws (v_ad (n_v vs 3)) (v_iv (n_v vs 15)) := f6
  have h8 : v_iv (n_v vs 22) = w_ei ws (v_ad (n_v vs 4)) (v_iv (n_v vs 15)) := f8
  have h13 : v_iv (n_v vs 17) = w_ei ws (v_ad (n_v vs 4)) (v_iv (n_v vs 15)) := f13
  have h15 : v_iv (n_v vs 16) = w_ei ws (v_ad (n_v vs 3)) (v_iv (n_v vs 15)) := f15
  have hrf0 : 0 ≤ v_iv (n_v vs 29) ∧ v_iv (n_v vs 29) ≤ 47 := vc_Fa_uniteAt_at_Grtail_Grhead_Fablock_23_r0 (v_iv (n_v vs 2)) (v_iv (n_v vs 15)) (v_iv (n_v vs 16)) (v_iv (n_v vs 17)) (v_iv (n_v vs 22)) (v_iv (n_v vs 23)) (v_iv (n_v vs 29)) (w_ei ws (v_ad (n_v vs 5))) (w_ei ws (v_ad (n_v vs 3))) (w_ei ws (v_ad (n_v vs 4))) k2 k15 k16 k17 k22 k23 k29 h0 h6 h8 h13 h15 f16 f17
  have rf29 : tv_ok ta (0, 0, 47, []) (n_v vs 29) := tv_in t29 (by first | omega | grind) (by first | omega | grind)
  refine ⟨List.forall_mem_cons.mpr ⟨rf29, (fun _ h => (by cases h))⟩, [], trivial, ?_, (fun _ h => (by cases h))⟩
  rw [List.append_nil]
  exact (fun _ h => (by cases h))
set_option maxHeartbeats 4000000 in
theorem vc_Fa_uniteAt_at_Grtail_Grhead_Fablock_24_0 (x0 : Int) (x2 : Int) (x8 : Int) (x14 : Int) (x15 : Int) (x16 : Int) (x22 : Int) (x29 : Int) (x30 : Int) (a5_0 : Int → Int) (a3_0 : Int → Int) (a4_0 : Int → Int) (k0 : 0 ≤ x0 ∧ x0 ≤ 23) (k2 : 1 ≤ x2 ∧ x2 ≤ 48) (k8 : 0 ≤ x8 ∧ x8 ≤ 23) (k14 : (-1) ≤ x14 ∧ x14 ≤ (-1)) (k15 : 0 ≤ x15 ∧ x15 ≤ 47) (k16 : 0 ≤ x16 ∧ x16 ≤ 23) (k22 : 0 ≤ x22 ∧ x22 ≤ 23) (k29 : 0 ≤ x29 ∧ x29 ≤ 47) (k30 : 1 ≤ x30 ∧ x30 ≤ 48) (d0 : x15 + 1 ≤ x30 ∧ x30 ≤ x15 + 1) (d4 : x8 + 0 ≤ x22 ∧ x22 ≤ x8 + 0) (d5 : x8 + 0 ≤ x16 ∧ x16 ≤ x8 + 0) (d7 : x8 + (-4294967296) ≤ x0 ∧ x0 ≤ x8 + 0) (d10 : x0 + (-4294967296) ≤ x8 ∧ x8 ≤ x0 + 0) (h1 : x29 = a5_0 (x15)) (h9 : x22 = a4_0 (x15)) (h16 : x16 = a3_0 (x15)) (f17 : x15 < x2) (f19 : UNI (a5_0) (a3_0) (a4_0) (x2) (x0) (x14)) : UNI (a5_0) (a3_0) (a4_0) (x2) (x0) (x29) := by
  first
    | exact uni_first (e := x15) ‹UNI _ _ _ _ _ _› (by assumption) rfl (by omega) (by omega) (by first | exact Or.inl (by omega) | exact Or.inr (by omega))
set_option maxHeartbeats 4000000 in
theorem vc_Fa_uniteAt_at_Grtail_Grhead_Fablock_24_1 (x0 : Int) (x1 : Int) (x2 : Int) (x7 : Int) (x8 : Int) (x14 : Int) (x15 : Int) (x16 : Int) (x17 : Int) (x18 : Int) (x19 : Int) (x20 : Int) (x22 : Int) (x23 : Int) (x24 : Int) (x25 : Int) (x26 : Int) (x29 : Int) (x30 : Int) (a5_0 : Int → Int) (a3_0 : Int → Int) (a4_0 : Int → Int) (a6_0 : Int → Int) (k0 : 0 ≤ x0 ∧ x0 ≤ 23) (k1 : 0 ≤ x1 ∧ x1 ≤ 16777215) (k2 : 1 ≤ x2 ∧ x2 ≤ 48) (k7 : 0 ≤ x7 ∧ x7 ≤ 25) (k8 : 0 ≤ x8 ∧ x8 ≤ 23) (k14 : (-1) ≤ x14 ∧ x14 ≤ (-1)) (k15 : 0 ≤ x15 ∧ x15 ≤ 47) (k16 : 0 ≤ x16 ∧ x16 ≤ 23) (k17 : 0 ≤ x17 ∧ x17 ≤ 23) (k18 : 0 ≤ x18 ∧ x18 ≤ 16777215) (k19 : 1 ≤ x19 ∧ x19 ≤ 1) (k20 : 1 ≤ x20 ∧ x20 ≤ 1) (k22 : 0 ≤ x22 ∧ x22 ≤ 23) (k23 : 0 ≤ x23 ∧ x23 ≤ 23) (k29 : 0 ≤ x29 ∧ x29 ≤ 47) (k30 : 1 ≤ x30 ∧ x30 ≤ 48) (d0 : x15 + 1 ≤ x30 ∧ x30 ≤ x15 + 1) (d4 : x8 + 0 ≤ x22 ∧ x22 ≤ x8 + 0) (d5 : x8 + 0 ≤ x16 ∧ x16 ≤ x8 + 0) (d7 : x8 + (-4294967296) ≤ x0 ∧ x0 ≤ x8 + 0) (d10 : x0 + (-4294967296) ≤ x8 ∧ x8 ≤ x0 + 0) (h1 : x29 = a5_0 (x15)) (h7 : x23 = a3_0 (x15)) (h9 : x22 = a4_0 (x15)) (f12 : bvp (x20) = bvp (x18) &&& bvp (x19)) (f13 : bvp (x18) = bvp (x1) >>> (x17).toNat) (h14 : x17 = a4_0 (x15)) (h16 : x16 = a3_0 (x15)) (f17 : x15 < x2) (f20 : UN2 (a5_0) (a3_0) (a4_0) (a6_0) (x7) (x2) (x0) (x1) (x14)) : UN2 (a5_0) (a3_0) (a4_0) (a6_0) (x7) (x2) (x0) (x1) (x29) := by
  first
    | exact un2_first (e := x15) ‹UN2 _ _ _ _ _ _ _ _ _› (by assumption) rfl (by omega) (by omega) (by first | exact Or.inl ⟨by omega, by omega, by rw [← ‹x17 = a4_0 x15›]; exact (bit_one (s := x1) (t := x18) (c := x20) (v := x17) (one := x19) (by assumption) (by assumption) (by omega) (by omega) (by omega) (by omega)).mpr (by omega)⟩ | exact Or.inr ⟨by omega, by omega, by rw [← ‹x19 = a3_0 x15›]; exact (bit_one (s := x1) (t := x20) (c := x22) (v := x19) (one := x21) (by assumption) (by assumption) (by omega) (by omega) (by omega) (by omega)).mpr (by omega)⟩ | exact Or.inr ⟨by omega, by omega, by rw [← ‹x23 = a3_0 x15›]; exact (bit_one (s := x1) (t := x24) (c := x26) (v := x23) (one := x25) (by assumption) (by assumption) (by omega) (by omega) (by omega) (by omega)).mpr (by omega)⟩)
def o_Fa_uniteAt_at_Grtail_Grhead_Fablock_24 : or_T := (6, 31, [(0, (0, 0, 23, [])), (1, (0, 0, 16777215, [])), (2, (0, 1, 48, [])), (3, (2, 0, 0, [52])), (4, (2, 0, 0, [53])), (5, (2, 0, 0, [38])), (6, (2, 0, 0, [59])), (7, (0, 0, 25, [])), (8, (0, 0, 23, [])), (9, (0, 0, 16777215, [])), (10, (0, 1, 48, [])), (11, (2, 0, 0, [52])), (12, (2, 0, 0, [53])), (13, (2, 0, 0, [38])), (14, (0, -1, -1, [])), (15, (0, 0, 47, [])), (16, (0, 0, 23, [])), (17, (0, 0, 23, [])), (18, (0, 0, 16777215, [])), (19, (0, 1, 1, [])), (20, (0, 1, 1, [])), (22, (0, 0, 23, [])), (23, (0, 0, 23, [])), (24, (0, 0, 16777215, [])), (25, (0, 1, 1, [])), (26, (0, 0, 0, [])), (28, (0, -1, -1, [])), (29, (0, 0, 47, [])), (30, (0, 1, 48, []))], [(6, [30, 15], [1]), (10, [29, 13, 15], []), (7, [14, 28], [0]), (8, [26], [0]), (12, [26, 24], [2]), (16, [26, 24, 25], [0]), (16, [24, 9, 23], [4]), (10, [23, 11, 15], []), (7, [22, 8], [0]), (10, [22, 12, 15], []), (8, [20], [1]), (12, [20, 18], [2]), (16, [20, 18, 19], [0]), (16, [18, 9, 17], [4]), (10, [17, 12, 15], []), (7, [16, 8], [0]), (10, [16, 11, 15], []), (7, [15, 10], [2]), (20, [13, 10], [61, 1, 566]), (20, [13, 11, 12, 10, 8, 14], [61, 3, 584]), (20, [13, 11, 12, 6, 7, 10, 8, 9, 14], [61, 4, 589]), (24, [0, 8], []), (24, [1, 9], []), (24, [2, 10], []), (24, [3, 11], []), (24, [4, 12], []), (24, [5, 13], [])], [], [], [(20, [13, 11, 12, 10, 8, 29], [61, 3, 584]), (20, [13, 11, 12, 6, 7, 10, 8, 9, 29], [61, 4, 589])], [], [(30, 15, 1, 1), (30, 10, -4294967296, 0), (30, 2, -4294967296, 1), (30, 10, -4294967296, 1), (22, 8, 0, 0), (16, 8, 0, 0), (15, 10, -4294967296, -1), (0, 8, -4294967296, 0), (1, 9, -4294967296, 0), (2, 10, -4294967296, 0), (8, 0, -4294967296, 0), (9, 1, -4294967296, 0), (10, 2, -4294967296, 0), (15, 2, -4294967296, 0), (15, 10, -4294967296, 0)])
theorem oo_Fa_uniteAt_at_Grtail_Grhead_Fablock_24 {kA : Nat → ClassId} : or_ok PRD kA GG o_Fa_uniteAt_at_Grtail_Grhead_Fablock_24 := by
  refine or_mk fun A ta ws vs hD hth hl => ?_
  intro t0 k0 t1 k1 t2 k2 t3 r3 t4 r4 t5 r5 t6 r6 t7 k7 t8 k8 t9 k9 t10 k10 t11 r11 t12 r12 t13 r13 t14 k14 t15 k15 t16 k16 t17 k17 t18 k18 t19 k19 t20 k20 t22 k22 t23 k23 t24 k24 t25 k25 t26 k26 t28 k28 t29 k29 t30 k30 d0 d1 d2 d3 d4 d5 d6 d7 d8 d9 d10 d11 d12 d13 d14 f0 f1 f2 f3 f4 f5 f6 f7 f8 f9 f10 f11 f12 f13 f14 f15 f16 f17 f18 f19 f20 f21 f22 f23 f24 f25 f26
  replace f1 := shm_107 f1
  replace f7 := shm_107 f7
  replace f9 := shm_107 f9
  replace f12 := shm_11 f12
  replace f13 := shm_13 f13
  replace f14 := shm_107 f14
  replace f16 := shm_107 f16
  replace f17 := shm_6 f17
  replace f19 := shm_1193 f19
  replace f20 := shm_1194 f20
  replace f21 := shm_5 f21
  replace f22 := shm_5 f22
  replace f23 := shm_5 f23
  replace f24 := shm_5 f24
  replace f25 := shm_5 f25
  replace f26 := shm_5 f26
  have q8 : n_v vs 8 = n_v vs 0 := f21.symm
  have q9 : n_v vs 9 = n_v vs 1 := f22.symm
  have q10 : n_v vs 10 = n_v vs 2 := f23.symm
  have q11 : n_v vs 11 = n_v vs 3 := f24.symm
  have q12 : n_v vs 12 = n_v vs 4 := f25.symm
  have q13 : n_v vs 13 = n_v vs 5 := f26.symm
  simp only [q13, q9, q11, q8, q12, q10] at f1 f7 f9 f13 f14 f16 f17 f19 f20
  have h1 : v_iv (n_v vs 29) = w_ei ws (v_ad (n_v vs 5)) (v_iv (n_v vs 15)) := f1
  have h7 : v_iv (n_v vs 23) = w_ei ws (v_ad (n_v vs 3)) (v_iv (n_v vs 15)) := f7
  have h9 : v_iv (n_v vs 22) = w_ei ws (v_ad (n_v vs 4)) (v_iv (n_v vs 15)) := f9
  have h14 : v_iv (n_v vs 17) = w_ei ws (v_ad (n_v vs 4)) (v_iv (n_v vs 15)) := f14
  have h16 : v_iv (n_v vs 16) = w_ei ws (v_ad (n_v vs 3)) (v_iv (n_v vs 15)) := f16
  have nf0 : fc_1 PRD (20, [13, 11, 12, 10, 8, 29], [61, 3, 584]) ws (vs) := by
    refine ⟨nf_in hl rfl, sgq_1193 ?_⟩
    · show UNI (w_ei ws (v_ad (n_v vs 13))) (w_ei ws (v_ad (n_v vs 11))) (w_ei ws (v_ad (n_v vs 12))) (v_iv (n_v vs 10)) (v_iv (n_v vs 8)) (v_iv (n_v vs 29))
      simp only [q8, q10, q11, q12, q13]
      exact vc_Fa_uniteAt_at_Grtail_Grhead_Fablock_24_0 (v_iv (n_v vs 0)) (v_iv (n_v vs 2)) (v_iv (n_v vs 8)) (v_iv (n_v vs 14)) (v_iv (n_v vs 15)) (v_iv (n_v vs 16)) (v_iv (n_v vs 22)) (v_iv (n_v vs 29)) (v_iv (n_v vs 30)) (w_ei ws (v_ad (n_v vs 5))) (w_ei ws (v_ad (n_v vs 3))) (w_ei ws (v_ad (n_v vs 4))) k0 k2 k8 k14 k15 k16 k22 k29 k30 d0 d4 d5 d7 d10 h1 h9 h16 f17 f19
  have nf1 : fc_1 PRD (20, [13, 11, 12, 6, 7, 10, 8, 9, 29], [61, 4, 589]) ws (vs) := by
    refine ⟨nf_in hl rfl, sgq_1194 ?_⟩
    · show UN2 (w_ei ws (v_ad (n_v vs 13))) (w_ei ws (v_ad (n_v vs 11))) (w_ei ws (v_ad (n_v vs 12))) (w_ei ws (v_ad (n_v vs 6))) (v_iv (n_v vs 7)) (v_iv (n_v vs 10)) (v_iv (n_v vs 8)) (v_iv (n_v vs 9)) (v_iv (n_v vs 29))
      simp only [q8, q9, q10, q11, q12, q13]
      exact vc_Fa_uniteAt_at_Grtail_Grhead_Fablock_24_1 (v_iv (n_v vs 0)) (v_iv (n_v vs 1)) (v_iv (n_v vs 2)) (v_iv (n_v vs 7)) (v_iv (n_v vs 8)) (v_iv (n_v vs 14)) (v_iv (n_v vs 15)) (v_iv (n_v vs 16)) (v_iv (n_v vs 17)) (v_iv (n_v vs 18)) (v_iv (n_v vs 19)) (v_iv (n_v vs 20)) (v_iv (n_v vs 22)) (v_iv (n_v vs 23)) (v_iv (n_v vs 24)) (v_iv (n_v vs 25)) (v_iv (n_v vs 26)) (v_iv (n_v vs 29)) (v_iv (n_v vs 30)) (w_ei ws (v_ad (n_v vs 5))) (w_ei ws (v_ad (n_v vs 3))) (w_ei ws (v_ad (n_v vs 4))) (w_ei ws (v_ad (n_v vs 6))) k0 k1 k2 k7 k8 k14 k15 k16 k17 k18 k19 k20 k22 k23 k29 k30 d0 d4 d5 d7 d10 h1 h7 h9 f12 f13 h14 h16 f17 f20
  refine ⟨(fun _ h => (by cases h)), [], trivial, ?_, (fun _ h => (by cases h))⟩
  rw [List.append_nil]
  exact List.forall_mem_cons.mpr ⟨⟨show (20 : Nat) < 100 from by decide, nf0⟩, List.forall_mem_cons.mpr ⟨⟨show (20 : Nat) < 100 from by decide, nf1⟩, (fun _ h => (by cases h))⟩⟩
set_option maxHeartbeats 4000000 in
theorem vc_Fa_uniteAt_at_Grtail_Grhead_Fablock_25_r0 (x2 : Int) (x15 : Int) (x16 : Int) (x17 : Int) (x22 : Int) (x23 : Int) (x29 : Int) (x30 : Int) (a5_0 : Int → Int) (a3_0 : Int → Int) (a4_0 : Int → Int) (k2 : 1 ≤ x2 ∧ x2 ≤ 48) (k15 : 0 ≤ x15 ∧ x15 ≤ 47) (k16 : 0 ≤ x16 ∧ x16 ≤ 23) (k17 : 0 ≤ x17 ∧ x17 ≤ 23) (k22 : 0 ≤ x22 ∧ x22 ≤ 23) (k23 : 0 ≤ x23 ∧ x23 ≤ 23) (k29 : (-1) ≤ x29 ∧ x29 ≤ 47) (k30 : (-1) ≤ x30 ∧ x30 ≤ 47) (h0 : x30 = a5_0 (x15)) (h2 : x29 = a5_0 (x15)) (h8 : x23 = a3_0 (x15)) (h10 : x22 = a4_0 (x15)) (h15 : x17 = a4_0 (x15)) (h17 : x16 = a3_0 (x15)) (f18 : x15 < x2) (f19 : BLQ (a5_0) (x2)) : 0 ≤ x30 ∧ x30 ≤ 47 := by
  first
    | omega
    | (skip; (first | subst h0 | skip); (first | subst h2 | skip); (first | subst h8 | skip); (first | subst h10 | skip); (first | subst h15 | skip); (first | subst h17 | skip); have q := ‹BLQ _ _› x15 (by omega) (by omega); omega)
def o_Fa_uniteAt_at_Grtail_Grhead_Fablock_25 : or_T := (112, 31, [(0, (0, 0, 23, [])), (1, (0, 0, 16777215, [])), (2, (0, 1, 48, [])), (3, (2, 0, 0, [52])), (4, (2, 0, 0, [53])), (5, (2, 0, 0, [38])), (6, (2, 0, 0, [59])), (7, (0, 0, 25, [])), (8, (0, 0, 23, [])), (9, (0, 0, 16777215, [])), (10, (0, 1, 48, [])), (11, (2, 0, 0, [52])), (12, (2, 0, 0, [53])), (13, (2, 0, 0, [38])), (14, (0, 0, 47, [])), (15, (0, 0, 47, [])), (16, (0, 0, 23, [])), (17, (0, 0, 23, [])), (18, (0, 0, 16777215, [])), (19, (0, 1, 1, [])), (20, (0, 1, 1, [])), (22, (0, 0, 23, [])), (23, (0, 0, 23, [])), (24, (0, 0, 16777215, [])), (25, (0, 1, 1, [])), (26, (0, 1, 1, [])), (28, (0, -1, -1, [])), (29, (0, -1, 47, [])), (30, (0, -1, 47, []))], [(10, [30, 13, 15], []), (7, [29, 14], [1]), (10, [29, 13, 15], []), (7, [14, 28], [1]), (8, [26], [1]), (12, [26, 24], [2]), (16, [26, 24, 25], [0]), (16, [24, 9, 23], [4]), (10, [23, 11, 15], []), (7, [22, 8], [0]), (10, [22, 12, 15], []), (8, [20], [1]), (12, [20, 18], [2]), (16, [20, 18, 19], [0]), (16, [18, 9, 17], [4]), (10, [17, 12, 15], []), (7, [16, 8], [0]), (10, [16, 11, 15], []), (7, [15, 10], [2]), (20, [13, 10], [61, 1, 566]), (20, [13, 11, 12, 10, 8, 14], [61, 3, 584]), (20, [13, 11, 12, 6, 7, 10, 8, 9, 14], [61, 4, 589]), (24, [0, 8], []), (24, [1, 9], []), (24, [2, 10], []), (24, [3, 11], []), (24, [4, 12], []), (24, [5, 13], [])], [(30, (0, 0, 47, []))], [], [], [], [(22, 8, 0, 0), (16, 8, 0, 0), (15, 10, -4294967296, -1), (0, 8, -4294967296, 0), (1, 9, -4294967296, 0), (2, 10, -4294967296, 0), (8, 0, -4294967296, 0), (9, 1, -4294967296, 0), (10, 2, -4294967296, 0), (14, 15, -4294967296, 46), (15, 2, -4294967296, 0), (15, 10, -4294967296, 0)])
theorem oo_Fa_uniteAt_at_Grtail_Grhead_Fablock_25 {kA : Nat → ClassId} : or_ok PRD kA GG o_Fa_uniteAt_at_Grtail_Grhead_Fablock_25 := by
  refine or_mk fun A ta ws vs hD hth hl => ?_
  intro t0 k0 t1 k1 t2 k2 t3 r3 t4 r4 t5 r5 t6 r6 t7 k7 t8 k8 t9 k9 t10 k10 t11 r11 t12 r12 t13 r13 t14 k14 t15 k15 t16 k16 t17 k17 t18 k18 t19 k19 t20 k20 t22 k22 t23 k23 t24 k24 t25 k25 t26 k26 t28 k28 t29 k29 t30 k30 d0 d1 d2 d3 d4 d5 d6 d7 d8 d9 d10 d11 f0 f1 f2 f3 f4 f5 f6 f7 f8 f9 f10 f11 f12 f13 f14 f15 f16 f17 f18 f19 f20 f21 f22 f23 f24 f25 f26 f27
  replace f0 := shm_107 f0
  replace f2 := shm_107 f2
  replace f8 := shm_107 f8
  replace f10 := shm_107 f10
  replace f15 := shm_107 f15
  replace f17 := shm_107 f17
  replace f18 := shm_6 f18
  replace f19 := shm_365 f19
  replace f24 := shm_5 f24
  replace f25 := shm_5 f25
  replace f26 := shm_5 f26
  replace f27 := shm_5 f27
  have q10 : n_v vs 10 = n_v vs 2 := f24.symm
  have q11 : n_v vs 11 = n_v vs 3 := f25.symm
  have q12 : n_v vs 12 = n_v vs 4 := f26.symm
  have q13 : n_v vs 13 = n_v vs 5 := f27.symm
  simp only [q13, q11, q12, q10] at f0 f2 f8 f10 f15 f17 f18 f19
  have h0 : v_iv (n_v vs 30) = w_ei ws (v_ad (n_v vs 5)) (v_iv (n_v vs 15)) := f0
  have h2 : v_iv (n_v vs 29) = w_ei ws (v_ad (n_v vs 5)) (v_iv (n_v vs 15)) := f2
  have h8 : v_iv (n_v vs 23) = w_ei ws (v_ad (n_v vs 3)) (v_iv (n_v vs 15)) := f8
  have h10 : v_iv (n_v vs 22) = w_ei ws (v_ad (n_v vs 4)) (v_iv (n_v vs 15)) := f10
  have h15 : v_iv (n_v vs 17) = w_ei ws (v_ad (n_v vs 4)) (v_iv (n_v vs 15)) := f15
  have h17 : v_iv (n_v vs 16) = w_ei ws (v_ad (n_v vs 3)) (v_iv (n_v vs 15)) := f17
  have hrf0 : 0 ≤ v_iv (n_v vs 30) ∧ v_iv (n_v vs 30) ≤ 47 := vc_Fa_uniteAt_at_Grtail_Grhead_Fablock_25_r0 (v_iv (n_v vs 2)) (v_iv (n_v vs 15)) (v_iv (n_v vs 16)) (v_iv (n_v vs 17)) (v_iv (n_v vs 22)) (v_iv (n_v vs 23)) (v_iv (n_v vs 29)) (v_iv (n_v vs 30)) (w_ei ws (v_ad (n_v vs 5))) (w_ei ws (v_ad (n_v vs 3))) (w_ei ws (v_ad (n_v vs 4))) k2 k15 k16 k17 k22 k23 k29 k30 h0 h2 h8 h10 h15 h17 f18 f19
  have rf30 : tv_ok ta (0, 0, 47, []) (n_v vs 30) := tv_in t30 (by first | omega | grind) (by first | omega | grind)
  refine ⟨List.forall_mem_cons.mpr ⟨rf30, (fun _ h => (by cases h))⟩, [], trivial, ?_, (fun _ h => (by cases h))⟩
  rw [List.append_nil]
  exact (fun _ h => (by cases h))
set_option maxHeartbeats 4000000 in
theorem vc_Fa_uniteAt_at_Grtail_Grhead_Fablock_26_r0 (x15 : Int) (x16 : Int) (x17 : Int) (x22 : Int) (x23 : Int) (x29 : Int) (x30 : Int) (x32 : Int) (a5_0 : Int → Int) (a3_0 : Int → Int) (a4_0 : Int → Int) (k15 : 0 ≤ x15 ∧ x15 ≤ 47) (k16 : 0 ≤ x16 ∧ x16 ≤ 23) (k17 : 0 ≤ x17 ∧ x17 ≤ 23) (k22 : 0 ≤ x22 ∧ x22 ≤ 23) (k23 : 0 ≤ x23 ∧ x23 ≤ 23) (k29 : (-1) ≤ x29 ∧ x29 ≤ 47) (k30 : 0 ≤ x30 ∧ x30 ≤ 47) (k32 : (-1) ≤ x32 ∧ x32 ≤ 47) (h0 : x32 = a5_0 (x15)) (h4 : x30 = a5_0 (x15)) (h6 : x29 = a5_0 (x15)) (h12 : x23 = a3_0 (x15)) (h14 : x22 = a4_0 (x15)) (h19 : x17 = a4_0 (x15)) (h21 : x16 = a3_0 (x15)) : 0 ≤ x32 ∧ x32 ≤ 47 := by
  first
    | omega
    | (skip; (first | subst h0 | skip); (first | subst h4 | skip); (first | subst h6 | skip); (first | subst h12 | skip); (first | subst h14 | skip); (first | subst h19 | skip); (first | subst h21 | skip); have q := ‹BLQ _ _› x15 (by omega) (by omega); omega)
def o_Fa_uniteAt_at_Grtail_Grhead_Fablock_26 : or_T := (124, 33, [(0, (0, 0, 23, [])), (1, (0, 0, 16777215, [])), (2, (0, 1, 48, [])), (3, (2, 0, 0, [52])), (4, (2, 0, 0, [53])), (5, (2, 0, 0, [38])), (6, (2, 0, 0, [59])), (7, (0, 0, 25, [])), (8, (0, 0, 23, [])), (9, (0, 0, 16777215, [])), (10, (0, 1, 48, [])), (11, (2, 0, 0, [52])), (12, (2, 0, 0, [53])), (13, (2, 0, 0, [38])), (14, (0, 0, 47, [])), (15, (0, 0, 47, [])), (16, (0, 0, 23, [])), (17, (0, 0, 23, [])), (18, (0, 0, 16777215, [])), (19, (0, 1, 1, [])), (20, (0, 1, 1, [])), (22, (0, 0, 23, [])), (23, (0, 0, 23, [])), (24, (0, 0, 16777215, [])), (25, (0, 1, 1, [])), (26, (0, 1, 1, [])), (28, (0, -1, -1, [])), (29, (0, -1, 47, [])), (30, (0, 0, 47, [])), (31, (0, 0, 47, [])), (32, (0, -1, 47, []))], [(10, [32, 13, 15], []), (23, [14, 31], [0, 1, -1]), (23, [30, 31], [0, 1, -1]), (20, [31, 14, 30], [50, 0, 0, 3, 6, 1, 2, 1, 0, 1, 1, 1, 2, 1, 0, 1, 2]), (10, [30, 13, 15], []), (7, [29, 14], [1]), (10, [29, 13, 15], []), (7, [14, 28], [1]), (8, [26], [1]), (12, [26, 24], [2]), (16, [26, 24, 25], [0]), (16, [24, 9, 23], [4]), (10, [23, 11, 15], []), (7, [22, 8], [0]), (10, [22, 12, 15], []), (8, [20], [1]), (12, [20, 18], [2]), (16, [20, 18, 19], [0]), (16, [18, 9, 17], [4]), (10, [17, 12, 15], []), (7, [16, 8], [0]), (10, [16, 11, 15], []), (7, [15, 10], [2]), (20, [13, 10], [61, 1, 566]), (20, [13, 11, 12, 10, 8, 14], [61, 3, 584]), (20, [13, 11, 12, 6, 7, 10, 8, 9, 14], [61, 4, 589]), (24, [0, 8], []), (24, [1, 9], []), (24, [2, 10], []), (24, [3, 11], []), (24, [4, 12], []), (24, [5, 13], [])], [(32, (0, 0, 47, []))], [], [], [], [(22, 8, 0, 0), (16, 8, 0, 0), (15, 10, -4294967296, -1), (0, 8, -4294967296, 0), (1, 9, -4294967296, 0), (2, 10, -4294967296, 0), (8, 0, -4294967296, 0), (9, 1, -4294967296, 0), (10, 2, -4294967296, 0), (14, 15, -4294967296, 46), (15, 2, -4294967296, 0), (15, 10, -4294967296, 0)])
theorem oo_Fa_uniteAt_at_Grtail_Grhead_Fablock_26 {kA : Nat → ClassId} : or_ok PRD kA GG o_Fa_uniteAt_at_Grtail_Grhead_Fablock_26 := by
  refine or_mk fun A ta ws vs hD hth hl => ?_
  intro t0 k0 t1 k1 t2 k2 t3 r3 t4 r4 t5 r5 t6 r6 t7 k7 t8 k8 t9 k9 t10 k10 t11 r11 t12 r12 t13 r13 t14 k14 t15 k15 t16 k16 t17 k17 t18 k18 t19 k19 t20 k20 t22 k22 t23 k23 t24 k24 t25 k25 t26 k26 t28 k28 t29 k29 t30 k30 t31 k31 t32 k32 d0 d1 d2 d3 d4 d5 d6 d7 d8 d9 d10 d11 f0 f1 f2 f3 f4 f5 f6 f7 f8 f9 f10 f11 f12 f13 f14 f15 f16 f17 f18 f19 f20 f21 f22 f23 f24 f25 f26 f27 f28 f29 f30 f31
  replace f0 := shm_107 f0
  replace f4 := shm_107 f4
  replace f6 := shm_107 f6
  replace f12 := shm_107 f12
  replace f14 := shm_107 f14
  replace f19 := shm_107 f19
  replace f21 := shm_107 f21
  replace f29 := shm_5 f29
  replace f30 := shm_5 f30
  replace f31 := shm_5 f31
  have q11 : n_v vs 11 = n_v vs 3 := f29.symm
  have q12 : n_v vs 12 = n_v vs 4 := f30.symm
  have q13 : n_v vs 13 = n_v vs 5 := f31.symm
  simp only [q13, q11, q12] at f0 f4 f6 f12 f14 f19 f21
  have h0 : v_iv (n_v vs 32) = w_ei ws (v_ad (n_v vs 5)) (v_iv (n_v vs 15)) := f0
  have h4 : v_iv (n_v vs 30) = w_ei ws (v_ad (n_v vs 5)) (v_iv (n_v vs 15)) := f4
  have h6 : v_iv (n_v vs 29) = w_ei ws (v_ad (n_v vs 5)) (v_iv (n_v vs 15)) := f6
  have h12 : v_iv (n_v vs 23) = w_ei ws (v_ad (n_v vs 3)) (v_iv (n_v vs 15)) := f12
  have h14 : v_iv (n_v vs 22) = w_ei ws (v_ad (n_v vs 4)) (v_iv (n_v vs 15)) := f14
  have h19 : v_iv (n_v vs 17) = w_ei ws (v_ad (n_v vs 4)) (v_iv (n_v vs 15)) := f19
  have h21 : v_iv (n_v vs 16) = w_ei ws (v_ad (n_v vs 3)) (v_iv (n_v vs 15)) := f21
  have hrf0 : 0 ≤ v_iv (n_v vs 32) ∧ v_iv (n_v vs 32) ≤ 47 := vc_Fa_uniteAt_at_Grtail_Grhead_Fablock_26_r0 (v_iv (n_v vs 15)) (v_iv (n_v vs 16)) (v_iv (n_v vs 17)) (v_iv (n_v vs 22)) (v_iv (n_v vs 23)) (v_iv (n_v vs 29)) (v_iv (n_v vs 30)) (v_iv (n_v vs 32)) (w_ei ws (v_ad (n_v vs 5))) (w_ei ws (v_ad (n_v vs 3))) (w_ei ws (v_ad (n_v vs 4))) k15 k16 k17 k22 k23 k29 k30 k32 h0 h4 h6 h12 h14 h19 h21
  have rf32 : tv_ok ta (0, 0, 47, []) (n_v vs 32) := tv_in t32 (by first | omega | grind) (by first | omega | grind)
  refine ⟨List.forall_mem_cons.mpr ⟨rf32, (fun _ h => (by cases h))⟩, [], trivial, ?_, (fun _ h => (by cases h))⟩
  rw [List.append_nil]
  exact (fun _ h => (by cases h))
set_option maxHeartbeats 4000000 in
theorem vc_Fa_uniteAt_at_Grtail_Grhead_Fablock_27_2 (x0 : Int) (x8 : Int) (x15 : Int) (x16 : Int) (x17 : Int) (x22 : Int) (x23 : Int) (x29 : Int) (x30 : Int) (x32 : Int) (a5_0 : Int → Int) (a3_0 : Int → Int) (a4_0 : Int → Int) (gu : Int) (k0 : 0 ≤ x0 ∧ x0 ≤ 23) (k8 : 0 ≤ x8 ∧ x8 ≤ 23) (k15 : 0 ≤ x15 ∧ x15 ≤ 47) (k16 : 0 ≤ x16 ∧ x16 ≤ 23) (k17 : 0 ≤ x17 ∧ x17 ≤ 23) (k22 : 0 ≤ x22 ∧ x22 ≤ 23) (k23 : 0 ≤ x23 ∧ x23 ≤ 23) (k29 : (-1) ≤ x29 ∧ x29 ≤ 47) (k30 : 0 ≤ x30 ∧ x30 ≤ 47) (k32 : 0 ≤ x32 ∧ x32 ≤ 47) (d0 : x8 + 0 ≤ x22 ∧ x22 ≤ x8 + 0) (d3 : x8 + (-4294967296) ≤ x0 ∧ x0 ≤ x8 + 0) (d6 : x0 + (-4294967296) ≤ x8 ∧ x8 ≤ x0 + 0) (h3 : x32 = a5_0 (x15)) (h7 : x30 = a5_0 (x15)) (h9 : x29 = a5_0 (x15)) (h15 : x23 = a3_0 (x15)) (h17 : x22 = a4_0 (x15)) (h22 : x17 = a4_0 (x15)) (h24 : x16 = a3_0 (x15)) (eu2 : gu = x0) : 1 * gu + ((-1) * x0 + 0) ≤ 0 := by
  first
    | omega
    | (skip; (first | subst h3 | skip); (first | subst h7 | skip); (first | subst h9 | skip); (first | subst h15 | skip); (first | subst h17 | skip); (first | subst h22 | skip); (first | subst h24 | skip); have q := ‹BLQ _ _› x15 (by omega) (by omega); omega)
set_option maxHeartbeats 4000000 in
theorem vc_Fa_uniteAt_at_Grtail_Grhead_Fablock_27_3 (x0 : Int) (x8 : Int) (x15 : Int) (x16 : Int) (x17 : Int) (x22 : Int) (x23 : Int) (x29 : Int) (x30 : Int) (x32 : Int) (a5_0 : Int → Int) (a3_0 : Int → Int) (a4_0 : Int → Int) (gu : Int) (k0 : 0 ≤ x0 ∧ x0 ≤ 23) (k8 : 0 ≤ x8 ∧ x8 ≤ 23) (k15 : 0 ≤ x15 ∧ x15 ≤ 47) (k16 : 0 ≤ x16 ∧ x16 ≤ 23) (k17 : 0 ≤ x17 ∧ x17 ≤ 23) (k22 : 0 ≤ x22 ∧ x22 ≤ 23) (k23 : 0 ≤ x23 ∧ x23 ≤ 23) (k29 : (-1) ≤ x29 ∧ x29 ≤ 47) (k30 : 0 ≤ x30 ∧ x30 ≤ 47) (k32 : 0 ≤ x32 ∧ x32 ≤ 47) (d0 : x8 + 0 ≤ x22 ∧ x22 ≤ x8 + 0) (d3 : x8 + (-4294967296) ≤ x0 ∧ x0 ≤ x8 + 0) (d6 : x0 + (-4294967296) ≤ x8 ∧ x8 ≤ x0 + 0) (h3 : x32 = a5_0 (x15)) (h7 : x30 = a5_0 (x15)) (h9 : x29 = a5_0 (x15)) (h15 : x23 = a3_0 (x15)) (h17 : x22 = a4_0 (x15)) (h22 : x17 = a4_0 (x15)) (h24 : x16 = a3_0 (x15)) (eu2 : gu = x0) : (-1) * gu + (1 * x0 + 0) ≤ 0 := by
  first
    | omega
    | (skip; (first | subst h3 | skip); (first | subst h7 | skip); (first | subst h9 | skip); (first | subst h15 | skip); (first | subst h17 | skip); (first | subst h22 | skip); (first | subst h24 | skip); have q := ‹BLQ _ _› x15 (by omega) (by omega); omega)
set_option maxHeartbeats 4000000 in
theorem vc_Fa_uniteAt_at_Grtail_Grhead_Fablock_27_5 (x7 : Int) (x15 : Int) (x16 : Int) (x17 : Int) (x22 : Int) (x23 : Int) (x29 : Int) (x30 : Int) (x32 : Int) (a5_0 : Int → Int) (a3_0 : Int → Int) (a4_0 : Int → Int) (gc : Int) (k7 : 0 ≤ x7 ∧ x7 ≤ 25) (k15 : 0 ≤ x15 ∧ x15 ≤ 47) (k16 : 0 ≤ x16 ∧ x16 ≤ 23) (k17 : 0 ≤ x17 ∧ x17 ≤ 23) (k22 : 0 ≤ x22 ∧ x22 ≤ 23) (k23 : 0 ≤ x23 ∧ x23 ≤ 23) (k29 : (-1) ≤ x29 ∧ x29 ≤ 47) (k30 : 0 ≤ x30 ∧ x30 ≤ 47) (k32 : 0 ≤ x32 ∧ x32 ≤ 47) (h3 : x32 = a5_0 (x15)) (h7 : x30 = a5_0 (x15)) (h9 : x29 = a5_0 (x15)) (h15 : x23 = a3_0 (x15)) (h17 : x22 = a4_0 (x15)) (h22 : x17 = a4_0 (x15)) (h24 : x16 = a3_0 (x15)) (ec2 : gc = x7) : 1 * gc + ((-1) * x7 + 0) ≤ 0 := by
  first
    | omega
    | (skip; (first | subst h3 | skip); (first | subst h7 | skip); (first | subst h9 | skip); (first | subst h15 | skip); (first | subst h17 | skip); (first | subst h22 | skip); (first | subst h24 | skip); have q := ‹BLQ _ _› x15 (by omega) (by omega); omega)
set_option maxHeartbeats 4000000 in
theorem vc_Fa_uniteAt_at_Grtail_Grhead_Fablock_27_6 (x7 : Int) (x15 : Int) (x16 : Int) (x17 : Int) (x22 : Int) (x23 : Int) (x29 : Int) (x30 : Int) (x32 : Int) (a5_0 : Int → Int) (a3_0 : Int → Int) (a4_0 : Int → Int) (gc : Int) (k7 : 0 ≤ x7 ∧ x7 ≤ 25) (k15 : 0 ≤ x15 ∧ x15 ≤ 47) (k16 : 0 ≤ x16 ∧ x16 ≤ 23) (k17 : 0 ≤ x17 ∧ x17 ≤ 23) (k22 : 0 ≤ x22 ∧ x22 ≤ 23) (k23 : 0 ≤ x23 ∧ x23 ≤ 23) (k29 : (-1) ≤ x29 ∧ x29 ≤ 47) (k30 : 0 ≤ x30 ∧ x30 ≤ 47) (k32 : 0 ≤ x32 ∧ x32 ≤ 47) (h3 : x32 = a5_0 (x15)) (h7 : x30 = a5_0 (x15)) (h9 : x29 = a5_0 (x15)) (h15 : x23 = a3_0 (x15)) (h17 : x22 = a4_0 (x15)) (h22 : x17 = a4_0 (x15)) (h24 : x16 = a3_0 (x15)) (ec2 : gc = x7) : (-1) * gc + (1 * x7 + 0) ≤ 0 := by
  first
    | omega
    | (skip; (first | subst h3 | skip); (first | subst h7 | skip); (first | subst h9 | skip); (first | subst h15 | skip); (first | subst h17 | skip); (first | subst h22 | skip); (first | subst h24 | skip); have q := ‹BLQ _ _› x15 (by omega) (by omega); omega)
set_option maxHeartbeats 4000000 in
theorem vc_Fa_uniteAt_at_Grtail_Grhead_Fablock_27_7 (x1 : Int) (x9 : Int) (x15 : Int) (x16 : Int) (x17 : Int) (x22 : Int) (x23 : Int) (x29 : Int) (x30 : Int) (x32 : Int) (a5_0 : Int → Int) (a3_0 : Int → Int) (a4_0 : Int → Int) (gd : Int) (k1 : 0 ≤ x1 ∧ x1 ≤ 16777215) (k9 : 0 ≤ x9 ∧ x9 ≤ 16777215) (k15 : 0 ≤ x15 ∧ x15 ≤ 47) (k16 : 0 ≤ x16 ∧ x16 ≤ 23) (k17 : 0 ≤ x17 ∧ x17 ≤ 23) (k22 : 0 ≤ x22 ∧ x22 ≤ 23) (k23 : 0 ≤ x23 ∧ x23 ≤ 23) (k29 : (-1) ≤ x29 ∧ x29 ≤ 47) (k30 : 0 ≤ x30 ∧ x30 ≤ 47) (k32 : 0 ≤ x32 ∧ x32 ≤ 47) (d4 : x9 + (-4294967296) ≤ x1 ∧ x1 ≤ x9 + 0) (d7 : x1 + (-4294967296) ≤ x9 ∧ x9 ≤ x1 + 0) (h3 : x32 = a5_0 (x15)) (h7 : x30 = a5_0 (x15)) (h9 : x29 = a5_0 (x15)) (h15 : x23 = a3_0 (x15)) (h17 : x22 = a4_0 (x15)) (h22 : x17 = a4_0 (x15)) (h24 : x16 = a3_0 (x15)) (ed2 : gd = x1) : 1 * gd + ((-1) * x1 + 0) ≤ 0 := by
  first
    | omega
    | (skip; (first | subst h3 | skip); (first | subst h7 | skip); (first | subst h9 | skip); (first | subst h15 | skip); (first | subst h17 | skip); (first | subst h22 | skip); (first | subst h24 | skip); have q := ‹BLQ _ _› x15 (by omega) (by omega); omega)
set_option maxHeartbeats 4000000 in
theorem vc_Fa_uniteAt_at_Grtail_Grhead_Fablock_27_8 (x1 : Int) (x9 : Int) (x15 : Int) (x16 : Int) (x17 : Int) (x22 : Int) (x23 : Int) (x29 : Int) (x30 : Int) (x32 : Int) (a5_0 : Int → Int) (a3_0 : Int → Int) (a4_0 : Int → Int) (gd : Int) (k1 : 0 ≤ x1 ∧ x1 ≤ 16777215) (k9 : 0 ≤ x9 ∧ x9 ≤ 16777215) (k15 : 0 ≤ x15 ∧ x15 ≤ 47) (k16 : 0 ≤ x16 ∧ x16 ≤ 23) (k17 : 0 ≤ x17 ∧ x17 ≤ 23) (k22 : 0 ≤ x22 ∧ x22 ≤ 23) (k23 : 0 ≤ x23 ∧ x23 ≤ 23) (k29 : (-1) ≤ x29 ∧ x29 ≤ 47) (k30 : 0 ≤ x30 ∧ x30 ≤ 47) (k32 : 0 ≤ x32 ∧ x32 ≤ 47) (d4 : x9 + (-4294967296) ≤ x1 ∧ x1 ≤ x9 + 0) (d7 : x1 + (-4294967296) ≤ x9 ∧ x9 ≤ x1 + 0) (h3 : x32 = a5_0 (x15)) (h7 : x30 = a5_0 (x15)) (h9 : x29 = a5_0 (x15)) (h15 : x23 = a3_0 (x15)) (h17 : x22 = a4_0 (x15)) (h22 : x17 = a4_0 (x15)) (h24 : x16 = a3_0 (x15)) (ed2 : gd = x1) : (-1) * gd + (1 * x1 + 0) ≤ 0 := by
  first
    | omega
    | (skip; (first | subst h3 | skip); (first | subst h7 | skip); (first | subst h9 | skip); (first | subst h15 | skip); (first | subst h17 | skip); (first | subst h22 | skip); (first | subst h24 | skip); have q := ‹BLQ _ _› x15 (by omega) (by omega); omega)
set_option maxHeartbeats 4000000 in
theorem vc_Fa_uniteAt_at_Grtail_Grhead_Fablock_27_9 (x2 : Int) (a5_0 : Int → Int) (k2 : 1 ≤ x2 ∧ x2 ≤ 48) (f26 : BLQ (a5_0) (x2)) : BLQ (a5_0) (x2) := by
  first
    | assumption
  
set_option maxHeartbeats 4000000 in
theorem vc_Fa_uniteAt_at_Grtail_Grhead_Fablock_27_10 (x15 : Int) (x16 : Int) (x17 : Int) (x22 : Int) (x23 : Int) (x29 : Int) (x30 : Int) (x31 : Int) (x32 : Int) (x33 : Int) (a5_0 : Int → Int) (a3_0 : Int → Int) (a4_0 : Int → Int) (k15 : 0 ≤ x15 ∧ x15 ≤ 47) (k16 : 0 ≤ x16 ∧ x16 ≤ 23) (k17 : 0 ≤ x17 ∧ x17 ≤ 23) (k22 : 0 ≤ x22 ∧ x22 ≤ 23) (k23 : 0 ≤ x23 ∧ x23 ≤ 23) (k29 : (-1) ≤ x29 ∧ x29 ≤ 47) (k30 : 0 ≤ x30 ∧ x30 ≤ 47) (k31 : 0 ≤ x31 ∧ x31 ≤ 47) (k32 : 0 ≤ x32 ∧ x32 ≤ 47) (k33 : 0 ≤ x33 ∧ x33 ≤ 47) (f1 : (-1) * x32 + (1 * x33 + 0) ≤ 0) (h3 : x32 = a5_0 (x15)) (f5 : 1 * x30 + ((-1) * x31 + 0) ≤ 0) (h7 : x30 = a5_0 (x15)) (h9 : x29 = a5_0 (x15)) (h15 : x23 = a3_0 (x15)) (h17 : x22 = a4_0 (x15)) (h22 : x17 = a4_0 (x15)) (h24 : x16 = a3_0 (x15)) : (0 ≤ x33) ∧ (x33 ≤ x31) := by
  first
    | omega
    | (skip; (first | subst h3 | skip); (first | subst h7 | skip); (first | subst h9 | skip); (first | subst h15 | skip); (first | subst h17 | skip); (first | subst h22 | skip); (first | subst h24 | skip); have q := ‹BLQ _ _› x15 (by omega) (by omega); omega)
set_option maxHeartbeats 4000000 in
theorem vc_Fa_uniteAt_at_Grtail_Grhead_Fablock_27_11 (x0 : Int) (x2 : Int) (x8 : Int) (x14 : Int) (x15 : Int) (x16 : Int) (x20 : Int) (x22 : Int) (x26 : Int) (x28 : Int) (x29 : Int) (x30 : Int) (x31 : Int) (x32 : Int) (x33 : Int) (a5_0 : Int → Int) (a3_0 : Int → Int) (a4_0 : Int → Int) (gu : Int) (k0 : 0 ≤ x0 ∧ x0 ≤ 23) (k2 : 1 ≤ x2 ∧ x2 ≤ 48) (k8 : 0 ≤ x8 ∧ x8 ≤ 23) (k14 : 0 ≤ x14 ∧ x14 ≤ 47) (k15 : 0 ≤ x15 ∧ x15 ≤ 47) (k16 : 0 ≤ x16 ∧ x16 ≤ 23) (k20 : 1 ≤ x20 ∧ x20 ≤ 1) (k22 : 0 ≤ x22 ∧ x22 ≤ 23) (k26 : 1 ≤ x26 ∧ x26 ≤ 1) (k28 : (-1) ≤ x28 ∧ x28 ≤ (-1)) (k29 : (-1) ≤ x29 ∧ x29 ≤ 47) (k30 : 0 ≤ x30 ∧ x30 ≤ 47) (k31 : 0 ≤ x31 ∧ x31 ≤ 47) (k32 : 0 ≤ x32 ∧ x32 ≤ 47) (k33 : 0 ≤ x33 ∧ x33 ≤ 47) (d0 : x8 + 0 ≤ x22 ∧ x22 ≤ x8 + 0) (d1 : x8 + 0 ≤ x16 ∧ x16 ≤ x8 + 0) (d3 : x8 + (-4294967296) ≤ x0 ∧ x0 ≤ x8 + 0) (d6 : x0 + (-4294967296) ≤ x8 ∧ x8 ≤ x0 + 0) (f0 : (-1) * x14 + (1 * x33 + 0) ≤ 0) (f1 : (-1) * x32 + (1 * x33 + 0) ≤ 0) (f2 : (x33 = x14) ∨ (x33 = x32)) (h3 : x32 = a5_0 (x15)) (f4 : 1 * x14 + ((-1) * x31 + 0) ≤ 0) (f5 : 1 * x30 + ((-1) * x31 + 0) ≤ 0) (f6 : (x31 = x14) ∨ (x31 = x30)) (h7 : x30 = a5_0 (x15)) (f8 : x29 ≠ x14) (h9 : x29 = a5_0 (x15)) (f10 : x14 ≠ x28) (f11 : x26 ≠ 0) (h17 : x22 = a4_0 (x15)) (f18 : x20 ≠ 0) (h24 : x16 = a3_0 (x15)) (f25 : x15 < x2) (f27 : UNI (a5_0) (a3_0) (a4_0) (x2) (x0) (x14)) (eu2 : gu = x0) : RLP (a5_0) (a3_0) (a4_0) (x2) (x31) (x33) (gu) := by
  first
    | (rw [show gu = x0 by omega]; exact uni_rlp (e := x15) ‹UNI _ _ _ _ _ _› (by omega) rfl (by omega) (by omega) (by omega) (by first | exact Or.inl (by omega) | exact Or.inr (by omega)) (by omega) (by omega) (by omega) (by omega) (by omega) (by omega))
  
set_option maxHeartbeats 4000000 in
theorem vc_Fa_uniteAt_at_Grtail_Grhead_Fablock_27_12 (x0 : Int) (x1 : Int) (x2 : Int) (x7 : Int) (x8 : Int) (x14 : Int) (x15 : Int) (x16 : Int) (x17 : Int) (x18 : Int) (x19 : Int) (x20 : Int) (x22 : Int) (x23 : Int) (x24 : Int) (x25 : Int) (x26 : Int) (x28 : Int) (x29 : Int) (x30 : Int) (x31 : Int) (x32 : Int) (x33 : Int) (a5_0 : Int → Int) (a3_0 : Int → Int) (a4_0 : Int → Int) (a6_0 : Int → Int) (gu : Int) (gc : Int) (gd : Int) (k0 : 0 ≤ x0 ∧ x0 ≤ 23) (k1 : 0 ≤ x1 ∧ x1 ≤ 16777215) (k2 : 1 ≤ x2 ∧ x2 ≤ 48) (k7 : 0 ≤ x7 ∧ x7 ≤ 25) (k8 : 0 ≤ x8 ∧ x8 ≤ 23) (k14 : 0 ≤ x14 ∧ x14 ≤ 47) (k15 : 0 ≤ x15 ∧ x15 ≤ 47) (k16 : 0 ≤ x16 ∧ x16 ≤ 23) (k17 : 0 ≤ x17 ∧ x17 ≤ 23) (k18 : 0 ≤ x18 ∧ x18 ≤ 16777215) (k19 : 1 ≤ x19 ∧ x19 ≤ 1) (k20 : 1 ≤ x20 ∧ x20 ≤ 1) (k22 : 0 ≤ x22 ∧ x22 ≤ 23) (k23 : 0 ≤ x23 ∧ x23 ≤ 23) (k26 : 1 ≤ x26 ∧ x26 ≤ 1) (k28 : (-1) ≤ x28 ∧ x28 ≤ (-1)) (k29 : (-1) ≤ x29 ∧ x29 ≤ 47) (k30 : 0 ≤ x30 ∧ x30 ≤ 47) (k31 : 0 ≤ x31 ∧ x31 ≤ 47) (k32 : 0 ≤ x32 ∧ x32 ≤ 47) (k33 : 0 ≤ x33 ∧ x33 ≤ 47) (d0 : x8 + 0 ≤ x22 ∧ x22 ≤ x8 + 0) (d1 : x8 + 0 ≤ x16 ∧ x16 ≤ x8 + 0) (d3 : x8 + (-4294967296) ≤ x0 ∧ x0 ≤ x8 + 0) (d6 : x0 + (-4294967296) ≤ x8 ∧ x8 ≤ x0 + 0) (f0 : (-1) * x14 + (1 * x33 + 0) ≤ 0) (f1 : (-1) * x32 + (1 * x33 + 0) ≤ 0) (f2 : (x33 = x14) ∨ (x33 = x32)) (h3 : x32 = a5_0 (x15)) (f4 : 1 * x14 + ((-1) * x31 + 0) ≤ 0) (f5 : 1 * x30 + ((-1) * x31 + 0) ≤ 0) (f6 : (x31 = x14) ∨ (x31 = x30)) (h7 : x30 = a5_0 (x15)) (f8 : x29 ≠ x14) (h9 : x29 = a5_0 (x15)) (f10 : x14 ≠ x28) (f11 : x26 ≠ 0) (h15 : x23 = a3_0 (x15)) (h17 : x22 = a4_0 (x15)) (f18 : x20 ≠ 0) (f20 : bvp (x20) = bvp (x18) &&& bvp (x19)) (f21 : bvp (x18) = bvp (x1) >>> (x17).toNat) (h22 : x17 = a4_0 (x15)) (h24 : x16 = a3_0 (x15)) (f25 : x15 < x2) (f28 : UN2 (a5_0) (a3_0) (a4_0) (a6_0) (x7) (x2) (x0) (x1) (x14)) (eu2 : gu = x0) (ec2 : gc = x7) (ed2 : gd = x1) : QKP (a5_0) (a3_0) (a4_0) (a6_0) (gc) (x2) (gu) (gd) (x31) (x33) := by
  first
    | (rw [show gu = x0 by omega, show gc = x7 by omega, show gd = x1 by omega]; exact un2_qkp (e := x15) ‹UN2 _ _ _ _ _ _ _ _ _› (by omega) rfl (by omega) (by omega) (by omega) (by first | exact Or.inl ⟨by omega, by omega, by rw [← ‹x17 = a4_0 x15›]; exact (bit_one (s := x1) (t := x18) (c := x20) (v := x17) (one := x19) (by assumption) (by assumption) (by omega) (by omega) (by omega) (by omega)).mpr (by omega)⟩ | exact Or.inr ⟨by omega, by omega, by rw [← ‹x19 = a3_0 x15›]; exact (bit_one (s := x1) (t := x20) (c := x22) (v := x19) (one := x21) (by assumption) (by assumption) (by omega) (by omega) (by omega) (by omega)).mpr (by omega)⟩ | exact Or.inr ⟨by omega, by omega, by rw [← ‹x23 = a3_0 x15›]; exact (bit_one (s := x1) (t := x24) (c := x26) (v := x23) (one := x25) (by assumption) (by assumption) (by omega) (by omega) (by omega) (by omega)).mpr (by omega)⟩) (by omega) (by omega) (by omega) (by omega) (by omega) (by omega))
  
set_option maxHeartbeats 4000000 in
theorem vc_Fa_uniteAt_at_Grtail_Grhead_Fablock_27_13 (x0 : Int) (x15 : Int) (x16 : Int) (x17 : Int) (x22 : Int) (x23 : Int) (x29 : Int) (x30 : Int) (x32 : Int) (a5_0 : Int → Int) (a3_0 : Int → Int) (a4_0 : Int → Int) (gu : Int) (k0 : 0 ≤ x0 ∧ x0 ≤ 23) (k15 : 0 ≤ x15 ∧ x15 ≤ 47) (k16 : 0 ≤ x16 ∧ x16 ≤ 23) (k17 : 0 ≤ x17 ∧ x17 ≤ 23) (k22 : 0 ≤ x22 ∧ x22 ≤ 23) (k23 : 0 ≤ x23 ∧ x23 ≤ 23) (k29 : (-1) ≤ x29 ∧ x29 ≤ 47) (k30 : 0 ≤ x30 ∧ x30 ≤ 47) (k32 : 0 ≤ x32 ∧ x32 ≤ 47) (h3 : x32 = a5_0 (x15)) (h7 : x30 = a5_0 (x15)) (h9 : x29 = a5_0 (x15)) (h15 : x23 = a3_0 (x15)) (h17 : x22 = a4_0 (x15)) (h22 : x17 = a4_0 (x15)) (h24 : x16 = a3_0 (x15)) (eu2 : gu = x0) : gu = x0 := by
  first
    | omega
    | (skip; (first | subst h3 | skip); (first | subst h7 | skip); (first | subst h9 | skip); (first | subst h15 | skip); (first | subst h17 | skip); (first | subst h22 | skip); (first | subst h24 | skip); have q := ‹BLQ _ _› x15 (by omega) (by omega); omega)
set_option maxHeartbeats 4000000 in
theorem vc_Fa_uniteAt_at_Grtail_Grhead_Fablock_27_14 (x15 : Int) (x16 : Int) (x17 : Int) (x22 : Int) (x23 : Int) (x29 : Int) (x30 : Int) (x32 : Int) (x33 : Int) (a5_0 : Int → Int) (a3_0 : Int → Int) (a4_0 : Int → Int) (k15 : 0 ≤ x15 ∧ x15 ≤ 47) (k16 : 0 ≤ x16 ∧ x16 ≤ 23) (k17 : 0 ≤ x17 ∧ x17 ≤ 23) (k22 : 0 ≤ x22 ∧ x22 ≤ 23) (k23 : 0 ≤ x23 ∧ x23 ≤ 23) (k29 : (-1) ≤ x29 ∧ x29 ≤ 47) (k30 : 0 ≤ x30 ∧ x30 ≤ 47) (k32 : 0 ≤ x32 ∧ x32 ≤ 47) (k33 : 0 ≤ x33 ∧ x33 ≤ 47) (h3 : x32 = a5_0 (x15)) (h7 : x30 = a5_0 (x15)) (h9 : x29 = a5_0 (x15)) (h15 : x23 = a3_0 (x15)) (h17 : x22 = a4_0 (x15)) (h22 : x17 = a4_0 (x15)) (h24 : x16 = a3_0 (x15)) : 0 ≤ x33 := by
  first
    | omega
    | (skip; (first | subst h3 | skip); (first | subst h7 | skip); (first | subst h9 | skip); (first | subst h15 | skip); (first | subst h17 | skip); (first | subst h22 | skip); (first | subst h24 | skip); have q := ‹BLQ _ _› x15 (by omega) (by omega); omega)
set_option maxHeartbeats 4000000 in
theorem vc_Fa_uniteAt_at_Grtail_Grhead_Fablock_27_15 (x7 : Int) (x15 : Int) (x16 : Int) (x17 : Int) (x22 : Int) (x23 : Int) (x29 : Int) (x30 : Int) (x32 : Int) (a5_0 : Int → Int) (a3_0 : Int → Int) (a4_0 : Int → Int) (gc : Int) (k7 : 0 ≤ x7 ∧ x7 ≤ 25) (k15 : 0 ≤ x15 ∧ x15 ≤ 47) (k16 : 0 ≤ x16 ∧ x16 ≤ 23) (k17 : 0 ≤ x17 ∧ x17 ≤ 23) (k22 : 0 ≤ x22 ∧ x22 ≤ 23) (k23 : 0 ≤ x23 ∧ x23 ≤ 23) (k29 : (-1) ≤ x29 ∧ x29 ≤ 47) (k30 : 0 ≤ x30 ∧ x30 ≤ 47) (k32 : 0 ≤ x32 ∧ x32 ≤ 47) (h3 : x32 = a5_0 (x15)) (h7 : x30 = a5_0 (x15)) (h9 : x29 = a5_0 (x15)) (h15 : x23 = a3_0 (x15)) (h17 : x22 = a4_0 (x15)) (h22 : x17 = a4_0 (x15)) (h24 : x16 = a3_0 (x15)) (ec2 : gc = x7) : gc = x7 := by
  first
    | omega
    | (skip; (first | subst h3 | skip); (first | subst h7 | skip); (first | subst h9 | skip); (first | subst h15 | skip); (first | subst h17 | skip); (first | subst h22 | skip); (first | subst h24 | skip); have q := ‹BLQ _ _› x15 (by omega) (by omega); omega)
set_option maxHeartbeats 4000000 in
theorem vc_Fa_uniteAt_at_Grtail_Grhead_Fablock_27_16 (x1 : Int) (x15 : Int) (x16 : Int) (x17 : Int) (x22 : Int) (x23 : Int) (x29 : Int) (x30 : Int) (x32 : Int) (a5_0 : Int → Int) (a3_0 : Int → Int) (a4_0 : Int → Int) (gd : Int) (k1 : 0 ≤ x1 ∧ x1 ≤ 16777215) (k15 : 0 ≤ x15 ∧ x15 ≤ 47) (k16 : 0 ≤ x16 ∧ x16 ≤ 23) (k17 : 0 ≤ x17 ∧ x17 ≤ 23) (k22 : 0 ≤ x22 ∧ x22 ≤ 23) (k23 : 0 ≤ x23 ∧ x23 ≤ 23) (k29 : (-1) ≤ x29 ∧ x29 ≤ 47) (k30 : 0 ≤ x30 ∧ x30 ≤ 47) (k32 : 0 ≤ x32 ∧ x32 ≤ 47) (h3 : x32 = a5_0 (x15)) (h7 : x30 = a5_0 (x15)) (h9 : x29 = a5_0 (x15)) (h15 : x23 = a3_0 (x15)) (h17 : x22 = a4_0 (x15)) (h22 : x17 = a4_0 (x15)) (h24 : x16 = a3_0 (x15)) (ed2 : gd = x1) : gd = x1 := by
  first
    | omega
    | (skip; (first | subst h3 | skip); (first | subst h7 | skip); (first | subst h9 | skip); (first | subst h15 | skip); (first | subst h17 | skip); (first | subst h22 | skip); (first | subst h24 | skip); have q := ‹BLQ _ _› x15 (by omega) (by omega); omega)
def o_Fa_uniteAt_at_Grtail_Grhead_Fablock_27 : or_T := (136, 34, [(0, (0, 0, 23, [])), (1, (0, 0, 16777215, [])), (2, (0, 1, 48, [])), (3, (2, 0, 0, [52])), (4, (2, 0, 0, [53])), (5, (2, 0, 0, [38])), (6, (2, 0, 0, [59])), (7, (0, 0, 25, [])), (8, (0, 0, 23, [])), (9, (0, 0, 16777215, [])), (10, (0, 1, 48, [])), (11, (2, 0, 0, [52])), (12, (2, 0, 0, [53])), (13, (2, 0, 0, [38])), (14, (0, 0, 47, [])), (15, (0, 0, 47, [])), (16, (0, 0, 23, [])), (17, (0, 0, 23, [])), (18, (0, 0, 16777215, [])), (19, (0, 1, 1, [])), (20, (0, 1, 1, [])), (22, (0, 0, 23, [])), (23, (0, 0, 23, [])), (24, (0, 0, 16777215, [])), (25, (0, 1, 1, [])), (26, (0, 1, 1, [])), (28, (0, -1, -1, [])), (29, (0, -1, 47, [])), (30, (0, 0, 47, [])), (31, (0, 0, 47, [])), (32, (0, 0, 47, [])), (33, (0, 0, 47, []))], [(23, [14, 33], [0, -1, 1]), (23, [32, 33], [0, -1, 1]), (20, [33, 14, 32], [50, 0, 0, 3, 6, 1, 2, 1, 0, 1, 1, 1, 2, 1, 0, 1, 2]), (10, [32, 13, 15], []), (23, [14, 31], [0, 1, -1]), (23, [30, 31], [0, 1, -1]), (20, [31, 14, 30], [50, 0, 0, 3, 6, 1, 2, 1, 0, 1, 1, 1, 2, 1, 0, 1, 2]), (10, [30, 13, 15], []), (7, [29, 14], [1]), (10, [29, 13, 15], []), (7, [14, 28], [1]), (8, [26], [1]), (12, [26, 24], [2]), (16, [26, 24, 25], [0]), (16, [24, 9, 23], [4]), (10, [23, 11, 15], []), (7, [22, 8], [0]), (10, [22, 12, 15], []), (8, [20], [1]), (12, [20, 18], [2]), (16, [20, 18, 19], [0]), (16, [18, 9, 17], [4]), (10, [17, 12, 15], []), (7, [16, 8], [0]), (10, [16, 11, 15], []), (7, [15, 10], [2]), (20, [13, 10], [61, 1, 566]), (20, [13, 11, 12, 10, 8, 14], [61, 3, 584]), (20, [13, 11, 12, 6, 7, 10, 8, 9, 14], [61, 4, 589]), (24, [0, 8], []), (24, [1, 9], []), (24, [2, 10], []), (24, [3, 11], []), (24, [4, 12], []), (24, [5, 13], [])], [], [(2, 0, 0, [52]), (2, 0, 0, [53]), (0, 0, 24, []), (2, 0, 0, [59]), (0, 0, 25, []), (0, -2147483648, 2147483647, [])], [(24, [3, 34], []), (24, [4, 35], []), (23, [36, 8], [0, 1, -1]), (23, [36, 8], [0, -1, 1]), (24, [6, 37], []), (23, [38, 7], [0, 1, -1]), (23, [38, 7], [0, -1, 1]), (23, [39, 9], [0, 1, -1]), (23, [39, 9], [0, -1, 1]), (20, [13, 10], [61, 1, 566]), (20, [33, 31], [50, 0, 0, 2, 6, 0, 2, 0, 0, 1, 0, 0, 2, 1, 0, 1, 1]), (20, [13, 34, 35, 10, 31, 33, 36], [61, 3, 581]), (20, [13, 34, 35, 37, 38, 10, 36, 39, 31, 33], [61, 4, 590]), (20, [36, 8], [50, 0, 0, 1, 2, 1, 0, 1, 1]), (20, [33], [50, 0, 0, 0, 2, 0, 0, 1, 0]), (20, [38, 7], [50, 0, 0, 1, 2, 1, 0, 1, 1]), (20, [39, 9], [50, 0, 0, 1, 2, 1, 0, 1, 1])], [], [(22, 8, 0, 0), (16, 8, 0, 0), (15, 10, -4294967296, -1), (0, 8, -4294967296, 0), (1, 9, -4294967296, 0), (2, 10, -4294967296, 0), (8, 0, -4294967296, 0), (9, 1, -4294967296, 0), (10, 2, -4294967296, 0), (14, 15, -4294967296, 46), (15, 2, -4294967296, 0), (15, 10, -4294967296, 0)])
theorem oo_Fa_uniteAt_at_Grtail_Grhead_Fablock_27 {kA : Nat → ClassId} : or_ok PRD kA GG o_Fa_uniteAt_at_Grtail_Grhead_Fablock_27 := by
  refine or_mk fun A ta ws vs hD hth hl => ?_
  intro t0 k0 t1 k1 t2 k2 t3 r3 t4 r4 t5 r5 t6 r6 t7 k7 t8 k8 t9 k9 t10 k10 t11 r11 t12 r12 t13 r13 t14 k14 t15 k15 t16 k16 t17 k17 t18 k18 t19 k19 t20 k20 t22 k22 t23 k23 t24 k24 t25 k25 t26 k26 t28 k28 t29 k29 t30 k30 t31 k31 t32 k32 t33 k33 d0 d1 d2 d3 d4 d5 d6 d7 d8 d9 d10 d11 f0 f1 f2 f3 f4 f5 f6 f7 f8 f9 f10 f11 f12 f13 f14 f15 f16 f17 f18 f19 f20 f21 f22 f23 f24 f25 f26 f27 f28 f29 f30 f31 f32 f33 f34
  replace f0 := shm_22 f0
  replace f1 := shm_22 f1
  replace f2 := shm_898 f2
  replace f3 := shm_107 f3
  replace f4 := shm_7 f4
  replace f5 := shm_7 f5
  replace f6 := shm_898 f6
  replace f7 := shm_107 f7
  replace f8 := shm_40 f8
  replace f9 := shm_107 f9
  replace f10 := shm_40 f10
  replace f11 := shm_142 f11
  replace f15 := shm_107 f15
  replace f17 := shm_107 f17
  replace f18 := shm_142 f18
  replace f20 := shm_11 f20
  replace f21 := shm_13 f21
  replace f22 := shm_107 f22
  replace f24 := shm_107 f24
  replace f25 := shm_6 f25
  replace f26 := shm_365 f26
  replace f27 := shm_1193 f27
  replace f28 := shm_1194 f28
  replace f29 := shm_5 f29
  replace f30 := shm_5 f30
  replace f31 := shm_5 f31
  replace f32 := shm_5 f32
  replace f33 := shm_5 f33
  replace f34 := shm_5 f34
  have q8 : n_v vs 8 = n_v vs 0 := f29.symm
  have q9 : n_v vs 9 = n_v vs 1 := f30.symm
  have q10 : n_v vs 10 = n_v vs 2 := f31.symm
  have q11 : n_v vs 11 = n_v vs 3 := f32.symm
  have q12 : n_v vs 12 = n_v vs 4 := f33.symm
  have q13 : n_v vs 13 = n_v vs 5 := f34.symm
  simp only [q13, q9, q11, q8, q12, q10] at f3 f7 f9 f15 f17 f21 f22 f24 f25 f26 f27 f28
  have h3 : v_iv (n_v vs 32) = w_ei ws (v_ad (n_v vs 5)) (v_iv (n_v vs 15)) := f3
  have h7 : v_iv (n_v vs 30) = w_ei ws (v_ad (n_v vs 5)) (v_iv (n_v vs 15)) := f7
  have h9 : v_iv (n_v vs 29) = w_ei ws (v_ad (n_v vs 5)) (v_iv (n_v vs 15)) := f9
  have h15 : v_iv (n_v vs 23) = w_ei ws (v_ad (n_v vs 3)) (v_iv (n_v vs 15)) := f15
  have h17 : v_iv (n_v vs 22) = w_ei ws (v_ad (n_v vs 4)) (v_iv (n_v vs 15)) := f17
  have h22 : v_iv (n_v vs 17) = w_ei ws (v_ad (n_v vs 4)) (v_iv (n_v vs 15)) := f22
  have h24 : v_iv (n_v vs 16) = w_ei ws (v_ad (n_v vs 3)) (v_iv (n_v vs 15)) := f24
  obtain ⟨u, eu, hu⟩ := iv_ex (ta := ta) (lo := 0) (hi := 24) (z := v_iv (n_v vs 0)) (by omega) (by omega) (by omega) (by omega)
  have eu2 : v_iv (Value.int u) = v_iv (n_v vs 0) := eu
  have eu3 : 0 ≤ v_iv (Value.int u) ∧ v_iv (Value.int u) ≤ 24 := tv_rng hu
  obtain ⟨c, ec, hc⟩ := iv_ex (ta := ta) (lo := 0) (hi := 25) (z := v_iv (n_v vs 7)) (by omega) (by omega) (by omega) (by omega)
  have ec2 : v_iv (Value.int c) = v_iv (n_v vs 7) := ec
  have ec3 : 0 ≤ v_iv (Value.int c) ∧ v_iv (Value.int c) ≤ 25 := tv_rng hc
  obtain ⟨d, ed, hd⟩ := iv_ex (ta := ta) (lo := (-2147483648)) (hi := 2147483647) (z := v_iv (n_v vs 1)) (by omega) (by omega) (by omega) (by omega)
  have ed2 : v_iv (Value.int d) = v_iv (n_v vs 1) := ed
  have ed3 : (-2147483648) ≤ v_iv (Value.int d) ∧ v_iv (Value.int d) ≤ 2147483647 := tv_rng hd
  have e_3 : n_v (vs ++ [n_v vs 3, n_v vs 4, Value.int u, n_v vs 6, Value.int c, Value.int d]) 3 = n_v vs 3 := n_v_old (by rw [hl]; decide)
  have e_4 : n_v (vs ++ [n_v vs 3, n_v vs 4, Value.int u, n_v vs 6, Value.int c, Value.int d]) 4 = n_v vs 4 := n_v_old (by rw [hl]; decide)
  have e_6 : n_v (vs ++ [n_v vs 3, n_v vs 4, Value.int u, n_v vs 6, Value.int c, Value.int d]) 6 = n_v vs 6 := n_v_old (by rw [hl]; decide)
  have e_7 : n_v (vs ++ [n_v vs 3, n_v vs 4, Value.int u, n_v vs 6, Value.int c, Value.int d]) 7 = n_v vs 7 := n_v_old (by rw [hl]; decide)
  have e_8 : n_v (vs ++ [n_v vs 3, n_v vs 4, Value.int u, n_v vs 6, Value.int c, Value.int d]) 8 = n_v vs 8 := n_v_old (by rw [hl]; decide)
  have e_9 : n_v (vs ++ [n_v vs 3, n_v vs 4, Value.int u, n_v vs 6, Value.int c, Value.int d]) 9 = n_v vs 9 := n_v_old (by rw [hl]; decide)
  have e_10 : n_v (vs ++ [n_v vs 3, n_v vs 4, Value.int u, n_v vs 6, Value.int c, Value.int d]) 10 = n_v vs 10 := n_v_old (by rw [hl]; decide)
  have e_13 : n_v (vs ++ [n_v vs 3, n_v vs 4, Value.int u, n_v vs 6, Value.int c, Value.int d]) 13 = n_v vs 13 := n_v_old (by rw [hl]; decide)
  have e_31 : n_v (vs ++ [n_v vs 3, n_v vs 4, Value.int u, n_v vs 6, Value.int c, Value.int d]) 31 = n_v vs 31 := n_v_old (by rw [hl]; decide)
  have e_33 : n_v (vs ++ [n_v vs 3, n_v vs 4, Value.int u, n_v vs 6, Value.int c, Value.int d]) 33 = n_v vs 33 := n_v_old (by rw [hl]; decide)
  have e_34 : n_v (vs ++ [n_v vs 3, n_v vs 4, Value.int u, n_v vs 6, Value.int c, Value.int d]) 34 = n_v vs 3 := n_v_newk (k := 0) hl rfl
  have e_35 : n_v (vs ++ [n_v vs 3, n_v vs 4, Value.int u, n_v vs 6, Value.int c, Value.int d]) 35 = n_v vs 4 := n_v_newk (k := 1) hl rfl
  have e_36 : n_v (vs ++ [n_v vs 3, n_v vs 4, Value.int u, n_v vs 6, Value.int c, Value.int d]) 36 = Value.int u := n_v_newk (k := 2) hl rfl
  have e_37 : n_v (vs ++ [n_v vs 3, n_v vs 4, Value.int u, n_v vs 6, Value.int c, Value.int d]) 37 = n_v vs 6 := n_v_newk (k := 3) hl rfl
  have e_38 : n_v (vs ++ [n_v vs 3, n_v vs 4, Value.int u, n_v vs 6, Value.int c, Value.int d]) 38 = Value.int c := n_v_newk (k := 4) hl rfl
  have e_39 : n_v (vs ++ [n_v vs 3, n_v vs 4, Value.int u, n_v vs 6, Value.int c, Value.int d]) 39 = Value.int d := n_v_newk (k := 5) hl rfl
  have nf0 : fc_1 PRD (24, [3, 34], []) ws (vs ++ [n_v vs 3, n_v vs 4, Value.int u, n_v vs 6, Value.int c, Value.int d]) := by
    refine ⟨nf_inA hl rfl, sgq_5 ?_⟩
    · show n_v (vs ++ [n_v vs 3, n_v vs 4, Value.int u, n_v vs 6, Value.int c, Value.int d]) 3 = n_v (vs ++ [n_v vs 3, n_v vs 4, Value.int u, n_v vs 6, Value.int c, Value.int d]) 34
      first | rfl | simp only [e_3, e_34, q8, q9, q10, q11, q12, q13]
  have nf1 : fc_1 PRD (24, [4, 35], []) ws (vs ++ [n_v vs 3, n_v vs 4, Value.int u, n_v vs 6, Value.int c, Value.int d]) := by
    refine ⟨nf_inA hl rfl, sgq_5 ?_⟩
    · show n_v (vs ++ [n_v vs 3, n_v vs 4, Value.int u, n_v vs 6, Value.int c, Value.int d]) 4 = n_v (vs ++ [n_v vs 3, n_v vs 4, Value.int u, n_v vs 6, Value.int c, Value.int d]) 35
      first | rfl | simp only [e_4, e_35, q8, q9, q10, q11, q12, q13]
  have nf2 : fc_1 PRD (23, [36, 8], [0, 1, -1]) ws (vs ++ [n_v vs 3, n_v vs 4, Value.int u, n_v vs 6, Value.int c, Value.int d]) := by
    refine ⟨nf_inA hl rfl, sgq_7 ?_⟩
    · show 1 * v_iv (n_v (vs ++ [n_v vs 3, n_v vs 4, Value.int u, n_v vs 6, Value.int c, Value.int d]) 36) + ((-1) * v_iv (n_v (vs ++ [n_v vs 3, n_v vs 4, Value.int u, n_v vs 6, Value.int c, Value.int d]) 8) + 0) ≤ 0
      simp only [e_8, e_36, q8]
      exact vc_Fa_uniteAt_at_Grtail_Grhead_Fablock_27_2 (v_iv (n_v vs 0)) (v_iv (n_v vs 8)) (v_iv (n_v vs 15)) (v_iv (n_v vs 16)) (v_iv (n_v vs 17)) (v_iv (n_v vs 22)) (v_iv (n_v vs 23)) (v_iv (n_v vs 29)) (v_iv (n_v vs 30)) (v_iv (n_v vs 32)) (w_ei ws (v_ad (n_v vs 5))) (w_ei ws (v_ad (n_v vs 3))) (w_ei ws (v_ad (n_v vs 4))) (v_iv (Value.int u)) k0 k8 k15 k16 k17 k22 k23 k29 k30 k32 d0 d3 d6 h3 h7 h9 h15 h17 h22 h24 eu2
  have nf3 : fc_1 PRD (23, [36, 8], [0, -1, 1]) ws (vs ++ [n_v vs 3, n_v vs 4, Value.int u, n_v vs 6, Value.int c, Value.int d]) := by
    refine ⟨nf_inA hl rfl, sgq_22 ?_⟩
    · show (-1) * v_iv (n_v (vs ++ [n_v vs 3, n_v vs 4, Value.int u, n_v vs 6, Value.int c, Value.int d]) 36) + (1 * v_iv (n_v (vs ++ [n_v vs 3, n_v vs 4, Value.int u, n_v vs 6, Value.int c, Value.int d]) 8) + 0) ≤ 0
      simp only [e_8, e_36, q8]
      exact vc_Fa_uniteAt_at_Grtail_Grhead_Fablock_27_3 (v_iv (n_v vs 0)) (v_iv (n_v vs 8)) (v_iv (n_v vs 15)) (v_iv (n_v vs 16)) (v_iv (n_v vs 17)) (v_iv (n_v vs 22)) (v_iv (n_v vs 23)) (v_iv (n_v vs 29)) (v_iv (n_v vs 30)) (v_iv (n_v vs 32)) (w_ei ws (v_ad (n_v vs 5))) (w_ei ws (v_ad (n_v vs 3))) (w_ei ws (v_ad (n_v vs 4))) (v_iv (Value.int u)) k0 k8 k15 k16 k17 k22 k23 k29 k30 k32 d0 d3 d6 h3 h7 h9 h15 h17 h22 h24 eu2
  have nf4 : fc_1 PRD (24, [6, 37], []) ws (vs ++ [n_v vs 3, n_v vs 4, Value.int u, n_v vs 6, Value.int c, Value.int d]) := by
    refine ⟨nf_inA hl rfl, sgq_5 ?_⟩
    · show n_v (vs ++ [n_v vs 3, n_v vs 4, Value.int u, n_v vs 6, Value.int c, Value.int d]) 6 = n_v (vs ++ [n_v vs 3, n_v vs 4, Value.int u, n_v vs 6, Value.int c, Value.int d]) 37
      first | rfl | simp only [e_6, e_37, q8, q9, q10, q11, q12, q13]
  have nf5 : fc_1 PRD (23, [38, 7], [0, 1, -1]) ws (vs ++ [n_v vs 3, n_v vs 4, Value.int u, n_v vs 6, Value.int c, Value.int d]) := by
    refine ⟨nf_inA hl rfl, sgq_7 ?_⟩
    · show 1 * v_iv (n_v (vs ++ [n_v vs 3, n_v vs 4, Value.int u, n_v vs 6, Value.int c, Value.int d]) 38) + ((-1) * v_iv (n_v (vs ++ [n_v vs 3, n_v vs 4, Value.int u, n_v vs 6, Value.int c, Value.int d]) 7) + 0) ≤ 0
      simp only [e_7, e_38]
      exact vc_Fa_uniteAt_at_Grtail_Grhead_Fablock_27_5 (v_iv (n_v vs 7)) (v_iv (n_v vs 15)) (v_iv (n_v vs 16)) (v_iv (n_v vs 17)) (v_iv (n_v vs 22)) (v_iv (n_v vs 23)) (v_iv (n_v vs 29)) (v_iv (n_v vs 30)) (v_iv (n_v vs 32)) (w_ei ws (v_ad (n_v vs 5))) (w_ei ws (v_ad (n_v vs 3))) (w_ei ws (v_ad (n_v vs 4))) (v_iv (Value.int c)) k7 k15 k16 k17 k22 k23 k29 k30 k32 h3 h7 h9 h15 h17 h22 h24 ec2
  have nf6 : fc_1 PRD (23, [38, 7], [0, -1, 1]) ws (vs ++ [n_v vs 3, n_v vs 4, Value.int u, n_v vs 6, Value.int c, Value.int d]) := by
    refine ⟨nf_inA hl rfl, sgq_22 ?_⟩
    · show (-1) * v_iv (n_v (vs ++ [n_v vs 3, n_v vs 4, Value.int u, n_v vs 6, Value.int c, Value.int d]) 38) + (1 * v_iv (n_v (vs ++ [n_v vs 3, n_v vs 4, Value.int u, n_v vs 6, Value.int c, Value.int d]) 7) + 0) ≤ 0
      simp only [e_7, e_38]
      exact vc_Fa_uniteAt_at_Grtail_Grhead_Fablock_27_6 (v_iv (n_v vs 7)) (v_iv (n_v vs 15)) (v_iv (n_v vs 16)) (v_iv (n_v vs 17)) (v_iv (n_v vs 22)) (v_iv (n_v vs 23)) (v_iv (n_v vs 29)) (v_iv (n_v vs 30)) (v_iv (n_v vs 32)) (w_ei ws (v_ad (n_v vs 5))) (w_ei ws (v_ad (n_v vs 3))) (w_ei ws (v_ad (n_v vs 4))) (v_iv (Value.int c)) k7 k15 k16 k17 k22 k23 k29 k30 k32 h3 h7 h9 h15 h17 h22 h24 ec2
  have nf7 : fc_1 PRD (23, [39, 9], [0, 1, -1]) ws (vs ++ [n_v vs 3, n_v vs 4, Value.int u, n_v vs 6, Value.int c, Value.int d]) := by
    refine ⟨nf_inA hl rfl, sgq_7 ?_⟩
    · show 1 * v_iv (n_v (vs ++ [n_v vs 3, n_v vs 4, Value.int u, n_v vs 6, Value.int c, Value.int d]) 39) + ((-1) * v_iv (n_v (vs ++ [n_v vs 3, n_v vs 4, Value.int u, n_v vs 6, Value.int c, Value.int d]) 9) + 0) ≤ 0
      simp only [e_9, e_39, q9]
      exact vc_Fa_uniteAt_at_Grtail_Grhead_Fablock_27_7 (v_iv (n_v vs 1)) (v_iv (n_v vs 9)) (v_iv (n_v vs 15)) (v_iv (n_v vs 16)) (v_iv (n_v vs 17)) (v_iv (n_v vs 22)) (v_iv (n_v vs 23)) (v_iv (n_v vs 29)) (v_iv (n_v vs 30)) (v_iv (n_v vs 32)) (w_ei ws (v_ad (n_v vs 5))) (w_ei ws (v_ad (n_v vs 3))) (w_ei ws (v_ad (n_v vs 4))) (v_iv (Value.int d)) k1 k9 k15 k16 k17 k22 k23 k29 k30 k32 d4 d7 h3 h7 h9 h15 h17 h22 h24 ed2
  have nf8 : fc_1 PRD (23, [39, 9], [0, -1, 1]) ws (vs ++ [n_v vs 3, n_v vs 4, Value.int u, n_v vs 6, Value.int c, Value.int d]) := by
    refine ⟨nf_inA hl rfl, sgq_22 ?_⟩
    · show (-1) * v_iv (n_v (vs ++ [n_v vs 3, n_v vs 4, Value.int u, n_v vs 6, Value.int c, Value.int d]) 39) + (1 * v_iv (n_v (vs ++ [n_v vs 3, n_v vs 4, Value.int u, n_v vs 6, Value.int c, Value.int d]) 9) + 0) ≤ 0
      simp only [e_9, e_39, q9]
      exact vc_Fa_uniteAt_at_Grtail_Grhead_Fablock_27_8 (v_iv (n_v vs 1)) (v_iv (n_v vs 9)) (v_iv (n_v vs 15)) (v_iv (n_v vs 16)) (v_iv (n_v vs 17)) (v_iv (n_v vs 22)) (v_iv (n_v vs 23)) (v_iv (n_v vs 29)) (v_iv (n_v vs 30)) (v_iv (n_v vs 32)) (w_ei ws (v_ad (n_v vs 5))) (w_ei ws (v_ad (n_v vs 3))) (w_ei ws (v_ad (n_v vs 4))) (v_iv (Value.int d)) k1 k9 k15 k16 k17 k22 k23 k29 k30 k32 d4 d7 h3 h7 h9 h15 h17 h22 h24 ed2
  have nf9 : fc_1 PRD (20, [13, 10], [61, 1, 566]) ws (vs ++ [n_v vs 3, n_v vs 4, Value.int u, n_v vs 6, Value.int c, Value.int d]) := by
    refine ⟨nf_inA hl rfl, sgq_365 ?_⟩
    · show BLQ (w_ei ws (v_ad (n_v (vs ++ [n_v vs 3, n_v vs 4, Value.int u, n_v vs 6, Value.int c, Value.int d]) 13))) (v_iv (n_v (vs ++ [n_v vs 3, n_v vs 4, Value.int u, n_v vs 6, Value.int c, Value.int d]) 10))
      simp only [e_10, e_13, q10, q13]
      exact vc_Fa_uniteAt_at_Grtail_Grhead_Fablock_27_9 (v_iv (n_v vs 2)) (w_ei ws (v_ad (n_v vs 5))) k2 f26
  have nf10 : fc_1 PRD (20, [33, 31], [50, 0, 0, 2, 6, 0, 2, 0, 0, 1, 0, 0, 2, 1, 0, 1, 1]) ws (vs ++ [n_v vs 3, n_v vs 4, Value.int u, n_v vs 6, Value.int c, Value.int d]) := by
    refine ⟨nf_inA hl rfl, sgq_366 ?_⟩
    · show (0 ≤ v_iv (n_v (vs ++ [n_v vs 3, n_v vs 4, Value.int u, n_v vs 6, Value.int c, Value.int d]) 33)) ∧ (v_iv (n_v (vs ++ [n_v vs 3, n_v vs 4, Value.int u, n_v vs 6, Value.int c, Value.int d]) 33) ≤ v_iv (n_v (vs ++ [n_v vs 3, n_v vs 4, Value.int u, n_v vs 6, Value.int c, Value.int d]) 31))
      simp only [e_31, e_33]
      exact vc_Fa_uniteAt_at_Grtail_Grhead_Fablock_27_10 (v_iv (n_v vs 15)) (v_iv (n_v vs 16)) (v_iv (n_v vs 17)) (v_iv (n_v vs 22)) (v_iv (n_v vs 23)) (v_iv (n_v vs 29)) (v_iv (n_v vs 30)) (v_iv (n_v vs 31)) (v_iv (n_v vs 32)) (v_iv (n_v vs 33)) (w_ei ws (v_ad (n_v vs 5))) (w_ei ws (v_ad (n_v vs 3))) (w_ei ws (v_ad (n_v vs 4))) k15 k16 k17 k22 k23 k29 k30 k31 k32 k33 f1 h3 f5 h7 h9 h15 h17 h22 h24
  have nf11 : fc_1 PRD (20, [13, 34, 35, 10, 31, 33, 36], [61, 3, 581]) ws (vs ++ [n_v vs 3, n_v vs 4, Value.int u, n_v vs 6, Value.int c, Value.int d]) := by
    refine ⟨nf_inA hl rfl, sgq_367 ?_⟩
    · show RLP (w_ei ws (v_ad (n_v (vs ++ [n_v vs 3, n_v vs 4, Value.int u, n_v vs 6, Value.int c, Value.int d]) 13))) (w_ei ws (v_ad (n_v (vs ++ [n_v vs 3, n_v vs 4, Value.int u, n_v vs 6, Value.int c, Value.int d]) 34))) (w_ei ws (v_ad (n_v (vs ++ [n_v vs 3, n_v vs 4, Value.int u, n_v vs 6, Value.int c, Value.int d]) 35))) (v_iv (n_v (vs ++ [n_v vs 3, n_v vs 4, Value.int u, n_v vs 6, Value.int c, Value.int d]) 10)) (v_iv (n_v (vs ++ [n_v vs 3, n_v vs 4, Value.int u, n_v vs 6, Value.int c, Value.int d]) 31)) (v_iv (n_v (vs ++ [n_v vs 3, n_v vs 4, Value.int u, n_v vs 6, Value.int c, Value.int d]) 33)) (v_iv (n_v (vs ++ [n_v vs 3, n_v vs 4, Value.int u, n_v vs 6, Value.int c, Value.int d]) 36))
      simp only [e_10, e_13, e_31, e_33, e_34, e_35, e_36, q10, q13]
      exact vc_Fa_uniteAt_at_Grtail_Grhead_Fablock_27_11 (v_iv (n_v vs 0)) (v_iv (n_v vs 2)) (v_iv (n_v vs 8)) (v_iv (n_v vs 14)) (v_iv (n_v vs 15)) (v_iv (n_v vs 16)) (v_iv (n_v vs 20)) (v_iv (n_v vs 22)) (v_iv (n_v vs 26)) (v_iv (n_v vs 28)) (v_iv (n_v vs 29)) (v_iv (n_v vs 30)) (v_iv (n_v vs 31)) (v_iv (n_v vs 32)) (v_iv (n_v vs 33)) (w_ei ws (v_ad (n_v vs 5))) (w_ei ws (v_ad (n_v vs 3))) (w_ei ws (v_ad (n_v vs 4))) (v_iv (Value.int u)) k0 k2 k8 k14 k15 k16 k20 k22 k26 k28 k29 k30 k31 k32 k33 d0 d1 d3 d6 f0 f1 f2 h3 f4 f5 f6 h7 f8 h9 f10 f11 h17 f18 h24 f25 f27 eu2
  have nf12 : fc_1 PRD (20, [13, 34, 35, 37, 38, 10, 36, 39, 31, 33], [61, 4, 590]) ws (vs ++ [n_v vs 3, n_v vs 4, Value.int u, n_v vs 6, Value.int c, Value.int d]) := by
    refine ⟨nf_inA hl rfl, sgq_368 ?_⟩
    · show QKP (w_ei ws (v_ad (n_v (vs ++ [n_v vs 3, n_v vs 4, Value.int u, n_v vs 6, Value.int c, Value.int d]) 13))) (w_ei ws (v_ad (n_v (vs ++ [n_v vs 3, n_v vs 4, Value.int u, n_v vs 6, Value.int c, Value.int d]) 34))) (w_ei ws (v_ad (n_v (vs ++ [n_v vs 3, n_v vs 4, Value.int u, n_v vs 6, Value.int c, Value.int d]) 35))) (w_ei ws (v_ad (n_v (vs ++ [n_v vs 3, n_v vs 4, Value.int u, n_v vs 6, Value.int c, Value.int d]) 37))) (v_iv (n_v (vs ++ [n_v vs 3, n_v vs 4, Value.int u, n_v vs 6, Value.int c, Value.int d]) 38)) (v_iv (n_v (vs ++ [n_v vs 3, n_v vs 4, Value.int u, n_v vs 6, Value.int c, Value.int d]) 10)) (v_iv (n_v (vs ++ [n_v vs 3, n_v vs 4, Value.int u, n_v vs 6, Value.int c, Value.int d]) 36)) (v_iv (n_v (vs ++ [n_v vs 3, n_v vs 4, Value.int u, n_v vs 6, Value.int c, Value.int d]) 39)) (v_iv (n_v (vs ++ [n_v vs 3, n_v vs 4, Value.int u, n_v vs 6, Value.int c, Value.int d]) 31)) (v_iv (n_v (vs ++ [n_v vs 3, n_v vs 4, Value.int u, n_v vs 6, Value.int c, Value.int d]) 33))
      simp only [e_10, e_13, e_31, e_33, e_34, e_35, e_36, e_37, e_38, e_39, q10, q13]
      exact vc_Fa_uniteAt_at_Grtail_Grhead_Fablock_27_12 (v_iv (n_v vs 0)) (v_iv (n_v vs 1)) (v_iv (n_v vs 2)) (v_iv (n_v vs 7)) (v_iv (n_v vs 8)) (v_iv (n_v vs 14)) (v_iv (n_v vs 15)) (v_iv (n_v vs 16)) (v_iv (n_v vs 17)) (v_iv (n_v vs 18)) (v_iv (n_v vs 19)) (v_iv (n_v vs 20)) (v_iv (n_v vs 22)) (v_iv (n_v vs 23)) (v_iv (n_v vs 24)) (v_iv (n_v vs 25)) (v_iv (n_v vs 26)) (v_iv (n_v vs 28)) (v_iv (n_v vs 29)) (v_iv (n_v vs 30)) (v_iv (n_v vs 31)) (v_iv (n_v vs 32)) (v_iv (n_v vs 33)) (w_ei ws (v_ad (n_v vs 5))) (w_ei ws (v_ad (n_v vs 3))) (w_ei ws (v_ad (n_v vs 4))) (w_ei ws (v_ad (n_v vs 6))) (v_iv (Value.int u)) (v_iv (Value.int c)) (v_iv (Value.int d)) k0 k1 k2 k7 k8 k14 k15 k16 k17 k18 k19 k20 k22 k23 k26 k28 k29 k30 k31 k32 k33 d0 d1 d3 d6 f0 f1 f2 h3 f4 f5 f6 h7 f8 h9 f10 f11 h15 h17 f18 f20 f21 h22 h24 f25 f28 eu2 ec2 ed2
  have nf13 : fc_1 PRD (20, [36, 8], [50, 0, 0, 1, 2, 1, 0, 1, 1]) ws (vs ++ [n_v vs 3, n_v vs 4, Value.int u, n_v vs 6, Value.int c, Value.int d]) := by
    refine ⟨nf_inA hl rfl, sgq_48 ?_⟩
    · show v_iv (n_v (vs ++ [n_v vs 3, n_v vs 4, Value.int u, n_v vs 6, Value.int c, Value.int d]) 36) = v_iv (n_v (vs ++ [n_v vs 3, n_v vs 4, Value.int u, n_v vs 6, Value.int c, Value.int d]) 8)
      simp only [e_8, e_36, q8]
      exact vc_Fa_uniteAt_at_Grtail_Grhead_Fablock_27_13 (v_iv (n_v vs 0)) (v_iv (n_v vs 15)) (v_iv (n_v vs 16)) (v_iv (n_v vs 17)) (v_iv (n_v vs 22)) (v_iv (n_v vs 23)) (v_iv (n_v vs 29)) (v_iv (n_v vs 30)) (v_iv (n_v vs 32)) (w_ei ws (v_ad (n_v vs 5))) (w_ei ws (v_ad (n_v vs 3))) (w_ei ws (v_ad (n_v vs 4))) (v_iv (Value.int u)) k0 k15 k16 k17 k22 k23 k29 k30 k32 h3 h7 h9 h15 h17 h22 h24 eu2
  have nf14 : fc_1 PRD (20, [33], [50, 0, 0, 0, 2, 0, 0, 1, 0]) ws (vs ++ [n_v vs 3, n_v vs 4, Value.int u, n_v vs 6, Value.int c, Value.int d]) := by
    refine ⟨nf_inA hl rfl, sgq_722 ?_⟩
    · show 0 ≤ v_iv (n_v (vs ++ [n_v vs 3, n_v vs 4, Value.int u, n_v vs 6, Value.int c, Value.int d]) 33)
      rw [e_33]
      exact vc_Fa_uniteAt_at_Grtail_Grhead_Fablock_27_14 (v_iv (n_v vs 15)) (v_iv (n_v vs 16)) (v_iv (n_v vs 17)) (v_iv (n_v vs 22)) (v_iv (n_v vs 23)) (v_iv (n_v vs 29)) (v_iv (n_v vs 30)) (v_iv (n_v vs 32)) (v_iv (n_v vs 33)) (w_ei ws (v_ad (n_v vs 5))) (w_ei ws (v_ad (n_v vs 3))) (w_ei ws (v_ad (n_v vs 4))) k15 k16 k17 k22 k23 k29 k30 k32 k33 h3 h7 h9 h15 h17 h22 h24
  have nf15 : fc_1 PRD (20, [38, 7], [50, 0, 0, 1, 2, 1, 0, 1, 1]) ws (vs ++ [n_v vs 3, n_v vs 4, Value.int u, n_v vs 6, Value.int c, Value.int d]) := by
    refine ⟨nf_inA hl rfl, sgq_48 ?_⟩
    · show v_iv (n_v (vs ++ [n_v vs 3, n_v vs 4, Value.int u, n_v vs 6, Value.int c, Value.int d]) 38) = v_iv (n_v (vs ++ [n_v vs 3, n_v vs 4, Value.int u, n_v vs 6, Value.int c, Value.int d]) 7)
      simp only [e_7, e_38]
      exact vc_Fa_uniteAt_at_Grtail_Grhead_Fablock_27_15 (v_iv (n_v vs 7)) (v_iv (n_v vs 15)) (v_iv (n_v vs 16)) (v_iv (n_v vs 17)) (v_iv (n_v vs 22)) (v_iv (n_v vs 23)) (v_iv (n_v vs 29)) (v_iv (n_v vs 30)) (v_iv (n_v vs 32)) (w_ei ws (v_ad (n_v vs 5))) (w_ei ws (v_ad (n_v vs 3))) (w_ei ws (v_ad (n_v vs 4))) (v_iv (Value.int c)) k7 k15 k16 k17 k22 k23 k29 k30 k32 h3 h7 h9 h15 h17 h22 h24 ec2
  have nf16 : fc_1 PRD (20, [39, 9], [50, 0, 0, 1, 2, 1, 0, 1, 1]) ws (vs ++ [n_v vs 3, n_v vs 4, Value.int u, n_v vs 6, Value.int c, Value.int d]) := by
    refine ⟨nf_inA hl rfl, sgq_48 ?_⟩
    · show v_iv (n_v (vs ++ [n_v vs 3, n_v vs 4, Value.int u, n_v vs 6, Value.int c, Value.int d]) 39) = v_iv (n_v (vs ++ [n_v vs 3, n_v vs 4, Value.int u, n_v vs 6, Value.int c, Value.int d]) 9)
      simp only [e_9, e_39, q9]
      exact vc_Fa_uniteAt_at_Grtail_Grhead_Fablock_27_16 (v_iv (n_v vs 1)) (v_iv (n_v vs 15)) (v_iv (n_v vs 16)) (v_iv (n_v vs 17)) (v_iv (n_v vs 22)) (v_iv (n_v vs 23)) (v_iv (n_v vs 29)) (v_iv (n_v vs 30)) (v_iv (n_v vs 32)) (w_ei ws (v_ad (n_v vs 5))) (w_ei ws (v_ad (n_v vs 3))) (w_ei ws (v_ad (n_v vs 4))) (v_iv (Value.int d)) k1 k15 k16 k17 k22 k23 k29 k30 k32 h3 h7 h9 h15 h17 h22 h24 ed2
  exact ⟨(fun _ h => (by cases h)), [n_v vs 3, n_v vs 4, Value.int u, n_v vs 6, Value.int c, Value.int d], ag_six t3 t4 hu t6 hc hd, List.forall_mem_cons.mpr ⟨⟨show (24 : Nat) < 100 from by decide, nf0⟩, List.forall_mem_cons.mpr ⟨⟨show (24 : Nat) < 100 from by decide, nf1⟩, List.forall_mem_cons.mpr ⟨⟨show (23 : Nat) < 100 from by decide, nf2⟩, List.forall_mem_cons.mpr ⟨⟨show (23 : Nat) < 100 from by decide, nf3⟩, List.forall_mem_cons.mpr ⟨⟨show (24 : Nat) < 100 from by decide, nf4⟩, List.forall_mem_cons.mpr ⟨⟨show (23 : Nat) < 100 from by decide, nf5⟩, List.forall_mem_cons.mpr ⟨⟨show (23 : Nat) < 100 from by decide, nf6⟩, List.forall_mem_cons.mpr ⟨⟨show (23 : Nat) < 100 from by decide, nf7⟩, List.forall_mem_cons.mpr ⟨⟨show (23 : Nat) < 100 from by decide, nf8⟩, List.forall_mem_cons.mpr ⟨⟨show (20 : Nat) < 100 from by decide, nf9⟩, List.forall_mem_cons.mpr ⟨⟨show (20 : Nat) < 100 from by decide, nf10⟩, List.forall_mem_cons.mpr ⟨⟨show (20 : Nat) < 100 from by decide, nf11⟩, List.forall_mem_cons.mpr ⟨⟨show (20 : Nat) < 100 from by decide, nf12⟩, List.forall_mem_cons.mpr ⟨⟨show (20 : Nat) < 100 from by decide, nf13⟩, List.forall_mem_cons.mpr ⟨⟨show (20 : Nat) < 100 from by decide, nf14⟩, List.forall_mem_cons.mpr ⟨⟨show (20 : Nat) < 100 from by decide, nf15⟩, List.forall_mem_cons.mpr ⟨⟨show (20 : Nat) < 100 from by decide, nf16⟩, (fun _ h => (by cases h))⟩⟩⟩⟩⟩⟩⟩⟩⟩⟩⟩⟩⟩⟩⟩⟩⟩, (fun _ h => (by cases h))⟩

set_option maxHeartbeats 4000000 in
theorem vc_Fa_uniteAt_at_Grtail_Grhead_Fablock_28_r0 (x2 : Int) (x15 : Int) (x16 : Int) (x17 : Int) (x22 : Int) (x23 : Int) (x29 : Int) (a5_0 : Int → Int) (a3_0 : Int → Int) (a4_0 : Int → Int) (k2 : 1 ≤ x2 ∧ x2 ≤ 48) (k15 : 0 ≤ x15 ∧ x15 ≤ 47) (k16 : 0 ≤ x16 ∧ x16 ≤ 23) (k17 : 0 ≤ x17 ∧ x17 ≤ 23) (k22 : 0 ≤ x22 ∧ x22 ≤ 23) (k23 : 0 ≤ x23 ∧ x23 ≤ 23) (k29 : (-1) ≤ x29 ∧ x29 ≤ 47) (h0 : x29 = a5_0 (x15)) (h6 : x23 = a3_0 (x15)) (h8 : x22 = a4_0 (x15)) (h13 : x17 = a4_0 (x15)) (h15 : x16 = a3_0 (x15)) (f16 : x15 < x2) (f17 : BLQ (a5_0) (x2)) : 0 ≤ x29 ∧ x29 ≤ 47 := by
  first
    | omega
    | (skip; (first | subst h0 | skip); (first | subst h6 | skip); (first | subst h8 | skip); (first | subst h13 | skip); (first | subst h15 | skip); have q := ‹BLQ _ _› x15 (by omega) (by omega); omega)
def o_Fa_uniteAt_at_Grtail_Grhead_Fablock_28 : or_T := (90, 30, [(0, (0, 0, 23, [])), (1, (0, 0, 16777215, [])), (2, (0, 1, 48, [])), (3, (2, 0, 0, [52])), (4, (2, 0, 0, [53])), (5, (2, 0, 0, [38])), (6, (2, 0, 0, [59])), (7, (0, 0, 25, [])), (8, (0, 0, 23, [])), (9, (0, 0, 16777215, [])), (10, (0, 1, 48, [])), (11, (2, 0, 0, [52])), (12, (2, 0, 0, [53])), (13, (2, 0, 0, [38])), (14, (0, -1, -1, [])), (15, (0, 0, 47, [])), (16, (0, 0, 23, [])), (17, (0, 0, 23, [])), (18, (0, 0, 16777215, [])), (19, (0, 1, 1, [])), (20, (0, 1, 1, [])), (22, (0, 0, 23, [])), (23, (0, 0, 23, [])), (24, (0, 0, 16777215, [])), (25, (0, 1, 1, [])), (26, (0, 1, 1, [])), (28, (0, -1, -1, [])), (29, (0, -1, 47, []))], [(10, [29, 13, 15], []), (7, [14, 28], [0]), (8, [26], [1]), (12, [26, 24], [2]), (16, [26, 24, 25], [0]), (16, [24, 9, 23], [4]), (10, [23, 11, 15], []), (7, [22, 8], [0]), (10, [22, 12, 15], []), (8, [20], [1]), (12, [20, 18], [2]), (16, [20, 18, 19], [0]), (16, [18, 9, 17], [4]), (10, [17, 12, 15], []), (7, [16, 8], [0]), (10, [16, 11, 15], []), (7, [15, 10], [2]), (20, [13, 10], [61, 1, 566]), (20, [13, 11, 12, 10, 8, 14], [61, 3, 584]), (20, [13, 11, 12, 6, 7, 10, 8, 9, 14], [61, 4, 589]), (24, [0, 8], []), (24, [1, 9], []), (24, [2, 10], []), (24, [3, 11], []), (24, [4, 12], []), (24, [5, 13], [])], [(29, (0, 0, 47, []))], [], [], [], [(22, 8, 0, 0), (16, 8, 0, 0), (15, 10, -4294967296, -1), (0, 8, -4294967296, 0), (1, 9, -4294967296, 0), (2, 10, -4294967296, 0), (8, 0, -4294967296, 0), (9, 1, -4294967296, 0), (10, 2, -4294967296, 0), (15, 2, -4294967296, 0), (15, 10, -4294967296, 0)])
theorem oo_Fa_uniteAt_at_Grtail_Grhead_Fablock_28 {kA : Nat → ClassId} : or_ok PRD kA GG o_Fa_uniteAt_at_Grtail_Grhead_Fablock_28 := by
  refine or_mk fun A ta ws vs hD hth hl => ?_
  intro t0 k0 t1 k1 t2 k2 t3 r3 t4 r4 t5 r5 t6 r6 t7 k7 t8 k8 t9 k9 t10 k10 t11 r11 t12 r12 t13 r13 t14 k14 t15 k15 t16 k16 t17 k17 t18 k18 t19 k19 t20 k20 t22 k22 t23 k23 t24 k24 t25 k25 t26 k26 t28 k28 t29 k29 d0 d1 d2 d3 d4 d5 d6 d7 d8 d9 d10 f0 f1 f2 f3 f4 f5 f6 f7 f8 f9 f10 f11 f12 f13 f14 f15 f16 f17 f18 f19 f20 f21 f22 f23 f24 f25
  replace f0 := shm_107 f0
  replace f6 := shm_107 f6
  replace f8 := shm_107 f8
  replace f13 := shm_107 f13
  replace f15 := shm_107 f15
  replace f16 := shm_6 f16
  replace f17 := shm_365 f17
  replace f22 := shm_5 f22
  replace f23 := shm_5 f23
  replace f24 := shm_5 f24
  replace f25 := shm_5 f25
  have q10 : n_v vs 10 = n_v vs 2 := f22.symm
  have q11 : n_v vs 11 = n_v vs 3 := f23.symm
  have q12 : n_v vs 12 = n_v vs 4 := f24.symm
  have q13 : n_v vs 13 = n_v vs 5 := f25.symm
  simp only [q13, q11, q12, q10] at f0 f6 f8 f13 f15 f16 f17
  have h0 : v_iv (n_v vs 29) = w_ei ws (v_ad (n_v vs 5)) (v_iv (n_v vs 15)) := f0
  have h6 : v_iv (n_v vs 23) = w_ei ws (v_ad (n_v vs 3)) (v_iv (n_v vs 15)) := f6
  have h8 : v_iv (n_v vs 22) = w_ei ws (v_ad (n_v vs 4)) (v_iv (n_v vs 15)) := f8
  have h13 : v_iv (n_v vs 17) = w_ei ws (v_ad (n_v vs 4)) (v_iv (n_v vs 15)) := f13
  have h15 : v_iv (n_v vs 16) = w_ei ws (v_ad (n_v vs 3)) (v_iv (n_v vs 15)) := f15
  have hrf0 : 0 ≤ v_iv (n_v vs 29) ∧ v_iv (n_v vs 29) ≤ 47 := vc_Fa_uniteAt_at_Grtail_Grhead_Fablock_28_r0 (v_iv (n_v vs 2)) (v_iv (n_v vs 15)) (v_iv (n_v vs 16)) (v_iv (n_v vs 17)) (v_iv (n_v vs 22)) (v_iv (n_v vs 23)) (v_iv (n_v vs 29)) (w_ei ws (v_ad (n_v vs 5))) (w_ei ws (v_ad (n_v vs 3))) (w_ei ws (v_ad (n_v vs 4))) k2 k15 k16 k17 k22 k23 k29 h0 h6 h8 h13 h15 f16 f17
  have rf29 : tv_ok ta (0, 0, 47, []) (n_v vs 29) := tv_in t29 (by first | omega | grind) (by first | omega | grind)
  refine ⟨List.forall_mem_cons.mpr ⟨rf29, (fun _ h => (by cases h))⟩, [], trivial, ?_, (fun _ h => (by cases h))⟩
  rw [List.append_nil]
  exact (fun _ h => (by cases h))
set_option maxHeartbeats 4000000 in
theorem vc_Fa_uniteAt_at_Grtail_Grhead_Fablock_29_0 (x0 : Int) (x2 : Int) (x8 : Int) (x14 : Int) (x15 : Int) (x16 : Int) (x22 : Int) (x29 : Int) (x30 : Int) (a5_0 : Int → Int) (a3_0 : Int → Int) (a4_0 : Int → Int) (k0 : 0 ≤ x0 ∧ x0 ≤ 23) (k2 : 1 ≤ x2 ∧ x2 ≤ 48) (k8 : 0 ≤ x8 ∧ x8 ≤ 23) (k14 : (-1) ≤ x14 ∧ x14 ≤ (-1)) (k15 : 0 ≤ x15 ∧ x15 ≤ 47) (k16 : 0 ≤ x16 ∧ x16 ≤ 23) (k22 : 0 ≤ x22 ∧ x22 ≤ 23) (k29 : 0 ≤ x29 ∧ x29 ≤ 47) (k30 : 1 ≤ x30 ∧ x30 ≤ 48) (d0 : x15 + 1 ≤ x30 ∧ x30 ≤ x15 + 1) (d4 : x8 + 0 ≤ x22 ∧ x22 ≤ x8 + 0) (d5 : x8 + 0 ≤ x16 ∧ x16 ≤ x8 + 0) (d7 : x8 + (-4294967296) ≤ x0 ∧ x0 ≤ x8 + 0) (d10 : x0 + (-4294967296) ≤ x8 ∧ x8 ≤ x0 + 0) (h1 : x29 = a5_0 (x15)) (h9 : x22 = a4_0 (x15)) (h16 : x16 = a3_0 (x15)) (f17 : x15 < x2) (f19 : UNI (a5_0) (a3_0) (a4_0) (x2) (x0) (x14)) : UNI (a5_0) (a3_0) (a4_0) (x2) (x0) (x29) := by
  first
    | exact uni_first (e := x15) ‹UNI _ _ _ _ _ _› (by assumption) rfl (by omega) (by omega) (by first | exact Or.inl (by omega) | exact Or.inr (by omega))
set_option maxHeartbeats 4000000 in
theorem vc_Fa_uniteAt_at_Grtail_Grhead_Fablock_29_1 (x0 : Int) (x1 : Int) (x2 : Int) (x7 : Int) (x8 : Int) (x14 : Int) (x15 : Int) (x16 : Int) (x17 : Int) (x18 : Int) (x19 : Int) (x20 : Int) (x22 : Int) (x23 : Int) (x24 : Int) (x25 : Int) (x26 : Int) (x29 : Int) (x30 : Int) (a5_0 : Int → Int) (a3_0 : Int → Int) (a4_0 : Int → Int) (a6_0 : Int → Int) (k0 : 0 ≤ x0 ∧ x0 ≤ 23) (k1 : 0 ≤ x1 ∧ x1 ≤ 16777215) (k2 : 1 ≤ x2 ∧ x2 ≤ 48) (k7 : 0 ≤ x7 ∧ x7 ≤ 25) (k8 : 0 ≤ x8 ∧ x8 ≤ 23) (k14 : (-1) ≤ x14 ∧ x14 ≤ (-1)) (k15 : 0 ≤ x15 ∧ x15 ≤ 47) (k16 : 0 ≤ x16 ∧ x16 ≤ 23) (k17 : 0 ≤ x17 ∧ x17 ≤ 23) (k18 : 0 ≤ x18 ∧ x18 ≤ 16777215) (k19 : 1 ≤ x19 ∧ x19 ≤ 1) (k20 : 1 ≤ x20 ∧ x20 ≤ 1) (k22 : 0 ≤ x22 ∧ x22 ≤ 23) (k23 : 0 ≤ x23 ∧ x23 ≤ 23) (k29 : 0 ≤ x29 ∧ x29 ≤ 47) (k30 : 1 ≤ x30 ∧ x30 ≤ 48) (d0 : x15 + 1 ≤ x30 ∧ x30 ≤ x15 + 1) (d4 : x8 + 0 ≤ x22 ∧ x22 ≤ x8 + 0) (d5 : x8 + 0 ≤ x16 ∧ x16 ≤ x8 + 0) (d7 : x8 + (-4294967296) ≤ x0 ∧ x0 ≤ x8 + 0) (d10 : x0 + (-4294967296) ≤ x8 ∧ x8 ≤ x0 + 0) (h1 : x29 = a5_0 (x15)) (h7 : x23 = a3_0 (x15)) (h9 : x22 = a4_0 (x15)) (f12 : bvp (x20) = bvp (x18) &&& bvp (x19)) (f13 : bvp (x18) = bvp (x1) >>> (x17).toNat) (h14 : x17 = a4_0 (x15)) (h16 : x16 = a3_0 (x15)) (f17 : x15 < x2) (f20 : UN2 (a5_0) (a3_0) (a4_0) (a6_0) (x7) (x2) (x0) (x1) (x14)) : UN2 (a5_0) (a3_0) (a4_0) (a6_0) (x7) (x2) (x0) (x1) (x29) := by
  first
    | exact un2_first (e := x15) ‹UN2 _ _ _ _ _ _ _ _ _› (by assumption) rfl (by omega) (by omega) (by first | exact Or.inl ⟨by omega, by omega, by rw [← ‹x17 = a4_0 x15›]; exact (bit_one (s := x1) (t := x18) (c := x20) (v := x17) (one := x19) (by assumption) (by assumption) (by omega) (by omega) (by omega) (by omega)).mpr (by omega)⟩ | exact Or.inr ⟨by omega, by omega, by rw [← ‹x19 = a3_0 x15›]; exact (bit_one (s := x1) (t := x20) (c := x22) (v := x19) (one := x21) (by assumption) (by assumption) (by omega) (by omega) (by omega) (by omega)).mpr (by omega)⟩ | exact Or.inr ⟨by omega, by omega, by rw [← ‹x23 = a3_0 x15›]; exact (bit_one (s := x1) (t := x24) (c := x26) (v := x23) (one := x25) (by assumption) (by assumption) (by omega) (by omega) (by omega) (by omega)).mpr (by omega)⟩)
def o_Fa_uniteAt_at_Grtail_Grhead_Fablock_29 : or_T := (6, 31, [(0, (0, 0, 23, [])), (1, (0, 0, 16777215, [])), (2, (0, 1, 48, [])), (3, (2, 0, 0, [52])), (4, (2, 0, 0, [53])), (5, (2, 0, 0, [38])), (6, (2, 0, 0, [59])), (7, (0, 0, 25, [])), (8, (0, 0, 23, [])), (9, (0, 0, 16777215, [])), (10, (0, 1, 48, [])), (11, (2, 0, 0, [52])), (12, (2, 0, 0, [53])), (13, (2, 0, 0, [38])), (14, (0, -1, -1, [])), (15, (0, 0, 47, [])), (16, (0, 0, 23, [])), (17, (0, 0, 23, [])), (18, (0, 0, 16777215, [])), (19, (0, 1, 1, [])), (20, (0, 1, 1, [])), (22, (0, 0, 23, [])), (23, (0, 0, 23, [])), (24, (0, 0, 16777215, [])), (25, (0, 1, 1, [])), (26, (0, 1, 1, [])), (28, (0, -1, -1, [])), (29, (0, 0, 47, [])), (30, (0, 1, 48, []))], [(6, [30, 15], [1]), (10, [29, 13, 15], []), (7, [14, 28], [0]), (8, [26], [1]), (12, [26, 24], [2]), (16, [26, 24, 25], [0]), (16, [24, 9, 23], [4]), (10, [23, 11, 15], []), (7, [22, 8], [0]), (10, [22, 12, 15], []), (8, [20], [1]), (12, [20, 18], [2]), (16, [20, 18, 19], [0]), (16, [18, 9, 17], [4]), (10, [17, 12, 15], []), (7, [16, 8], [0]), (10, [16, 11, 15], []), (7, [15, 10], [2]), (20, [13, 10], [61, 1, 566]), (20, [13, 11, 12, 10, 8, 14], [61, 3, 584]), (20, [13, 11, 12, 6, 7, 10, 8, 9, 14], [61, 4, 589]), (24, [0, 8], []), (24, [1, 9], []), (24, [2, 10], []), (24, [3, 11], []), (24, [4, 12], []), (24, [5, 13], [])], [], [], [(20, [13, 11, 12, 10, 8, 29], [61, 3, 584]), (20, [13, 11, 12, 6, 7, 10, 8, 9, 29], [61, 4, 589])], [], [(30, 15, 1, 1), (30, 10, -4294967296, 0), (30, 2, -4294967296, 1), (30, 10, -4294967296, 1), (22, 8, 0, 0), (16, 8, 0, 0), (15, 10, -4294967296, -1), (0, 8, -4294967296, 0), (1, 9, -4294967296, 0), (2, 10, -4294967296, 0), (8, 0, -4294967296, 0), (9, 1, -4294967296, 0), (10, 2, -4294967296, 0), (15, 2, -4294967296, 0), (15, 10, -4294967296, 0)])
theorem oo_Fa_uniteAt_at_Grtail_Grhead_Fablock_29 {kA : Nat → ClassId} : or_ok PRD kA GG o_Fa_uniteAt_at_Grtail_Grhead_Fablock_29 := by
  refine or_mk fun A ta ws vs hD hth hl => ?_
  intro t0 k0 t1 k1 t2 k2 t3 r3 t4 r4 t5 r5 t6 r6 t7 k7 t8 k8 t9 k9 t10 k10 t11 r11 t12 r12 t13 r13 t14 k14 t15 k15 t16 k16 t17 k17 t18 k18 t19 k19 t20 k20 t22 k22 t23 k23 t24 k24 t25 k25 t26 k26 t28 k28 t29 k29 t30 k30 d0 d1 d2 d3 d4 d5 d6 d7 d8 d9 d10 d11 d12 d13 d14 f0 f1 f2 f3 f4 f5 f6 f7 f8 f9 f10 f11 f12 f13 f14 f15 f16 f17 f18 f19 f20 f21 f22 f23 f24 f25 f26
  replace f1 := shm_107 f1
  replace f7 := shm_107 f7
  replace f9 := shm_107 f9
  replace f12 := shm_11 f12
  replace f13 := shm_13 f13
  replace f14 := shm_107 f14
  replace f16 := shm_107 f16
  replace f17 := shm_6 f17
  replace f19 := shm_1193 f19
  replace f20 := shm_1194 f20
  replace f21 := shm_5 f21
  replace f22 := shm_5 f22
  replace f23 := shm_5 f23
  replace f24 := shm_5 f24
  replace f25 := shm_5 f25
  replace f26 := shm_5 f26
  have q8 : n_v vs 8 = n_v vs 0 := f21.symm
  have q9 : n_v vs 9 = n_v vs 1 := f22.symm
  have q10 : n_v vs 10 = n_v vs 2 := f23.symm
  have q11 : n_v vs 11 = n_v vs 3 := f24.symm
  have q12 : n_v vs 12 = n_v vs 4 := f25.symm
  have q13 : n_v vs 13 = n_v vs 5 := f26.symm
  simp only [q13, q9, q11, q8, q12, q10] at f1 f7 f9 f13 f14 f16 f17 f19 f20
  have h1 : v_iv (n_v vs 29) = w_ei ws (v_ad (n_v vs 5)) (v_iv (n_v vs 15)) := f1
  have h7 : v_iv (n_v vs 23) = w_ei ws (v_ad (n_v vs 3)) (v_iv (n_v vs 15)) := f7
  have h9 : v_iv (n_v vs 22) = w_ei ws (v_ad (n_v vs 4)) (v_iv (n_v vs 15)) := f9
  have h14 : v_iv (n_v vs 17) = w_ei ws (v_ad (n_v vs 4)) (v_iv (n_v vs 15)) := f14
  have h16 : v_iv (n_v vs 16) = w_ei ws (v_ad (n_v vs 3)) (v_iv (n_v vs 15)) := f16
  have nf0 : fc_1 PRD (20, [13, 11, 12, 10, 8, 29], [61, 3, 584]) ws (vs) := by
    refine ⟨nf_in hl rfl, sgq_1193 ?_⟩
    · show UNI (w_ei ws (v_ad (n_v vs 13))) (w_ei ws (v_ad (n_v vs 11))) (w_ei ws (v_ad (n_v vs 12))) (v_iv (n_v vs 10)) (v_iv (n_v vs 8)) (v_iv (n_v vs 29))
      simp only [q8, q10, q11, q12, q13]
      exact vc_Fa_uniteAt_at_Grtail_Grhead_Fablock_29_0 (v_iv (n_v vs 0)) (v_iv (n_v vs 2)) (v_iv (n_v vs 8)) (v_iv (n_v vs 14)) (v_iv (n_v vs 15)) (v_iv (n_v vs 16)) (v_iv (n_v vs 22)) (v_iv (n_v vs 29)) (v_iv (n_v vs 30)) (w_ei ws (v_ad (n_v vs 5))) (w_ei ws (v_ad (n_v vs 3))) (w_ei ws (v_ad (n_v vs 4))) k0 k2 k8 k14 k15 k16 k22 k29 k30 d0 d4 d5 d7 d10 h1 h9 h16 f17 f19
  have nf1 : fc_1 PRD (20, [13, 11, 12, 6, 7, 10, 8, 9, 29], [61, 4, 589]) ws (vs) := by
    refine ⟨nf_in hl rfl, sgq_1194 ?_⟩
    · show UN2 (w_ei ws (v_ad (n_v vs 13))) (w_ei ws (v_ad (n_v vs 11))) (w_ei ws (v_ad (n_v vs 12))) (w_ei ws (v_ad (n_v vs 6))) (v_iv (n_v vs 7)) (v_iv (n_v vs 10)) (v_iv (n_v vs 8)) (v_iv (n_v vs 9)) (v_iv (n_v vs 29))
      simp only [q8, q9, q10, q11, q12, q13]
      exact vc_Fa_uniteAt_at_Grtail_Grhead_Fablock_29_1 (v_iv (n_v vs 0)) (v_iv (n_v vs 1)) (v_iv (n_v vs 2)) (v_iv (n_v vs 7)) (v_iv (n_v vs 8)) (v_iv (n_v vs 14)) (v_iv (n_v vs 15)) (v_iv (n_v vs 16)) (v_iv (n_v vs 17)) (v_iv (n_v vs 18)) (v_iv (n_v vs 19)) (v_iv (n_v vs 20)) (v_iv (n_v vs 22)) (v_iv (n_v vs 23)) (v_iv (n_v vs 24)) (v_iv (n_v vs 25)) (v_iv (n_v vs 26)) (v_iv (n_v vs 29)) (v_iv (n_v vs 30)) (w_ei ws (v_ad (n_v vs 5))) (w_ei ws (v_ad (n_v vs 3))) (w_ei ws (v_ad (n_v vs 4))) (w_ei ws (v_ad (n_v vs 6))) k0 k1 k2 k7 k8 k14 k15 k16 k17 k18 k19 k20 k22 k23 k29 k30 d0 d4 d5 d7 d10 h1 h7 h9 f12 f13 h14 h16 f17 f20
  refine ⟨(fun _ h => (by cases h)), [], trivial, ?_, (fun _ h => (by cases h))⟩
  rw [List.append_nil]
  exact List.forall_mem_cons.mpr ⟨⟨show (20 : Nat) < 100 from by decide, nf0⟩, List.forall_mem_cons.mpr ⟨⟨show (20 : Nat) < 100 from by decide, nf1⟩, (fun _ h => (by cases h))⟩⟩
def n_Fa_uniteAt_at_Grtail_Grhead_Fablock_an : List an_T := [(6, [(0, (0, 0, 23, [])), (1, (0, 0, 16777215, [])), (2, (0, 0, 48, [])), (3, (2, 0, 0, [52])), (4, (2, 0, 0, [53])), (5, (2, 0, 0, [38])), (6, (0, (Int.negSucc 0), 47, [])), (7, (0, 0, 48, []))], [], (0, 0), [(0, 0, 99994), (1, 15, 48), (0, 0, 100000)], [(0, 8, (Int.negSucc 999999999999), 0), (1, 9, (Int.negSucc 999999999999), 0), (2, 10, (Int.negSucc 999999999999), 0), (8, 0, (Int.negSucc 999999999999), 0), (9, 1, (Int.negSucc 999999999999), 0), (10, 2, (Int.negSucc 999999999999), 0), (14, 2, (Int.negSucc 999999999999), 46), (14, 10, (Int.negSucc 999999999999), 46), (14, 15, (Int.negSucc 999999999999), 46), (15, 2, (Int.negSucc 999999999999), 0), (15, 10, (Int.negSucc 999999999999), 0)], [], [(0, 0, 23, []), (0, 0, 16777215, []), (0, 0, 48, []), (2, 0, 0, [52]), (2, 0, 0, [53]), (2, 0, 0, [38]), (2, 0, 0, [59]), (0, 0, 25, [])], 0, [], [(20, [13, 10], [61, 1, 566]), (20, [13, 11, 12, 10, 8, 14], [61, 3, 584]), (20, [13, 11, 12, 6, 7, 10, 8, 9, 14], [61, 4, 589]), (24, [0, 8], []), (24, [1, 9], []), (24, [2, 10], []), (24, [3, 11], []), (24, [4, 12], []), (24, [5, 13], [])])]
def t_Fa_uniteAt_at_Grtail_Grhead_Fablock_ct : ct_L := [(339, 118, e_jMath_max1_v91), (375, 124, e_jMath_min1_v92), (411, 127, e_Fa_relabel_at_Fablock_gr)]
set_option maxRecDepth 100000 in
theorem c_Fa_uniteAt_at_Grtail_Grhead_Fablock {l : Launch} {D : va_G} {kA : Nat → ClassId} (h_Fa_relabel_at_Fablock_gr : ct_ok PRD l D kA GG y_Fa_relabel_at_Fablock_gr z_Fa_relabel_at_Fablock_gr e_Fa_relabel_at_Fablock_gr) : ct_ok PRD l D kA GG y_Fa_uniteAt_at_Grtail_Grhead_Fablock z_Fa_uniteAt_at_Grtail_Grhead_Fablock e_Fa_uniteAt_at_Grtail_Grhead_Fablock := chk_all_ok (FT := []) (PT := []) (CT := t_Fa_uniteAt_at_Grtail_Grhead_Fablock_ct) (KT := []) (NT := []) (AN := n_Fa_uniteAt_at_Grtail_Grhead_Fablock_an) (OT := [o_Fa_uniteAt_at_Grtail_Grhead_Fablock_0, o_Fa_uniteAt_at_Grtail_Grhead_Fablock_1, o_Fa_uniteAt_at_Grtail_Grhead_Fablock_2, o_Fa_uniteAt_at_Grtail_Grhead_Fablock_3, o_Fa_uniteAt_at_Grtail_Grhead_Fablock_4, o_Fa_uniteAt_at_Grtail_Grhead_Fablock_5, o_Fa_uniteAt_at_Grtail_Grhead_Fablock_6, o_Fa_uniteAt_at_Grtail_Grhead_Fablock_7, o_Fa_uniteAt_at_Grtail_Grhead_Fablock_8, o_Fa_uniteAt_at_Grtail_Grhead_Fablock_9, o_Fa_uniteAt_at_Grtail_Grhead_Fablock_10, o_Fa_uniteAt_at_Grtail_Grhead_Fablock_11, o_Fa_uniteAt_at_Grtail_Grhead_Fablock_12, o_Fa_uniteAt_at_Grtail_Grhead_Fablock_13, o_Fa_uniteAt_at_Grtail_Grhead_Fablock_14, o_Fa_uniteAt_at_Grtail_Grhead_Fablock_15, o_Fa_uniteAt_at_Grtail_Grhead_Fablock_16, o_Fa_uniteAt_at_Grtail_Grhead_Fablock_17, o_Fa_uniteAt_at_Grtail_Grhead_Fablock_18, o_Fa_uniteAt_at_Grtail_Grhead_Fablock_19, o_Fa_uniteAt_at_Grtail_Grhead_Fablock_20, o_Fa_uniteAt_at_Grtail_Grhead_Fablock_21, o_Fa_uniteAt_at_Grtail_Grhead_Fablock_22, o_Fa_uniteAt_at_Grtail_Grhead_Fablock_23, o_Fa_uniteAt_at_Grtail_Grhead_Fablock_24, o_Fa_uniteAt_at_Grtail_Grhead_Fablock_25, o_Fa_uniteAt_at_Grtail_Grhead_Fablock_26, o_Fa_uniteAt_at_Grtail_Grhead_Fablock_27, o_Fa_uniteAt_at_Grtail_Grhead_Fablock_28, o_Fa_uniteAt_at_Grtail_Grhead_Fablock_29]) 3 1240 (List.forall_mem_cons.mpr ⟨oo_Fa_uniteAt_at_Grtail_Grhead_Fablock_0, List.forall_mem_cons.mpr ⟨oo_Fa_uniteAt_at_Grtail_Grhead_Fablock_1, List.forall_mem_cons.mpr ⟨oo_Fa_uniteAt_at_Grtail_Grhead_Fablock_2, List.forall_mem_cons.mpr ⟨oo_Fa_uniteAt_at_Grtail_Grhead_Fablock_3, List.forall_mem_cons.mpr ⟨oo_Fa_uniteAt_at_Grtail_Grhead_Fablock_4, List.forall_mem_cons.mpr ⟨oo_Fa_uniteAt_at_Grtail_Grhead_Fablock_5, List.forall_mem_cons.mpr ⟨oo_Fa_uniteAt_at_Grtail_Grhead_Fablock_6, List.forall_mem_cons.mpr ⟨oo_Fa_uniteAt_at_Grtail_Grhead_Fablock_7, List.forall_mem_cons.mpr ⟨oo_Fa_uniteAt_at_Grtail_Grhead_Fablock_8, List.forall_mem_cons.mpr ⟨oo_Fa_uniteAt_at_Grtail_Grhead_Fablock_9, List.forall_mem_cons.mpr ⟨oo_Fa_uniteAt_at_Grtail_Grhead_Fablock_10, List.forall_mem_cons.mpr ⟨oo_Fa_uniteAt_at_Grtail_Grhead_Fablock_11, List.forall_mem_cons.mpr ⟨oo_Fa_uniteAt_at_Grtail_Grhead_Fablock_12, List.forall_mem_cons.mpr ⟨oo_Fa_uniteAt_at_Grtail_Grhead_Fablock_13, List.forall_mem_cons.mpr ⟨oo_Fa_uniteAt_at_Grtail_Grhead_Fablock_14, List.forall_mem_cons.mpr ⟨oo_Fa_uniteAt_at_Grtail_Grhead_Fablock_15, List.forall_mem_cons.mpr ⟨oo_Fa_uniteAt_at_Grtail_Grhead_Fablock_16, List.forall_mem_cons.mpr ⟨oo_Fa_uniteAt_at_Grtail_Grhead_Fablock_17, List.forall_mem_cons.mpr ⟨oo_Fa_uniteAt_at_Grtail_Grhead_Fablock_18, List.forall_mem_cons.mpr ⟨oo_Fa_uniteAt_at_Grtail_Grhead_Fablock_19, List.forall_mem_cons.mpr ⟨oo_Fa_uniteAt_at_Grtail_Grhead_Fablock_20, List.forall_mem_cons.mpr ⟨oo_Fa_uniteAt_at_Grtail_Grhead_Fablock_21, List.forall_mem_cons.mpr ⟨oo_Fa_uniteAt_at_Grtail_Grhead_Fablock_22, List.forall_mem_cons.mpr ⟨oo_Fa_uniteAt_at_Grtail_Grhead_Fablock_23, List.forall_mem_cons.mpr ⟨oo_Fa_uniteAt_at_Grtail_Grhead_Fablock_24, List.forall_mem_cons.mpr ⟨oo_Fa_uniteAt_at_Grtail_Grhead_Fablock_25, List.forall_mem_cons.mpr ⟨oo_Fa_uniteAt_at_Grtail_Grhead_Fablock_26, List.forall_mem_cons.mpr ⟨oo_Fa_uniteAt_at_Grtail_Grhead_Fablock_27, List.forall_mem_cons.mpr ⟨oo_Fa_uniteAt_at_Grtail_Grhead_Fablock_28, List.forall_mem_cons.mpr ⟨oo_Fa_uniteAt_at_Grtail_Grhead_Fablock_29, List.forall_mem_nil _⟩⟩⟩⟩⟩⟩⟩⟩⟩⟩⟩⟩⟩⟩⟩⟩⟩⟩⟩⟩⟩⟩⟩⟩⟩⟩⟩⟩⟩⟩) (by decide +kernel) ⟨List.forall_mem_nil _, List.forall_mem_nil _, List.forall_mem_cons.mpr ⟨cl_static (y := y_jMath_max1) c_jMath_max1_v91 wm_836 wm_10 wm_834 wm_835 ⟨by decide, by decide, by decide +kernel⟩ (by decide), List.forall_mem_cons.mpr ⟨cl_static (y := y_jMath_min1) c_jMath_min1_v92 wm_658 wm_10 wm_837 wm_657 ⟨by decide, by decide, by decide +kernel⟩ (by decide), List.forall_mem_cons.mpr ⟨cl_static (y := y_Fa_relabel_at_Fablock_gr) h_Fa_relabel_at_Fablock_gr wm_840 wm_7 wm_838 wm_839 ⟨by decide, by decide, by decide +kernel⟩ (by decide), List.forall_mem_nil _⟩⟩⟩, List.forall_mem_nil _, List.forall_mem_nil _, GG_pl⟩ (by decide +kernel)

set_option maxHeartbeats 4000000 in
theorem vc_Fa_uniteAt_at_Netail_Nehead_Emblock_0_0 (x0 : Int) (x2 : Int) (x8 : Int) (a5_0 : Int → Int) (a3_0 : Int → Int) (a4_0 : Int → Int) (k0 : 0 ≤ x0 ∧ x0 ≤ 23) (k2 : 0 ≤ x2 ∧ x2 ≤ 72) (k8 : (-1) ≤ x8 ∧ x8 ≤ (-1)) (f1 : BLZ (a5_0) (a3_0) (a4_0) (x2)) : UNI (a5_0) (a3_0) (a4_0) (x2) (x0) (x8) := by
  first
    | exact uni_start ‹BLZ _ _ _ _› (by omega)
set_option maxHeartbeats 4000000 in
theorem vc_Fa_uniteAt_at_Netail_Nehead_Emblock_0_1 (x0 : Int) (x1 : Int) (x2 : Int) (x7 : Int) (x8 : Int) (a5_0 : Int → Int) (a3_0 : Int → Int) (a4_0 : Int → Int) (a6_0 : Int → Int) (k0 : 0 ≤ x0 ∧ x0 ≤ 23) (k1 : 0 ≤ x1 ∧ x1 ≤ 16777215) (k2 : 0 ≤ x2 ∧ x2 ≤ 72) (k7 : 0 ≤ x7 ∧ x7 ≤ 25) (k8 : (-1) ≤ x8 ∧ x8 ≤ (-1)) (f2 : BCU (a5_0) (a3_0) (a4_0) (a6_0) (x7) (x2)) (f3 : USD (a3_0) (a4_0) (a6_0) (x7) (x2) (x0) (x1)) : UN2 (a5_0) (a3_0) (a4_0) (a6_0) (x7) (x2) (x0) (x1) (x8) := by
  first
    | exact un2_start ‹BCU _ _ _ _ _ _› ‹USD _ _ _ _ _ _ _› (by omega)
def o_Fa_uniteAt_at_Netail_Nehead_Emblock_0 : or_T := (6, 10, [(0, (0, 0, 23, [])), (1, (0, 0, 16777215, [])), (2, (0, 0, 72, [])), (7, (0, 0, 25, [])), (8, (0, -1, -1, []))], [(20, [5, 3, 4, 2], [61, 3, 580]), (20, [5, 3, 4, 6, 7, 2], [61, 4, 587]), (20, [3, 4, 6, 7, 2, 0, 1], [61, 3, 588])], [], [], [(20, [5, 3, 4, 2, 0, 8], [61, 3, 584]), (20, [5, 3, 4, 6, 7, 2, 0, 1, 8], [61, 4, 589]), (24, [0, 0], []), (24, [1, 1], []), (24, [2, 2], []), (24, [3, 3], []), (24, [4, 4], []), (24, [5, 5], [])], [], [])
theorem oo_Fa_uniteAt_at_Netail_Nehead_Emblock_0 {kA : Nat → ClassId} : or_ok PRD kA GG o_Fa_uniteAt_at_Netail_Nehead_Emblock_0 := by
  refine or_mk fun A ta ws vs hD hth hl => ?_
  intro t0 k0 t1 k1 t2 k2 t7 k7 t8 k8 f1 f2 f3
  have nf0 : fc_1 PRD (20, [5, 3, 4, 2, 0, 8], [61, 3, 584]) ws (vs) := ⟨nf_in hl rfl, sgq_1193 (vc_Fa_uniteAt_at_Netail_Nehead_Emblock_0_0 (v_iv (n_v vs 0)) (v_iv (n_v vs 2)) (v_iv (n_v vs 8)) (w_ei ws (v_ad (n_v vs 5))) (w_ei ws (v_ad (n_v vs 3))) (w_ei ws (v_ad (n_v vs 4))) k0 k2 k8 (shm_1190 f1))⟩
  have nf1 : fc_1 PRD (20, [5, 3, 4, 6, 7, 2, 0, 1, 8], [61, 4, 589]) ws (vs) := ⟨nf_in hl rfl, sgq_1194 (vc_Fa_uniteAt_at_Netail_Nehead_Emblock_0_1 (v_iv (n_v vs 0)) (v_iv (n_v vs 1)) (v_iv (n_v vs 2)) (v_iv (n_v vs 7)) (v_iv (n_v vs 8)) (w_ei ws (v_ad (n_v vs 5))) (w_ei ws (v_ad (n_v vs 3))) (w_ei ws (v_ad (n_v vs 4))) (w_ei ws (v_ad (n_v vs 6))) k0 k1 k2 k7 k8 (shm_1191 f2) (shm_1192 f3))⟩
  have nf2 : fc_1 PRD (24, [0, 0], []) ws (vs) := by
    refine ⟨nf_in hl rfl, sgq_1 ?_⟩
    · show n_v vs 0 = n_v vs 0
      first | rfl | simp only [true_and]
  have nf3 : fc_1 PRD (24, [1, 1], []) ws (vs) := by
    refine ⟨nf_in hl rfl, sgq_1 ?_⟩
    · show n_v vs 1 = n_v vs 1
      first | rfl | simp only [true_and]
  have nf4 : fc_1 PRD (24, [2, 2], []) ws (vs) := by
    refine ⟨nf_in hl rfl, sgq_1 ?_⟩
    · show n_v vs 2 = n_v vs 2
      first | rfl | simp only [true_and]
  have nf5 : fc_1 PRD (24, [3, 3], []) ws (vs) := by
    refine ⟨nf_in hl rfl, sgq_1 ?_⟩
    · show n_v vs 3 = n_v vs 3
      first | rfl | simp only [true_and]
  have nf6 : fc_1 PRD (24, [4, 4], []) ws (vs) := by
    refine ⟨nf_in hl rfl, sgq_1 ?_⟩
    · show n_v vs 4 = n_v vs 4
      first | rfl | simp only [true_and]
  have nf7 : fc_1 PRD (24, [5, 5], []) ws (vs) := by
    refine ⟨nf_in hl rfl, sgq_1 ?_⟩
    · show n_v vs 5 = n_v vs 5
      first | rfl | simp only [true_and]
  refine ⟨(fun _ h => (by cases h)), [], trivial, ?_, (fun _ h => (by cases h))⟩
  rw [List.append_nil]
  exact List.forall_mem_cons.mpr ⟨⟨show (20 : Nat) < 100 from by decide, nf0⟩, List.forall_mem_cons.mpr ⟨⟨show (20 : Nat) < 100 from by decide, nf1⟩, List.forall_mem_cons.mpr ⟨⟨show (24 : Nat) < 100 from by decide, nf2⟩, List.forall_mem_cons.mpr ⟨⟨show (24 : Nat) < 100 from by decide, nf3⟩, List.forall_mem_cons.mpr ⟨⟨show (24 : Nat) < 100 from by decide, nf4⟩, List.forall_mem_cons.mpr ⟨⟨show (24 : Nat) < 100 from by decide, nf5⟩, List.forall_mem_cons.mpr ⟨⟨show (24 : Nat) < 100 from by decide, nf6⟩, List.forall_mem_cons.mpr ⟨⟨show (24 : Nat) < 100 from by decide, nf7⟩, (fun _ h => (by cases h))⟩⟩⟩⟩⟩⟩⟩⟩
set_option maxHeartbeats 4000000 in
theorem vc_Fa_uniteAt_at_Netail_Nehead_Emblock_1_0 (x2 : Int) (a5_0 : Int → Int) (k2 : 0 ≤ x2 ∧ x2 ≤ 72) (f1 : BLQ (a5_0) (x2)) : BLQ (a5_0) (x2) := by
  first
    | assumption
  
set_option maxHeartbeats 4000000 in
theorem vc_Fa_uniteAt_at_Netail_Nehead_Emblock_1_1 (x0 : Int) (x2 : Int) (x14 : Int) (a5_0 : Int → Int) (a3_0 : Int → Int) (a4_0 : Int → Int) (k0 : 0 ≤ x0 ∧ x0 ≤ 23) (k2 : 0 ≤ x2 ∧ x2 ≤ 72) (k14 : (-1) ≤ x14 ∧ x14 ≤ 71) (f2 : UNI (a5_0) (a3_0) (a4_0) (x2) (x0) (x14)) : BLZ (a5_0) (a3_0) (a4_0) (x2) := by
  first
    | assumption
    | exact (‹UNI _ _ _ _ _ _›).1
set_option maxHeartbeats 4000000 in
theorem vc_Fa_uniteAt_at_Netail_Nehead_Emblock_1_2 (x0 : Int) (x1 : Int) (x2 : Int) (x7 : Int) (x14 : Int) (a5_0 : Int → Int) (a3_0 : Int → Int) (a4_0 : Int → Int) (a6_0 : Int → Int) (k0 : 0 ≤ x0 ∧ x0 ≤ 23) (k1 : 0 ≤ x1 ∧ x1 ≤ 16777215) (k2 : 0 ≤ x2 ∧ x2 ≤ 72) (k7 : 0 ≤ x7 ∧ x7 ≤ 25) (k14 : (-1) ≤ x14 ∧ x14 ≤ 71) (f3 : UN2 (a5_0) (a3_0) (a4_0) (a6_0) (x7) (x2) (x0) (x1) (x14)) : BCU (a5_0) (a3_0) (a4_0) (a6_0) (x7) (x2) := by
  first
    | assumption
    | exact (‹UN2 _ _ _ _ _ _ _ _ _›).1.1
def o_Fa_uniteAt_at_Netail_Nehead_Emblock_1 : or_T := (145, 16, [(0, (0, 0, 23, [])), (1, (0, 0, 16777215, [])), (2, (0, 0, 72, [])), (7, (0, 0, 25, [])), (14, (0, -1, 71, []))], [(20, [13, 10], [61, 1, 566]), (20, [13, 11, 12, 10, 8, 14], [61, 3, 584]), (20, [13, 11, 12, 6, 7, 10, 8, 9, 14], [61, 4, 589]), (24, [0, 8], []), (24, [1, 9], []), (24, [2, 10], []), (24, [3, 11], []), (24, [4, 12], []), (24, [5, 13], [])], [], [], [(20, [5, 2], [61, 1, 566]), (20, [5, 3, 4, 2], [61, 3, 580]), (20, [5, 3, 4, 6, 7, 2], [61, 4, 587])], [], [])
theorem oo_Fa_uniteAt_at_Netail_Nehead_Emblock_1 {kA : Nat → ClassId} : or_ok PRD kA GG o_Fa_uniteAt_at_Netail_Nehead_Emblock_1 := by
  refine or_mk fun A ta ws vs hD hth hl => ?_
  intro t0 k0 t1 k1 t2 k2 t7 k7 t14 k14 f1 f2 f3 f4 f5 f6 f7 f8 f9
  replace f1 := shm_365 f1
  replace f2 := shm_1193 f2
  replace f3 := shm_1194 f3
  replace f4 := shm_5 f4
  replace f5 := shm_5 f5
  replace f6 := shm_5 f6
  replace f7 := shm_5 f7
  replace f8 := shm_5 f8
  replace f9 := shm_5 f9
  have q8 : n_v vs 8 = n_v vs 0 := f4.symm
  have q9 : n_v vs 9 = n_v vs 1 := f5.symm
  have q10 : n_v vs 10 = n_v vs 2 := f6.symm
  have q11 : n_v vs 11 = n_v vs 3 := f7.symm
  have q12 : n_v vs 12 = n_v vs 4 := f8.symm
  have q13 : n_v vs 13 = n_v vs 5 := f9.symm
  simp only [q10, q13, q8, q11, q12, q9] at f1 f2 f3
  have nf0 : fc_1 PRD (20, [5, 2], [61, 1, 566]) ws (vs) := ⟨nf_in hl rfl, sgq_365 (vc_Fa_uniteAt_at_Netail_Nehead_Emblock_1_0 (v_iv (n_v vs 2)) (w_ei ws (v_ad (n_v vs 5))) k2 f1)⟩
  have nf1 : fc_1 PRD (20, [5, 3, 4, 2], [61, 3, 580]) ws (vs) := ⟨nf_in hl rfl, sgq_1190 (vc_Fa_uniteAt_at_Netail_Nehead_Emblock_1_1 (v_iv (n_v vs 0)) (v_iv (n_v vs 2)) (v_iv (n_v vs 14)) (w_ei ws (v_ad (n_v vs 5))) (w_ei ws (v_ad (n_v vs 3))) (w_ei ws (v_ad (n_v vs 4))) k0 k2 k14 f2)⟩
  have nf2 : fc_1 PRD (20, [5, 3, 4, 6, 7, 2], [61, 4, 587]) ws (vs) := ⟨nf_in hl rfl, sgq_1191 (vc_Fa_uniteAt_at_Netail_Nehead_Emblock_1_2 (v_iv (n_v vs 0)) (v_iv (n_v vs 1)) (v_iv (n_v vs 2)) (v_iv (n_v vs 7)) (v_iv (n_v vs 14)) (w_ei ws (v_ad (n_v vs 5))) (w_ei ws (v_ad (n_v vs 3))) (w_ei ws (v_ad (n_v vs 4))) (w_ei ws (v_ad (n_v vs 6))) k0 k1 k2 k7 k14 f3)⟩
  refine ⟨(fun _ h => (by cases h)), [], trivial, ?_, (fun _ h => (by cases h))⟩
  rw [List.append_nil]
  exact List.forall_mem_cons.mpr ⟨⟨show (20 : Nat) < 100 from by decide, nf0⟩, List.forall_mem_cons.mpr ⟨⟨show (20 : Nat) < 100 from by decide, nf1⟩, List.forall_mem_cons.mpr ⟨⟨show (20 : Nat) < 100 from by decide, nf2⟩, (fun _ h => (by cases h))⟩⟩⟩
set_option maxHeartbeats 4000000 in
theorem vc_Fa_uniteAt_at_Netail_Nehead_Emblock_2_r0 (x2 : Int) (x15 : Int) (x16 : Int) (x18 : Int) (x19 : Int) (x25 : Int) (x26 : Int) (a5_0 : Int → Int) (a3_0 : Int → Int) (a4_0 : Int → Int) (k2 : 1 ≤ x2 ∧ x2 ≤ 72) (k15 : 0 ≤ x15 ∧ x15 ≤ 71) (k16 : 0 ≤ x16 ∧ x16 ≤ 23) (k18 : 0 ≤ x18 ∧ x18 ≤ 23) (k19 : 0 ≤ x19 ∧ x19 ≤ 23) (k25 : (-1) ≤ x25 ∧ x25 ≤ 71) (k26 : (-1) ≤ x26 ∧ x26 ≤ 71) (h0 : x26 = a5_0 (x15)) (h2 : x25 = a5_0 (x15)) (h8 : x19 = a3_0 (x15)) (h10 : x18 = a4_0 (x15)) (h12 : x16 = a3_0 (x15)) (f13 : x15 < x2) (f14 : BLQ (a5_0) (x2)) : 0 ≤ x26 ∧ x26 ≤ 71 := by
  first
    | omega
    | (skip; (first | subst h0 | skip); (first | subst h2 | skip); (first | subst h8 | skip); (first | subst h10 | skip); (first | subst h12 | skip); have q := ‹BLQ _ _› x15 (by omega) (by omega); omega)
def o_Fa_uniteAt_at_Netail_Nehead_Emblock_2 : or_T := (112, 27, [(0, (0, 0, 23, [])), (1, (0, 0, 16777215, [])), (2, (0, 1, 72, [])), (3, (2, 0, 0, [80])), (4, (2, 0, 0, [81])), (5, (2, 0, 0, [26])), (6, (2, 0, 0, [82])), (7, (0, 0, 25, [])), (8, (0, 0, 23, [])), (9, (0, 0, 16777215, [])), (10, (0, 1, 72, [])), (11, (2, 0, 0, [80])), (12, (2, 0, 0, [81])), (13, (2, 0, 0, [26])), (14, (0, 0, 71, [])), (15, (0, 0, 71, [])), (16, (0, 0, 23, [])), (18, (0, 0, 23, [])), (19, (0, 0, 23, [])), (20, (0, 0, 16777215, [])), (21, (0, 1, 1, [])), (22, (0, 1, 1, [])), (24, (0, -1, -1, [])), (25, (0, -1, 71, [])), (26, (0, -1, 71, []))], [(10, [26, 13, 15], []), (7, [25, 14], [1]), (10, [25, 13, 15], []), (7, [14, 24], [1]), (8, [22], [1]), (12, [22, 20], [2]), (16, [22, 20, 21], [0]), (16, [20, 9, 19], [4]), (10, [19, 11, 15], []), (7, [18, 8], [0]), (10, [18, 12, 15], []), (7, [16, 8], [1]), (10, [16, 11, 15], []), (7, [15, 10], [2]), (20, [13, 10], [61, 1, 566]), (20, [13, 11, 12, 10, 8, 14], [61, 3, 584]), (20, [13, 11, 12, 6, 7, 10, 8, 9, 14], [61, 4, 589]), (24, [0, 8], []), (24, [1, 9], []), (24, [2, 10], []), (24, [3, 11], []), (24, [4, 12], []), (24, [5, 13], [])], [(26, (0, 0, 71, []))], [], [], [], [(18, 8, 0, 0), (15, 10, -4294967296, -1), (0, 8, -4294967296, 0), (1, 9, -4294967296, 0), (2, 10, -4294967296, 0), (8, 0, -4294967296, 0), (9, 1, -4294967296, 0), (10, 2, -4294967296, 0), (14, 15, -4294967296, 70), (15, 2, -4294967296, 0), (15, 10, -4294967296, 0)])
theorem oo_Fa_uniteAt_at_Netail_Nehead_Emblock_2 {kA : Nat → ClassId} : or_ok PRD kA GG o_Fa_uniteAt_at_Netail_Nehead_Emblock_2 := by
  refine or_mk fun A ta ws vs hD hth hl => ?_
  intro t0 k0 t1 k1 t2 k2 t3 r3 t4 r4 t5 r5 t6 r6 t7 k7 t8 k8 t9 k9 t10 k10 t11 r11 t12 r12 t13 r13 t14 k14 t15 k15 t16 k16 t18 k18 t19 k19 t20 k20 t21 k21 t22 k22 t24 k24 t25 k25 t26 k26 d0 d1 d2 d3 d4 d5 d6 d7 d8 d9 d10 f0 f1 f2 f3 f4 f5 f6 f7 f8 f9 f10 f11 f12 f13 f14 f15 f16 f17 f18 f19 f20 f21 f22
  replace f0 := shm_107 f0
  replace f2 := shm_107 f2
  replace f8 := shm_107 f8
  replace f10 := shm_107 f10
  replace f12 := shm_107 f12
  replace f13 := shm_6 f13
  replace f14 := shm_365 f14
  replace f19 := shm_5 f19
  replace f20 := shm_5 f20
  replace f21 := shm_5 f21
  replace f22 := shm_5 f22
  have q10 : n_v vs 10 = n_v vs 2 := f19.symm
  have q11 : n_v vs 11 = n_v vs 3 := f20.symm
  have q12 : n_v vs 12 = n_v vs 4 := f21.symm
  have q13 : n_v vs 13 = n_v vs 5 := f22.symm
  simp only [q13, q11, q12, q10] at f0 f2 f8 f10 f12 f13 f14
  have h0 : v_iv (n_v vs 26) = w_ei ws (v_ad (n_v vs 5)) (v_iv (n_v vs 15)) := f0
  have h2 : v_iv (n_v vs 25) = w_ei ws (v_ad (n_v vs 5)) (v_iv (n_v vs 15)) := f2
  have h8 : v_iv (n_v vs 19) = w_ei ws (v_ad (n_v vs 3)) (v_iv (n_v vs 15)) := f8
  have h10 : v_iv (n_v vs 18) = w_ei ws (v_ad (n_v vs 4)) (v_iv (n_v vs 15)) := f10
  have h12 : v_iv (n_v vs 16) = w_ei ws (v_ad (n_v vs 3)) (v_iv (n_v vs 15)) := f12
  have hrf0 : 0 ≤ v_iv (n_v vs 26) ∧ v_iv (n_v vs 26) ≤ 71 := vc_Fa_uniteAt_at_Netail_Nehead_Emblock_2_r0 (v_iv (n_v vs 2)) (v_iv (n_v vs 15)) (v_iv (n_v vs 16)) (v_iv (n_v vs 18)) (v_iv (n_v vs 19)) (v_iv (n_v vs 25)) (v_iv (n_v vs 26)) (w_ei ws (v_ad (n_v vs 5))) (w_ei ws (v_ad (n_v vs 3))) (w_ei ws (v_ad (n_v vs 4))) k2 k15 k16 k18 k19 k25 k26 h0 h2 h8 h10 h12 f13 f14
  have rf26 : tv_ok ta (0, 0, 71, []) (n_v vs 26) := tv_in t26 (by first | omega | grind) (by first | omega | grind)
  refine ⟨List.forall_mem_cons.mpr ⟨rf26, (fun _ h => (by cases h))⟩, [], trivial, ?_, (fun _ h => (by cases h))⟩
  rw [List.append_nil]
  exact (fun _ h => (by cases h))
set_option maxHeartbeats 4000000 in
theorem vc_Fa_uniteAt_at_Netail_Nehead_Emblock_3_r0 (x15 : Int) (x16 : Int) (x18 : Int) (x19 : Int) (x25 : Int) (x26 : Int) (x28 : Int) (a5_0 : Int → Int) (a3_0 : Int → Int) (a4_0 : Int → Int) (k15 : 0 ≤ x15 ∧ x15 ≤ 71) (k16 : 0 ≤ x16 ∧ x16 ≤ 23) (k18 : 0 ≤ x18 ∧ x18 ≤ 23) (k19 : 0 ≤ x19 ∧ x19 ≤ 23) (k25 : (-1) ≤ x25 ∧ x25 ≤ 71) (k26 : 0 ≤ x26 ∧ x26 ≤ 71) (k28 : (-1) ≤ x28 ∧ x28 ≤ 71) (h0 : x28 = a5_0 (x15)) (h4 : x26 = a5_0 (x15)) (h6 : x25 = a5_0 (x15)) (h12 : x19 = a3_0 (x15)) (h14 : x18 = a4_0 (x15)) (h16 : x16 = a3_0 (x15)) : 0 ≤ x28 ∧ x28 ≤ 71 := by
  first
    | omega
    | (skip; (first | subst h0 | skip); (first | subst h4 | skip); (first | subst h6 | skip); (first | subst h12 | skip); (first | subst h14 | skip); (first | subst h16 | skip); have q := ‹BLQ _ _› x15 (by omega) (by omega); omega)
def o_Fa_uniteAt_at_Netail_Nehead_Emblock_3 : or_T := (124, 29, [(0, (0, 0, 23, [])), (1, (0, 0, 16777215, [])), (2, (0, 1, 72, [])), (3, (2, 0, 0, [80])), (4, (2, 0, 0, [81])), (5, (2, 0, 0, [26])), (6, (2, 0, 0, [82])), (7, (0, 0, 25, [])), (8, (0, 0, 23, [])), (9, (0, 0, 16777215, [])), (10, (0, 1, 72, [])), (11, (2, 0, 0, [80])), (12, (2, 0, 0, [81])), (13, (2, 0, 0, [26])), (14, (0, 0, 71, [])), (15, (0, 0, 71, [])), (16, (0, 0, 23, [])), (18, (0, 0, 23, [])), (19, (0, 0, 23, [])), (20, (0, 0, 16777215, [])), (21, (0, 1, 1, [])), (22, (0, 1, 1, [])), (24, (0, -1, -1, [])), (25, (0, -1, 71, [])), (26, (0, 0, 71, [])), (27, (0, 0, 71, [])), (28, (0, -1, 71, []))], [(10, [28, 13, 15], []), (23, [14, 27], [0, 1, -1]), (23, [26, 27], [0, 1, -1]), (20, [27, 14, 26], [50, 0, 0, 3, 6, 1, 2, 1, 0, 1, 1, 1, 2, 1, 0, 1, 2]), (10, [26, 13, 15], []), (7, [25, 14], [1]), (10, [25, 13, 15], []), (7, [14, 24], [1]), (8, [22], [1]), (12, [22, 20], [2]), (16, [22, 20, 21], [0]), (16, [20, 9, 19], [4]), (10, [19, 11, 15], []), (7, [18, 8], [0]), (10, [18, 12, 15], []), (7, [16, 8], [1]), (10, [16, 11, 15], []), (7, [15, 10], [2]), (20, [13, 10], [61, 1, 566]), (20, [13, 11, 12, 10, 8, 14], [61, 3, 584]), (20, [13, 11, 12, 6, 7, 10, 8, 9, 14], [61, 4, 589]), (24, [0, 8], []), (24, [1, 9], []), (24, [2, 10], []), (24, [3, 11], []), (24, [4, 12], []), (24, [5, 13], [])], [(28, (0, 0, 71, []))], [], [], [], [(18, 8, 0, 0), (15, 10, -4294967296, -1), (0, 8, -4294967296, 0), (1, 9, -4294967296, 0), (2, 10, -4294967296, 0), (8, 0, -4294967296, 0), (9, 1, -4294967296, 0), (10, 2, -4294967296, 0), (14, 15, -4294967296, 70), (15, 2, -4294967296, 0), (15, 10, -4294967296, 0)])
theorem oo_Fa_uniteAt_at_Netail_Nehead_Emblock_3 {kA : Nat → ClassId} : or_ok PRD kA GG o_Fa_uniteAt_at_Netail_Nehead_Emblock_3 := by
  refine or_mk fun A ta ws vs hD hth hl => ?_
  intro t0 k0 t1 k1 t2 k2 t3 r3 t4 r4 t5 r5 t6 r6 t7 k7 t8 k8 t9 k9 t10 k10 t11 r11 t12 r12 t13 r13 t14 k14 t15 k15 t16 k16 t18 k18 t19 k19 t20 k20 t21 k21 t22 k22 t24 k24 t25 k25 t26 k26 t27 k27 t28 k28 d0 d1 d2 d3 d4 d5 d6 d7 d8 d9 d10 f0 f1 f2 f3 f4 f5 f6 f7 f8 f9 f10 f11 f12 f13 f14 f15 f16 f17 f18 f19 f20 f21 f22 f23 f24 f25 f26
  replace f0 := shm_107 f0
  replace f4 := shm_107 f4
  replace f6 := shm_107 f6
  replace f12 := shm_107 f12
  replace f14 := shm_107 f14
  replace f16 := shm_107 f16
  replace f24 := shm_5 f24
  replace f25 := shm_5 f25
  replace f26 := shm_5 f26
  have q11 : n_v vs 11 = n_v vs 3 := f24.symm
  have q12 : n_v vs 12 = n_v vs 4 := f25.symm
  have q13 : n_v vs 13 = n_v vs 5 := f26.symm
  simp only [q13, q11, q12] at f0 f4 f6 f12 f14 f16
  have h0 : v_iv (n_v vs 28) = w_ei ws (v_ad (n_v vs 5)) (v_iv (n_v vs 15)) := f0
  have h4 : v_iv (n_v vs 26) = w_ei ws (v_ad (n_v vs 5)) (v_iv (n_v vs 15)) := f4
  have h6 : v_iv (n_v vs 25) = w_ei ws (v_ad (n_v vs 5)) (v_iv (n_v vs 15)) := f6
  have h12 : v_iv (n_v vs 19) = w_ei ws (v_ad (n_v vs 3)) (v_iv (n_v vs 15)) := f12
  have h14 : v_iv (n_v vs 18) = w_ei ws (v_ad (n_v vs 4)) (v_iv (n_v vs 15)) := f14
  have h16 : v_iv (n_v vs 16) = w_ei ws (v_ad (n_v vs 3)) (v_iv (n_v vs 15)) := f16
  have hrf0 : 0 ≤ v_iv (n_v vs 28) ∧ v_iv (n_v vs 28) ≤ 71 := vc_Fa_uniteAt_at_Netail_Nehead_Emblock_3_r0 (v_iv (n_v vs 15)) (v_iv (n_v vs 16)) (v_iv (n_v vs 18)) (v_iv (n_v vs 19)) (v_iv (n_v vs 25)) (v_iv (n_v vs 26)) (v_iv (n_v vs 28)) (w_ei ws (v_ad (n_v vs 5))) (w_ei ws (v_ad (n_v vs 3))) (w_ei ws (v_ad (n_v vs 4))) k15 k16 k18 k19 k25 k26 k28 h0 h4 h6 h12 h14 h16
  have rf28 : tv_ok ta (0, 0, 71, []) (n_v vs 28) := tv_in t28 (by first | omega | grind) (by first | omega | grind)
  refine ⟨List.forall_mem_cons.mpr ⟨rf28, (fun _ h => (by cases h))⟩, [], trivial, ?_, (fun _ h => (by cases h))⟩
  rw [List.append_nil]
  exact (fun _ h => (by cases h))
set_option maxHeartbeats 4000000 in
theorem vc_Fa_uniteAt_at_Netail_Nehead_Emblock_4_2 (x0 : Int) (x8 : Int) (x15 : Int) (x16 : Int) (x18 : Int) (x19 : Int) (x25 : Int) (x26 : Int) (x28 : Int) (a5_0 : Int → Int) (a3_0 : Int → Int) (a4_0 : Int → Int) (gu : Int) (k0 : 0 ≤ x0 ∧ x0 ≤ 23) (k8 : 0 ≤ x8 ∧ x8 ≤ 23) (k15 : 0 ≤ x15 ∧ x15 ≤ 71) (k16 : 0 ≤ x16 ∧ x16 ≤ 23) (k18 : 0 ≤ x18 ∧ x18 ≤ 23) (k19 : 0 ≤ x19 ∧ x19 ≤ 23) (k25 : (-1) ≤ x25 ∧ x25 ≤ 71) (k26 : 0 ≤ x26 ∧ x26 ≤ 71) (k28 : 0 ≤ x28 ∧ x28 ≤ 71) (d0 : x8 + 0 ≤ x18 ∧ x18 ≤ x8 + 0) (d2 : x8 + (-4294967296) ≤ x0 ∧ x0 ≤ x8 + 0) (d5 : x0 + (-4294967296) ≤ x8 ∧ x8 ≤ x0 + 0) (h3 : x28 = a5_0 (x15)) (h7 : x26 = a5_0 (x15)) (h9 : x25 = a5_0 (x15)) (h15 : x19 = a3_0 (x15)) (h17 : x18 = a4_0 (x15)) (h19 : x16 = a3_0 (x15)) (eu2 : gu = x0) : 1 * gu + ((-1) * x0 + 0) ≤ 0 := by
  first
    | omega
    | (skip; (first | subst h3 | skip); (first | subst h7 | skip); (first | subst h9 | skip); (first | subst h15 | skip); (first | subst h17 | skip); (first | subst h19 | skip); have q := ‹BLQ _ _› x15 (by omega) (by omega); omega)
set_option maxHeartbeats 4000000 in
theorem vc_Fa_uniteAt_at_Netail_Nehead_Emblock_4_3 (x0 : Int) (x8 : Int) (x15 : Int) (x16 : Int) (x18 : Int) (x19 : Int) (x25 : Int) (x26 : Int) (x28 : Int) (a5_0 : Int → Int) (a3_0 : Int → Int) (a4_0 : Int → Int) (gu : Int) (k0 : 0 ≤ x0 ∧ x0 ≤ 23) (k8 : 0 ≤ x8 ∧ x8 ≤ 23) (k15 : 0 ≤ x15 ∧ x15 ≤ 71) (k16 : 0 ≤ x16 ∧ x16 ≤ 23) (k18 : 0 ≤ x18 ∧ x18 ≤ 23) (k19 : 0 ≤ x19 ∧ x19 ≤ 23) (k25 : (-1) ≤ x25 ∧ x25 ≤ 71) (k26 : 0 ≤ x26 ∧ x26 ≤ 71) (k28 : 0 ≤ x28 ∧ x28 ≤ 71) (d0 : x8 + 0 ≤ x18 ∧ x18 ≤ x8 + 0) (d2 : x8 + (-4294967296) ≤ x0 ∧ x0 ≤ x8 + 0) (d5 : x0 + (-4294967296) ≤ x8 ∧ x8 ≤ x0 + 0) (h3 : x28 = a5_0 (x15)) (h7 : x26 = a5_0 (x15)) (h9 : x25 = a5_0 (x15)) (h15 : x19 = a3_0 (x15)) (h17 : x18 = a4_0 (x15)) (h19 : x16 = a3_0 (x15)) (eu2 : gu = x0) : (-1) * gu + (1 * x0 + 0) ≤ 0 := by
  first
    | omega
    | (skip; (first | subst h3 | skip); (first | subst h7 | skip); (first | subst h9 | skip); (first | subst h15 | skip); (first | subst h17 | skip); (first | subst h19 | skip); have q := ‹BLQ _ _› x15 (by omega) (by omega); omega)
set_option maxHeartbeats 4000000 in
theorem vc_Fa_uniteAt_at_Netail_Nehead_Emblock_4_5 (x7 : Int) (x15 : Int) (x16 : Int) (x18 : Int) (x19 : Int) (x25 : Int) (x26 : Int) (x28 : Int) (a5_0 : Int → Int) (a3_0 : Int → Int) (a4_0 : Int → Int) (gc : Int) (k7 : 0 ≤ x7 ∧ x7 ≤ 25) (k15 : 0 ≤ x15 ∧ x15 ≤ 71) (k16 : 0 ≤ x16 ∧ x16 ≤ 23) (k18 : 0 ≤ x18 ∧ x18 ≤ 23) (k19 : 0 ≤ x19 ∧ x19 ≤ 23) (k25 : (-1) ≤ x25 ∧ x25 ≤ 71) (k26 : 0 ≤ x26 ∧ x26 ≤ 71) (k28 : 0 ≤ x28 ∧ x28 ≤ 71) (h3 : x28 = a5_0 (x15)) (h7 : x26 = a5_0 (x15)) (h9 : x25 = a5_0 (x15)) (h15 : x19 = a3_0 (x15)) (h17 : x18 = a4_0 (x15)) (h19 : x16 = a3_0 (x15)) (ec2 : gc = x7) : 1 * gc + ((-1) * x7 + 0) ≤ 0 := by
  first
    | omega
    | (skip; (first | subst h3 | skip); (first | subst h7 | skip); (first | subst h9 | skip); (first | subst h15 | skip); (first | subst h17 | skip); (first | subst h19 | skip); have q := ‹BLQ _ _› x15 (by omega) (by omega); omega)
set_option maxHeartbeats 4000000 in
theorem vc_Fa_uniteAt_at_Netail_Nehead_Emblock_4_6 (x7 : Int) (x15 : Int) (x16 : Int) (x18 : Int) (x19 : Int) (x25 : Int) (x26 : Int) (x28 : Int) (a5_0 : Int → Int) (a3_0 : Int → Int) (a4_0 : Int → Int) (gc : Int) (k7 : 0 ≤ x7 ∧ x7 ≤ 25) (k15 : 0 ≤ x15 ∧ x15 ≤ 71) (k16 : 0 ≤ x16 ∧ x16 ≤ 23) (k18 : 0 ≤ x18 ∧ x18 ≤ 23) (k19 : 0 ≤ x19 ∧ x19 ≤ 23) (k25 : (-1) ≤ x25 ∧ x25 ≤ 71) (k26 : 0 ≤ x26 ∧ x26 ≤ 71) (k28 : 0 ≤ x28 ∧ x28 ≤ 71) (h3 : x28 = a5_0 (x15)) (h7 : x26 = a5_0 (x15)) (h9 : x25 = a5_0 (x15)) (h15 : x19 = a3_0 (x15)) (h17 : x18 = a4_0 (x15)) (h19 : x16 = a3_0 (x15)) (ec2 : gc = x7) : (-1) * gc + (1 * x7 + 0) ≤ 0 := by
  first
    | omega
    | (skip; (first | subst h3 | skip); (first | subst h7 | skip); (first | subst h9 | skip); (first | subst h15 | skip); (first | subst h17 | skip); (first | subst h19 | skip); have q := ‹BLQ _ _› x15 (by omega) (by omega); omega)
set_option maxHeartbeats 4000000 in
theorem vc_Fa_uniteAt_at_Netail_Nehead_Emblock_4_7 (x1 : Int) (x9 : Int) (x15 : Int) (x16 : Int) (x18 : Int) (x19 : Int) (x25 : Int) (x26 : Int) (x28 : Int) (a5_0 : Int → Int) (a3_0 : Int → Int) (a4_0 : Int → Int) (gd : Int) (k1 : 0 ≤ x1 ∧ x1 ≤ 16777215) (k9 : 0 ≤ x9 ∧ x9 ≤ 16777215) (k15 : 0 ≤ x15 ∧ x15 ≤ 71) (k16 : 0 ≤ x16 ∧ x16 ≤ 23) (k18 : 0 ≤ x18 ∧ x18 ≤ 23) (k19 : 0 ≤ x19 ∧ x19 ≤ 23) (k25 : (-1) ≤ x25 ∧ x25 ≤ 71) (k26 : 0 ≤ x26 ∧ x26 ≤ 71) (k28 : 0 ≤ x28 ∧ x28 ≤ 71) (d3 : x9 + (-4294967296) ≤ x1 ∧ x1 ≤ x9 + 0) (d6 : x1 + (-4294967296) ≤ x9 ∧ x9 ≤ x1 + 0) (h3 : x28 = a5_0 (x15)) (h7 : x26 = a5_0 (x15)) (h9 : x25 = a5_0 (x15)) (h15 : x19 = a3_0 (x15)) (h17 : x18 = a4_0 (x15)) (h19 : x16 = a3_0 (x15)) (ed2 : gd = x1) : 1 * gd + ((-1) * x1 + 0) ≤ 0 := by
  first
    | omega
    | (skip; (first | subst h3 | skip); (first | subst h7 | skip); (first | subst h9 | skip); (first | subst h15 | skip); (first | subst h17 | skip); (first | subst h19 | skip); have q := ‹BLQ _ _› x15 (by omega) (by omega); omega)
set_option maxHeartbeats 4000000 in
theorem vc_Fa_uniteAt_at_Netail_Nehead_Emblock_4_8 (x1 : Int) (x9 : Int) (x15 : Int) (x16 : Int) (x18 : Int) (x19 : Int) (x25 : Int) (x26 : Int) (x28 : Int) (a5_0 : Int → Int) (a3_0 : Int → Int) (a4_0 : Int → Int) (gd : Int) (k1 : 0 ≤ x1 ∧ x1 ≤ 16777215) (k9 : 0 ≤ x9 ∧ x9 ≤ 16777215) (k15 : 0 ≤ x15 ∧ x15 ≤ 71) (k16 : 0 ≤ x16 ∧ x16 ≤ 23) (k18 : 0 ≤ x18 ∧ x18 ≤ 23) (k19 : 0 ≤ x19 ∧ x19 ≤ 23) (k25 : (-1) ≤ x25 ∧ x25 ≤ 71) (k26 : 0 ≤ x26 ∧ x26 ≤ 71) (k28 : 0 ≤ x28 ∧ x28 ≤ 71) (d3 : x9 + (-4294967296) ≤ x1 ∧ x1 ≤ x9 + 0) (d6 : x1 + (-4294967296) ≤ x9 ∧ x9 ≤ x1 + 0) (h3 : x28 = a5_0 (x15)) (h7 : x26 = a5_0 (x15)) (h9 : x25 = a5_0 (x15)) (h15 : x19 = a3_0 (x15)) (h17 : x18 = a4_0 (x15)) (h19 : x16 = a3_0 (x15)) (ed2 : gd = x1) : (-1) * gd + (1 * x1 + 0) ≤ 0 := by
  first
    | omega
    | (skip; (first | subst h3 | skip); (first | subst h7 | skip); (first | subst h9 | skip); (first | subst h15 | skip); (first | subst h17 | skip); (first | subst h19 | skip); have q := ‹BLQ _ _› x15 (by omega) (by omega); omega)
set_option maxHeartbeats 4000000 in
theorem vc_Fa_uniteAt_at_Netail_Nehead_Emblock_4_9 (x2 : Int) (a5_0 : Int → Int) (k2 : 1 ≤ x2 ∧ x2 ≤ 72) (f21 : BLQ (a5_0) (x2)) : BLQ (a5_0) (x2) := by
  first
    | assumption
  
set_option maxHeartbeats 4000000 in
theorem vc_Fa_uniteAt_at_Netail_Nehead_Emblock_4_10 (x15 : Int) (x16 : Int) (x18 : Int) (x19 : Int) (x25 : Int) (x26 : Int) (x27 : Int) (x28 : Int) (x29 : Int) (a5_0 : Int → Int) (a3_0 : Int → Int) (a4_0 : Int → Int) (k15 : 0 ≤ x15 ∧ x15 ≤ 71) (k16 : 0 ≤ x16 ∧ x16 ≤ 23) (k18 : 0 ≤ x18 ∧ x18 ≤ 23) (k19 : 0 ≤ x19 ∧ x19 ≤ 23) (k25 : (-1) ≤ x25 ∧ x25 ≤ 71) (k26 : 0 ≤ x26 ∧ x26 ≤ 71) (k27 : 0 ≤ x27 ∧ x27 ≤ 71) (k28 : 0 ≤ x28 ∧ x28 ≤ 71) (k29 : 0 ≤ x29 ∧ x29 ≤ 71) (f1 : (-1) * x28 + (1 * x29 + 0) ≤ 0) (h3 : x28 = a5_0 (x15)) (f5 : 1 * x26 + ((-1) * x27 + 0) ≤ 0) (h7 : x26 = a5_0 (x15)) (h9 : x25 = a5_0 (x15)) (h15 : x19 = a3_0 (x15)) (h17 : x18 = a4_0 (x15)) (h19 : x16 = a3_0 (x15)) : (0 ≤ x29) ∧ (x29 ≤ x27) := by
  first
    | omega
    | (skip; (first | subst h3 | skip); (first | subst h7 | skip); (first | subst h9 | skip); (first | subst h15 | skip); (first | subst h17 | skip); (first | subst h19 | skip); have q := ‹BLQ _ _› x15 (by omega) (by omega); omega)
set_option maxHeartbeats 4000000 in
theorem vc_Fa_uniteAt_at_Netail_Nehead_Emblock_4_11 (x0 : Int) (x2 : Int) (x8 : Int) (x14 : Int) (x15 : Int) (x16 : Int) (x18 : Int) (x22 : Int) (x24 : Int) (x25 : Int) (x26 : Int) (x27 : Int) (x28 : Int) (x29 : Int) (a5_0 : Int → Int) (a3_0 : Int → Int) (a4_0 : Int → Int) (gu : Int) (k0 : 0 ≤ x0 ∧ x0 ≤ 23) (k2 : 1 ≤ x2 ∧ x2 ≤ 72) (k8 : 0 ≤ x8 ∧ x8 ≤ 23) (k14 : 0 ≤ x14 ∧ x14 ≤ 71) (k15 : 0 ≤ x15 ∧ x15 ≤ 71) (k16 : 0 ≤ x16 ∧ x16 ≤ 23) (k18 : 0 ≤ x18 ∧ x18 ≤ 23) (k22 : 1 ≤ x22 ∧ x22 ≤ 1) (k24 : (-1) ≤ x24 ∧ x24 ≤ (-1)) (k25 : (-1) ≤ x25 ∧ x25 ≤ 71) (k26 : 0 ≤ x26 ∧ x26 ≤ 71) (k27 : 0 ≤ x27 ∧ x27 ≤ 71) (k28 : 0 ≤ x28 ∧ x28 ≤ 71) (k29 : 0 ≤ x29 ∧ x29 ≤ 71) (d0 : x8 + 0 ≤ x18 ∧ x18 ≤ x8 + 0) (d2 : x8 + (-4294967296) ≤ x0 ∧ x0 ≤ x8 + 0) (d5 : x0 + (-4294967296) ≤ x8 ∧ x8 ≤ x0 + 0) (f0 : (-1) * x14 + (1 * x29 + 0) ≤ 0) (f1 : (-1) * x28 + (1 * x29 + 0) ≤ 0) (f2 : (x29 = x14) ∨ (x29 = x28)) (h3 : x28 = a5_0 (x15)) (f4 : 1 * x14 + ((-1) * x27 + 0) ≤ 0) (f5 : 1 * x26 + ((-1) * x27 + 0) ≤ 0) (f6 : (x27 = x14) ∨ (x27 = x26)) (h7 : x26 = a5_0 (x15)) (f8 : x25 ≠ x14) (h9 : x25 = a5_0 (x15)) (f10 : x14 ≠ x24) (f11 : x22 ≠ 0) (h17 : x18 = a4_0 (x15)) (f18 : x16 ≠ x0) (f20 : x15 < x2) (f22 : UNI (a5_0) (a3_0) (a4_0) (x2) (x0) (x14)) (eu2 : gu = x0) : RLP (a5_0) (a3_0) (a4_0) (x2) (x27) (x29) (gu) := by
  first
    | (rw [show gu = x0 by omega]; exact uni_rlp (e := x15) ‹UNI _ _ _ _ _ _› (by omega) rfl (by omega) (by omega) (by omega) (by first | exact Or.inl (by omega) | exact Or.inr (by omega)) (by omega) (by omega) (by omega) (by omega) (by omega) (by omega))
  
set_option maxHeartbeats 4000000 in
theorem vc_Fa_uniteAt_at_Netail_Nehead_Emblock_4_12 (x0 : Int) (x1 : Int) (x2 : Int) (x7 : Int) (x8 : Int) (x14 : Int) (x15 : Int) (x16 : Int) (x18 : Int) (x19 : Int) (x20 : Int) (x21 : Int) (x22 : Int) (x24 : Int) (x25 : Int) (x26 : Int) (x27 : Int) (x28 : Int) (x29 : Int) (a5_0 : Int → Int) (a3_0 : Int → Int) (a4_0 : Int → Int) (a6_0 : Int → Int) (gu : Int) (gc : Int) (gd : Int) (k0 : 0 ≤ x0 ∧ x0 ≤ 23) (k1 : 0 ≤ x1 ∧ x1 ≤ 16777215) (k2 : 1 ≤ x2 ∧ x2 ≤ 72) (k7 : 0 ≤ x7 ∧ x7 ≤ 25) (k8 : 0 ≤ x8 ∧ x8 ≤ 23) (k14 : 0 ≤ x14 ∧ x14 ≤ 71) (k15 : 0 ≤ x15 ∧ x15 ≤ 71) (k16 : 0 ≤ x16 ∧ x16 ≤ 23) (k18 : 0 ≤ x18 ∧ x18 ≤ 23) (k19 : 0 ≤ x19 ∧ x19 ≤ 23) (k20 : 0 ≤ x20 ∧ x20 ≤ 16777215) (k21 : 1 ≤ x21 ∧ x21 ≤ 1) (k22 : 1 ≤ x22 ∧ x22 ≤ 1) (k24 : (-1) ≤ x24 ∧ x24 ≤ (-1)) (k25 : (-1) ≤ x25 ∧ x25 ≤ 71) (k26 : 0 ≤ x26 ∧ x26 ≤ 71) (k27 : 0 ≤ x27 ∧ x27 ≤ 71) (k28 : 0 ≤ x28 ∧ x28 ≤ 71) (k29 : 0 ≤ x29 ∧ x29 ≤ 71) (d0 : x8 + 0 ≤ x18 ∧ x18 ≤ x8 + 0) (d2 : x8 + (-4294967296) ≤ x0 ∧ x0 ≤ x8 + 0) (d5 : x0 + (-4294967296) ≤ x8 ∧ x8 ≤ x0 + 0) (f0 : (-1) * x14 + (1 * x29 + 0) ≤ 0) (f1 : (-1) * x28 + (1 * x29 + 0) ≤ 0) (f2 : (x29 = x14) ∨ (x29 = x28)) (h3 : x28 = a5_0 (x15)) (f4 : 1 * x14 + ((-1) * x27 + 0) ≤ 0) (f5 : 1 * x26 + ((-1) * x27 + 0) ≤ 0) (f6 : (x27 = x14) ∨ (x27 = x26)) (h7 : x26 = a5_0 (x15)) (f8 : x25 ≠ x14) (h9 : x25 = a5_0 (x15)) (f10 : x14 ≠ x24) (f11 : x22 ≠ 0) (f13 : bvp (x22) = bvp (x20) &&& bvp (x21)) (f14 : bvp (x20) = bvp (x1) >>> (x19).toNat) (h15 : x19 = a3_0 (x15)) (h17 : x18 = a4_0 (x15)) (f18 : x16 ≠ x0) (f20 : x15 < x2) (f23 : UN2 (a5_0) (a3_0) (a4_0) (a6_0) (x7) (x2) (x0) (x1) (x14)) (eu2 : gu = x0) (ec2 : gc = x7) (ed2 : gd = x1) : QKP (a5_0) (a3_0) (a4_0) (a6_0) (gc) (x2) (gu) (gd) (x27) (x29) := by
  first
    | (rw [show gu = x0 by omega, show gc = x7 by omega, show gd = x1 by omega]; exact un2_qkp (e := x15) ‹UN2 _ _ _ _ _ _ _ _ _› (by omega) rfl (by omega) (by omega) (by omega) (by first | exact Or.inl ⟨by omega, by omega, by rw [← ‹x17 = a4_0 x15›]; exact (bit_one (s := x1) (t := x18) (c := x20) (v := x17) (one := x19) (by assumption) (by assumption) (by omega) (by omega) (by omega) (by omega)).mpr (by omega)⟩ | exact Or.inr ⟨by omega, by omega, by rw [← ‹x19 = a3_0 x15›]; exact (bit_one (s := x1) (t := x20) (c := x22) (v := x19) (one := x21) (by assumption) (by assumption) (by omega) (by omega) (by omega) (by omega)).mpr (by omega)⟩ | exact Or.inr ⟨by omega, by omega, by rw [← ‹x23 = a3_0 x15›]; exact (bit_one (s := x1) (t := x24) (c := x26) (v := x23) (one := x25) (by assumption) (by assumption) (by omega) (by omega) (by omega) (by omega)).mpr (by omega)⟩) (by omega) (by omega) (by omega) (by omega) (by omega) (by omega))
  
set_option maxHeartbeats 4000000 in
theorem vc_Fa_uniteAt_at_Netail_Nehead_Emblock_4_13 (x0 : Int) (x15 : Int) (x16 : Int) (x18 : Int) (x19 : Int) (x25 : Int) (x26 : Int) (x28 : Int) (a5_0 : Int → Int) (a3_0 : Int → Int) (a4_0 : Int → Int) (gu : Int) (k0 : 0 ≤ x0 ∧ x0 ≤ 23) (k15 : 0 ≤ x15 ∧ x15 ≤ 71) (k16 : 0 ≤ x16 ∧ x16 ≤ 23) (k18 : 0 ≤ x18 ∧ x18 ≤ 23) (k19 : 0 ≤ x19 ∧ x19 ≤ 23) (k25 : (-1) ≤ x25 ∧ x25 ≤ 71) (k26 : 0 ≤ x26 ∧ x26 ≤ 71) (k28 : 0 ≤ x28 ∧ x28 ≤ 71) (h3 : x28 = a5_0 (x15)) (h7 : x26 = a5_0 (x15)) (h9 : x25 = a5_0 (x15)) (h15 : x19 = a3_0 (x15)) (h17 : x18 = a4_0 (x15)) (h19 : x16 = a3_0 (x15)) (eu2 : gu = x0) : gu = x0 := by
  first
    | omega
    | (skip; (first | subst h3 | skip); (first | subst h7 | skip); (first | subst h9 | skip); (first | subst h15 | skip); (first | subst h17 | skip); (first | subst h19 | skip); have q := ‹BLQ _ _› x15 (by omega) (by omega); omega)
set_option maxHeartbeats 4000000 in
theorem vc_Fa_uniteAt_at_Netail_Nehead_Emblock_4_14 (x15 : Int) (x16 : Int) (x18 : Int) (x19 : Int) (x25 : Int) (x26 : Int) (x28 : Int) (x29 : Int) (a5_0 : Int → Int) (a3_0 : Int → Int) (a4_0 : Int → Int) (k15 : 0 ≤ x15 ∧ x15 ≤ 71) (k16 : 0 ≤ x16 ∧ x16 ≤ 23) (k18 : 0 ≤ x18 ∧ x18 ≤ 23) (k19 : 0 ≤ x19 ∧ x19 ≤ 23) (k25 : (-1) ≤ x25 ∧ x25 ≤ 71) (k26 : 0 ≤ x26 ∧ x26 ≤ 71) (k28 : 0 ≤ x28 ∧ x28 ≤ 71) (k29 : 0 ≤ x29 ∧ x29 ≤ 71) (h3 : x28 = a5_0 (x15)) (h7 : x26 = a5_0 (x15)) (h9 : x25 = a5_0 (x15)) (h15 : x19 = a3_0 (x15)) (h17 : x18 = a4_0 (x15)) (h19 : x16 = a3_0 (x15)) : 0 ≤ x29 := by
  first
    | omega
    | (skip; (first | subst h3 | skip); (first | subst h7 | skip); (first | subst h9 | skip); (first | subst h15 | skip); (first | subst h17 | skip); (first | subst h19 | skip); have q := ‹BLQ _ _› x15 (by omega) (by omega); omega)
set_option maxHeartbeats 4000000 in
theorem vc_Fa_uniteAt_at_Netail_Nehead_Emblock_4_15 (x7 : Int) (x15 : Int) (x16 : Int) (x18 : Int) (x19 : Int) (x25 : Int) (x26 : Int) (x28 : Int) (a5_0 : Int → Int) (a3_0 : Int → Int) (a4_0 : Int → Int) (gc : Int) (k7 : 0 ≤ x7 ∧ x7 ≤ 25) (k15 : 0 ≤ x15 ∧ x15 ≤ 71) (k16 : 0 ≤ x16 ∧ x16 ≤ 23) (k18 : 0 ≤ x18 ∧ x18 ≤ 23) (k19 : 0 ≤ x19 ∧ x19 ≤ 23) (k25 : (-1) ≤ x25 ∧ x25 ≤ 71) (k26 : 0 ≤ x26 ∧ x26 ≤ 71) (k28 : 0 ≤ x28 ∧ x28 ≤ 71) (h3 : x28 = a5_0 (x15)) (h7 : x26 = a5_0 (x15)) (h9 : x25 = a5_0 (x15)) (h15 : x19 = a3_0 (x15)) (h17 : x18 = a4_0 (x15)) (h19 : x16 = a3_0 (x15)) (ec2 : gc = x7) : gc = x7 := by
  first
    | omega
    | (skip; (first | subst h3 | skip); (first | subst h7 | skip); (first | subst h9 | skip); (first | subst h15 | skip); (first | subst h17 | skip); (first | subst h19 | skip); have q := ‹BLQ _ _› x15 (by omega) (by omega); omega)
set_option maxHeartbeats 4000000 in
theorem vc_Fa_uniteAt_at_Netail_Nehead_Emblock_4_16 (x1 : Int) (x15 : Int) (x16 : Int) (x18 : Int) (x19 : Int) (x25 : Int) (x26 : Int) (x28 : Int) (a5_0 : Int → Int) (a3_0 : Int → Int) (a4_0 : Int → Int) (gd : Int) (k1 : 0 ≤ x1 ∧ x1 ≤ 16777215) (k15 : 0 ≤ x15 ∧ x15 ≤ 71) (k16 : 0 ≤ x16 ∧ x16 ≤ 23) (k18 : 0 ≤ x18 ∧ x18 ≤ 23) (k19 : 0 ≤ x19 ∧ x19 ≤ 23) (k25 : (-1) ≤ x25 ∧ x25 ≤ 71) (k26 : 0 ≤ x26 ∧ x26 ≤ 71) (k28 : 0 ≤ x28 ∧ x28 ≤ 71) (h3 : x28 = a5_0 (x15)) (h7 : x26 = a5_0 (x15)) (h9 : x25 = a5_0 (x15)) (h15 : x19 = a3_0 (x15)) (h17 : x18 = a4_0 (x15)) (h19 : x16 = a3_0 (x15)) (ed2 : gd = x1) : gd = x1 := by
  first
    | omega
    | (skip; (first | subst h3 | skip); (first | subst h7 | skip); (first | subst h9 | skip); (first | subst h15 | skip); (first | subst h17 | skip); (first | subst h19 | skip); have q := ‹BLQ _ _› x15 (by omega) (by omega); omega)
def o_Fa_uniteAt_at_Netail_Nehead_Emblock_4 : or_T := (136, 30, [(0, (0, 0, 23, [])), (1, (0, 0, 16777215, [])), (2, (0, 1, 72, [])), (3, (2, 0, 0, [80])), (4, (2, 0, 0, [81])), (5, (2, 0, 0, [26])), (6, (2, 0, 0, [82])), (7, (0, 0, 25, [])), (8, (0, 0, 23, [])), (9, (0, 0, 16777215, [])), (10, (0, 1, 72, [])), (11, (2, 0, 0, [80])), (12, (2, 0, 0, [81])), (13, (2, 0, 0, [26])), (14, (0, 0, 71, [])), (15, (0, 0, 71, [])), (16, (0, 0, 23, [])), (18, (0, 0, 23, [])), (19, (0, 0, 23, [])), (20, (0, 0, 16777215, [])), (21, (0, 1, 1, [])), (22, (0, 1, 1, [])), (24, (0, -1, -1, [])), (25, (0, -1, 71, [])), (26, (0, 0, 71, [])), (27, (0, 0, 71, [])), (28, (0, 0, 71, [])), (29, (0, 0, 71, []))], [(23, [14, 29], [0, -1, 1]), (23, [28, 29], [0, -1, 1]), (20, [29, 14, 28], [50, 0, 0, 3, 6, 1, 2, 1, 0, 1, 1, 1, 2, 1, 0, 1, 2]), (10, [28, 13, 15], []), (23, [14, 27], [0, 1, -1]), (23, [26, 27], [0, 1, -1]), (20, [27, 14, 26], [50, 0, 0, 3, 6, 1, 2, 1, 0, 1, 1, 1, 2, 1, 0, 1, 2]), (10, [26, 13, 15], []), (7, [25, 14], [1]), (10, [25, 13, 15], []), (7, [14, 24], [1]), (8, [22], [1]), (12, [22, 20], [2]), (16, [22, 20, 21], [0]), (16, [20, 9, 19], [4]), (10, [19, 11, 15], []), (7, [18, 8], [0]), (10, [18, 12, 15], []), (7, [16, 8], [1]), (10, [16, 11, 15], []), (7, [15, 10], [2]), (20, [13, 10], [61, 1, 566]), (20, [13, 11, 12, 10, 8, 14], [61, 3, 584]), (20, [13, 11, 12, 6, 7, 10, 8, 9, 14], [61, 4, 589]), (24, [0, 8], []), (24, [1, 9], []), (24, [2, 10], []), (24, [3, 11], []), (24, [4, 12], []), (24, [5, 13], [])], [], [(2, 0, 0, [80]), (2, 0, 0, [81]), (0, 0, 24, []), (2, 0, 0, [82]), (0, 0, 25, []), (0, -2147483648, 2147483647, [])], [(24, [3, 30], []), (24, [4, 31], []), (23, [32, 8], [0, 1, -1]), (23, [32, 8], [0, -1, 1]), (24, [6, 33], []), (23, [34, 7], [0, 1, -1]), (23, [34, 7], [0, -1, 1]), (23, [35, 9], [0, 1, -1]), (23, [35, 9], [0, -1, 1]), (20, [13, 10], [61, 1, 566]), (20, [29, 27], [50, 0, 0, 2, 6, 0, 2, 0, 0, 1, 0, 0, 2, 1, 0, 1, 1]), (20, [13, 30, 31, 10, 27, 29, 32], [61, 3, 581]), (20, [13, 30, 31, 33, 34, 10, 32, 35, 27, 29], [61, 4, 590]), (20, [32, 8], [50, 0, 0, 1, 2, 1, 0, 1, 1]), (20, [29], [50, 0, 0, 0, 2, 0, 0, 1, 0]), (20, [34, 7], [50, 0, 0, 1, 2, 1, 0, 1, 1]), (20, [35, 9], [50, 0, 0, 1, 2, 1, 0, 1, 1])], [], [(18, 8, 0, 0), (15, 10, -4294967296, -1), (0, 8, -4294967296, 0), (1, 9, -4294967296, 0), (2, 10, -4294967296, 0), (8, 0, -4294967296, 0), (9, 1, -4294967296, 0), (10, 2, -4294967296, 0), (14, 15, -4294967296, 70), (15, 2, -4294967296, 0), (15, 10, -4294967296, 0)])
theorem oo_Fa_uniteAt_at_Netail_Nehead_Emblock_4 {kA : Nat → ClassId} : or_ok PRD kA GG o_Fa_uniteAt_at_Netail_Nehead_Emblock_4 := by
  refine or_mk fun A ta ws vs hD hth hl => ?_
  intro t0 k0 t1 k1 t2 k2 t3 r3 t4 r4 t5 r5 t6 r6 t7 k7 t8 k8 t9 k9 t10 k10 t11 r11 t12 r12 t13 r13 t14 k14 t15 k15 t16 k16 t18 k18 t19 k19 t20 k20 t21 k21 t22 k22 t24 k24 t25 k25 t26 k26 t27 k27 t28 k28 t29 k29 d0 d1 d2 d3 d4 d5 d6 d7 d8 d9 d10 f0 f1 f2 f3 f4 f5 f6 f7 f8 f9 f10 f11 f12 f13 f14 f15 f16 f17 f18 f19 f20 f21 f22 f23 f24 f25 f26 f27 f28 f29
  replace f0 := shm_22 f0
  replace f1 := shm_22 f1
  replace f2 := shm_898 f2
  replace f3 := shm_107 f3
  replace f4 := shm_7 f4
  replace f5 := shm_7 f5
  replace f6 := shm_898 f6
  replace f7 := shm_107 f7
  replace f8 := shm_40 f8
  replace f9 := shm_107 f9
  replace f10 := shm_40 f10
  replace f11 := shm_142 f11
  replace f13 := shm_11 f13
  replace f14 := shm_13 f14
  replace f15 := shm_107 f15
  replace f17 := shm_107 f17
  replace f18 := shm_40 f18
  replace f19 := shm_107 f19
  replace f20 := shm_6 f20
  replace f21 := shm_365 f21
  replace f22 := shm_1193 f22
  replace f23 := shm_1194 f23
  replace f24 := shm_5 f24
  replace f25 := shm_5 f25
  replace f26 := shm_5 f26
  replace f27 := shm_5 f27
  replace f28 := shm_5 f28
  replace f29 := shm_5 f29
  have q8 : n_v vs 8 = n_v vs 0 := f24.symm
  have q9 : n_v vs 9 = n_v vs 1 := f25.symm
  have q10 : n_v vs 10 = n_v vs 2 := f26.symm
  have q11 : n_v vs 11 = n_v vs 3 := f27.symm
  have q12 : n_v vs 12 = n_v vs 4 := f28.symm
  have q13 : n_v vs 13 = n_v vs 5 := f29.symm
  simp only [q13, q9, q11, q8, q12, q10] at f3 f7 f9 f14 f15 f17 f18 f19 f20 f21 f22 f23
  have h3 : v_iv (n_v vs 28) = w_ei ws (v_ad (n_v vs 5)) (v_iv (n_v vs 15)) := f3
  have h7 : v_iv (n_v vs 26) = w_ei ws (v_ad (n_v vs 5)) (v_iv (n_v vs 15)) := f7
  have h9 : v_iv (n_v vs 25) = w_ei ws (v_ad (n_v vs 5)) (v_iv (n_v vs 15)) := f9
  have h15 : v_iv (n_v vs 19) = w_ei ws (v_ad (n_v vs 3)) (v_iv (n_v vs 15)) := f15
  have h17 : v_iv (n_v vs 18) = w_ei ws (v_ad (n_v vs 4)) (v_iv (n_v vs 15)) := f17
  have h19 : v_iv (n_v vs 16) = w_ei ws (v_ad (n_v vs 3)) (v_iv (n_v vs 15)) := f19
  obtain ⟨u, eu, hu⟩ := iv_ex (ta := ta) (lo := 0) (hi := 24) (z := v_iv (n_v vs 0)) (by omega) (by omega) (by omega) (by omega)
  have eu2 : v_iv (Value.int u) = v_iv (n_v vs 0) := eu
  have eu3 : 0 ≤ v_iv (Value.int u) ∧ v_iv (Value.int u) ≤ 24 := tv_rng hu
  obtain ⟨c, ec, hc⟩ := iv_ex (ta := ta) (lo := 0) (hi := 25) (z := v_iv (n_v vs 7)) (by omega) (by omega) (by omega) (by omega)
  have ec2 : v_iv (Value.int c) = v_iv (n_v vs 7) := ec
  have ec3 : 0 ≤ v_iv (Value.int c) ∧ v_iv (Value.int c) ≤ 25 := tv_rng hc
  obtain ⟨d, ed, hd⟩ := iv_ex (ta := ta) (lo := (-2147483648)) (hi := 2147483647) (z := v_iv (n_v vs 1)) (by omega) (by omega) (by omega) (by omega)
  have ed2 : v_iv (Value.int d) = v_iv (n_v vs 1) := ed
  have ed3 : (-2147483648) ≤ v_iv (Value.int d) ∧ v_iv (Value.int d) ≤ 2147483647 := tv_rng hd
  have e_3 : n_v (vs ++ [n_v vs 3, n_v vs 4, Value.int u, n_v vs 6, Value.int c, Value.int d]) 3 = n_v vs 3 := n_v_old (by rw [hl]; decide)
  have e_4 : n_v (vs ++ [n_v vs 3, n_v vs 4, Value.int u, n_v vs 6, Value.int c, Value.int d]) 4 = n_v vs 4 := n_v_old (by rw [hl]; decide)
  have e_6 : n_v (vs ++ [n_v vs 3, n_v vs 4, Value.int u, n_v vs 6, Value.int c, Value.int d]) 6 = n_v vs 6 := n_v_old (by rw [hl]; decide)
  have e_7 : n_v (vs ++ [n_v vs 3, n_v vs 4, Value.int u, n_v vs 6, Value.int c, Value.int d]) 7 = n_v vs 7 := n_v_old (by rw [hl]; decide)
  have e_8 : n_v (vs ++ [n_v vs 3, n_v vs 4, Value.int u, n_v vs 6, Value.int c, Value.int d]) 8 = n_v vs 8 := n_v_old (by rw [hl]; decide)
  have e_9 : n_v (vs ++ [n_v vs 3, n_v vs 4, Value.int u, n_v vs 6, Value.int c, Value.int d]) 9 = n_v vs 9 := n_v_old (by rw [hl]; decide)
  have e_10 : n_v (vs ++ [n_v vs 3, n_v vs 4, Value.int u, n_v vs 6, Value.int c, Value.int d]) 10 = n_v vs 10 := n_v_old (by rw [hl]; decide)
  have e_13 : n_v (vs ++ [n_v vs 3, n_v vs 4, Value.int u, n_v vs 6, Value.int c, Value.int d]) 13 = n_v vs 13 := n_v_old (by rw [hl]; decide)
  have e_27 : n_v (vs ++ [n_v vs 3, n_v vs 4, Value.int u, n_v vs 6, Value.int c, Value.int d]) 27 = n_v vs 27 := n_v_old (by rw [hl]; decide)
  have e_29 : n_v (vs ++ [n_v vs 3, n_v vs 4, Value.int u, n_v vs 6, Value.int c, Value.int d]) 29 = n_v vs 29 := n_v_old (by rw [hl]; decide)
  have e_30 : n_v (vs ++ [n_v vs 3, n_v vs 4, Value.int u, n_v vs 6, Value.int c, Value.int d]) 30 = n_v vs 3 := n_v_newk (k := 0) hl rfl
  have e_31 : n_v (vs ++ [n_v vs 3, n_v vs 4, Value.int u, n_v vs 6, Value.int c, Value.int d]) 31 = n_v vs 4 := n_v_newk (k := 1) hl rfl
  have e_32 : n_v (vs ++ [n_v vs 3, n_v vs 4, Value.int u, n_v vs 6, Value.int c, Value.int d]) 32 = Value.int u := n_v_newk (k := 2) hl rfl
  have e_33 : n_v (vs ++ [n_v vs 3, n_v vs 4, Value.int u, n_v vs 6, Value.int c, Value.int d]) 33 = n_v vs 6 := n_v_newk (k := 3) hl rfl
  have e_34 : n_v (vs ++ [n_v vs 3, n_v vs 4, Value.int u, n_v vs 6, Value.int c, Value.int d]) 34 = Value.int c := n_v_newk (k := 4) hl rfl
  have e_35 : n_v (vs ++ [n_v vs 3, n_v vs 4, Value.int u, n_v vs 6, Value.int c, Value.int d]) 35 = Value.int d := n_v_newk (k := 5) hl rfl
  have nf0 : fc_1 PRD (24, [3, 30], []) ws (vs ++ [n_v vs 3, n_v vs 4, Value.int u, n_v vs 6, Value.int c, Value.int d]) := by
    refine ⟨nf_inA hl rfl, sgq_5 ?_⟩
    · show n_v (vs ++ [n_v vs 3, n_v vs 4, Value.int u, n_v vs 6, Value.int c, Value.int d]) 3 = n_v (vs ++ [n_v vs 3, n_v vs 4, Value.int u, n_v vs 6, Value.int c, Value.int d]) 30
      first | rfl | simp only [e_3, e_30, q8, q9, q10, q11, q12, q13]
  have nf1 : fc_1 PRD (24, [4, 31], []) ws (vs ++ [n_v vs 3, n_v vs 4, Value.int u, n_v vs 6, Value.int c, Value.int d]) := by
    refine ⟨nf_inA hl rfl, sgq_5 ?_⟩
    · show n_v (vs ++ [n_v vs 3, n_v vs 4, Value.int u, n_v vs 6, Value.int c, Value.int d]) 4 = n_v (vs ++ [n_v vs 3, n_v vs 4, Value.int u, n_v vs 6, Value.int c, Value.int d]) 31
      first | rfl | simp only [e_4, e_31, q8, q9, q10, q11, q12, q13]
  have nf2 : fc_1 PRD (23, [32, 8], [0, 1, -1]) ws (vs ++ [n_v vs 3, n_v vs 4, Value.int u, n_v vs 6, Value.int c, Value.int d]) := by
    refine ⟨nf_inA hl rfl, sgq_7 ?_⟩
    · show 1 * v_iv (n_v (vs ++ [n_v vs 3, n_v vs 4, Value.int u, n_v vs 6, Value.int c, Value.int d]) 32) + ((-1) * v_iv (n_v (vs ++ [n_v vs 3, n_v vs 4, Value.int u, n_v vs 6, Value.int c, Value.int d]) 8) + 0) ≤ 0
      simp only [e_8, e_32, q8]
      exact vc_Fa_uniteAt_at_Netail_Nehead_Emblock_4_2 (v_iv (n_v vs 0)) (v_iv (n_v vs 8)) (v_iv (n_v vs 15)) (v_iv (n_v vs 16)) (v_iv (n_v vs 18)) (v_iv (n_v vs 19)) (v_iv (n_v vs 25)) (v_iv (n_v vs 26)) (v_iv (n_v vs 28)) (w_ei ws (v_ad (n_v vs 5))) (w_ei ws (v_ad (n_v vs 3))) (w_ei ws (v_ad (n_v vs 4))) (v_iv (Value.int u)) k0 k8 k15 k16 k18 k19 k25 k26 k28 d0 d2 d5 h3 h7 h9 h15 h17 h19 eu2
  have nf3 : fc_1 PRD (23, [32, 8], [0, -1, 1]) ws (vs ++ [n_v vs 3, n_v vs 4, Value.int u, n_v vs 6, Value.int c, Value.int d]) := by
    refine ⟨nf_inA hl rfl, sgq_22 ?_⟩
    · show (-1) * v_iv (n_v (vs ++ [n_v vs 3, n_v vs 4, Value.int u, n_v vs 6, Value.int c, Value.int d]) 32) + (1 * v_iv (n_v (vs ++ [n_v vs 3, n_v vs 4, Value.int u, n_v vs 6, Value.int c, Value.int d]) 8) + 0) ≤ 0
      simp only [e_8, e_32, q8]
      exact vc_Fa_uniteAt_at_Netail_Nehead_Emblock_4_3 (v_iv (n_v vs 0)) (v_iv (n_v vs 8)) (v_iv (n_v vs 15)) (v_iv (n_v vs 16)) (v_iv (n_v vs 18)) (v_iv (n_v vs 19)) (v_iv (n_v vs 25)) (v_iv (n_v vs 26)) (v_iv (n_v vs 28)) (w_ei ws (v_ad (n_v vs 5))) (w_ei ws (v_ad (n_v vs 3))) (w_ei ws (v_ad (n_v vs 4))) (v_iv (Value.int u)) k0 k8 k15 k16 k18 k19 k25 k26 k28 d0 d2 d5 h3 h7 h9 h15 h17 h19 eu2
  have nf4 : fc_1 PRD (24, [6, 33], []) ws (vs ++ [n_v vs 3, n_v vs 4, Value.int u, n_v vs 6, Value.int c, Value.int d]) := by
    refine ⟨nf_inA hl rfl, sgq_5 ?_⟩
    · show n_v (vs ++ [n_v vs 3, n_v vs 4, Value.int u, n_v vs 6, Value.int c, Value.int d]) 6 = n_v (vs ++ [n_v vs 3, n_v vs 4, Value.int u, n_v vs 6, Value.int c, Value.int d]) 33
      first | rfl | simp only [e_6, e_33, q8, q9, q10, q11, q12, q13]
  have nf5 : fc_1 PRD (23, [34, 7], [0, 1, -1]) ws (vs ++ [n_v vs 3, n_v vs 4, Value.int u, n_v vs 6, Value.int c, Value.int d]) := by
    refine ⟨nf_inA hl rfl, sgq_7 ?_⟩
    · show 1 * v_iv (n_v (vs ++ [n_v vs 3, n_v vs 4, Value.int u, n_v vs 6, Value.int c, Value.int d]) 34) + ((-1) * v_iv (n_v (vs ++ [n_v vs 3, n_v vs 4, Value.int u, n_v vs 6, Value.int c, Value.int d]) 7) + 0) ≤ 0
      simp only [e_7, e_34]
      exact vc_Fa_uniteAt_at_Netail_Nehead_Emblock_4_5 (v_iv (n_v vs 7)) (v_iv (n_v vs 15)) (v_iv (n_v vs 16)) (v_iv (n_v vs 18)) (v_iv (n_v vs 19)) (v_iv (n_v vs 25)) (v_iv (n_v vs 26)) (v_iv (n_v vs 28)) (w_ei ws (v_ad (n_v vs 5))) (w_ei ws (v_ad (n_v vs 3))) (w_ei ws (v_ad (n_v vs 4))) (v_iv (Value.int c)) k7 k15 k16 k18 k19 k25 k26 k28 h3 h7 h9 h15 h17 h19 ec2
  have nf6 : fc_1 PRD (23, [34, 7], [0, -1, 1]) ws (vs ++ [n_v vs 3, n_v vs 4, Value.int u, n_v vs 6, Value.int c, Value.int d]) := by
    refine ⟨nf_inA hl rfl, sgq_22 ?_⟩
    · show (-1) * v_iv (n_v (vs ++ [n_v vs 3, n_v vs 4, Value.int u, n_v vs 6, Value.int c, Value.int d]) 34) + (1 * v_iv (n_v (vs ++ [n_v vs 3, n_v vs 4, Value.int u, n_v vs 6, Value.int c, Value.int d]) 7) + 0) ≤ 0
      simp only [e_7, e_34]
      exact vc_Fa_uniteAt_at_Netail_Nehead_Emblock_4_6 (v_iv (n_v vs 7)) (v_iv (n_v vs 15)) (v_iv (n_v vs 16)) (v_iv (n_v vs 18)) (v_iv (n_v vs 19)) (v_iv (n_v vs 25)) (v_iv (n_v vs 26)) (v_iv (n_v vs 28)) (w_ei ws (v_ad (n_v vs 5))) (w_ei ws (v_ad (n_v vs 3))) (w_ei ws (v_ad (n_v vs 4))) (v_iv (Value.int c)) k7 k15 k16 k18 k19 k25 k26 k28 h3 h7 h9 h15 h17 h19 ec2
  have nf7 : fc_1 PRD (23, [35, 9], [0, 1, -1]) ws (vs ++ [n_v vs 3, n_v vs 4, Value.int u, n_v vs 6, Value.int c, Value.int d]) := by
    refine ⟨nf_inA hl rfl, sgq_7 ?_⟩
    · show 1 * v_iv (n_v (vs ++ [n_v vs 3, n_v vs 4, Value.int u, n_v vs 6, Value.int c, Value.int d]) 35) + ((-1) * v_iv (n_v (vs ++ [n_v vs 3, n_v vs 4, Value.int u, n_v vs 6, Value.int c, Value.int d]) 9) + 0) ≤ 0
      simp only [e_9, e_35, q9]
      exact vc_Fa_uniteAt_at_Netail_Nehead_Emblock_4_7 (v_iv (n_v vs 1)) (v_iv (n_v vs 9)) (v_iv (n_v vs 15)) (v_iv (n_v vs 16)) (v_iv (n_v vs 18)) (v_iv (n_v vs 19)) (v_iv (n_v vs 25)) (v_iv (n_v vs 26)) (v_iv (n_v vs 28)) (w_ei ws (v_ad (n_v vs 5))) (w_ei ws (v_ad (n_v vs 3))) (w_ei ws (v_ad (n_v vs 4))) (v_iv (Value.int d)) k1 k9 k15 k16 k18 k19 k25 k26 k28 d3 d6 h3 h7 h9 h15 h17 h19 ed2
  have nf8 : fc_1 PRD (23, [35, 9], [0, -1, 1]) ws (vs ++ [n_v vs 3, n_v vs 4, Value.int u, n_v vs 6, Value.int c, Value.int d]) := by
    refine ⟨nf_inA hl rfl, sgq_22 ?_⟩
    · show (-1) * v_iv (n_v (vs ++ [n_v vs 3, n_v vs 4, Value.int u, n_v vs 6, Value.int c, Value.int d]) 35) + (1 * v_iv (n_v (vs ++ [n_v vs 3, n_v vs 4, Value.int u, n_v vs 6, Value.int c, Value.int d]) 9) + 0) ≤ 0
      simp only [e_9, e_35, q9]
      exact vc_Fa_uniteAt_at_Netail_Nehead_Emblock_4_8 (v_iv (n_v vs 1)) (v_iv (n_v vs 9)) (v_iv (n_v vs 15)) (v_iv (n_v vs 16)) (v_iv (n_v vs 18)) (v_iv (n_v vs 19)) (v_iv (n_v vs 25)) (v_iv (n_v vs 26)) (v_iv (n_v vs 28)) (w_ei ws (v_ad (n_v vs 5))) (w_ei ws (v_ad (n_v vs 3))) (w_ei ws (v_ad (n_v vs 4))) (v_iv (Value.int d)) k1 k9 k15 k16 k18 k19 k25 k26 k28 d3 d6 h3 h7 h9 h15 h17 h19 ed2
  have nf9 : fc_1 PRD (20, [13, 10], [61, 1, 566]) ws (vs ++ [n_v vs 3, n_v vs 4, Value.int u, n_v vs 6, Value.int c, Value.int d]) := by
    refine ⟨nf_inA hl rfl, sgq_365 ?_⟩
    · show BLQ (w_ei ws (v_ad (n_v (vs ++ [n_v vs 3, n_v vs 4, Value.int u, n_v vs 6, Value.int c, Value.int d]) 13))) (v_iv (n_v (vs ++ [n_v vs 3, n_v vs 4, Value.int u, n_v vs 6, Value.int c, Value.int d]) 10))
      simp only [e_10, e_13, q10, q13]
      exact vc_Fa_uniteAt_at_Netail_Nehead_Emblock_4_9 (v_iv (n_v vs 2)) (w_ei ws (v_ad (n_v vs 5))) k2 f21
  have nf10 : fc_1 PRD (20, [29, 27], [50, 0, 0, 2, 6, 0, 2, 0, 0, 1, 0, 0, 2, 1, 0, 1, 1]) ws (vs ++ [n_v vs 3, n_v vs 4, Value.int u, n_v vs 6, Value.int c, Value.int d]) := by
    refine ⟨nf_inA hl rfl, sgq_366 ?_⟩
    · show (0 ≤ v_iv (n_v (vs ++ [n_v vs 3, n_v vs 4, Value.int u, n_v vs 6, Value.int c, Value.int d]) 29)) ∧ (v_iv (n_v (vs ++ [n_v vs 3, n_v vs 4, Value.int u, n_v vs 6, Value.int c, Value.int d]) 29) ≤ v_iv (n_v (vs ++ [n_v vs 3, n_v vs 4, Value.int u, n_v vs 6, Value.int c, Value.int d]) 27))
      simp only [e_27, e_29]
      exact vc_Fa_uniteAt_at_Netail_Nehead_Emblock_4_10 (v_iv (n_v vs 15)) (v_iv (n_v vs 16)) (v_iv (n_v vs 18)) (v_iv (n_v vs 19)) (v_iv (n_v vs 25)) (v_iv (n_v vs 26)) (v_iv (n_v vs 27)) (v_iv (n_v vs 28)) (v_iv (n_v vs 29)) (w_ei ws (v_ad (n_v vs 5))) (w_ei ws (v_ad (n_v vs 3))) (w_ei ws (v_ad (n_v vs 4))) k15 k16 k18 k19 k25 k26 k27 k28 k29 f1 h3 f5 h7 h9 h15 h17 h19
  have nf11 : fc_1 PRD (20, [13, 30, 31, 10, 27, 29, 32], [61, 3, 581]) ws (vs ++ [n_v vs 3, n_v vs 4, Value.int u, n_v vs 6, Value.int c, Value.int d]) := by
    refine ⟨nf_inA hl rfl, sgq_367 ?_⟩
    · show RLP (w_ei ws (v_ad (n_v (vs ++ [n_v vs 3, n_v vs 4, Value.int u, n_v vs 6, Value.int c, Value.int d]) 13))) (w_ei ws (v_ad (n_v (vs ++ [n_v vs 3, n_v vs 4, Value.int u, n_v vs 6, Value.int c, Value.int d]) 30))) (w_ei ws (v_ad (n_v (vs ++ [n_v vs 3, n_v vs 4, Value.int u, n_v vs 6, Value.int c, Value.int d]) 31))) (v_iv (n_v (vs ++ [n_v vs 3, n_v vs 4, Value.int u, n_v vs 6, Value.int c, Value.int d]) 10)) (v_iv (n_v (vs ++ [n_v vs 3, n_v vs 4, Value.int u, n_v vs 6, Value.int c, Value.int d]) 27)) (v_iv (n_v (vs ++ [n_v vs 3, n_v vs 4, Value.int u, n_v vs 6, Value.int c, Value.int d]) 29)) (v_iv (n_v (vs ++ [n_v vs 3, n_v vs 4, Value.int u, n_v vs 6, Value.int c, Value.int d]) 32))
      simp only [e_10, e_13, e_27, e_29, e_30, e_31, e_32, q10, q13]
      exact vc_Fa_uniteAt_at_Netail_Nehead_Emblock_4_11 (v_iv (n_v vs 0)) (v_iv (n_v vs 2)) (v_iv (n_v vs 8)) (v_iv (n_v vs 14)) (v_iv (n_v vs 15)) (v_iv (n_v vs 16)) (v_iv (n_v vs 18)) (v_iv (n_v vs 22)) (v_iv (n_v vs 24)) (v_iv (n_v vs 25)) (v_iv (n_v vs 26)) (v_iv (n_v vs 27)) (v_iv (n_v vs 28)) (v_iv (n_v vs 29)) (w_ei ws (v_ad (n_v vs 5))) (w_ei ws (v_ad (n_v vs 3))) (w_ei ws (v_ad (n_v vs 4))) (v_iv (Value.int u)) k0 k2 k8 k14 k15 k16 k18 k22 k24 k25 k26 k27 k28 k29 d0 d2 d5 f0 f1 f2 h3 f4 f5 f6 h7 f8 h9 f10 f11 h17 f18 f20 f22 eu2
  have nf12 : fc_1 PRD (20, [13, 30, 31, 33, 34, 10, 32, 35, 27, 29], [61, 4, 590]) ws (vs ++ [n_v vs 3, n_v vs 4, Value.int u, n_v vs 6, Value.int c, Value.int d]) := by
    refine ⟨nf_inA hl rfl, sgq_368 ?_⟩
    · show QKP (w_ei ws (v_ad (n_v (vs ++ [n_v vs 3, n_v vs 4, Value.int u, n_v vs 6, Value.int c, Value.int d]) 13))) (w_ei ws (v_ad (n_v (vs ++ [n_v vs 3, n_v vs 4, Value.int u, n_v vs 6, Value.int c, Value.int d]) 30))) (w_ei ws (v_ad (n_v (vs ++ [n_v vs 3, n_v vs 4, Value.int u, n_v vs 6, Value.int c, Value.int d]) 31))) (w_ei ws (v_ad (n_v (vs ++ [n_v vs 3, n_v vs 4, Value.int u, n_v vs 6, Value.int c, Value.int d]) 33))) (v_iv (n_v (vs ++ [n_v vs 3, n_v vs 4, Value.int u, n_v vs 6, Value.int c, Value.int d]) 34)) (v_iv (n_v (vs ++ [n_v vs 3, n_v vs 4, Value.int u, n_v vs 6, Value.int c, Value.int d]) 10)) (v_iv (n_v (vs ++ [n_v vs 3, n_v vs 4, Value.int u, n_v vs 6, Value.int c, Value.int d]) 32)) (v_iv (n_v (vs ++ [n_v vs 3, n_v vs 4, Value.int u, n_v vs 6, Value.int c, Value.int d]) 35)) (v_iv (n_v (vs ++ [n_v vs 3, n_v vs 4, Value.int u, n_v vs 6, Value.int c, Value.int d]) 27)) (v_iv (n_v (vs ++ [n_v vs 3, n_v vs 4, Value.int u, n_v vs 6, Value.int c, Value.int d]) 29))
      simp only [e_10, e_13, e_27, e_29, e_30, e_31, e_32, e_33, e_34, e_35, q10, q13]
      exact vc_Fa_uniteAt_at_Netail_Nehead_Emblock_4_12 (v_iv (n_v vs 0)) (v_iv (n_v vs 1)) (v_iv (n_v vs 2)) (v_iv (n_v vs 7)) (v_iv (n_v vs 8)) (v_iv (n_v vs 14)) (v_iv (n_v vs 15)) (v_iv (n_v vs 16)) (v_iv (n_v vs 18)) (v_iv (n_v vs 19)) (v_iv (n_v vs 20)) (v_iv (n_v vs 21)) (v_iv (n_v vs 22)) (v_iv (n_v vs 24)) (v_iv (n_v vs 25)) (v_iv (n_v vs 26)) (v_iv (n_v vs 27)) (v_iv (n_v vs 28)) (v_iv (n_v vs 29)) (w_ei ws (v_ad (n_v vs 5))) (w_ei ws (v_ad (n_v vs 3))) (w_ei ws (v_ad (n_v vs 4))) (w_ei ws (v_ad (n_v vs 6))) (v_iv (Value.int u)) (v_iv (Value.int c)) (v_iv (Value.int d)) k0 k1 k2 k7 k8 k14 k15 k16 k18 k19 k20 k21 k22 k24 k25 k26 k27 k28 k29 d0 d2 d5 f0 f1 f2 h3 f4 f5 f6 h7 f8 h9 f10 f11 f13 f14 h15 h17 f18 f20 f23 eu2 ec2 ed2
  have nf13 : fc_1 PRD (20, [32, 8], [50, 0, 0, 1, 2, 1, 0, 1, 1]) ws (vs ++ [n_v vs 3, n_v vs 4, Value.int u, n_v vs 6, Value.int c, Value.int d]) := by
    refine ⟨nf_inA hl rfl, sgq_48 ?_⟩
    · show v_iv (n_v (vs ++ [n_v vs 3, n_v vs 4, Value.int u, n_v vs 6, Value.int c, Value.int d]) 32) = v_iv (n_v (vs ++ [n_v vs 3, n_v vs 4, Value.int u, n_v vs 6, Value.int c, Value.int d]) 8)
      simp only [e_8, e_32, q8]
      exact vc_Fa_uniteAt_at_Netail_Nehead_Emblock_4_13 (v_iv (n_v vs 0)) (v_iv (n_v vs 15)) (v_iv (n_v vs 16)) (v_iv (n_v vs 18)) (v_iv (n_v vs 19)) (v_iv (n_v vs 25)) (v_iv (n_v vs 26)) (v_iv (n_v vs 28)) (w_ei ws (v_ad (n_v vs 5))) (w_ei ws (v_ad (n_v vs 3))) (w_ei ws (v_ad (n_v vs 4))) (v_iv (Value.int u)) k0 k15 k16 k18 k19 k25 k26 k28 h3 h7 h9 h15 h17 h19 eu2
  have nf14 : fc_1 PRD (20, [29], [50, 0, 0, 0, 2, 0, 0, 1, 0]) ws (vs ++ [n_v vs 3, n_v vs 4, Value.int u, n_v vs 6, Value.int c, Value.int d]) := by
    refine ⟨nf_inA hl rfl, sgq_722 ?_⟩
    · show 0 ≤ v_iv (n_v (vs ++ [n_v vs 3, n_v vs 4, Value.int u, n_v vs 6, Value.int c, Value.int d]) 29)
      rw [e_29]
      exact vc_Fa_uniteAt_at_Netail_Nehead_Emblock_4_14 (v_iv (n_v vs 15)) (v_iv (n_v vs 16)) (v_iv (n_v vs 18)) (v_iv (n_v vs 19)) (v_iv (n_v vs 25)) (v_iv (n_v vs 26)) (v_iv (n_v vs 28)) (v_iv (n_v vs 29)) (w_ei ws (v_ad (n_v vs 5))) (w_ei ws (v_ad (n_v vs 3))) (w_ei ws (v_ad (n_v vs 4))) k15 k16 k18 k19 k25 k26 k28 k29 h3 h7 h9 h15 h17 h19
  have nf15 : fc_1 PRD (20, [34, 7], [50, 0, 0, 1, 2, 1, 0, 1, 1]) ws (vs ++ [n_v vs 3, n_v vs 4, Value.int u, n_v vs 6, Value.int c, Value.int d]) := by
    refine ⟨nf_inA hl rfl, sgq_48 ?_⟩
    · show v_iv (n_v (vs ++ [n_v vs 3, n_v vs 4, Value.int u, n_v vs 6, Value.int c, Value.int d]) 34) = v_iv (n_v (vs ++ [n_v vs 3, n_v vs 4, Value.int u, n_v vs 6, Value.int c, Value.int d]) 7)
      simp only [e_7, e_34]
      exact vc_Fa_uniteAt_at_Netail_Nehead_Emblock_4_15 (v_iv (n_v vs 7)) (v_iv (n_v vs 15)) (v_iv (n_v vs 16)) (v_iv (n_v vs 18)) (v_iv (n_v vs 19)) (v_iv (n_v vs 25)) (v_iv (n_v vs 26)) (v_iv (n_v vs 28)) (w_ei ws (v_ad (n_v vs 5))) (w_ei ws (v_ad (n_v vs 3))) (w_ei ws (v_ad (n_v vs 4))) (v_iv (Value.int c)) k7 k15 k16 k18 k19 k25 k26 k28 h3 h7 h9 h15 h17 h19 ec2
  have nf16 : fc_1 PRD (20, [35, 9], [50, 0, 0, 1, 2, 1, 0, 1, 1]) ws (vs ++ [n_v vs 3, n_v vs 4, Value.int u, n_v vs 6, Value.int c, Value.int d]) := by
    refine ⟨nf_inA hl rfl, sgq_48 ?_⟩
    · show v_iv (n_v (vs ++ [n_v vs 3, n_v vs 4, Value.int u, n_v vs 6, Value.int c, Value.int d]) 35) = v_iv (n_v (vs ++ [n_v vs 3, n_v vs 4, Value.int u, n_v vs 6, Value.int c, Value.int d]) 9)
      simp only [e_9, e_35, q9]
      exact vc_Fa_uniteAt_at_Netail_Nehead_Emblock_4_16 (v_iv (n_v vs 1)) (v_iv (n_v vs 15)) (v_iv (n_v vs 16)) (v_iv (n_v vs 18)) (v_iv (n_v vs 19)) (v_iv (n_v vs 25)) (v_iv (n_v vs 26)) (v_iv (n_v vs 28)) (w_ei ws (v_ad (n_v vs 5))) (w_ei ws (v_ad (n_v vs 3))) (w_ei ws (v_ad (n_v vs 4))) (v_iv (Value.int d)) k1 k15 k16 k18 k19 k25 k26 k28 h3 h7 h9 h15 h17 h19 ed2
  exact ⟨(fun _ h => (by cases h)), [n_v vs 3, n_v vs 4, Value.int u, n_v vs 6, Value.int c, Value.int d], ag_six t3 t4 hu t6 hc hd, List.forall_mem_cons.mpr ⟨⟨show (24 : Nat) < 100 from by decide, nf0⟩, List.forall_mem_cons.mpr ⟨⟨show (24 : Nat) < 100 from by decide, nf1⟩, List.forall_mem_cons.mpr ⟨⟨show (23 : Nat) < 100 from by decide, nf2⟩, List.forall_mem_cons.mpr ⟨⟨show (23 : Nat) < 100 from by decide, nf3⟩, List.forall_mem_cons.mpr ⟨⟨show (24 : Nat) < 100 from by decide, nf4⟩, List.forall_mem_cons.mpr ⟨⟨show (23 : Nat) < 100 from by decide, nf5⟩, List.forall_mem_cons.mpr ⟨⟨show (23 : Nat) < 100 from by decide, nf6⟩, List.forall_mem_cons.mpr ⟨⟨show (23 : Nat) < 100 from by decide, nf7⟩, List.forall_mem_cons.mpr ⟨⟨show (23 : Nat) < 100 from by decide, nf8⟩, List.forall_mem_cons.mpr ⟨⟨show (20 : Nat) < 100 from by decide, nf9⟩, List.forall_mem_cons.mpr ⟨⟨show (20 : Nat) < 100 from by decide, nf10⟩, List.forall_mem_cons.mpr ⟨⟨show (20 : Nat) < 100 from by decide, nf11⟩, List.forall_mem_cons.mpr ⟨⟨show (20 : Nat) < 100 from by decide, nf12⟩, List.forall_mem_cons.mpr ⟨⟨show (20 : Nat) < 100 from by decide, nf13⟩, List.forall_mem_cons.mpr ⟨⟨show (20 : Nat) < 100 from by decide, nf14⟩, List.forall_mem_cons.mpr ⟨⟨show (20 : Nat) < 100 from by decide, nf15⟩, List.forall_mem_cons.mpr ⟨⟨show (20 : Nat) < 100 from by decide, nf16⟩, (fun _ h => (by cases h))⟩⟩⟩⟩⟩⟩⟩⟩⟩⟩⟩⟩⟩⟩⟩⟩⟩, (fun _ h => (by cases h))⟩
set_option maxHeartbeats 4000000 in
theorem vc_Fa_uniteAt_at_Netail_Nehead_Emblock_5_0 (x0 : Int) (x2 : Int) (x8 : Int) (x15 : Int) (x18 : Int) (x29 : Int) (x32 : Int) (x36 : Int) (a5_0 : Int → Int) (a3_0 : Int → Int) (a4_0 : Int → Int) (k0 : 0 ≤ x0 ∧ x0 ≤ 23) (k2 : 1 ≤ x2 ∧ x2 ≤ 72) (k8 : 0 ≤ x8 ∧ x8 ≤ 23) (k18 : 0 ≤ x18 ∧ x18 ≤ 23) (k29 : 0 ≤ x29 ∧ x29 ≤ 71) (k32 : 0 ≤ x32 ∧ x32 ≤ 24) (d4 : x8 + 0 ≤ x18 ∧ x18 ≤ x8 + 0) (d6 : x8 + (-4294967296) ≤ x0 ∧ x0 ≤ x8 + 0) (d9 : x0 + (-4294967296) ≤ x8 ∧ x8 ≤ x0 + 0) (f3 : 1 * x32 + ((-1) * x0 + 0) ≤ 0) (f4 : (-1) * x32 + (1 * x0 + 0) ≤ 0) (f12 : 0 ≤ x29) (f28 : RLO (a5_0) (a3_0) (a4_0) (x2) (x29) (x32)) : UNI (a5_0) (a3_0) (a4_0) (x2) (x0) (x29) := by
  first
    | (have q := (‹RLO _ _ _ _ _ _›); have h1 := uni_back q (by omega); rw [show x0 = x32 by omega]; exact h1)
    | (have q := (‹RLO _ _ _ _ _ _›); have h1 := uni_back q (by omega); rw [show x0 = x36 by omega]; exact h1)
    | (have q := (‹RLO _ _ _ _ _ _›); have h1 := uni_back q (by omega); rw [show x0 = x30 by omega]; exact h1)
set_option maxHeartbeats 4000000 in
theorem vc_Fa_uniteAt_at_Netail_Nehead_Emblock_5_1 (x0 : Int) (x1 : Int) (x2 : Int) (x7 : Int) (x8 : Int) (x9 : Int) (x15 : Int) (x18 : Int) (x24 : Int) (x25 : Int) (x26 : Int) (x29 : Int) (x32 : Int) (x34 : Int) (x35 : Int) (x36 : Int) (a5_0 : Int → Int) (a3_0 : Int → Int) (a4_0 : Int → Int) (a6_0 : Int → Int) (k0 : 0 ≤ x0 ∧ x0 ≤ 23) (k1 : 0 ≤ x1 ∧ x1 ≤ 16777215) (k2 : 1 ≤ x2 ∧ x2 ≤ 72) (k7 : 0 ≤ x7 ∧ x7 ≤ 25) (k8 : 0 ≤ x8 ∧ x8 ≤ 23) (k9 : 0 ≤ x9 ∧ x9 ≤ 16777215) (k18 : 0 ≤ x18 ∧ x18 ≤ 23) (k29 : 0 ≤ x29 ∧ x29 ≤ 71) (k32 : 0 ≤ x32 ∧ x32 ≤ 24) (k34 : 0 ≤ x34 ∧ x34 ≤ 25) (k35 : (-2147483648) ≤ x35 ∧ x35 ≤ 2147483647) (d4 : x8 + 0 ≤ x18 ∧ x18 ≤ x8 + 0) (d6 : x8 + (-4294967296) ≤ x0 ∧ x0 ≤ x8 + 0) (d7 : x9 + (-4294967296) ≤ x1 ∧ x1 ≤ x9 + 0) (d9 : x0 + (-4294967296) ≤ x8 ∧ x8 ≤ x0 + 0) (d10 : x1 + (-4294967296) ≤ x9 ∧ x9 ≤ x1 + 0) (f3 : 1 * x32 + ((-1) * x0 + 0) ≤ 0) (f4 : (-1) * x32 + (1 * x0 + 0) ≤ 0) (f6 : 1 * x34 + ((-1) * x7 + 0) ≤ 0) (f7 : (-1) * x34 + (1 * x7 + 0) ≤ 0) (f8 : 1 * x35 + ((-1) * x1 + 0) ≤ 0) (f9 : (-1) * x35 + (1 * x1 + 0) ≤ 0) (f29 : QKO (a5_0) (a3_0) (a4_0) (a6_0) (x34) (x2) (x32) (x35) (x29)) : UN2 (a5_0) (a3_0) (a4_0) (a6_0) (x7) (x2) (x0) (x1) (x29) := by
  first
    | (have h1 := un2_back ‹QKO _ _ _ _ _ _ _ _ _›; rw [show x0 = x32 by omega, show x7 = x34 by omega, show x1 = x35 by omega]; exact h1)
    | (have h1 := un2_back ‹QKO _ _ _ _ _ _ _ _ _›; rw [show x0 = x36 by omega, show x7 = x38 by omega, show x1 = x39 by omega]; exact h1)
    | (have h1 := un2_back ‹QKO _ _ _ _ _ _ _ _ _›; rw [show x0 = x30 by omega, show x7 = x32 by omega, show x1 = x33 by omega]; exact h1)
def o_Fa_uniteAt_at_Netail_Nehead_Emblock_5 : or_T := (6, 37, [(0, (0, 0, 23, [])), (1, (0, 0, 16777215, [])), (2, (0, 1, 72, [])), (3, (2, 0, 0, [80])), (4, (2, 0, 0, [81])), (5, (2, 0, 0, [26])), (6, (2, 0, 0, [82])), (7, (0, 0, 25, [])), (8, (0, 0, 23, [])), (9, (0, 0, 16777215, [])), (10, (0, 1, 72, [])), (11, (2, 0, 0, [80])), (12, (2, 0, 0, [81])), (13, (2, 0, 0, [26])), (14, (0, 0, 71, [])), (15, (0, 0, 71, [])), (16, (0, 0, 23, [])), (18, (0, 0, 23, [])), (24, (0, -1, -1, [])), (25, (0, -1, 71, [])), (26, (0, 0, 71, [])), (27, (0, 0, 71, [])), (28, (0, 0, 71, [])), (29, (0, 0, 71, [])), (30, (2, 0, 0, [80])), (31, (2, 0, 0, [81])), (32, (0, 0, 24, [])), (33, (2, 0, 0, [82])), (34, (0, 0, 25, [])), (35, (0, -2147483648, 2147483647, [])), (36, (0, 1, 72, []))], [(6, [36, 15], [1]), (24, [3, 30], []), (24, [4, 31], []), (23, [32, 8], [0, 1, -1]), (23, [32, 8], [0, -1, 1]), (24, [6, 33], []), (23, [34, 7], [0, 1, -1]), (23, [34, 7], [0, -1, 1]), (23, [35, 9], [0, 1, -1]), (23, [35, 9], [0, -1, 1]), (20, [29, 27], [50, 0, 0, 2, 6, 0, 2, 0, 0, 1, 0, 0, 2, 1, 0, 1, 1]), (20, [32, 8], [50, 0, 0, 1, 2, 1, 0, 1, 1]), (20, [29], [50, 0, 0, 0, 2, 0, 0, 1, 0]), (20, [34, 7], [50, 0, 0, 1, 2, 1, 0, 1, 1]), (20, [35, 9], [50, 0, 0, 1, 2, 1, 0, 1, 1]), (23, [14, 29], [0, -1, 1]), (23, [28, 29], [0, -1, 1]), (20, [29, 14, 28], [50, 0, 0, 3, 6, 1, 2, 1, 0, 1, 1, 1, 2, 1, 0, 1, 2]), (23, [14, 27], [0, 1, -1]), (23, [26, 27], [0, 1, -1]), (20, [27, 14, 26], [50, 0, 0, 3, 6, 1, 2, 1, 0, 1, 1, 1, 2, 1, 0, 1, 2]), (24, [0, 8], []), (24, [1, 9], []), (24, [2, 10], []), (24, [3, 11], []), (24, [4, 12], []), (24, [5, 13], []), (20, [13, 10], [61, 1, 566]), (20, [13, 30, 31, 10, 29, 32], [61, 3, 583]), (20, [13, 30, 31, 33, 34, 10, 32, 35, 29], [61, 4, 592]), (102, [35], [67108864]), (23, [32, 8], [0, 1, -1]), (23, [32, 8], [0, -1, 1]), (23, [34, 7], [0, 1, -1]), (23, [34, 7], [0, -1, 1]), (23, [35, 9], [0, 1, -1]), (23, [35, 9], [0, -1, 1]), (23, [14, 29], [0, -1, 1]), (23, [28, 29], [0, -1, 1]), (23, [14, 27], [0, 1, -1]), (23, [26, 27], [0, 1, -1]), (7, [25, 14], [1]), (7, [14, 24], [1]), (7, [18, 8], [0]), (7, [16, 8], [1]), (7, [15, 10], [2])], [], [], [(20, [13, 11, 12, 10, 8, 29], [61, 3, 584]), (20, [13, 11, 12, 6, 7, 10, 8, 9, 29], [61, 4, 589])], [], [(36, 15, 1, 1), (36, 10, -4294967296, 0), (36, 2, -4294967296, 1), (36, 10, -4294967296, 1), (18, 8, 0, 0), (15, 10, -4294967296, -1), (0, 8, -4294967296, 0), (1, 9, -4294967296, 0), (2, 10, -4294967296, 0), (8, 0, -4294967296, 0), (9, 1, -4294967296, 0), (10, 2, -4294967296, 0), (14, 15, -4294967296, 70), (15, 2, -4294967296, 0), (15, 10, -4294967296, 0)])
theorem oo_Fa_uniteAt_at_Netail_Nehead_Emblock_5 {kA : Nat → ClassId} : or_ok PRD kA GG o_Fa_uniteAt_at_Netail_Nehead_Emblock_5 := by
  refine or_mk fun A ta ws vs hD hth hl => ?_
  intro t0 k0 t1 k1 t2 k2 t3 r3 t4 r4 t5 r5 t6 r6 t7 k7 t8 k8 t9 k9 t10 k10 t11 r11 t12 r12 t13 r13 t14 k14 t15 k15 t16 k16 t18 k18 t24 k24 t25 k25 t26 k26 t27 k27 t28 k28 t29 k29 t30 r30 t31 r31 t32 k32 t33 r33 t34 k34 t35 k35 t36 k36 d0 d1 d2 d3 d4 d5 d6 d7 d8 d9 d10 d11 d12 d13 d14 f0 f1 f2 f3 f4 f5 f6 f7 f8 f9 f10 f11 f12 f13 f14 f15 f16 f17 f18 f19 f20 f21 f22 f23 f24 f25 f26 f27 f28 f29 ta1 w1 le1 s1 f31 f32 f33 f34 f35 f36 f37 f38 f39 f40 f41 f42 f43 f44 f45
  replace f1 := shm_5 f1
  replace f2 := shm_5 f2
  replace f3 := shm_7 f3
  replace f4 := shm_22 f4
  replace f5 := shm_5 f5
  replace f6 := shm_7 f6
  replace f7 := shm_22 f7
  replace f8 := shm_7 f8
  replace f9 := shm_22 f9
  replace f12 := shm_722 f12
  replace f21 := shm_5 f21
  replace f22 := shm_5 f22
  replace f23 := shm_5 f23
  replace f24 := shm_5 f24
  replace f25 := shm_5 f25
  replace f26 := shm_5 f26
  replace f28 := shm_371 f28
  replace f29 := shm_372 f29
  have q30 : n_v vs 30 = n_v vs 3 := f1.symm
  have q31 : n_v vs 31 = n_v vs 4 := f2.symm
  have q33 : n_v vs 33 = n_v vs 6 := f5.symm
  have q8 : n_v vs 8 = n_v vs 0 := f21.symm
  have q9 : n_v vs 9 = n_v vs 1 := f22.symm
  have q10 : n_v vs 10 = n_v vs 2 := f23.symm
  have q11 : n_v vs 11 = n_v vs 3 := f24.symm
  have q12 : n_v vs 12 = n_v vs 4 := f25.symm
  have q13 : n_v vs 13 = n_v vs 5 := f26.symm
  simp only [q8, q9, q10, q13, q30, q31, q33] at f3 f4 f8 f9 f28 f29
  have nf0 : fc_1 PRD (20, [13, 11, 12, 10, 8, 29], [61, 3, 584]) ws (vs) := by
    refine ⟨nf_in hl rfl, sgq_1193 ?_⟩
    · show UNI (w_ei ws (v_ad (n_v vs 13))) (w_ei ws (v_ad (n_v vs 11))) (w_ei ws (v_ad (n_v vs 12))) (v_iv (n_v vs 10)) (v_iv (n_v vs 8)) (v_iv (n_v vs 29))
      simp only [q8, q10, q11, q12, q13]
      exact vc_Fa_uniteAt_at_Netail_Nehead_Emblock_5_0 (v_iv (n_v vs 0)) (v_iv (n_v vs 2)) (v_iv (n_v vs 8)) (v_iv (n_v vs 15)) (v_iv (n_v vs 18)) (v_iv (n_v vs 29)) (v_iv (n_v vs 32)) (v_iv (n_v vs 36)) (w_ei ws (v_ad (n_v vs 5))) (w_ei ws (v_ad (n_v vs 3))) (w_ei ws (v_ad (n_v vs 4))) k0 k2 k8 k18 k29 k32 d4 d6 d9 f3 f4 f12 f28
  have nf1 : fc_1 PRD (20, [13, 11, 12, 6, 7, 10, 8, 9, 29], [61, 4, 589]) ws (vs) := by
    refine ⟨nf_in hl rfl, sgq_1194 ?_⟩
    · show UN2 (w_ei ws (v_ad (n_v vs 13))) (w_ei ws (v_ad (n_v vs 11))) (w_ei ws (v_ad (n_v vs 12))) (w_ei ws (v_ad (n_v vs 6))) (v_iv (n_v vs 7)) (v_iv (n_v vs 10)) (v_iv (n_v vs 8)) (v_iv (n_v vs 9)) (v_iv (n_v vs 29))
      simp only [q8, q9, q10, q11, q12, q13]
      exact vc_Fa_uniteAt_at_Netail_Nehead_Emblock_5_1 (v_iv (n_v vs 0)) (v_iv (n_v vs 1)) (v_iv (n_v vs 2)) (v_iv (n_v vs 7)) (v_iv (n_v vs 8)) (v_iv (n_v vs 9)) (v_iv (n_v vs 15)) (v_iv (n_v vs 18)) (v_iv (n_v vs 24)) (v_iv (n_v vs 25)) (v_iv (n_v vs 26)) (v_iv (n_v vs 29)) (v_iv (n_v vs 32)) (v_iv (n_v vs 34)) (v_iv (n_v vs 35)) (v_iv (n_v vs 36)) (w_ei ws (v_ad (n_v vs 5))) (w_ei ws (v_ad (n_v vs 3))) (w_ei ws (v_ad (n_v vs 4))) (w_ei ws (v_ad (n_v vs 6))) k0 k1 k2 k7 k8 k9 k18 k29 k32 k34 k35 d4 d6 d7 d9 d10 f3 f4 f6 f7 f8 f9 f29
  refine ⟨(fun _ h => (by cases h)), [], trivial, ?_, (fun _ h => (by cases h))⟩
  rw [List.append_nil]
  exact List.forall_mem_cons.mpr ⟨⟨show (20 : Nat) < 100 from by decide, nf0⟩, List.forall_mem_cons.mpr ⟨⟨show (20 : Nat) < 100 from by decide, nf1⟩, (fun _ h => (by cases h))⟩⟩
set_option maxHeartbeats 4000000 in
theorem vc_Fa_uniteAt_at_Netail_Nehead_Emblock_6_r0 (x2 : Int) (x15 : Int) (x16 : Int) (x18 : Int) (x19 : Int) (x25 : Int) (a5_0 : Int → Int) (a3_0 : Int → Int) (a4_0 : Int → Int) (k2 : 1 ≤ x2 ∧ x2 ≤ 72) (k15 : 0 ≤ x15 ∧ x15 ≤ 71) (k16 : 0 ≤ x16 ∧ x16 ≤ 23) (k18 : 0 ≤ x18 ∧ x18 ≤ 23) (k19 : 0 ≤ x19 ∧ x19 ≤ 23) (k25 : (-1) ≤ x25 ∧ x25 ≤ 71) (h0 : x25 = a5_0 (x15)) (h6 : x19 = a3_0 (x15)) (h8 : x18 = a4_0 (x15)) (h10 : x16 = a3_0 (x15)) (f11 : x15 < x2) (f12 : BLQ (a5_0) (x2)) : 0 ≤ x25 ∧ x25 ≤ 71 := by
  first
    | omega
    | (skip; (first | subst h0 | skip); (first | subst h6 | skip); (first | subst h8 | skip); (first | subst h10 | skip); have q := ‹BLQ _ _› x15 (by omega) (by omega); omega)
def o_Fa_uniteAt_at_Netail_Nehead_Emblock_6 : or_T := (90, 26, [(0, (0, 0, 23, [])), (1, (0, 0, 16777215, [])), (2, (0, 1, 72, [])), (3, (2, 0, 0, [80])), (4, (2, 0, 0, [81])), (5, (2, 0, 0, [26])), (6, (2, 0, 0, [82])), (7, (0, 0, 25, [])), (8, (0, 0, 23, [])), (9, (0, 0, 16777215, [])), (10, (0, 1, 72, [])), (11, (2, 0, 0, [80])), (12, (2, 0, 0, [81])), (13, (2, 0, 0, [26])), (14, (0, -1, -1, [])), (15, (0, 0, 71, [])), (16, (0, 0, 23, [])), (18, (0, 0, 23, [])), (19, (0, 0, 23, [])), (20, (0, 0, 16777215, [])), (21, (0, 1, 1, [])), (22, (0, 1, 1, [])), (24, (0, -1, -1, [])), (25, (0, -1, 71, []))], [(10, [25, 13, 15], []), (7, [14, 24], [0]), (8, [22], [1]), (12, [22, 20], [2]), (16, [22, 20, 21], [0]), (16, [20, 9, 19], [4]), (10, [19, 11, 15], []), (7, [18, 8], [0]), (10, [18, 12, 15], []), (7, [16, 8], [1]), (10, [16, 11, 15], []), (7, [15, 10], [2]), (20, [13, 10], [61, 1, 566]), (20, [13, 11, 12, 10, 8, 14], [61, 3, 584]), (20, [13, 11, 12, 6, 7, 10, 8, 9, 14], [61, 4, 589]), (24, [0, 8], []), (24, [1, 9], []), (24, [2, 10], []), (24, [3, 11], []), (24, [4, 12], []), (24, [5, 13], [])], [(25, (0, 0, 71, []))], [], [], [], [(18, 8, 0, 0), (15, 10, -4294967296, -1), (0, 8, -4294967296, 0), (1, 9, -4294967296, 0), (2, 10, -4294967296, 0), (8, 0, -4294967296, 0), (9, 1, -4294967296, 0), (10, 2, -4294967296, 0), (15, 2, -4294967296, 0), (15, 10, -4294967296, 0)])
theorem oo_Fa_uniteAt_at_Netail_Nehead_Emblock_6 {kA : Nat → ClassId} : or_ok PRD kA GG o_Fa_uniteAt_at_Netail_Nehead_Emblock_6 := by
  refine or_mk fun A ta ws vs hD hth hl => ?_
  intro t0 k0 t1 k1 t2 k2 t3 r3 t4 r4 t5 r5 t6 r6 t7 k7 t8 k8 t9 k9 t10 k10 t11 r11 t12 r12 t13 r13 t14 k14 t15 k15 t16 k16 t18 k18 t19 k19 t20 k20 t21 k21 t22 k22 t24 k24 t25 k25 d0 d1 d2 d3 d4 d5 d6 d7 d8 d9 f0 f1 f2 f3 f4 f5 f6 f7 f8 f9 f10 f11 f12 f13 f14 f15 f16 f17 f18 f19 f20
  replace f0 := shm_107 f0
  replace f6 := shm_107 f6
  replace f8 := shm_107 f8
  replace f10 := shm_107 f10
  replace f11 := shm_6 f11
  replace f12 := shm_365 f12
  replace f17 := shm_5 f17
  replace f18 := shm_5 f18
  replace f19 := shm_5 f19
  replace f20 := shm_5 f20
  have q10 : n_v vs 10 = n_v vs 2 := f17.symm
  have q11 : n_v vs 11 = n_v vs 3 := f18.symm
  have q12 : n_v vs 12 = n_v vs 4 := f19.symm
  have q13 : n_v vs 13 = n_v vs 5 := f20.symm
  simp only [q13, q11, q12, q10] at f0 f6 f8 f10 f11 f12
  have h0 : v_iv (n_v vs 25) = w_ei ws (v_ad (n_v vs 5)) (v_iv (n_v vs 15)) := f0
  have h6 : v_iv (n_v vs 19) = w_ei ws (v_ad (n_v vs 3)) (v_iv (n_v vs 15)) := f6
  have h8 : v_iv (n_v vs 18) = w_ei ws (v_ad (n_v vs 4)) (v_iv (n_v vs 15)) := f8
  have h10 : v_iv (n_v vs 16) = w_ei ws (v_ad (n_v vs 3)) (v_iv (n_v vs 15)) := f10
  have hrf0 : 0 ≤ v_iv (n_v vs 25) ∧ v_iv (n_v vs 25) ≤ 71 := vc_Fa_uniteAt_at_Netail_Nehead_Emblock_6_r0 (v_iv (n_v vs 2)) (v_iv (n_v vs 15)) (v_iv (n_v vs 16)) (v_iv (n_v vs 18)) (v_iv (n_v vs 19)) (v_iv (n_v vs 25)) (w_ei ws (v_ad (n_v vs 5))) (w_ei ws (v_ad (n_v vs 3))) (w_ei ws (v_ad (n_v vs 4))) k2 k15 k16 k18 k19 k25 h0 h6 h8 h10 f11 f12
  have rf25 : tv_ok ta (0, 0, 71, []) (n_v vs 25) := tv_in t25 (by first | omega | grind) (by first | omega | grind)
  refine ⟨List.forall_mem_cons.mpr ⟨rf25, (fun _ h => (by cases h))⟩, [], trivial, ?_, (fun _ h => (by cases h))⟩
  rw [List.append_nil]
  exact (fun _ h => (by cases h))
set_option maxHeartbeats 4000000 in
theorem vc_Fa_uniteAt_at_Netail_Nehead_Emblock_7_0 (x0 : Int) (x2 : Int) (x8 : Int) (x14 : Int) (x15 : Int) (x18 : Int) (x25 : Int) (x26 : Int) (a5_0 : Int → Int) (a3_0 : Int → Int) (a4_0 : Int → Int) (k0 : 0 ≤ x0 ∧ x0 ≤ 23) (k2 : 1 ≤ x2 ∧ x2 ≤ 72) (k8 : 0 ≤ x8 ∧ x8 ≤ 23) (k14 : (-1) ≤ x14 ∧ x14 ≤ (-1)) (k15 : 0 ≤ x15 ∧ x15 ≤ 71) (k18 : 0 ≤ x18 ∧ x18 ≤ 23) (k25 : 0 ≤ x25 ∧ x25 ≤ 71) (k26 : 1 ≤ x26 ∧ x26 ≤ 72) (d0 : x15 + 1 ≤ x26 ∧ x26 ≤ x15 + 1) (d4 : x8 + 0 ≤ x18 ∧ x18 ≤ x8 + 0) (d6 : x8 + (-4294967296) ≤ x0 ∧ x0 ≤ x8 + 0) (d9 : x0 + (-4294967296) ≤ x8 ∧ x8 ≤ x0 + 0) (h1 : x25 = a5_0 (x15)) (h9 : x18 = a4_0 (x15)) (f12 : x15 < x2) (f14 : UNI (a5_0) (a3_0) (a4_0) (x2) (x0) (x14)) : UNI (a5_0) (a3_0) (a4_0) (x2) (x0) (x25) := by
  first
    | exact uni_first (e := x15) ‹UNI _ _ _ _ _ _› (by assumption) rfl (by omega) (by omega) (by first | exact Or.inl (by omega) | exact Or.inr (by omega))
set_option maxHeartbeats 4000000 in
theorem vc_Fa_uniteAt_at_Netail_Nehead_Emblock_7_1 (x0 : Int) (x1 : Int) (x2 : Int) (x7 : Int) (x8 : Int) (x14 : Int) (x15 : Int) (x16 : Int) (x18 : Int) (x19 : Int) (x20 : Int) (x21 : Int) (x22 : Int) (x24 : Int) (x25 : Int) (x26 : Int) (a5_0 : Int → Int) (a3_0 : Int → Int) (a4_0 : Int → Int) (a6_0 : Int → Int) (k0 : 0 ≤ x0 ∧ x0 ≤ 23) (k1 : 0 ≤ x1 ∧ x1 ≤ 16777215) (k2 : 1 ≤ x2 ∧ x2 ≤ 72) (k7 : 0 ≤ x7 ∧ x7 ≤ 25) (k8 : 0 ≤ x8 ∧ x8 ≤ 23) (k14 : (-1) ≤ x14 ∧ x14 ≤ (-1)) (k15 : 0 ≤ x15 ∧ x15 ≤ 71) (k16 : 0 ≤ x16 ∧ x16 ≤ 23) (k18 : 0 ≤ x18 ∧ x18 ≤ 23) (k19 : 0 ≤ x19 ∧ x19 ≤ 23) (k20 : 0 ≤ x20 ∧ x20 ≤ 16777215) (k21 : 1 ≤ x21 ∧ x21 ≤ 1) (k22 : 1 ≤ x22 ∧ x22 ≤ 1) (k25 : 0 ≤ x25 ∧ x25 ≤ 71) (k26 : 1 ≤ x26 ∧ x26 ≤ 72) (d0 : x15 + 1 ≤ x26 ∧ x26 ≤ x15 + 1) (d4 : x8 + 0 ≤ x18 ∧ x18 ≤ x8 + 0) (d6 : x8 + (-4294967296) ≤ x0 ∧ x0 ≤ x8 + 0) (d9 : x0 + (-4294967296) ≤ x8 ∧ x8 ≤ x0 + 0) (h1 : x25 = a5_0 (x15)) (f5 : bvp (x22) = bvp (x20) &&& bvp (x21)) (f6 : bvp (x20) = bvp (x1) >>> (x19).toNat) (h7 : x19 = a3_0 (x15)) (h9 : x18 = a4_0 (x15)) (h11 : x16 = a3_0 (x15)) (f12 : x15 < x2) (f15 : UN2 (a5_0) (a3_0) (a4_0) (a6_0) (x7) (x2) (x0) (x1) (x14)) : UN2 (a5_0) (a3_0) (a4_0) (a6_0) (x7) (x2) (x0) (x1) (x25) := by
  first
    | exact un2_first (e := x15) ‹UN2 _ _ _ _ _ _ _ _ _› (by assumption) rfl (by omega) (by omega) (by first | exact Or.inl ⟨by omega, by omega, by rw [← ‹x17 = a4_0 x15›]; exact (bit_one (s := x1) (t := x18) (c := x20) (v := x17) (one := x19) (by assumption) (by assumption) (by omega) (by omega) (by omega) (by omega)).mpr (by omega)⟩ | exact Or.inr ⟨by omega, by omega, by rw [← ‹x19 = a3_0 x15›]; exact (bit_one (s := x1) (t := x20) (c := x22) (v := x19) (one := x21) (by assumption) (by assumption) (by omega) (by omega) (by omega) (by omega)).mpr (by omega)⟩ | exact Or.inr ⟨by omega, by omega, by rw [← ‹x23 = a3_0 x15›]; exact (bit_one (s := x1) (t := x24) (c := x26) (v := x23) (one := x25) (by assumption) (by assumption) (by omega) (by omega) (by omega) (by omega)).mpr (by omega)⟩)
def o_Fa_uniteAt_at_Netail_Nehead_Emblock_7 : or_T := (6, 27, [(0, (0, 0, 23, [])), (1, (0, 0, 16777215, [])), (2, (0, 1, 72, [])), (3, (2, 0, 0, [80])), (4, (2, 0, 0, [81])), (5, (2, 0, 0, [26])), (6, (2, 0, 0, [82])), (7, (0, 0, 25, [])), (8, (0, 0, 23, [])), (9, (0, 0, 16777215, [])), (10, (0, 1, 72, [])), (11, (2, 0, 0, [80])), (12, (2, 0, 0, [81])), (13, (2, 0, 0, [26])), (14, (0, -1, -1, [])), (15, (0, 0, 71, [])), (16, (0, 0, 23, [])), (18, (0, 0, 23, [])), (19, (0, 0, 23, [])), (20, (0, 0, 16777215, [])), (21, (0, 1, 1, [])), (22, (0, 1, 1, [])), (24, (0, -1, -1, [])), (25, (0, 0, 71, [])), (26, (0, 1, 72, []))], [(6, [26, 15], [1]), (10, [25, 13, 15], []), (7, [14, 24], [0]), (8, [22], [1]), (12, [22, 20], [2]), (16, [22, 20, 21], [0]), (16, [20, 9, 19], [4]), (10, [19, 11, 15], []), (7, [18, 8], [0]), (10, [18, 12, 15], []), (7, [16, 8], [1]), (10, [16, 11, 15], []), (7, [15, 10], [2]), (20, [13, 10], [61, 1, 566]), (20, [13, 11, 12, 10, 8, 14], [61, 3, 584]), (20, [13, 11, 12, 6, 7, 10, 8, 9, 14], [61, 4, 589]), (24, [0, 8], []), (24, [1, 9], []), (24, [2, 10], []), (24, [3, 11], []), (24, [4, 12], []), (24, [5, 13], [])], [], [], [(20, [13, 11, 12, 10, 8, 25], [61, 3, 584]), (20, [13, 11, 12, 6, 7, 10, 8, 9, 25], [61, 4, 589])], [], [(26, 15, 1, 1), (26, 10, -4294967296, 0), (26, 2, -4294967296, 1), (26, 10, -4294967296, 1), (18, 8, 0, 0), (15, 10, -4294967296, -1), (0, 8, -4294967296, 0), (1, 9, -4294967296, 0), (2, 10, -4294967296, 0), (8, 0, -4294967296, 0), (9, 1, -4294967296, 0), (10, 2, -4294967296, 0), (15, 2, -4294967296, 0), (15, 10, -4294967296, 0)])
theorem oo_Fa_uniteAt_at_Netail_Nehead_Emblock_7 {kA : Nat → ClassId} : or_ok PRD kA GG o_Fa_uniteAt_at_Netail_Nehead_Emblock_7 := by
  refine or_mk fun A ta ws vs hD hth hl => ?_
  intro t0 k0 t1 k1 t2 k2 t3 r3 t4 r4 t5 r5 t6 r6 t7 k7 t8 k8 t9 k9 t10 k10 t11 r11 t12 r12 t13 r13 t14 k14 t15 k15 t16 k16 t18 k18 t19 k19 t20 k20 t21 k21 t22 k22 t24 k24 t25 k25 t26 k26 d0 d1 d2 d3 d4 d5 d6 d7 d8 d9 d10 d11 d12 d13 f0 f1 f2 f3 f4 f5 f6 f7 f8 f9 f10 f11 f12 f13 f14 f15 f16 f17 f18 f19 f20 f21
  replace f1 := shm_107 f1
  replace f5 := shm_11 f5
  replace f6 := shm_13 f6
  replace f7 := shm_107 f7
  replace f9 := shm_107 f9
  replace f11 := shm_107 f11
  replace f12 := shm_6 f12
  replace f14 := shm_1193 f14
  replace f15 := shm_1194 f15
  replace f16 := shm_5 f16
  replace f17 := shm_5 f17
  replace f18 := shm_5 f18
  replace f19 := shm_5 f19
  replace f20 := shm_5 f20
  replace f21 := shm_5 f21
  have q8 : n_v vs 8 = n_v vs 0 := f16.symm
  have q9 : n_v vs 9 = n_v vs 1 := f17.symm
  have q10 : n_v vs 10 = n_v vs 2 := f18.symm
  have q11 : n_v vs 11 = n_v vs 3 := f19.symm
  have q12 : n_v vs 12 = n_v vs 4 := f20.symm
  have q13 : n_v vs 13 = n_v vs 5 := f21.symm
  simp only [q13, q9, q11, q8, q12, q10] at f1 f6 f7 f9 f11 f12 f14 f15
  have h1 : v_iv (n_v vs 25) = w_ei ws (v_ad (n_v vs 5)) (v_iv (n_v vs 15)) := f1
  have h7 : v_iv (n_v vs 19) = w_ei ws (v_ad (n_v vs 3)) (v_iv (n_v vs 15)) := f7
  have h9 : v_iv (n_v vs 18) = w_ei ws (v_ad (n_v vs 4)) (v_iv (n_v vs 15)) := f9
  have h11 : v_iv (n_v vs 16) = w_ei ws (v_ad (n_v vs 3)) (v_iv (n_v vs 15)) := f11
  have nf0 : fc_1 PRD (20, [13, 11, 12, 10, 8, 25], [61, 3, 584]) ws (vs) := by
    refine ⟨nf_in hl rfl, sgq_1193 ?_⟩
    · show UNI (w_ei ws (v_ad (n_v vs 13))) (w_ei ws (v_ad (n_v vs 11))) (w_ei ws (v_ad (n_v vs 12))) (v_iv (n_v vs 10)) (v_iv (n_v vs 8)) (v_iv (n_v vs 25))
      simp only [q8, q10, q11, q12, q13]
      exact vc_Fa_uniteAt_at_Netail_Nehead_Emblock_7_0 (v_iv (n_v vs 0)) (v_iv (n_v vs 2)) (v_iv (n_v vs 8)) (v_iv (n_v vs 14)) (v_iv (n_v vs 15)) (v_iv (n_v vs 18)) (v_iv (n_v vs 25)) (v_iv (n_v vs 26)) (w_ei ws (v_ad (n_v vs 5))) (w_ei ws (v_ad (n_v vs 3))) (w_ei ws (v_ad (n_v vs 4))) k0 k2 k8 k14 k15 k18 k25 k26 d0 d4 d6 d9 h1 h9 f12 f14
  have nf1 : fc_1 PRD (20, [13, 11, 12, 6, 7, 10, 8, 9, 25], [61, 4, 589]) ws (vs) := by
    refine ⟨nf_in hl rfl, sgq_1194 ?_⟩
    · show UN2 (w_ei ws (v_ad (n_v vs 13))) (w_ei ws (v_ad (n_v vs 11))) (w_ei ws (v_ad (n_v vs 12))) (w_ei ws (v_ad (n_v vs 6))) (v_iv (n_v vs 7)) (v_iv (n_v vs 10)) (v_iv (n_v vs 8)) (v_iv (n_v vs 9)) (v_iv (n_v vs 25))
      simp only [q8, q9, q10, q11, q12, q13]
      exact vc_Fa_uniteAt_at_Netail_Nehead_Emblock_7_1 (v_iv (n_v vs 0)) (v_iv (n_v vs 1)) (v_iv (n_v vs 2)) (v_iv (n_v vs 7)) (v_iv (n_v vs 8)) (v_iv (n_v vs 14)) (v_iv (n_v vs 15)) (v_iv (n_v vs 16)) (v_iv (n_v vs 18)) (v_iv (n_v vs 19)) (v_iv (n_v vs 20)) (v_iv (n_v vs 21)) (v_iv (n_v vs 22)) (v_iv (n_v vs 24)) (v_iv (n_v vs 25)) (v_iv (n_v vs 26)) (w_ei ws (v_ad (n_v vs 5))) (w_ei ws (v_ad (n_v vs 3))) (w_ei ws (v_ad (n_v vs 4))) (w_ei ws (v_ad (n_v vs 6))) k0 k1 k2 k7 k8 k14 k15 k16 k18 k19 k20 k21 k22 k25 k26 d0 d4 d6 d9 h1 f5 f6 h7 h9 h11 f12 f15
  refine ⟨(fun _ h => (by cases h)), [], trivial, ?_, (fun _ h => (by cases h))⟩
  rw [List.append_nil]
  exact List.forall_mem_cons.mpr ⟨⟨show (20 : Nat) < 100 from by decide, nf0⟩, List.forall_mem_cons.mpr ⟨⟨show (20 : Nat) < 100 from by decide, nf1⟩, (fun _ h => (by cases h))⟩⟩
set_option maxHeartbeats 4000000 in
theorem vc_Fa_uniteAt_at_Netail_Nehead_Emblock_8_r0 (x2 : Int) (x15 : Int) (x16 : Int) (x17 : Int) (x22 : Int) (x23 : Int) (x29 : Int) (x30 : Int) (a5_0 : Int → Int) (a3_0 : Int → Int) (a4_0 : Int → Int) (k2 : 1 ≤ x2 ∧ x2 ≤ 72) (k15 : 0 ≤ x15 ∧ x15 ≤ 71) (k16 : 0 ≤ x16 ∧ x16 ≤ 23) (k17 : 0 ≤ x17 ∧ x17 ≤ 23) (k22 : 0 ≤ x22 ∧ x22 ≤ 23) (k23 : 0 ≤ x23 ∧ x23 ≤ 23) (k29 : (-1) ≤ x29 ∧ x29 ≤ 71) (k30 : (-1) ≤ x30 ∧ x30 ≤ 71) (h0 : x30 = a5_0 (x15)) (h2 : x29 = a5_0 (x15)) (h8 : x23 = a3_0 (x15)) (h10 : x22 = a4_0 (x15)) (h15 : x17 = a4_0 (x15)) (h17 : x16 = a3_0 (x15)) (f18 : x15 < x2) (f19 : BLQ (a5_0) (x2)) : 0 ≤ x30 ∧ x30 ≤ 71 := by
  first
    | omega
    | (skip; (first | subst h0 | skip); (first | subst h2 | skip); (first | subst h8 | skip); (first | subst h10 | skip); (first | subst h15 | skip); (first | subst h17 | skip); have q := ‹BLQ _ _› x15 (by omega) (by omega); omega)
def o_Fa_uniteAt_at_Netail_Nehead_Emblock_8 : or_T := (112, 31, [(0, (0, 0, 23, [])), (1, (0, 0, 16777215, [])), (2, (0, 1, 72, [])), (3, (2, 0, 0, [80])), (4, (2, 0, 0, [81])), (5, (2, 0, 0, [26])), (6, (2, 0, 0, [82])), (7, (0, 0, 25, [])), (8, (0, 0, 23, [])), (9, (0, 0, 16777215, [])), (10, (0, 1, 72, [])), (11, (2, 0, 0, [80])), (12, (2, 0, 0, [81])), (13, (2, 0, 0, [26])), (14, (0, 0, 71, [])), (15, (0, 0, 71, [])), (16, (0, 0, 23, [])), (17, (0, 0, 23, [])), (18, (0, 0, 16777215, [])), (19, (0, 1, 1, [])), (20, (0, 0, 0, [])), (22, (0, 0, 23, [])), (23, (0, 0, 23, [])), (24, (0, 0, 16777215, [])), (25, (0, 1, 1, [])), (26, (0, 1, 1, [])), (28, (0, -1, -1, [])), (29, (0, -1, 71, [])), (30, (0, -1, 71, []))], [(10, [30, 13, 15], []), (7, [29, 14], [1]), (10, [29, 13, 15], []), (7, [14, 28], [1]), (8, [26], [1]), (12, [26, 24], [2]), (16, [26, 24, 25], [0]), (16, [24, 9, 23], [4]), (10, [23, 11, 15], []), (7, [22, 8], [0]), (10, [22, 12, 15], []), (8, [20], [0]), (12, [20, 18], [2]), (16, [20, 18, 19], [0]), (16, [18, 9, 17], [4]), (10, [17, 12, 15], []), (7, [16, 8], [0]), (10, [16, 11, 15], []), (7, [15, 10], [2]), (20, [13, 10], [61, 1, 566]), (20, [13, 11, 12, 10, 8, 14], [61, 3, 584]), (20, [13, 11, 12, 6, 7, 10, 8, 9, 14], [61, 4, 589]), (24, [0, 8], []), (24, [1, 9], []), (24, [2, 10], []), (24, [3, 11], []), (24, [4, 12], []), (24, [5, 13], [])], [(30, (0, 0, 71, []))], [], [], [], [(22, 8, 0, 0), (16, 8, 0, 0), (15, 10, -4294967296, -1), (0, 8, -4294967296, 0), (1, 9, -4294967296, 0), (2, 10, -4294967296, 0), (8, 0, -4294967296, 0), (9, 1, -4294967296, 0), (10, 2, -4294967296, 0), (14, 15, -4294967296, 70), (15, 2, -4294967296, 0), (15, 10, -4294967296, 0)])
theorem oo_Fa_uniteAt_at_Netail_Nehead_Emblock_8 {kA : Nat → ClassId} : or_ok PRD kA GG o_Fa_uniteAt_at_Netail_Nehead_Emblock_8 := by
  refine or_mk fun A ta ws vs hD hth hl => ?_
  intro t0 k0 t1 k1 t2 k2 t3 r3 t4 r4 t5 r5 t6 r6 t7 k7 t8 k8 t9 k9 t10 k10 t11 r11 t12 r12 t13 r13 t14 k14 t15 k15 t16 k16 t17 k17 t18 k18 t19 k19 t20 k20 t22 k22 t23 k23 t24 k24 t25 k25 t26 k26 t28 k28 t29 k29 t30 k30 d0 d1 d2 d3 d4 d5 d6 d7 d8 d9 d10 d11 f0 f1 f2 f3 f4 f5 f6 f7 f8 f9 f10 f11 f12 f13 f14 f15 f16 f17 f18 f19 f20 f21 f22 f23 f24 f25 f26 f27
  replace f0 := shm_107 f0
  replace f2 := shm_107 f2
  replace f8 := shm_107 f8
  replace f10 := shm_107 f10
  replace f15 := shm_107 f15
  replace f17 := shm_107 f17
  replace f18 := shm_6 f18
  replace f19 := shm_365 f19
  replace f24 := shm_5 f24
  replace f25 := shm_5 f25
  replace f26 := shm_5 f26
  replace f27 := shm_5 f27
  have q10 : n_v vs 10 = n_v vs 2 := f24.symm
  have q11 : n_v vs 11 = n_v vs 3 := f25.symm
  have q12 : n_v vs 12 = n_v vs 4 := f26.symm
  have q13 : n_v vs 13 = n_v vs 5 := f27.symm
  simp only [q13, q11, q12, q10] at f0 f2 f8 f10 f15 f17 f18 f19
  have h0 : v_iv (n_v vs 30) = w_ei ws (v_ad (n_v vs 5)) (v_iv (n_v vs 15)) := f0
  have h2 : v_iv (n_v vs 29) = w_ei ws (v_ad (n_v vs 5)) (v_iv (n_v vs 15)) := f2
  have h8 : v_iv (n_v vs 23) = w_ei ws (v_ad (n_v vs 3)) (v_iv (n_v vs 15)) := f8
  have h10 : v_iv (n_v vs 22) = w_ei ws (v_ad (n_v vs 4)) (v_iv (n_v vs 15)) := f10
  have h15 : v_iv (n_v vs 17) = w_ei ws (v_ad (n_v vs 4)) (v_iv (n_v vs 15)) := f15
  have h17 : v_iv (n_v vs 16) = w_ei ws (v_ad (n_v vs 3)) (v_iv (n_v vs 15)) := f17
  have hrf0 : 0 ≤ v_iv (n_v vs 30) ∧ v_iv (n_v vs 30) ≤ 71 := vc_Fa_uniteAt_at_Netail_Nehead_Emblock_8_r0 (v_iv (n_v vs 2)) (v_iv (n_v vs 15)) (v_iv (n_v vs 16)) (v_iv (n_v vs 17)) (v_iv (n_v vs 22)) (v_iv (n_v vs 23)) (v_iv (n_v vs 29)) (v_iv (n_v vs 30)) (w_ei ws (v_ad (n_v vs 5))) (w_ei ws (v_ad (n_v vs 3))) (w_ei ws (v_ad (n_v vs 4))) k2 k15 k16 k17 k22 k23 k29 k30 h0 h2 h8 h10 h15 h17 f18 f19
  have rf30 : tv_ok ta (0, 0, 71, []) (n_v vs 30) := tv_in t30 (by first | omega | grind) (by first | omega | grind)
  refine ⟨List.forall_mem_cons.mpr ⟨rf30, (fun _ h => (by cases h))⟩, [], trivial, ?_, (fun _ h => (by cases h))⟩
  rw [List.append_nil]
  exact (fun _ h => (by cases h))
set_option maxHeartbeats 4000000 in
theorem vc_Fa_uniteAt_at_Netail_Nehead_Emblock_9_r0 (x15 : Int) (x16 : Int) (x17 : Int) (x22 : Int) (x23 : Int) (x29 : Int) (x30 : Int) (x32 : Int) (a5_0 : Int → Int) (a3_0 : Int → Int) (a4_0 : Int → Int) (k15 : 0 ≤ x15 ∧ x15 ≤ 71) (k16 : 0 ≤ x16 ∧ x16 ≤ 23) (k17 : 0 ≤ x17 ∧ x17 ≤ 23) (k22 : 0 ≤ x22 ∧ x22 ≤ 23) (k23 : 0 ≤ x23 ∧ x23 ≤ 23) (k29 : (-1) ≤ x29 ∧ x29 ≤ 71) (k30 : 0 ≤ x30 ∧ x30 ≤ 71) (k32 : (-1) ≤ x32 ∧ x32 ≤ 71) (h0 : x32 = a5_0 (x15)) (h4 : x30 = a5_0 (x15)) (h6 : x29 = a5_0 (x15)) (h12 : x23 = a3_0 (x15)) (h14 : x22 = a4_0 (x15)) (h19 : x17 = a4_0 (x15)) (h21 : x16 = a3_0 (x15)) : 0 ≤ x32 ∧ x32 ≤ 71 := by
  first
    | omega
    | (skip; (first | subst h0 | skip); (first | subst h4 | skip); (first | subst h6 | skip); (first | subst h12 | skip); (first | subst h14 | skip); (first | subst h19 | skip); (first | subst h21 | skip); have q := ‹BLQ _ _› x15 (by omega) (by omega); omega)
def o_Fa_uniteAt_at_Netail_Nehead_Emblock_9 : or_T := (124, 33, [(0, (0, 0, 23, [])), (1, (0, 0, 16777215, [])), (2, (0, 1, 72, [])), (3, (2, 0, 0, [80])), (4, (2, 0, 0, [81])), (5, (2, 0, 0, [26])), (6, (2, 0, 0, [82])), (7, (0, 0, 25, [])), (8, (0, 0, 23, [])), (9, (0, 0, 16777215, [])), (10, (0, 1, 72, [])), (11, (2, 0, 0, [80])), (12, (2, 0, 0, [81])), (13, (2, 0, 0, [26])), (14, (0, 0, 71, [])), (15, (0, 0, 71, [])), (16, (0, 0, 23, [])), (17, (0, 0, 23, [])), (18, (0, 0, 16777215, [])), (19, (0, 1, 1, [])), (20, (0, 0, 0, [])), (22, (0, 0, 23, [])), (23, (0, 0, 23, [])), (24, (0, 0, 16777215, [])), (25, (0, 1, 1, [])), (26, (0, 1, 1, [])), (28, (0, -1, -1, [])), (29, (0, -1, 71, [])), (30, (0, 0, 71, [])), (31, (0, 0, 71, [])), (32, (0, -1, 71, []))], [(10, [32, 13, 15], []), (23, [14, 31], [0, 1, -1]), (23, [30, 31], [0, 1, -1]), (20, [31, 14, 30], [50, 0, 0, 3, 6, 1, 2, 1, 0, 1, 1, 1, 2, 1, 0, 1, 2]), (10, [30, 13, 15], []), (7, [29, 14], [1]), (10, [29, 13, 15], []), (7, [14, 28], [1]), (8, [26], [1]), (12, [26, 24], [2]), (16, [26, 24, 25], [0]), (16, [24, 9, 23], [4]), (10, [23, 11, 15], []), (7, [22, 8], [0]), (10, [22, 12, 15], []), (8, [20], [0]), (12, [20, 18], [2]), (16, [20, 18, 19], [0]), (16, [18, 9, 17], [4]), (10, [17, 12, 15], []), (7, [16, 8], [0]), (10, [16, 11, 15], []), (7, [15, 10], [2]), (20, [13, 10], [61, 1, 566]), (20, [13, 11, 12, 10, 8, 14], [61, 3, 584]), (20, [13, 11, 12, 6, 7, 10, 8, 9, 14], [61, 4, 589]), (24, [0, 8], []), (24, [1, 9], []), (24, [2, 10], []), (24, [3, 11], []), (24, [4, 12], []), (24, [5, 13], [])], [(32, (0, 0, 71, []))], [], [], [], [(22, 8, 0, 0), (16, 8, 0, 0), (15, 10, -4294967296, -1), (0, 8, -4294967296, 0), (1, 9, -4294967296, 0), (2, 10, -4294967296, 0), (8, 0, -4294967296, 0), (9, 1, -4294967296, 0), (10, 2, -4294967296, 0), (14, 15, -4294967296, 70), (15, 2, -4294967296, 0), (15, 10, -4294967296, 0)])
theorem oo_Fa_uniteAt_at_Netail_Nehead_Emblock_9 {kA : Nat → ClassId} : or_ok PRD kA GG o_Fa_uniteAt_at_Netail_Nehead_Emblock_9 := by
  refine or_mk fun A ta ws vs hD hth hl => ?_
  intro t0 k0 t1 k1 t2 k2 t3 r3 t4 r4 t5 r5 t6 r6 t7 k7 t8 k8 t9 k9 t10 k10 t11 r11 t12 r12 t13 r13 t14 k14 t15 k15 t16 k16 t17 k17 t18 k18 t19 k19 t20 k20 t22 k22 t23 k23 t24 k24 t25 k25 t26 k26 t28 k28 t29 k29 t30 k30 t31 k31 t32 k32 d0 d1 d2 d3 d4 d5 d6 d7 d8 d9 d10 d11 f0 f1 f2 f3 f4 f5 f6 f7 f8 f9 f10 f11 f12 f13 f14 f15 f16 f17 f18 f19 f20 f21 f22 f23 f24 f25 f26 f27 f28 f29 f30 f31
  replace f0 := shm_107 f0
  replace f4 := shm_107 f4
  replace f6 := shm_107 f6
  replace f12 := shm_107 f12
  replace f14 := shm_107 f14
  replace f19 := shm_107 f19
  replace f21 := shm_107 f21
  replace f29 := shm_5 f29
  replace f30 := shm_5 f30
  replace f31 := shm_5 f31
  have q11 : n_v vs 11 = n_v vs 3 := f29.symm
  have q12 : n_v vs 12 = n_v vs 4 := f30.symm
  have q13 : n_v vs 13 = n_v vs 5 := f31.symm
  simp only [q13, q11, q12] at f0 f4 f6 f12 f14 f19 f21
  have h0 : v_iv (n_v vs 32) = w_ei ws (v_ad (n_v vs 5)) (v_iv (n_v vs 15)) := f0
  have h4 : v_iv (n_v vs 30) = w_ei ws (v_ad (n_v vs 5)) (v_iv (n_v vs 15)) := f4
  have h6 : v_iv (n_v vs 29) = w_ei ws (v_ad (n_v vs 5)) (v_iv (n_v vs 15)) := f6
  have h12 : v_iv (n_v vs 23) = w_ei ws (v_ad (n_v vs 3)) (v_iv (n_v vs 15)) := f12
  have h14 : v_iv (n_v vs 22) = w_ei ws (v_ad (n_v vs 4)) (v_iv (n_v vs 15)) := f14
  have h19 : v_iv (n_v vs 17) = w_ei ws (v_ad (n_v vs 4)) (v_iv (n_v vs 15)) := f19
  have h21 : v_iv (n_v vs 16) = w_ei ws (v_ad (n_v vs 3)) (v_iv (n_v vs 15)) := f21
  have hrf0 : 0 ≤ v_iv (n_v vs 32) ∧ v_iv (n_v vs 32) ≤ 71 := vc_Fa_uniteAt_at_Netail_Nehead_Emblock_9_r0 (v_iv (n_v vs 15)) (v_iv (n_v vs 16)) (v_iv (n_v vs 17)) (v_iv (n_v vs 22)) (v_iv (n_v vs 23)) (v_iv (n_v vs 29)) (v_iv (n_v vs 30)) (v_iv (n_v vs 32)) (w_ei ws (v_ad (n_v vs 5))) (w_ei ws (v_ad (n_v vs 3))) (w_ei ws (v_ad (n_v vs 4))) k15 k16 k17 k22 k23 k29 k30 k32 h0 h4 h6 h12 h14 h19 h21
  have rf32 : tv_ok ta (0, 0, 71, []) (n_v vs 32) := tv_in t32 (by first | omega | grind) (by first | omega | grind)
  refine ⟨List.forall_mem_cons.mpr ⟨rf32, (fun _ h => (by cases h))⟩, [], trivial, ?_, (fun _ h => (by cases h))⟩
  rw [List.append_nil]
  exact (fun _ h => (by cases h))
set_option maxHeartbeats 4000000 in
theorem vc_Fa_uniteAt_at_Netail_Nehead_Emblock_10_2 (x0 : Int) (x8 : Int) (x15 : Int) (x16 : Int) (x17 : Int) (x22 : Int) (x23 : Int) (x29 : Int) (x30 : Int) (x32 : Int) (a5_0 : Int → Int) (a3_0 : Int → Int) (a4_0 : Int → Int) (gu : Int) (k0 : 0 ≤ x0 ∧ x0 ≤ 23) (k8 : 0 ≤ x8 ∧ x8 ≤ 23) (k15 : 0 ≤ x15 ∧ x15 ≤ 71) (k16 : 0 ≤ x16 ∧ x16 ≤ 23) (k17 : 0 ≤ x17 ∧ x17 ≤ 23) (k22 : 0 ≤ x22 ∧ x22 ≤ 23) (k23 : 0 ≤ x23 ∧ x23 ≤ 23) (k29 : (-1) ≤ x29 ∧ x29 ≤ 71) (k30 : 0 ≤ x30 ∧ x30 ≤ 71) (k32 : 0 ≤ x32 ∧ x32 ≤ 71) (d0 : x8 + 0 ≤ x22 ∧ x22 ≤ x8 + 0) (d3 : x8 + (-4294967296) ≤ x0 ∧ x0 ≤ x8 + 0) (d6 : x0 + (-4294967296) ≤ x8 ∧ x8 ≤ x0 + 0) (h3 : x32 = a5_0 (x15)) (h7 : x30 = a5_0 (x15)) (h9 : x29 = a5_0 (x15)) (h15 : x23 = a3_0 (x15)) (h17 : x22 = a4_0 (x15)) (h22 : x17 = a4_0 (x15)) (h24 : x16 = a3_0 (x15)) (eu2 : gu = x0) : 1 * gu + ((-1) * x0 + 0) ≤ 0 := by
  first
    | omega
    | (skip; (first | subst h3 | skip); (first | subst h7 | skip); (first | subst h9 | skip); (first | subst h15 | skip); (first | subst h17 | skip); (first | subst h22 | skip); (first | subst h24 | skip); have q := ‹BLQ _ _› x15 (by omega) (by omega); omega)
set_option maxHeartbeats 4000000 in
theorem vc_Fa_uniteAt_at_Netail_Nehead_Emblock_10_3 (x0 : Int) (x8 : Int) (x15 : Int) (x16 : Int) (x17 : Int) (x22 : Int) (x23 : Int) (x29 : Int) (x30 : Int) (x32 : Int) (a5_0 : Int → Int) (a3_0 : Int → Int) (a4_0 : Int → Int) (gu : Int) (k0 : 0 ≤ x0 ∧ x0 ≤ 23) (k8 : 0 ≤ x8 ∧ x8 ≤ 23) (k15 : 0 ≤ x15 ∧ x15 ≤ 71) (k16 : 0 ≤ x16 ∧ x16 ≤ 23) (k17 : 0 ≤ x17 ∧ x17 ≤ 23) (k22 : 0 ≤ x22 ∧ x22 ≤ 23) (k23 : 0 ≤ x23 ∧ x23 ≤ 23) (k29 : (-1) ≤ x29 ∧ x29 ≤ 71) (k30 : 0 ≤ x30 ∧ x30 ≤ 71) (k32 : 0 ≤ x32 ∧ x32 ≤ 71) (d0 : x8 + 0 ≤ x22 ∧ x22 ≤ x8 + 0) (d3 : x8 + (-4294967296) ≤ x0 ∧ x0 ≤ x8 + 0) (d6 : x0 + (-4294967296) ≤ x8 ∧ x8 ≤ x0 + 0) (h3 : x32 = a5_0 (x15)) (h7 : x30 = a5_0 (x15)) (h9 : x29 = a5_0 (x15)) (h15 : x23 = a3_0 (x15)) (h17 : x22 = a4_0 (x15)) (h22 : x17 = a4_0 (x15)) (h24 : x16 = a3_0 (x15)) (eu2 : gu = x0) : (-1) * gu + (1 * x0 + 0) ≤ 0 := by
  first
    | omega
    | (skip; (first | subst h3 | skip); (first | subst h7 | skip); (first | subst h9 | skip); (first | subst h15 | skip); (first | subst h17 | skip); (first | subst h22 | skip); (first | subst h24 | skip); have q := ‹BLQ _ _› x15 (by omega) (by omega); omega)
set_option maxHeartbeats 4000000 in
theorem vc_Fa_uniteAt_at_Netail_Nehead_Emblock_10_5 (x7 : Int) (x15 : Int) (x16 : Int) (x17 : Int) (x22 : Int) (x23 : Int) (x29 : Int) (x30 : Int) (x32 : Int) (a5_0 : Int → Int) (a3_0 : Int → Int) (a4_0 : Int → Int) (gc : Int) (k7 : 0 ≤ x7 ∧ x7 ≤ 25) (k15 : 0 ≤ x15 ∧ x15 ≤ 71) (k16 : 0 ≤ x16 ∧ x16 ≤ 23) (k17 : 0 ≤ x17 ∧ x17 ≤ 23) (k22 : 0 ≤ x22 ∧ x22 ≤ 23) (k23 : 0 ≤ x23 ∧ x23 ≤ 23) (k29 : (-1) ≤ x29 ∧ x29 ≤ 71) (k30 : 0 ≤ x30 ∧ x30 ≤ 71) (k32 : 0 ≤ x32 ∧ x32 ≤ 71) (h3 : x32 = a5_0 (x15)) (h7 : x30 = a5_0 (x15)) (h9 : x29 = a5_0 (x15)) (h15 : x23 = a3_0 (x15)) (h17 : x22 = a4_0 (x15)) (h22 : x17 = a4_0 (x15)) (h24 : x16 = a3_0 (x15)) (ec2 : gc = x7) : 1 * gc + ((-1) * x7 + 0) ≤ 0 := by
  first
    | omega
    | (skip; (first | subst h3 | skip); (first | subst h7 | skip); (first | subst h9 | skip); (first | subst h15 | skip); (first | subst h17 | skip); (first | subst h22 | skip); (first | subst h24 | skip); have q := ‹BLQ _ _› x15 (by omega) (by omega); omega)
set_option maxHeartbeats 4000000 in
theorem vc_Fa_uniteAt_at_Netail_Nehead_Emblock_10_6 (x7 : Int) (x15 : Int) (x16 : Int) (x17 : Int) (x22 : Int) (x23 : Int) (x29 : Int) (x30 : Int) (x32 : Int) (a5_0 : Int → Int) (a3_0 : Int → Int) (a4_0 : Int → Int) (gc : Int) (k7 : 0 ≤ x7 ∧ x7 ≤ 25) (k15 : 0 ≤ x15 ∧ x15 ≤ 71) (k16 : 0 ≤ x16 ∧ x16 ≤ 23) (k17 : 0 ≤ x17 ∧ x17 ≤ 23) (k22 : 0 ≤ x22 ∧ x22 ≤ 23) (k23 : 0 ≤ x23 ∧ x23 ≤ 23) (k29 : (-1) ≤ x29 ∧ x29 ≤ 71) (k30 : 0 ≤ x30 ∧ x30 ≤ 71) (k32 : 0 ≤ x32 ∧ x32 ≤ 71) (h3 : x32 = a5_0 (x15)) (h7 : x30 = a5_0 (x15)) (h9 : x29 = a5_0 (x15)) (h15 : x23 = a3_0 (x15)) (h17 : x22 = a4_0 (x15)) (h22 : x17 = a4_0 (x15)) (h24 : x16 = a3_0 (x15)) (ec2 : gc = x7) : (-1) * gc + (1 * x7 + 0) ≤ 0 := by
  first
    | omega
    | (skip; (first | subst h3 | skip); (first | subst h7 | skip); (first | subst h9 | skip); (first | subst h15 | skip); (first | subst h17 | skip); (first | subst h22 | skip); (first | subst h24 | skip); have q := ‹BLQ _ _› x15 (by omega) (by omega); omega)
set_option maxHeartbeats 4000000 in
theorem vc_Fa_uniteAt_at_Netail_Nehead_Emblock_10_7 (x1 : Int) (x9 : Int) (x15 : Int) (x16 : Int) (x17 : Int) (x22 : Int) (x23 : Int) (x29 : Int) (x30 : Int) (x32 : Int) (a5_0 : Int → Int) (a3_0 : Int → Int) (a4_0 : Int → Int) (gd : Int) (k1 : 0 ≤ x1 ∧ x1 ≤ 16777215) (k9 : 0 ≤ x9 ∧ x9 ≤ 16777215) (k15 : 0 ≤ x15 ∧ x15 ≤ 71) (k16 : 0 ≤ x16 ∧ x16 ≤ 23) (k17 : 0 ≤ x17 ∧ x17 ≤ 23) (k22 : 0 ≤ x22 ∧ x22 ≤ 23) (k23 : 0 ≤ x23 ∧ x23 ≤ 23) (k29 : (-1) ≤ x29 ∧ x29 ≤ 71) (k30 : 0 ≤ x30 ∧ x30 ≤ 71) (k32 : 0 ≤ x32 ∧ x32 ≤ 71) (d4 : x9 + (-4294967296) ≤ x1 ∧ x1 ≤ x9 + 0) (d7 : x1 + (-4294967296) ≤ x9 ∧ x9 ≤ x1 + 0) (h3 : x32 = a5_0 (x15)) (h7 : x30 = a5_0 (x15)) (h9 : x29 = a5_0 (x15)) (h15 : x23 = a3_0 (x15)) (h17 : x22 = a4_0 (x15)) (h22 : x17 = a4_0 (x15)) (h24 : x16 = a3_0 (x15)) (ed2 : gd = x1) : 1 * gd + ((-1) * x1 + 0) ≤ 0 := by
  first
    | omega
    | (skip; (first | subst h3 | skip); (first | subst h7 | skip); (first | subst h9 | skip); (first | subst h15 | skip); (first | subst h17 | skip); (first | subst h22 | skip); (first | subst h24 | skip); have q := ‹BLQ _ _› x15 (by omega) (by omega); omega)
set_option maxHeartbeats 4000000 in
theorem vc_Fa_uniteAt_at_Netail_Nehead_Emblock_10_8 (x1 : Int) (x9 : Int) (x15 : Int) (x16 : Int) (x17 : Int) (x22 : Int) (x23 : Int) (x29 : Int) (x30 : Int) (x32 : Int) (a5_0 : Int → Int) (a3_0 : Int → Int) (a4_0 : Int → Int) (gd : Int) (k1 : 0 ≤ x1 ∧ x1 ≤ 16777215) (k9 : 0 ≤ x9 ∧ x9 ≤ 16777215) (k15 : 0 ≤ x15 ∧ x15 ≤ 71) (k16 : 0 ≤ x16 ∧ x16 ≤ 23) (k17 : 0 ≤ x17 ∧ x17 ≤ 23) (k22 : 0 ≤ x22 ∧ x22 ≤ 23) (k23 : 0 ≤ x23 ∧ x23 ≤ 23) (k29 : (-1) ≤ x29 ∧ x29 ≤ 71) (k30 : 0 ≤ x30 ∧ x30 ≤ 71) (k32 : 0 ≤ x32 ∧ x32 ≤ 71) (d4 : x9 + (-4294967296) ≤ x1 ∧ x1 ≤ x9 + 0) (d7 : x1 + (-4294967296) ≤ x9 ∧ x9 ≤ x1 + 0) (h3 : x32 = a5_0 (x15)) (h7 : x30 = a5_0 (x15)) (h9 : x29 = a5_0 (x15)) (h15 : x23 = a3_0 (x15)) (h17 : x22 = a4_0 (x15)) (h22 : x17 = a4_0 (x15)) (h24 : x16 = a3_0 (x15)) (ed2 : gd = x1) : (-1) * gd + (1 * x1 + 0) ≤ 0 := by
  first
    | omega
    | (skip; (first | subst h3 | skip); (first | subst h7 | skip); (first | subst h9 | skip); (first | subst h15 | skip); (first | subst h17 | skip); (first | subst h22 | skip); (first | subst h24 | skip); have q := ‹BLQ _ _› x15 (by omega) (by omega); omega)
set_option maxHeartbeats 4000000 in
theorem vc_Fa_uniteAt_at_Netail_Nehead_Emblock_10_9 (x2 : Int) (a5_0 : Int → Int) (k2 : 1 ≤ x2 ∧ x2 ≤ 72) (f26 : BLQ (a5_0) (x2)) : BLQ (a5_0) (x2) := by
  first
    | assumption
  
set_option maxHeartbeats 4000000 in
theorem vc_Fa_uniteAt_at_Netail_Nehead_Emblock_10_10 (x15 : Int) (x16 : Int) (x17 : Int) (x22 : Int) (x23 : Int) (x29 : Int) (x30 : Int) (x31 : Int) (x32 : Int) (x33 : Int) (a5_0 : Int → Int) (a3_0 : Int → Int) (a4_0 : Int → Int) (k15 : 0 ≤ x15 ∧ x15 ≤ 71) (k16 : 0 ≤ x16 ∧ x16 ≤ 23) (k17 : 0 ≤ x17 ∧ x17 ≤ 23) (k22 : 0 ≤ x22 ∧ x22 ≤ 23) (k23 : 0 ≤ x23 ∧ x23 ≤ 23) (k29 : (-1) ≤ x29 ∧ x29 ≤ 71) (k30 : 0 ≤ x30 ∧ x30 ≤ 71) (k31 : 0 ≤ x31 ∧ x31 ≤ 71) (k32 : 0 ≤ x32 ∧ x32 ≤ 71) (k33 : 0 ≤ x33 ∧ x33 ≤ 71) (f1 : (-1) * x32 + (1 * x33 + 0) ≤ 0) (h3 : x32 = a5_0 (x15)) (f5 : 1 * x30 + ((-1) * x31 + 0) ≤ 0) (h7 : x30 = a5_0 (x15)) (h9 : x29 = a5_0 (x15)) (h15 : x23 = a3_0 (x15)) (h17 : x22 = a4_0 (x15)) (h22 : x17 = a4_0 (x15)) (h24 : x16 = a3_0 (x15)) : (0 ≤ x33) ∧ (x33 ≤ x31) := by
  first
    | omega
    | (skip; (first | subst h3 | skip); (first | subst h7 | skip); (first | subst h9 | skip); (first | subst h15 | skip); (first | subst h17 | skip); (first | subst h22 | skip); (first | subst h24 | skip); have q := ‹BLQ _ _› x15 (by omega) (by omega); omega)
set_option maxHeartbeats 4000000 in
theorem vc_Fa_uniteAt_at_Netail_Nehead_Emblock_10_11 (x0 : Int) (x2 : Int) (x8 : Int) (x14 : Int) (x15 : Int) (x16 : Int) (x22 : Int) (x26 : Int) (x28 : Int) (x29 : Int) (x30 : Int) (x31 : Int) (x32 : Int) (x33 : Int) (a5_0 : Int → Int) (a3_0 : Int → Int) (a4_0 : Int → Int) (gu : Int) (k0 : 0 ≤ x0 ∧ x0 ≤ 23) (k2 : 1 ≤ x2 ∧ x2 ≤ 72) (k8 : 0 ≤ x8 ∧ x8 ≤ 23) (k14 : 0 ≤ x14 ∧ x14 ≤ 71) (k15 : 0 ≤ x15 ∧ x15 ≤ 71) (k16 : 0 ≤ x16 ∧ x16 ≤ 23) (k22 : 0 ≤ x22 ∧ x22 ≤ 23) (k26 : 1 ≤ x26 ∧ x26 ≤ 1) (k28 : (-1) ≤ x28 ∧ x28 ≤ (-1)) (k29 : (-1) ≤ x29 ∧ x29 ≤ 71) (k30 : 0 ≤ x30 ∧ x30 ≤ 71) (k31 : 0 ≤ x31 ∧ x31 ≤ 71) (k32 : 0 ≤ x32 ∧ x32 ≤ 71) (k33 : 0 ≤ x33 ∧ x33 ≤ 71) (d0 : x8 + 0 ≤ x22 ∧ x22 ≤ x8 + 0) (d1 : x8 + 0 ≤ x16 ∧ x16 ≤ x8 + 0) (d3 : x8 + (-4294967296) ≤ x0 ∧ x0 ≤ x8 + 0) (d6 : x0 + (-4294967296) ≤ x8 ∧ x8 ≤ x0 + 0) (f0 : (-1) * x14 + (1 * x33 + 0) ≤ 0) (f1 : (-1) * x32 + (1 * x33 + 0) ≤ 0) (f2 : (x33 = x14) ∨ (x33 = x32)) (h3 : x32 = a5_0 (x15)) (f4 : 1 * x14 + ((-1) * x31 + 0) ≤ 0) (f5 : 1 * x30 + ((-1) * x31 + 0) ≤ 0) (f6 : (x31 = x14) ∨ (x31 = x30)) (h7 : x30 = a5_0 (x15)) (f8 : x29 ≠ x14) (h9 : x29 = a5_0 (x15)) (f10 : x14 ≠ x28) (f11 : x26 ≠ 0) (h17 : x22 = a4_0 (x15)) (h24 : x16 = a3_0 (x15)) (f25 : x15 < x2) (f27 : UNI (a5_0) (a3_0) (a4_0) (x2) (x0) (x14)) (eu2 : gu = x0) : RLP (a5_0) (a3_0) (a4_0) (x2) (x31) (x33) (gu) := by
  first
    | (rw [show gu = x0 by omega]; exact uni_rlp (e := x15) ‹UNI _ _ _ _ _ _› (by omega) rfl (by omega) (by omega) (by omega) (by first | exact Or.inl (by omega) | exact Or.inr (by omega)) (by omega) (by omega) (by omega) (by omega) (by omega) (by omega))
  
set_option maxHeartbeats 4000000 in
theorem vc_Fa_uniteAt_at_Netail_Nehead_Emblock_10_12 (x0 : Int) (x1 : Int) (x2 : Int) (x7 : Int) (x8 : Int) (x14 : Int) (x15 : Int) (x16 : Int) (x17 : Int) (x18 : Int) (x19 : Int) (x20 : Int) (x22 : Int) (x23 : Int) (x24 : Int) (x25 : Int) (x26 : Int) (x28 : Int) (x29 : Int) (x30 : Int) (x31 : Int) (x32 : Int) (x33 : Int) (a5_0 : Int → Int) (a3_0 : Int → Int) (a4_0 : Int → Int) (a6_0 : Int → Int) (gu : Int) (gc : Int) (gd : Int) (k0 : 0 ≤ x0 ∧ x0 ≤ 23) (k1 : 0 ≤ x1 ∧ x1 ≤ 16777215) (k2 : 1 ≤ x2 ∧ x2 ≤ 72) (k7 : 0 ≤ x7 ∧ x7 ≤ 25) (k8 : 0 ≤ x8 ∧ x8 ≤ 23) (k14 : 0 ≤ x14 ∧ x14 ≤ 71) (k15 : 0 ≤ x15 ∧ x15 ≤ 71) (k16 : 0 ≤ x16 ∧ x16 ≤ 23) (k22 : 0 ≤ x22 ∧ x22 ≤ 23) (k23 : 0 ≤ x23 ∧ x23 ≤ 23) (k24 : 0 ≤ x24 ∧ x24 ≤ 16777215) (k25 : 1 ≤ x25 ∧ x25 ≤ 1) (k26 : 1 ≤ x26 ∧ x26 ≤ 1) (k28 : (-1) ≤ x28 ∧ x28 ≤ (-1)) (k29 : (-1) ≤ x29 ∧ x29 ≤ 71) (k30 : 0 ≤ x30 ∧ x30 ≤ 71) (k31 : 0 ≤ x31 ∧ x31 ≤ 71) (k32 : 0 ≤ x32 ∧ x32 ≤ 71) (k33 : 0 ≤ x33 ∧ x33 ≤ 71) (d0 : x8 + 0 ≤ x22 ∧ x22 ≤ x8 + 0) (d1 : x8 + 0 ≤ x16 ∧ x16 ≤ x8 + 0) (d3 : x8 + (-4294967296) ≤ x0 ∧ x0 ≤ x8 + 0) (d6 : x0 + (-4294967296) ≤ x8 ∧ x8 ≤ x0 + 0) (f0 : (-1) * x14 + (1 * x33 + 0) ≤ 0) (f1 : (-1) * x32 + (1 * x33 + 0) ≤ 0) (f2 : (x33 = x14) ∨ (x33 = x32)) (h3 : x32 = a5_0 (x15)) (f4 : 1 * x14 + ((-1) * x31 + 0) ≤ 0) (f5 : 1 * x30 + ((-1) * x31 + 0) ≤ 0) (f6 : (x31 = x14) ∨ (x31 = x30)) (h7 : x30 = a5_0 (x15)) (f8 : x29 ≠ x14) (h9 : x29 = a5_0 (x15)) (f10 : x14 ≠ x28) (f11 : x26 ≠ 0) (f13 : bvp (x26) = bvp (x24) &&& bvp (x25)) (f14 : bvp (x24) = bvp (x1) >>> (x23).toNat) (h15 : x23 = a3_0 (x15)) (h17 : x22 = a4_0 (x15)) (h24 : x16 = a3_0 (x15)) (f25 : x15 < x2) (f28 : UN2 (a5_0) (a3_0) (a4_0) (a6_0) (x7) (x2) (x0) (x1) (x14)) (eu2 : gu = x0) (ec2 : gc = x7) (ed2 : gd = x1) : QKP (a5_0) (a3_0) (a4_0) (a6_0) (gc) (x2) (gu) (gd) (x31) (x33) := by
  first
    | (rw [show gu = x0 by omega, show gc = x7 by omega, show gd = x1 by omega]; exact un2_qkp (e := x15) ‹UN2 _ _ _ _ _ _ _ _ _› (by omega) rfl (by omega) (by omega) (by omega) (by first | exact Or.inl ⟨by omega, by omega, by rw [← ‹x17 = a4_0 x15›]; exact (bit_one (s := x1) (t := x18) (c := x20) (v := x17) (one := x19) (by assumption) (by assumption) (by omega) (by omega) (by omega) (by omega)).mpr (by omega)⟩ | exact Or.inr ⟨by omega, by omega, by rw [← ‹x19 = a3_0 x15›]; exact (bit_one (s := x1) (t := x20) (c := x22) (v := x19) (one := x21) (by assumption) (by assumption) (by omega) (by omega) (by omega) (by omega)).mpr (by omega)⟩ | exact Or.inr ⟨by omega, by omega, by rw [← ‹x23 = a3_0 x15›]; exact (bit_one (s := x1) (t := x24) (c := x26) (v := x23) (one := x25) (by assumption) (by assumption) (by omega) (by omega) (by omega) (by omega)).mpr (by omega)⟩) (by omega) (by omega) (by omega) (by omega) (by omega) (by omega))
  
set_option maxHeartbeats 4000000 in
theorem vc_Fa_uniteAt_at_Netail_Nehead_Emblock_10_13 (x0 : Int) (x15 : Int) (x16 : Int) (x17 : Int) (x22 : Int) (x23 : Int) (x29 : Int) (x30 : Int) (x32 : Int) (a5_0 : Int → Int) (a3_0 : Int → Int) (a4_0 : Int → Int) (gu : Int) (k0 : 0 ≤ x0 ∧ x0 ≤ 23) (k15 : 0 ≤ x15 ∧ x15 ≤ 71) (k16 : 0 ≤ x16 ∧ x16 ≤ 23) (k17 : 0 ≤ x17 ∧ x17 ≤ 23) (k22 : 0 ≤ x22 ∧ x22 ≤ 23) (k23 : 0 ≤ x23 ∧ x23 ≤ 23) (k29 : (-1) ≤ x29 ∧ x29 ≤ 71) (k30 : 0 ≤ x30 ∧ x30 ≤ 71) (k32 : 0 ≤ x32 ∧ x32 ≤ 71) (h3 : x32 = a5_0 (x15)) (h7 : x30 = a5_0 (x15)) (h9 : x29 = a5_0 (x15)) (h15 : x23 = a3_0 (x15)) (h17 : x22 = a4_0 (x15)) (h22 : x17 = a4_0 (x15)) (h24 : x16 = a3_0 (x15)) (eu2 : gu = x0) : gu = x0 := by
  first
    | omega
    | (skip; (first | subst h3 | skip); (first | subst h7 | skip); (first | subst h9 | skip); (first | subst h15 | skip); (first | subst h17 | skip); (first | subst h22 | skip); (first | subst h24 | skip); have q := ‹BLQ _ _› x15 (by omega) (by omega); omega)
set_option maxHeartbeats 4000000 in
theorem vc_Fa_uniteAt_at_Netail_Nehead_Emblock_10_14 (x15 : Int) (x16 : Int) (x17 : Int) (x22 : Int) (x23 : Int) (x29 : Int) (x30 : Int) (x32 : Int) (x33 : Int) (a5_0 : Int → Int) (a3_0 : Int → Int) (a4_0 : Int → Int) (k15 : 0 ≤ x15 ∧ x15 ≤ 71) (k16 : 0 ≤ x16 ∧ x16 ≤ 23) (k17 : 0 ≤ x17 ∧ x17 ≤ 23) (k22 : 0 ≤ x22 ∧ x22 ≤ 23) (k23 : 0 ≤ x23 ∧ x23 ≤ 23) (k29 : (-1) ≤ x29 ∧ x29 ≤ 71) (k30 : 0 ≤ x30 ∧ x30 ≤ 71) (k32 : 0 ≤ x32 ∧ x32 ≤ 71) (k33 : 0 ≤ x33 ∧ x33 ≤ 71) (h3 : x32 = a5_0 (x15)) (h7 : x30 = a5_0 (x15)) (h9 : x29 = a5_0 (x15)) (h15 : x23 = a3_0 (x15)) (h17 : x22 = a4_0 (x15)) (h22 : x17 = a4_0 (x15)) (h24 : x16 = a3_0 (x15)) : 0 ≤ x33 := by
  first
    | omega
    | (skip; (first | subst h3 | skip); (first | subst h7 | skip); (first | subst h9 | skip); (first | subst h15 | skip); (first | subst h17 | skip); (first | subst h22 | skip); (first | subst h24 | skip); have q := ‹BLQ _ _› x15 (by omega) (by omega); omega)
set_option maxHeartbeats 4000000 in
theorem vc_Fa_uniteAt_at_Netail_Nehead_Emblock_10_15 (x7 : Int) (x15 : Int) (x16 : Int) (x17 : Int) (x22 : Int) (x23 : Int) (x29 : Int) (x30 : Int) (x32 : Int) (a5_0 : Int → Int) (a3_0 : Int → Int) (a4_0 : Int → Int) (gc : Int) (k7 : 0 ≤ x7 ∧ x7 ≤ 25) (k15 : 0 ≤ x15 ∧ x15 ≤ 71) (k16 : 0 ≤ x16 ∧ x16 ≤ 23) (k17 : 0 ≤ x17 ∧ x17 ≤ 23) (k22 : 0 ≤ x22 ∧ x22 ≤ 23) (k23 : 0 ≤ x23 ∧ x23 ≤ 23) (k29 : (-1) ≤ x29 ∧ x29 ≤ 71) (k30 : 0 ≤ x30 ∧ x30 ≤ 71) (k32 : 0 ≤ x32 ∧ x32 ≤ 71) (h3 : x32 = a5_0 (x15)) (h7 : x30 = a5_0 (x15)) (h9 : x29 = a5_0 (x15)) (h15 : x23 = a3_0 (x15)) (h17 : x22 = a4_0 (x15)) (h22 : x17 = a4_0 (x15)) (h24 : x16 = a3_0 (x15)) (ec2 : gc = x7) : gc = x7 := by
  first
    | omega
    | (skip; (first | subst h3 | skip); (first | subst h7 | skip); (first | subst h9 | skip); (first | subst h15 | skip); (first | subst h17 | skip); (first | subst h22 | skip); (first | subst h24 | skip); have q := ‹BLQ _ _› x15 (by omega) (by omega); omega)
set_option maxHeartbeats 4000000 in
theorem vc_Fa_uniteAt_at_Netail_Nehead_Emblock_10_16 (x1 : Int) (x15 : Int) (x16 : Int) (x17 : Int) (x22 : Int) (x23 : Int) (x29 : Int) (x30 : Int) (x32 : Int) (a5_0 : Int → Int) (a3_0 : Int → Int) (a4_0 : Int → Int) (gd : Int) (k1 : 0 ≤ x1 ∧ x1 ≤ 16777215) (k15 : 0 ≤ x15 ∧ x15 ≤ 71) (k16 : 0 ≤ x16 ∧ x16 ≤ 23) (k17 : 0 ≤ x17 ∧ x17 ≤ 23) (k22 : 0 ≤ x22 ∧ x22 ≤ 23) (k23 : 0 ≤ x23 ∧ x23 ≤ 23) (k29 : (-1) ≤ x29 ∧ x29 ≤ 71) (k30 : 0 ≤ x30 ∧ x30 ≤ 71) (k32 : 0 ≤ x32 ∧ x32 ≤ 71) (h3 : x32 = a5_0 (x15)) (h7 : x30 = a5_0 (x15)) (h9 : x29 = a5_0 (x15)) (h15 : x23 = a3_0 (x15)) (h17 : x22 = a4_0 (x15)) (h22 : x17 = a4_0 (x15)) (h24 : x16 = a3_0 (x15)) (ed2 : gd = x1) : gd = x1 := by
  first
    | omega
    | (skip; (first | subst h3 | skip); (first | subst h7 | skip); (first | subst h9 | skip); (first | subst h15 | skip); (first | subst h17 | skip); (first | subst h22 | skip); (first | subst h24 | skip); have q := ‹BLQ _ _› x15 (by omega) (by omega); omega)
def o_Fa_uniteAt_at_Netail_Nehead_Emblock_10 : or_T := (136, 34, [(0, (0, 0, 23, [])), (1, (0, 0, 16777215, [])), (2, (0, 1, 72, [])), (3, (2, 0, 0, [80])), (4, (2, 0, 0, [81])), (5, (2, 0, 0, [26])), (6, (2, 0, 0, [82])), (7, (0, 0, 25, [])), (8, (0, 0, 23, [])), (9, (0, 0, 16777215, [])), (10, (0, 1, 72, [])), (11, (2, 0, 0, [80])), (12, (2, 0, 0, [81])), (13, (2, 0, 0, [26])), (14, (0, 0, 71, [])), (15, (0, 0, 71, [])), (16, (0, 0, 23, [])), (17, (0, 0, 23, [])), (18, (0, 0, 16777215, [])), (19, (0, 1, 1, [])), (20, (0, 0, 0, [])), (22, (0, 0, 23, [])), (23, (0, 0, 23, [])), (24, (0, 0, 16777215, [])), (25, (0, 1, 1, [])), (26, (0, 1, 1, [])), (28, (0, -1, -1, [])), (29, (0, -1, 71, [])), (30, (0, 0, 71, [])), (31, (0, 0, 71, [])), (32, (0, 0, 71, [])), (33, (0, 0, 71, []))], [(23, [14, 33], [0, -1, 1]), (23, [32, 33], [0, -1, 1]), (20, [33, 14, 32], [50, 0, 0, 3, 6, 1, 2, 1, 0, 1, 1, 1, 2, 1, 0, 1, 2]), (10, [32, 13, 15], []), (23, [14, 31], [0, 1, -1]), (23, [30, 31], [0, 1, -1]), (20, [31, 14, 30], [50, 0, 0, 3, 6, 1, 2, 1, 0, 1, 1, 1, 2, 1, 0, 1, 2]), (10, [30, 13, 15], []), (7, [29, 14], [1]), (10, [29, 13, 15], []), (7, [14, 28], [1]), (8, [26], [1]), (12, [26, 24], [2]), (16, [26, 24, 25], [0]), (16, [24, 9, 23], [4]), (10, [23, 11, 15], []), (7, [22, 8], [0]), (10, [22, 12, 15], []), (8, [20], [0]), (12, [20, 18], [2]), (16, [20, 18, 19], [0]), (16, [18, 9, 17], [4]), (10, [17, 12, 15], []), (7, [16, 8], [0]), (10, [16, 11, 15], []), (7, [15, 10], [2]), (20, [13, 10], [61, 1, 566]), (20, [13, 11, 12, 10, 8, 14], [61, 3, 584]), (20, [13, 11, 12, 6, 7, 10, 8, 9, 14], [61, 4, 589]), (24, [0, 8], []), (24, [1, 9], []), (24, [2, 10], []), (24, [3, 11], []), (24, [4, 12], []), (24, [5, 13], [])], [], [(2, 0, 0, [80]), (2, 0, 0, [81]), (0, 0, 24, []), (2, 0, 0, [82]), (0, 0, 25, []), (0, -2147483648, 2147483647, [])], [(24, [3, 34], []), (24, [4, 35], []), (23, [36, 8], [0, 1, -1]), (23, [36, 8], [0, -1, 1]), (24, [6, 37], []), (23, [38, 7], [0, 1, -1]), (23, [38, 7], [0, -1, 1]), (23, [39, 9], [0, 1, -1]), (23, [39, 9], [0, -1, 1]), (20, [13, 10], [61, 1, 566]), (20, [33, 31], [50, 0, 0, 2, 6, 0, 2, 0, 0, 1, 0, 0, 2, 1, 0, 1, 1]), (20, [13, 34, 35, 10, 31, 33, 36], [61, 3, 581]), (20, [13, 34, 35, 37, 38, 10, 36, 39, 31, 33], [61, 4, 590]), (20, [36, 8], [50, 0, 0, 1, 2, 1, 0, 1, 1]), (20, [33], [50, 0, 0, 0, 2, 0, 0, 1, 0]), (20, [38, 7], [50, 0, 0, 1, 2, 1, 0, 1, 1]), (20, [39, 9], [50, 0, 0, 1, 2, 1, 0, 1, 1])], [], [(22, 8, 0, 0), (16, 8, 0, 0), (15, 10, -4294967296, -1), (0, 8, -4294967296, 0), (1, 9, -4294967296, 0), (2, 10, -4294967296, 0), (8, 0, -4294967296, 0), (9, 1, -4294967296, 0), (10, 2, -4294967296, 0), (14, 15, -4294967296, 70), (15, 2, -4294967296, 0), (15, 10, -4294967296, 0)])
theorem oo_Fa_uniteAt_at_Netail_Nehead_Emblock_10 {kA : Nat → ClassId} : or_ok PRD kA GG o_Fa_uniteAt_at_Netail_Nehead_Emblock_10 := by
  refine or_mk fun A ta ws vs hD hth hl => ?_
  intro t0 k0 t1 k1 t2 k2 t3 r3 t4 r4 t5 r5 t6 r6 t7 k7 t8 k8 t9 k9 t10 k10 t11 r11 t12 r12 t13 r13 t14 k14 t15 k15 t16 k16 t17 k17 t18 k18 t19 k19 t20 k20 t22 k22 t23 k23 t24 k24 t25 k25 t26 k26 t28 k28 t29 k29 t30 k30 t31 k31 t32 k32 t33 k33 d0 d1 d2 d3 d4 d5 d6 d7 d8 d9 d10 d11 f0 f1 f2 f3 f4 f5 f6 f7 f8 f9 f10 f11 f12 f13 f14 f15 f16 f17 f18 f19 f20 f21 f22 f23 f24 f25 f26 f27 f28 f29 f30 f31 f32 f33 f34
  replace f0 := shm_22 f0
  replace f1 := shm_22 f1
  replace f2 := shm_898 f2
  replace f3 := shm_107 f3
  replace f4 := shm_7 f4
  replace f5 := shm_7 f5
  replace f6 := shm_898 f6
  replace f7 := shm_107 f7
  replace f8 := shm_40 f8
  replace f9 := shm_107 f9
  replace f10 := shm_40 f10
  replace f11 := shm_142 f11
  replace f13 := shm_11 f13
  replace f14 := shm_13 f14
  replace f15 := shm_107 f15
  replace f17 := shm_107 f17
  replace f22 := shm_107 f22
  replace f24 := shm_107 f24
  replace f25 := shm_6 f25
  replace f26 := shm_365 f26
  replace f27 := shm_1193 f27
  replace f28 := shm_1194 f28
  replace f29 := shm_5 f29
  replace f30 := shm_5 f30
  replace f31 := shm_5 f31
  replace f32 := shm_5 f32
  replace f33 := shm_5 f33
  replace f34 := shm_5 f34
  have q8 : n_v vs 8 = n_v vs 0 := f29.symm
  have q9 : n_v vs 9 = n_v vs 1 := f30.symm
  have q10 : n_v vs 10 = n_v vs 2 := f31.symm
  have q11 : n_v vs 11 = n_v vs 3 := f32.symm
  have q12 : n_v vs 12 = n_v vs 4 := f33.symm
  have q13 : n_v vs 13 = n_v vs 5 := f34.symm
  simp only [q13, q9, q11, q8, q12, q10] at f3 f7 f9 f14 f15 f17 f22 f24 f25 f26 f27 f28
  have h3 : v_iv (n_v vs 32) = w_ei ws (v_ad (n_v vs 5)) (v_iv (n_v vs 15)) := f3
  have h7 : v_iv (n_v vs 30) = w_ei ws (v_ad (n_v vs 5)) (v_iv (n_v vs 15)) := f7
  have h9 : v_iv (n_v vs 29) = w_ei ws (v_ad (n_v vs 5)) (v_iv (n_v vs 15)) := f9
  have h15 : v_iv (n_v vs 23) = w_ei ws (v_ad (n_v vs 3)) (v_iv (n_v vs 15)) := f15
  have h17 : v_iv (n_v vs 22) = w_ei ws (v_ad (n_v vs 4)) (v_iv (n_v vs 15)) := f17
  have h22 : v_iv (n_v vs 17) = w_ei ws (v_ad (n_v vs 4)) (v_iv (n_v vs 15)) := f22
  have h24 : v_iv (n_v vs 16) = w_ei ws (v_ad (n_v vs 3)) (v_iv (n_v vs 15)) := f24
  obtain ⟨u, eu, hu⟩ := iv_ex (ta := ta) (lo := 0) (hi := 24) (z := v_iv (n_v vs 0)) (by omega) (by omega) (by omega) (by omega)
  have eu2 : v_iv (Value.int u) = v_iv (n_v vs 0) := eu
  have eu3 : 0 ≤ v_iv (Value.int u) ∧ v_iv (Value.int u) ≤ 24 := tv_rng hu
  obtain ⟨c, ec, hc⟩ := iv_ex (ta := ta) (lo := 0) (hi := 25) (z := v_iv (n_v vs 7)) (by omega) (by omega) (by omega) (by omega)
  have ec2 : v_iv (Value.int c) = v_iv (n_v vs 7) := ec
  have ec3 : 0 ≤ v_iv (Value.int c) ∧ v_iv (Value.int c) ≤ 25 := tv_rng hc
  obtain ⟨d, ed, hd⟩ := iv_ex (ta := ta) (lo := (-2147483648)) (hi := 2147483647) (z := v_iv (n_v vs 1)) (by omega) (by omega) (by omega) (by omega)
  have ed2 : v_iv (Value.int d) = v_iv (n_v vs 1) := ed
  have ed3 : (-2147483648) ≤ v_iv (Value.int d) ∧ v_iv (Value.int d) ≤ 2147483647 := tv_rng hd
  have e_3 : n_v (vs ++ [n_v vs 3, n_v vs 4, Value.int u, n_v vs 6, Value.int c, Value.int d]) 3 = n_v vs 3 := n_v_old (by rw [hl]; decide)
  have e_4 : n_v (vs ++ [n_v vs 3, n_v vs 4, Value.int u, n_v vs 6, Value.int c, Value.int d]) 4 = n_v vs 4 := n_v_old (by rw [hl]; decide)
  have e_6 : n_v (vs ++ [n_v vs 3, n_v vs 4, Value.int u, n_v vs 6, Value.int c, Value.int d]) 6 = n_v vs 6 := n_v_old (by rw [hl]; decide)
  have e_7 : n_v (vs ++ [n_v vs 3, n_v vs 4, Value.int u, n_v vs 6, Value.int c, Value.int d]) 7 = n_v vs 7 := n_v_old (by rw [hl]; decide)
  have e_8 : n_v (vs ++ [n_v vs 3, n_v vs 4, Value.int u, n_v vs 6, Value.int c, Value.int d]) 8 = n_v vs 8 := n_v_old (by rw [hl]; decide)
  have e_9 : n_v (vs ++ [n_v vs 3, n_v vs 4, Value.int u, n_v vs 6, Value.int c, Value.int d]) 9 = n_v vs 9 := n_v_old (by rw [hl]; decide)
  have e_10 : n_v (vs ++ [n_v vs 3, n_v vs 4, Value.int u, n_v vs 6, Value.int c, Value.int d]) 10 = n_v vs 10 := n_v_old (by rw [hl]; decide)
  have e_13 : n_v (vs ++ [n_v vs 3, n_v vs 4, Value.int u, n_v vs 6, Value.int c, Value.int d]) 13 = n_v vs 13 := n_v_old (by rw [hl]; decide)
  have e_31 : n_v (vs ++ [n_v vs 3, n_v vs 4, Value.int u, n_v vs 6, Value.int c, Value.int d]) 31 = n_v vs 31 := n_v_old (by rw [hl]; decide)
  have e_33 : n_v (vs ++ [n_v vs 3, n_v vs 4, Value.int u, n_v vs 6, Value.int c, Value.int d]) 33 = n_v vs 33 := n_v_old (by rw [hl]; decide)
  have e_34 : n_v (vs ++ [n_v vs 3, n_v vs 4, Value.int u, n_v vs 6, Value.int c, Value.int d]) 34 = n_v vs 3 := n_v_newk (k := 0) hl rfl
  have e_35 : n_v (vs ++ [n_v vs 3, n_v vs 4, Value.int u, n_v vs 6, Value.int c, Value.int d]) 35 = n_v vs 4 := n_v_newk (k := 1) hl rfl
  have e_36 : n_v (vs ++ [n_v vs 3, n_v vs 4, Value.int u, n_v vs 6, Value.int c, Value.int d]) 36 = Value.int u := n_v_newk (k := 2) hl rfl
  have e_37 : n_v (vs ++ [n_v vs 3, n_v vs 4, Value.int u, n_v vs 6, Value.int c, Value.int d]) 37 = n_v vs 6 := n_v_newk (k := 3) hl rfl
  have e_38 : n_v (vs ++ [n_v vs 3, n_v vs 4, Value.int u, n_v vs 6, Value.int c, Value.int d]) 38 = Value.int c := n_v_newk (k := 4) hl rfl
  have e_39 : n_v (vs ++ [n_v vs 3, n_v vs 4, Value.int u, n_v vs 6, Value.int c, Value.int d]) 39 = Value.int d := n_v_newk (k := 5) hl rfl
  have nf0 : fc_1 PRD (24, [3, 34], []) ws (vs ++ [n_v vs 3, n_v vs 4, Value.int u, n_v vs 6, Value.int c, Value.int d]) := by
    refine ⟨nf_inA hl rfl, sgq_5 ?_⟩
    · show n_v (vs ++ [n_v vs 3, n_v vs 4, Value.int u, n_v vs 6, Value.int c, Value.int d]) 3 = n_v (vs ++ [n_v vs 3, n_v vs 4, Value.int u, n_v vs 6, Value.int c, Value.int d]) 34
      first | rfl | simp only [e_3, e_34, q8, q9, q10, q11, q12, q13]
  have nf1 : fc_1 PRD (24, [4, 35], []) ws (vs ++ [n_v vs 3, n_v vs 4, Value.int u, n_v vs 6, Value.int c, Value.int d]) := by
    refine ⟨nf_inA hl rfl, sgq_5 ?_⟩
    · show n_v (vs ++ [n_v vs 3, n_v vs 4, Value.int u, n_v vs 6, Value.int c, Value.int d]) 4 = n_v (vs ++ [n_v vs 3, n_v vs 4, Value.int u, n_v vs 6, Value.int c, Value.int d]) 35
      first | rfl | simp only [e_4, e_35, q8, q9, q10, q11, q12, q13]
  have nf2 : fc_1 PRD (23, [36, 8], [0, 1, -1]) ws (vs ++ [n_v vs 3, n_v vs 4, Value.int u, n_v vs 6, Value.int c, Value.int d]) := by
    refine ⟨nf_inA hl rfl, sgq_7 ?_⟩
    · show 1 * v_iv (n_v (vs ++ [n_v vs 3, n_v vs 4, Value.int u, n_v vs 6, Value.int c, Value.int d]) 36) + ((-1) * v_iv (n_v (vs ++ [n_v vs 3, n_v vs 4, Value.int u, n_v vs 6, Value.int c, Value.int d]) 8) + 0) ≤ 0
      simp only [e_8, e_36, q8]
      exact vc_Fa_uniteAt_at_Netail_Nehead_Emblock_10_2 (v_iv (n_v vs 0)) (v_iv (n_v vs 8)) (v_iv (n_v vs 15)) (v_iv (n_v vs 16)) (v_iv (n_v vs 17)) (v_iv (n_v vs 22)) (v_iv (n_v vs 23)) (v_iv (n_v vs 29)) (v_iv (n_v vs 30)) (v_iv (n_v vs 32)) (w_ei ws (v_ad (n_v vs 5))) (w_ei ws (v_ad (n_v vs 3))) (w_ei ws (v_ad (n_v vs 4))) (v_iv (Value.int u)) k0 k8 k15 k16 k17 k22 k23 k29 k30 k32 d0 d3 d6 h3 h7 h9 h15 h17 h22 h24 eu2
  have nf3 : fc_1 PRD (23, [36, 8], [0, -1, 1]) ws (vs ++ [n_v vs 3, n_v vs 4, Value.int u, n_v vs 6, Value.int c, Value.int d]) := by
    refine ⟨nf_inA hl rfl, sgq_22 ?_⟩
    · show (-1) * v_iv (n_v (vs ++ [n_v vs 3, n_v vs 4, Value.int u, n_v vs 6, Value.int c, Value.int d]) 36) + (1 * v_iv (n_v (vs ++ [n_v vs 3, n_v vs 4, Value.int u, n_v vs 6, Value.int c, Value.int d]) 8) + 0) ≤ 0
      simp only [e_8, e_36, q8]
      exact vc_Fa_uniteAt_at_Netail_Nehead_Emblock_10_3 (v_iv (n_v vs 0)) (v_iv (n_v vs 8)) (v_iv (n_v vs 15)) (v_iv (n_v vs 16)) (v_iv (n_v vs 17)) (v_iv (n_v vs 22)) (v_iv (n_v vs 23)) (v_iv (n_v vs 29)) (v_iv (n_v vs 30)) (v_iv (n_v vs 32)) (w_ei ws (v_ad (n_v vs 5))) (w_ei ws (v_ad (n_v vs 3))) (w_ei ws (v_ad (n_v vs 4))) (v_iv (Value.int u)) k0 k8 k15 k16 k17 k22 k23 k29 k30 k32 d0 d3 d6 h3 h7 h9 h15 h17 h22 h24 eu2
  have nf4 : fc_1 PRD (24, [6, 37], []) ws (vs ++ [n_v vs 3, n_v vs 4, Value.int u, n_v vs 6, Value.int c, Value.int d]) := by
    refine ⟨nf_inA hl rfl, sgq_5 ?_⟩
    · show n_v (vs ++ [n_v vs 3, n_v vs 4, Value.int u, n_v vs 6, Value.int c, Value.int d]) 6 = n_v (vs ++ [n_v vs 3, n_v vs 4, Value.int u, n_v vs 6, Value.int c, Value.int d]) 37
      first | rfl | simp only [e_6, e_37, q8, q9, q10, q11, q12, q13]
  have nf5 : fc_1 PRD (23, [38, 7], [0, 1, -1]) ws (vs ++ [n_v vs 3, n_v vs 4, Value.int u, n_v vs 6, Value.int c, Value.int d]) := by
    refine ⟨nf_inA hl rfl, sgq_7 ?_⟩
    · show 1 * v_iv (n_v (vs ++ [n_v vs 3, n_v vs 4, Value.int u, n_v vs 6, Value.int c, Value.int d]) 38) + ((-1) * v_iv (n_v (vs ++ [n_v vs 3, n_v vs 4, Value.int u, n_v vs 6, Value.int c, Value.int d]) 7) + 0) ≤ 0
      simp only [e_7, e_38]
      exact vc_Fa_uniteAt_at_Netail_Nehead_Emblock_10_5 (v_iv (n_v vs 7)) (v_iv (n_v vs 15)) (v_iv (n_v vs 16)) (v_iv (n_v vs 17)) (v_iv (n_v vs 22)) (v_iv (n_v vs 23)) (v_iv (n_v vs 29)) (v_iv (n_v vs 30)) (v_iv (n_v vs 32)) (w_ei ws (v_ad (n_v vs 5))) (w_ei ws (v_ad (n_v vs 3))) (w_ei ws (v_ad (n_v vs 4))) (v_iv (Value.int c)) k7 k15 k16 k17 k22 k23 k29 k30 k32 h3 h7 h9 h15 h17 h22 h24 ec2
  have nf6 : fc_1 PRD (23, [38, 7], [0, -1, 1]) ws (vs ++ [n_v vs 3, n_v vs 4, Value.int u, n_v vs 6, Value.int c, Value.int d]) := by
    refine ⟨nf_inA hl rfl, sgq_22 ?_⟩
    · show (-1) * v_iv (n_v (vs ++ [n_v vs 3, n_v vs 4, Value.int u, n_v vs 6, Value.int c, Value.int d]) 38) + (1 * v_iv (n_v (vs ++ [n_v vs 3, n_v vs 4, Value.int u, n_v vs 6, Value.int c, Value.int d]) 7) + 0) ≤ 0
      simp only [e_7, e_38]
      exact vc_Fa_uniteAt_at_Netail_Nehead_Emblock_10_6 (v_iv (n_v vs 7)) (v_iv (n_v vs 15)) (v_iv (n_v vs 16)) (v_iv (n_v vs 17)) (v_iv (n_v vs 22)) (v_iv (n_v vs 23)) (v_iv (n_v vs 29)) (v_iv (n_v vs 30)) (v_iv (n_v vs 32)) (w_ei ws (v_ad (n_v vs 5))) (w_ei ws (v_ad (n_v vs 3))) (w_ei ws (v_ad (n_v vs 4))) (v_iv (Value.int c)) k7 k15 k16 k17 k22 k23 k29 k30 k32 h3 h7 h9 h15 h17 h22 h24 ec2
  have nf7 : fc_1 PRD (23, [39, 9], [0, 1, -1]) ws (vs ++ [n_v vs 3, n_v vs 4, Value.int u, n_v vs 6, Value.int c, Value.int d]) := by
    refine ⟨nf_inA hl rfl, sgq_7 ?_⟩
    · show 1 * v_iv (n_v (vs ++ [n_v vs 3, n_v vs 4, Value.int u, n_v vs 6, Value.int c, Value.int d]) 39) + ((-1) * v_iv (n_v (vs ++ [n_v vs 3, n_v vs 4, Value.int u, n_v vs 6, Value.int c, Value.int d]) 9) + 0) ≤ 0
      simp only [e_9, e_39, q9]
      exact vc_Fa_uniteAt_at_Netail_Nehead_Emblock_10_7 (v_iv (n_v vs 1)) (v_iv (n_v vs 9)) (v_iv (n_v vs 15)) (v_iv (n_v vs 16)) (v_iv (n_v vs 17)) (v_iv (n_v vs 22)) (v_iv (n_v vs 23)) (v_iv (n_v vs 29)) (v_iv (n_v vs 30)) (v_iv (n_v vs 32)) (w_ei ws (v_ad (n_v vs 5))) (w_ei ws (v_ad (n_v vs 3))) (w_ei ws (v_ad (n_v vs 4))) (v_iv (Value.int d)) k1 k9 k15 k16 k17 k22 k23 k29 k30 k32 d4 d7 h3 h7 h9 h15 h17 h22 h24 ed2
  have nf8 : fc_1 PRD (23, [39, 9], [0, -1, 1]) ws (vs ++ [n_v vs 3, n_v vs 4, Value.int u, n_v vs 6, Value.int c, Value.int d]) := by
    refine ⟨nf_inA hl rfl, sgq_22 ?_⟩
    · show (-1) * v_iv (n_v (vs ++ [n_v vs 3, n_v vs 4, Value.int u, n_v vs 6, Value.int c, Value.int d]) 39) + (1 * v_iv (n_v (vs ++ [n_v vs 3, n_v vs 4, Value.int u, n_v vs 6, Value.int c, Value.int d]) 9) + 0) ≤ 0
      simp only [e_9, e_39, q9]
      exact vc_Fa_uniteAt_at_Netail_Nehead_Emblock_10_8 (v_iv (n_v vs 1)) (v_iv (n_v vs 9)) (v_iv (n_v vs 15)) (v_iv (n_v vs 16)) (v_iv (n_v vs 17)) (v_iv (n_v vs 22)) (v_iv (n_v vs 23)) (v_iv (n_v vs 29)) (v_iv (n_v vs 30)) (v_iv (n_v vs 32)) (w_ei ws (v_ad (n_v vs 5))) (w_ei ws (v_ad (n_v vs 3))) (w_ei ws (v_ad (n_v vs 4))) (v_iv (Value.int d)) k1 k9 k15 k16 k17 k22 k23 k29 k30 k32 d4 d7 h3 h7 h9 h15 h17 h22 h24 ed2
  have nf9 : fc_1 PRD (20, [13, 10], [61, 1, 566]) ws (vs ++ [n_v vs 3, n_v vs 4, Value.int u, n_v vs 6, Value.int c, Value.int d]) := by
    refine ⟨nf_inA hl rfl, sgq_365 ?_⟩
    · show BLQ (w_ei ws (v_ad (n_v (vs ++ [n_v vs 3, n_v vs 4, Value.int u, n_v vs 6, Value.int c, Value.int d]) 13))) (v_iv (n_v (vs ++ [n_v vs 3, n_v vs 4, Value.int u, n_v vs 6, Value.int c, Value.int d]) 10))
      simp only [e_10, e_13, q10, q13]
      exact vc_Fa_uniteAt_at_Netail_Nehead_Emblock_10_9 (v_iv (n_v vs 2)) (w_ei ws (v_ad (n_v vs 5))) k2 f26
  have nf10 : fc_1 PRD (20, [33, 31], [50, 0, 0, 2, 6, 0, 2, 0, 0, 1, 0, 0, 2, 1, 0, 1, 1]) ws (vs ++ [n_v vs 3, n_v vs 4, Value.int u, n_v vs 6, Value.int c, Value.int d]) := by
    refine ⟨nf_inA hl rfl, sgq_366 ?_⟩
    · show (0 ≤ v_iv (n_v (vs ++ [n_v vs 3, n_v vs 4, Value.int u, n_v vs 6, Value.int c, Value.int d]) 33)) ∧ (v_iv (n_v (vs ++ [n_v vs 3, n_v vs 4, Value.int u, n_v vs 6, Value.int c, Value.int d]) 33) ≤ v_iv (n_v (vs ++ [n_v vs 3, n_v vs 4, Value.int u, n_v vs 6, Value.int c, Value.int d]) 31))
      simp only [e_31, e_33]
      exact vc_Fa_uniteAt_at_Netail_Nehead_Emblock_10_10 (v_iv (n_v vs 15)) (v_iv (n_v vs 16)) (v_iv (n_v vs 17)) (v_iv (n_v vs 22)) (v_iv (n_v vs 23)) (v_iv (n_v vs 29)) (v_iv (n_v vs 30)) (v_iv (n_v vs 31)) (v_iv (n_v vs 32)) (v_iv (n_v vs 33)) (w_ei ws (v_ad (n_v vs 5))) (w_ei ws (v_ad (n_v vs 3))) (w_ei ws (v_ad (n_v vs 4))) k15 k16 k17 k22 k23 k29 k30 k31 k32 k33 f1 h3 f5 h7 h9 h15 h17 h22 h24
  have nf11 : fc_1 PRD (20, [13, 34, 35, 10, 31, 33, 36], [61, 3, 581]) ws (vs ++ [n_v vs 3, n_v vs 4, Value.int u, n_v vs 6, Value.int c, Value.int d]) := by
    refine ⟨nf_inA hl rfl, sgq_367 ?_⟩
    · show RLP (w_ei ws (v_ad (n_v (vs ++ [n_v vs 3, n_v vs 4, Value.int u, n_v vs 6, Value.int c, Value.int d]) 13))) (w_ei ws (v_ad (n_v (vs ++ [n_v vs 3, n_v vs 4, Value.int u, n_v vs 6, Value.int c, Value.int d]) 34))) (w_ei ws (v_ad (n_v (vs ++ [n_v vs 3, n_v vs 4, Value.int u, n_v vs 6, Value.int c, Value.int d]) 35))) (v_iv (n_v (vs ++ [n_v vs 3, n_v vs 4, Value.int u, n_v vs 6, Value.int c, Value.int d]) 10)) (v_iv (n_v (vs ++ [n_v vs 3, n_v vs 4, Value.int u, n_v vs 6, Value.int c, Value.int d]) 31)) (v_iv (n_v (vs ++ [n_v vs 3, n_v vs 4, Value.int u, n_v vs 6, Value.int c, Value.int d]) 33)) (v_iv (n_v (vs ++ [n_v vs 3, n_v vs 4, Value.int u, n_v vs 6, Value.int c, Value.int d]) 36))
      simp only [e_10, e_13, e_31, e_33, e_34, e_35, e_36, q10, q13]
      exact vc_Fa_uniteAt_at_Netail_Nehead_Emblock_10_11 (v_iv (n_v vs 0)) (v_iv (n_v vs 2)) (v_iv (n_v vs 8)) (v_iv (n_v vs 14)) (v_iv (n_v vs 15)) (v_iv (n_v vs 16)) (v_iv (n_v vs 22)) (v_iv (n_v vs 26)) (v_iv (n_v vs 28)) (v_iv (n_v vs 29)) (v_iv (n_v vs 30)) (v_iv (n_v vs 31)) (v_iv (n_v vs 32)) (v_iv (n_v vs 33)) (w_ei ws (v_ad (n_v vs 5))) (w_ei ws (v_ad (n_v vs 3))) (w_ei ws (v_ad (n_v vs 4))) (v_iv (Value.int u)) k0 k2 k8 k14 k15 k16 k22 k26 k28 k29 k30 k31 k32 k33 d0 d1 d3 d6 f0 f1 f2 h3 f4 f5 f6 h7 f8 h9 f10 f11 h17 h24 f25 f27 eu2
  have nf12 : fc_1 PRD (20, [13, 34, 35, 37, 38, 10, 36, 39, 31, 33], [61, 4, 590]) ws (vs ++ [n_v vs 3, n_v vs 4, Value.int u, n_v vs 6, Value.int c, Value.int d]) := by
    refine ⟨nf_inA hl rfl, sgq_368 ?_⟩
    · show QKP (w_ei ws (v_ad (n_v (vs ++ [n_v vs 3, n_v vs 4, Value.int u, n_v vs 6, Value.int c, Value.int d]) 13))) (w_ei ws (v_ad (n_v (vs ++ [n_v vs 3, n_v vs 4, Value.int u, n_v vs 6, Value.int c, Value.int d]) 34))) (w_ei ws (v_ad (n_v (vs ++ [n_v vs 3, n_v vs 4, Value.int u, n_v vs 6, Value.int c, Value.int d]) 35))) (w_ei ws (v_ad (n_v (vs ++ [n_v vs 3, n_v vs 4, Value.int u, n_v vs 6, Value.int c, Value.int d]) 37))) (v_iv (n_v (vs ++ [n_v vs 3, n_v vs 4, Value.int u, n_v vs 6, Value.int c, Value.int d]) 38)) (v_iv (n_v (vs ++ [n_v vs 3, n_v vs 4, Value.int u, n_v vs 6, Value.int c, Value.int d]) 10)) (v_iv (n_v (vs ++ [n_v vs 3, n_v vs 4, Value.int u, n_v vs 6, Value.int c, Value.int d]) 36)) (v_iv (n_v (vs ++ [n_v vs 3, n_v vs 4, Value.int u, n_v vs 6, Value.int c, Value.int d]) 39)) (v_iv (n_v (vs ++ [n_v vs 3, n_v vs 4, Value.int u, n_v vs 6, Value.int c, Value.int d]) 31)) (v_iv (n_v (vs ++ [n_v vs 3, n_v vs 4, Value.int u, n_v vs 6, Value.int c, Value.int d]) 33))
      simp only [e_10, e_13, e_31, e_33, e_34, e_35, e_36, e_37, e_38, e_39, q10, q13]
      exact vc_Fa_uniteAt_at_Netail_Nehead_Emblock_10_12 (v_iv (n_v vs 0)) (v_iv (n_v vs 1)) (v_iv (n_v vs 2)) (v_iv (n_v vs 7)) (v_iv (n_v vs 8)) (v_iv (n_v vs 14)) (v_iv (n_v vs 15)) (v_iv (n_v vs 16)) (v_iv (n_v vs 17)) (v_iv (n_v vs 18)) (v_iv (n_v vs 19)) (v_iv (n_v vs 20)) (v_iv (n_v vs 22)) (v_iv (n_v vs 23)) (v_iv (n_v vs 24)) (v_iv (n_v vs 25)) (v_iv (n_v vs 26)) (v_iv (n_v vs 28)) (v_iv (n_v vs 29)) (v_iv (n_v vs 30)) (v_iv (n_v vs 31)) (v_iv (n_v vs 32)) (v_iv (n_v vs 33)) (w_ei ws (v_ad (n_v vs 5))) (w_ei ws (v_ad (n_v vs 3))) (w_ei ws (v_ad (n_v vs 4))) (w_ei ws (v_ad (n_v vs 6))) (v_iv (Value.int u)) (v_iv (Value.int c)) (v_iv (Value.int d)) k0 k1 k2 k7 k8 k14 k15 k16 k22 k23 k24 k25 k26 k28 k29 k30 k31 k32 k33 d0 d1 d3 d6 f0 f1 f2 h3 f4 f5 f6 h7 f8 h9 f10 f11 f13 f14 h15 h17 h24 f25 f28 eu2 ec2 ed2
  have nf13 : fc_1 PRD (20, [36, 8], [50, 0, 0, 1, 2, 1, 0, 1, 1]) ws (vs ++ [n_v vs 3, n_v vs 4, Value.int u, n_v vs 6, Value.int c, Value.int d]) := by
    refine ⟨nf_inA hl rfl, sgq_48 ?_⟩
    · show v_iv (n_v (vs ++ [n_v vs 3, n_v vs 4, Value.int u, n_v vs 6, Value.int c, Value.int d]) 36) = v_iv (n_v (vs ++ [n_v vs 3, n_v vs 4, Value.int u, n_v vs 6, Value.int c, Value.int d]) 8)
      simp only [e_8, e_36, q8]
      exact vc_Fa_uniteAt_at_Netail_Nehead_Emblock_10_13 (v_iv (n_v vs 0)) (v_iv (n_v vs 15)) (v_iv (n_v vs 16)) (v_iv (n_v vs 17)) (v_iv (n_v vs 22)) (v_iv (n_v vs 23)) (v_iv (n_v vs 29)) (v_iv (n_v vs 30)) (v_iv (n_v vs 32)) (w_ei ws (v_ad (n_v vs 5))) (w_ei ws (v_ad (n_v vs 3))) (w_ei ws (v_ad (n_v vs 4))) (v_iv (Value.int u)) k0 k15 k16 k17 k22 k23 k29 k30 k32 h3 h7 h9 h15 h17 h22 h24 eu2
  have nf14 : fc_1 PRD (20, [33], [50, 0, 0, 0, 2, 0, 0, 1, 0]) ws (vs ++ [n_v vs 3, n_v vs 4, Value.int u, n_v vs 6, Value.int c, Value.int d]) := by
    refine ⟨nf_inA hl rfl, sgq_722 ?_⟩
    · show 0 ≤ v_iv (n_v (vs ++ [n_v vs 3, n_v vs 4, Value.int u, n_v vs 6, Value.int c, Value.int d]) 33)
      rw [e_33]
      exact vc_Fa_uniteAt_at_Netail_Nehead_Emblock_10_14 (v_iv (n_v vs 15)) (v_iv (n_v vs 16)) (v_iv (n_v vs 17)) (v_iv (n_v vs 22)) (v_iv (n_v vs 23)) (v_iv (n_v vs 29)) (v_iv (n_v vs 30)) (v_iv (n_v vs 32)) (v_iv (n_v vs 33)) (w_ei ws (v_ad (n_v vs 5))) (w_ei ws (v_ad (n_v vs 3))) (w_ei ws (v_ad (n_v vs 4))) k15 k16 k17 k22 k23 k29 k30 k32 k33 h3 h7 h9 h15 h17 h22 h24
  have nf15 : fc_1 PRD (20, [38, 7], [50, 0, 0, 1, 2, 1, 0, 1, 1]) ws (vs ++ [n_v vs 3, n_v vs 4, Value.int u, n_v vs 6, Value.int c, Value.int d]) := by
    refine ⟨nf_inA hl rfl, sgq_48 ?_⟩
    · show v_iv (n_v (vs ++ [n_v vs 3, n_v vs 4, Value.int u, n_v vs 6, Value.int c, Value.int d]) 38) = v_iv (n_v (vs ++ [n_v vs 3, n_v vs 4, Value.int u, n_v vs 6, Value.int c, Value.int d]) 7)
      simp only [e_7, e_38]
      exact vc_Fa_uniteAt_at_Netail_Nehead_Emblock_10_15 (v_iv (n_v vs 7)) (v_iv (n_v vs 15)) (v_iv (n_v vs 16)) (v_iv (n_v vs 17)) (v_iv (n_v vs 22)) (v_iv (n_v vs 23)) (v_iv (n_v vs 29)) (v_iv (n_v vs 30)) (v_iv (n_v vs 32)) (w_ei ws (v_ad (n_v vs 5))) (w_ei ws (v_ad (n_v vs 3))) (w_ei ws (v_ad (n_v vs 4))) (v_iv (Value.int c)) k7 k15 k16 k17 k22 k23 k29 k30 k32 h3 h7 h9 h15 h17 h22 h24 ec2
  have nf16 : fc_1 PRD (20, [39, 9], [50, 0, 0, 1, 2, 1, 0, 1, 1]) ws (vs ++ [n_v vs 3, n_v vs 4, Value.int u, n_v vs 6, Value.int c, Value.int d]) := by
    refine ⟨nf_inA hl rfl, sgq_48 ?_⟩
    · show v_iv (n_v (vs ++ [n_v vs 3, n_v vs 4, Value.int u, n_v vs 6, Value.int c, Value.int d]) 39) = v_iv (n_v (vs ++ [n_v vs 3, n_v vs 4, Value.int u, n_v vs 6, Value.int c, Value.int d]) 9)
      simp only [e_9, e_39, q9]
      exact vc_Fa_uniteAt_at_Netail_Nehead_Emblock_10_16 (v_iv (n_v vs 1)) (v_iv (n_v vs 15)) (v_iv (n_v vs 16)) (v_iv (n_v vs 17)) (v_iv (n_v vs 22)) (v_iv (n_v vs 23)) (v_iv (n_v vs 29)) (v_iv (n_v vs 30)) (v_iv (n_v vs 32)) (w_ei ws (v_ad (n_v vs 5))) (w_ei ws (v_ad (n_v vs 3))) (w_ei ws (v_ad (n_v vs 4))) (v_iv (Value.int d)) k1 k15 k16 k17 k22 k23 k29 k30 k32 h3 h7 h9 h15 h17 h22 h24 ed2
  exact ⟨(fun _ h => (by cases h)), [n_v vs 3, n_v vs 4, Value.int u, n_v vs 6, Value.int c, Value.int d], ag_six t3 t4 hu t6 hc hd, List.forall_mem_cons.mpr ⟨⟨show (24 : Nat) < 100 from by decide, nf0⟩, List.forall_mem_cons.mpr ⟨⟨show (24 : Nat) < 100 from by decide, nf1⟩, List.forall_mem_cons.mpr ⟨⟨show (23 : Nat) < 100 from by decide, nf2⟩, List.forall_mem_cons.mpr ⟨⟨show (23 : Nat) < 100 from by decide, nf3⟩, List.forall_mem_cons.mpr ⟨⟨show (24 : Nat) < 100 from by decide, nf4⟩, List.forall_mem_cons.mpr ⟨⟨show (23 : Nat) < 100 from by decide, nf5⟩, List.forall_mem_cons.mpr ⟨⟨show (23 : Nat) < 100 from by decide, nf6⟩, List.forall_mem_cons.mpr ⟨⟨show (23 : Nat) < 100 from by decide, nf7⟩, List.forall_mem_cons.mpr ⟨⟨show (23 : Nat) < 100 from by decide, nf8⟩, List.forall_mem_cons.mpr ⟨⟨show (20 : Nat) < 100 from by decide, nf9⟩, List.forall_mem_cons.mpr ⟨⟨show (20 : Nat) < 100 from by decide, nf10⟩, List.forall_mem_cons.mpr ⟨⟨show (20 : Nat) < 100 from by decide, nf11⟩, List.forall_mem_cons.mpr ⟨⟨show (20 : Nat) < 100 from by decide, nf12⟩, List.forall_mem_cons.mpr ⟨⟨show (20 : Nat) < 100 from by decide, nf13⟩, List.forall_mem_cons.mpr ⟨⟨show (20 : Nat) < 100 from by decide, nf14⟩, List.forall_mem_cons.mpr ⟨⟨show (20 : Nat) < 100 from by decide, nf15⟩, List.forall_mem_cons.mpr ⟨⟨show (20 : Nat) < 100 from by decide, nf16⟩, (fun _ h => (by cases h))⟩⟩⟩⟩⟩⟩⟩⟩⟩⟩⟩⟩⟩⟩⟩⟩⟩, (fun _ h => (by cases h))⟩
set_option maxHeartbeats 4000000 in
theorem vc_Fa_uniteAt_at_Netail_Nehead_Emblock_11_0 (x0 : Int) (x2 : Int) (x8 : Int) (x15 : Int) (x22 : Int) (x30 : Int) (x32 : Int) (x33 : Int) (x36 : Int) (a5_0 : Int → Int) (a3_0 : Int → Int) (a4_0 : Int → Int) (k0 : 0 ≤ x0 ∧ x0 ≤ 23) (k2 : 1 ≤ x2 ∧ x2 ≤ 72) (k8 : 0 ≤ x8 ∧ x8 ≤ 23) (k22 : 0 ≤ x22 ∧ x22 ≤ 23) (k33 : 0 ≤ x33 ∧ x33 ≤ 71) (k36 : 0 ≤ x36 ∧ x36 ≤ 24) (d4 : x8 + 0 ≤ x22 ∧ x22 ≤ x8 + 0) (d7 : x8 + (-4294967296) ≤ x0 ∧ x0 ≤ x8 + 0) (d10 : x0 + (-4294967296) ≤ x8 ∧ x8 ≤ x0 + 0) (f3 : 1 * x36 + ((-1) * x0 + 0) ≤ 0) (f4 : (-1) * x36 + (1 * x0 + 0) ≤ 0) (f12 : 0 ≤ x33) (f28 : RLO (a5_0) (a3_0) (a4_0) (x2) (x33) (x36)) : UNI (a5_0) (a3_0) (a4_0) (x2) (x0) (x33) := by
  first
    | (have q := (‹RLO _ _ _ _ _ _›); have h1 := uni_back q (by omega); rw [show x0 = x32 by omega]; exact h1)
    | (have q := (‹RLO _ _ _ _ _ _›); have h1 := uni_back q (by omega); rw [show x0 = x36 by omega]; exact h1)
    | (have q := (‹RLO _ _ _ _ _ _›); have h1 := uni_back q (by omega); rw [show x0 = x30 by omega]; exact h1)
set_option maxHeartbeats 4000000 in
theorem vc_Fa_uniteAt_at_Netail_Nehead_Emblock_11_1 (x0 : Int) (x1 : Int) (x2 : Int) (x7 : Int) (x8 : Int) (x9 : Int) (x15 : Int) (x22 : Int) (x30 : Int) (x32 : Int) (x33 : Int) (x36 : Int) (x38 : Int) (x39 : Int) (a5_0 : Int → Int) (a3_0 : Int → Int) (a4_0 : Int → Int) (a6_0 : Int → Int) (k0 : 0 ≤ x0 ∧ x0 ≤ 23) (k1 : 0 ≤ x1 ∧ x1 ≤ 16777215) (k2 : 1 ≤ x2 ∧ x2 ≤ 72) (k7 : 0 ≤ x7 ∧ x7 ≤ 25) (k8 : 0 ≤ x8 ∧ x8 ≤ 23) (k9 : 0 ≤ x9 ∧ x9 ≤ 16777215) (k22 : 0 ≤ x22 ∧ x22 ≤ 23) (k33 : 0 ≤ x33 ∧ x33 ≤ 71) (k36 : 0 ≤ x36 ∧ x36 ≤ 24) (k38 : 0 ≤ x38 ∧ x38 ≤ 25) (k39 : (-2147483648) ≤ x39 ∧ x39 ≤ 2147483647) (d4 : x8 + 0 ≤ x22 ∧ x22 ≤ x8 + 0) (d7 : x8 + (-4294967296) ≤ x0 ∧ x0 ≤ x8 + 0) (d8 : x9 + (-4294967296) ≤ x1 ∧ x1 ≤ x9 + 0) (d10 : x0 + (-4294967296) ≤ x8 ∧ x8 ≤ x0 + 0) (d11 : x1 + (-4294967296) ≤ x9 ∧ x9 ≤ x1 + 0) (f3 : 1 * x36 + ((-1) * x0 + 0) ≤ 0) (f4 : (-1) * x36 + (1 * x0 + 0) ≤ 0) (f6 : 1 * x38 + ((-1) * x7 + 0) ≤ 0) (f7 : (-1) * x38 + (1 * x7 + 0) ≤ 0) (f8 : 1 * x39 + ((-1) * x1 + 0) ≤ 0) (f9 : (-1) * x39 + (1 * x1 + 0) ≤ 0) (f29 : QKO (a5_0) (a3_0) (a4_0) (a6_0) (x38) (x2) (x36) (x39) (x33)) : UN2 (a5_0) (a3_0) (a4_0) (a6_0) (x7) (x2) (x0) (x1) (x33) := by
  first
    | (have h1 := un2_back ‹QKO _ _ _ _ _ _ _ _ _›; rw [show x0 = x32 by omega, show x7 = x34 by omega, show x1 = x35 by omega]; exact h1)
    | (have h1 := un2_back ‹QKO _ _ _ _ _ _ _ _ _›; rw [show x0 = x36 by omega, show x7 = x38 by omega, show x1 = x39 by omega]; exact h1)
    | (have h1 := un2_back ‹QKO _ _ _ _ _ _ _ _ _›; rw [show x0 = x30 by omega, show x7 = x32 by omega, show x1 = x33 by omega]; exact h1)
def o_Fa_uniteAt_at_Netail_Nehead_Emblock_11 : or_T := (6, 41, [(0, (0, 0, 23, [])), (1, (0, 0, 16777215, [])), (2, (0, 1, 72, [])), (7, (0, 0, 25, [])), (8, (0, 0, 23, [])), (9, (0, 0, 16777215, [])), (22, (0, 0, 23, [])), (33, (0, 0, 71, [])), (36, (0, 0, 24, [])), (38, (0, 0, 25, [])), (39, (0, -2147483648, 2147483647, []))], [(24, [3, 34], []), (24, [4, 35], []), (23, [36, 8], [0, 1, -1]), (23, [36, 8], [0, -1, 1]), (24, [6, 37], []), (23, [38, 7], [0, 1, -1]), (23, [38, 7], [0, -1, 1]), (23, [39, 9], [0, 1, -1]), (23, [39, 9], [0, -1, 1]), (20, [33], [50, 0, 0, 0, 2, 0, 0, 1, 0]), (24, [0, 8], []), (24, [1, 9], []), (24, [2, 10], []), (24, [3, 11], []), (24, [4, 12], []), (24, [5, 13], []), (20, [13, 34, 35, 10, 33, 36], [61, 3, 583]), (20, [13, 34, 35, 37, 38, 10, 36, 39, 33], [61, 4, 592])], [], [], [(20, [13, 11, 12, 10, 8, 33], [61, 3, 584]), (20, [13, 11, 12, 6, 7, 10, 8, 9, 33], [61, 4, 589])], [], [(22, 8, 0, 0), (0, 8, -4294967296, 0), (1, 9, -4294967296, 0), (8, 0, -4294967296, 0), (9, 1, -4294967296, 0)])
theorem oo_Fa_uniteAt_at_Netail_Nehead_Emblock_11 {kA : Nat → ClassId} : or_ok PRD kA GG o_Fa_uniteAt_at_Netail_Nehead_Emblock_11 := by
  refine or_mk fun A ta ws vs hD hth hl => ?_
  intro t0 k0 t1 k1 t2 k2 t7 k7 t8 k8 t9 k9 t22 k22 t33 k33 t36 k36 t38 k38 t39 k39 d4 d7 d8 d10 d11 f1 f2 f3 f4 f5 f6 f7 f8 f9 f12 f21 f22 f23 f24 f25 f26 f28 f29
  replace f1 := shm_5 f1
  replace f2 := shm_5 f2
  replace f3 := shm_7 f3
  replace f4 := shm_22 f4
  replace f5 := shm_5 f5
  replace f6 := shm_7 f6
  replace f7 := shm_22 f7
  replace f8 := shm_7 f8
  replace f9 := shm_22 f9
  replace f12 := shm_722 f12
  replace f21 := shm_5 f21
  replace f22 := shm_5 f22
  replace f23 := shm_5 f23
  replace f24 := shm_5 f24
  replace f25 := shm_5 f25
  replace f26 := shm_5 f26
  replace f28 := shm_371 f28
  replace f29 := shm_372 f29
  have q34 : n_v vs 34 = n_v vs 3 := f1.symm
  have q35 : n_v vs 35 = n_v vs 4 := f2.symm
  have q37 : n_v vs 37 = n_v vs 6 := f5.symm
  have q8 : n_v vs 8 = n_v vs 0 := f21.symm
  have q9 : n_v vs 9 = n_v vs 1 := f22.symm
  have q10 : n_v vs 10 = n_v vs 2 := f23.symm
  have q11 : n_v vs 11 = n_v vs 3 := f24.symm
  have q12 : n_v vs 12 = n_v vs 4 := f25.symm
  have q13 : n_v vs 13 = n_v vs 5 := f26.symm
  simp only [q8, q9, q10, q13, q34, q35, q37] at f3 f4 f8 f9 f28 f29
  have nf0 : fc_1 PRD (20, [13, 11, 12, 10, 8, 33], [61, 3, 584]) ws (vs) := by
    refine ⟨nf_in hl rfl, sgq_1193 ?_⟩
    · show UNI (w_ei ws (v_ad (n_v vs 13))) (w_ei ws (v_ad (n_v vs 11))) (w_ei ws (v_ad (n_v vs 12))) (v_iv (n_v vs 10)) (v_iv (n_v vs 8)) (v_iv (n_v vs 33))
      simp only [q8, q10, q11, q12, q13]
      exact vc_Fa_uniteAt_at_Netail_Nehead_Emblock_11_0 (v_iv (n_v vs 0)) (v_iv (n_v vs 2)) (v_iv (n_v vs 8)) (v_iv (n_v vs 15)) (v_iv (n_v vs 22)) (v_iv (n_v vs 30)) (v_iv (n_v vs 32)) (v_iv (n_v vs 33)) (v_iv (n_v vs 36)) (w_ei ws (v_ad (n_v vs 5))) (w_ei ws (v_ad (n_v vs 3))) (w_ei ws (v_ad (n_v vs 4))) k0 k2 k8 k22 k33 k36 d4 d7 d10 f3 f4 f12 f28
  have nf1 : fc_1 PRD (20, [13, 11, 12, 6, 7, 10, 8, 9, 33], [61, 4, 589]) ws (vs) := by
    refine ⟨nf_in hl rfl, sgq_1194 ?_⟩
    · show UN2 (w_ei ws (v_ad (n_v vs 13))) (w_ei ws (v_ad (n_v vs 11))) (w_ei ws (v_ad (n_v vs 12))) (w_ei ws (v_ad (n_v vs 6))) (v_iv (n_v vs 7)) (v_iv (n_v vs 10)) (v_iv (n_v vs 8)) (v_iv (n_v vs 9)) (v_iv (n_v vs 33))
      simp only [q8, q9, q10, q11, q12, q13]
      exact vc_Fa_uniteAt_at_Netail_Nehead_Emblock_11_1 (v_iv (n_v vs 0)) (v_iv (n_v vs 1)) (v_iv (n_v vs 2)) (v_iv (n_v vs 7)) (v_iv (n_v vs 8)) (v_iv (n_v vs 9)) (v_iv (n_v vs 15)) (v_iv (n_v vs 22)) (v_iv (n_v vs 30)) (v_iv (n_v vs 32)) (v_iv (n_v vs 33)) (v_iv (n_v vs 36)) (v_iv (n_v vs 38)) (v_iv (n_v vs 39)) (w_ei ws (v_ad (n_v vs 5))) (w_ei ws (v_ad (n_v vs 3))) (w_ei ws (v_ad (n_v vs 4))) (w_ei ws (v_ad (n_v vs 6))) k0 k1 k2 k7 k8 k9 k22 k33 k36 k38 k39 d4 d7 d8 d10 d11 f3 f4 f6 f7 f8 f9 f29
  refine ⟨(fun _ h => (by cases h)), [], trivial, ?_, (fun _ h => (by cases h))⟩
  rw [List.append_nil]
  exact List.forall_mem_cons.mpr ⟨⟨show (20 : Nat) < 100 from by decide, nf0⟩, List.forall_mem_cons.mpr ⟨⟨show (20 : Nat) < 100 from by decide, nf1⟩, (fun _ h => (by cases h))⟩⟩
set_option maxHeartbeats 4000000 in
theorem vc_Fa_uniteAt_at_Netail_Nehead_Emblock_12_r0 (x2 : Int) (x15 : Int) (x16 : Int) (x17 : Int) (x22 : Int) (x23 : Int) (x29 : Int) (a5_0 : Int → Int) (a3_0 : Int → Int) (a4_0 : Int → Int) (k2 : 1 ≤ x2 ∧ x2 ≤ 72) (k15 : 0 ≤ x15 ∧ x15 ≤ 71) (k16 : 0 ≤ x16 ∧ x16 ≤ 23) (k17 : 0 ≤ x17 ∧ x17 ≤ 23) (k22 : 0 ≤ x22 ∧ x22 ≤ 23) (k23 : 0 ≤ x23 ∧ x23 ≤ 23) (k29 : (-1) ≤ x29 ∧ x29 ≤ 71) (h0 : x29 = a5_0 (x15)) (h6 : x23 = a3_0 (x15)) (h8 : x22 = a4_0 (x15)) (h13 : x17 = a4_0 (x15)) (h15 : x16 = a3_0 (x15)) (f16 : x15 < x2) (f17 : BLQ (a5_0) (x2)) : 0 ≤ x29 ∧ x29 ≤ 71 := by
  first
    | omega
    | (skip; (first | subst h0 | skip); (first | subst h6 | skip); (first | subst h8 | skip); (first | subst h13 | skip); (first | subst h15 | skip); have q := ‹BLQ _ _› x15 (by omega) (by omega); omega)
def o_Fa_uniteAt_at_Netail_Nehead_Emblock_12 : or_T := (90, 30, [(0, (0, 0, 23, [])), (1, (0, 0, 16777215, [])), (2, (0, 1, 72, [])), (3, (2, 0, 0, [80])), (4, (2, 0, 0, [81])), (5, (2, 0, 0, [26])), (6, (2, 0, 0, [82])), (7, (0, 0, 25, [])), (8, (0, 0, 23, [])), (9, (0, 0, 16777215, [])), (10, (0, 1, 72, [])), (11, (2, 0, 0, [80])), (12, (2, 0, 0, [81])), (13, (2, 0, 0, [26])), (14, (0, -1, -1, [])), (15, (0, 0, 71, [])), (16, (0, 0, 23, [])), (17, (0, 0, 23, [])), (18, (0, 0, 16777215, [])), (19, (0, 1, 1, [])), (20, (0, 0, 0, [])), (22, (0, 0, 23, [])), (23, (0, 0, 23, [])), (24, (0, 0, 16777215, [])), (25, (0, 1, 1, [])), (26, (0, 1, 1, [])), (28, (0, -1, -1, [])), (29, (0, -1, 71, []))], [(10, [29, 13, 15], []), (7, [14, 28], [0]), (8, [26], [1]), (12, [26, 24], [2]), (16, [26, 24, 25], [0]), (16, [24, 9, 23], [4]), (10, [23, 11, 15], []), (7, [22, 8], [0]), (10, [22, 12, 15], []), (8, [20], [0]), (12, [20, 18], [2]), (16, [20, 18, 19], [0]), (16, [18, 9, 17], [4]), (10, [17, 12, 15], []), (7, [16, 8], [0]), (10, [16, 11, 15], []), (7, [15, 10], [2]), (20, [13, 10], [61, 1, 566]), (20, [13, 11, 12, 10, 8, 14], [61, 3, 584]), (20, [13, 11, 12, 6, 7, 10, 8, 9, 14], [61, 4, 589]), (24, [0, 8], []), (24, [1, 9], []), (24, [2, 10], []), (24, [3, 11], []), (24, [4, 12], []), (24, [5, 13], [])], [(29, (0, 0, 71, []))], [], [], [], [(22, 8, 0, 0), (16, 8, 0, 0), (15, 10, -4294967296, -1), (0, 8, -4294967296, 0), (1, 9, -4294967296, 0), (2, 10, -4294967296, 0), (8, 0, -4294967296, 0), (9, 1, -4294967296, 0), (10, 2, -4294967296, 0), (15, 2, -4294967296, 0), (15, 10, -4294967296, 0)])
theorem oo_Fa_uniteAt_at_Netail_Nehead_Emblock_12 {kA : Nat → ClassId} : or_ok PRD kA GG o_Fa_uniteAt_at_Netail_Nehead_Emblock_12 := by
  refine or_mk fun A ta ws vs hD hth hl => ?_
  intro t0 k0 t1 k1 t2 k2 t3 r3 t4 r4 t5 r5 t6 r6 t7 k7 t8 k8 t9 k9 t10 k10 t11 r11 t12 r12 t13 r13 t14 k14 t15 k15 t16 k16 t17 k17 t18 k18 t19 k19 t20 k20 t22 k22 t23 k23 t24 k24 t25 k25 t26 k26 t28 k28 t29 k29 d0 d1 d2 d3 d4 d5 d6 d7 d8 d9 d10 f0 f1 f2 f3 f4 f5 f6 f7 f8 f9 f10 f11 f12 f13 f14 f15 f16 f17 f18 f19 f20 f21 f22 f23 f24 f25
  replace f0 := shm_107 f0
  replace f6 := shm_107 f6
  replace f8 := shm_107 f8
  replace f13 := shm_107 f13
  replace f15 := shm_107 f15
  replace f16 := shm_6 f16
  replace f17 := shm_365 f17
  replace f22 := shm_5 f22
  replace f23 := shm_5 f23
  replace f24 := shm_5 f24
  replace f25 := shm_5 f25
  have q10 : n_v vs 10 = n_v vs 2 := f22.symm
  have q11 : n_v vs 11 = n_v vs 3 := f23.symm
  have q12 : n_v vs 12 = n_v vs 4 := f24.symm
  have q13 : n_v vs 13 = n_v vs 5 := f25.symm
  simp only [q13, q11, q12, q10] at f0 f6 f8 f13 f15 f16 f17
  have h0 : v_iv (n_v vs 29) = w_ei ws (v_ad (n_v vs 5)) (v_iv (n_v vs 15)) := f0
  have h6 : v_iv (n_v vs 23) = w_ei ws (v_ad (n_v vs 3)) (v_iv (n_v vs 15)) := f6
  have h8 : v_iv (n_v vs 22) = w_ei ws (v_ad (n_v vs 4)) (v_iv (n_v vs 15)) := f8
  have h13 : v_iv (n_v vs 17) = w_ei ws (v_ad (n_v vs 4)) (v_iv (n_v vs 15)) := f13
  have h15 : v_iv (n_v vs 16) = w_ei ws (v_ad (n_v vs 3)) (v_iv (n_v vs 15)) := f15
  have hrf0 : 0 ≤ v_iv (n_v vs 29) ∧ v_iv (n_v vs 29) ≤ 71 := vc_Fa_uniteAt_at_Netail_Nehead_Emblock_12_r0 (v_iv (n_v vs 2)) (v_iv (n_v vs 15)) (v_iv (n_v vs 16)) (v_iv (n_v vs 17)) (v_iv (n_v vs 22)) (v_iv (n_v vs 23)) (v_iv (n_v vs 29)) (w_ei ws (v_ad (n_v vs 5))) (w_ei ws (v_ad (n_v vs 3))) (w_ei ws (v_ad (n_v vs 4))) k2 k15 k16 k17 k22 k23 k29 h0 h6 h8 h13 h15 f16 f17
  have rf29 : tv_ok ta (0, 0, 71, []) (n_v vs 29) := tv_in t29 (by first | omega | grind) (by first | omega | grind)
  refine ⟨List.forall_mem_cons.mpr ⟨rf29, (fun _ h => (by cases h))⟩, [], trivial, ?_, (fun _ h => (by cases h))⟩
  rw [List.append_nil]
  exact (fun _ h => (by cases h))
set_option maxHeartbeats 4000000 in
theorem vc_Fa_uniteAt_at_Netail_Nehead_Emblock_13_0 (x0 : Int) (x2 : Int) (x8 : Int) (x14 : Int) (x15 : Int) (x16 : Int) (x22 : Int) (x29 : Int) (x30 : Int) (a5_0 : Int → Int) (a3_0 : Int → Int) (a4_0 : Int → Int) (k0 : 0 ≤ x0 ∧ x0 ≤ 23) (k2 : 1 ≤ x2 ∧ x2 ≤ 72) (k8 : 0 ≤ x8 ∧ x8 ≤ 23) (k14 : (-1) ≤ x14 ∧ x14 ≤ (-1)) (k15 : 0 ≤ x15 ∧ x15 ≤ 71) (k16 : 0 ≤ x16 ∧ x16 ≤ 23) (k22 : 0 ≤ x22 ∧ x22 ≤ 23) (k29 : 0 ≤ x29 ∧ x29 ≤ 71) (k30 : 1 ≤ x30 ∧ x30 ≤ 72) (d0 : x15 + 1 ≤ x30 ∧ x30 ≤ x15 + 1) (d4 : x8 + 0 ≤ x22 ∧ x22 ≤ x8 + 0) (d5 : x8 + 0 ≤ x16 ∧ x16 ≤ x8 + 0) (d7 : x8 + (-4294967296) ≤ x0 ∧ x0 ≤ x8 + 0) (d10 : x0 + (-4294967296) ≤ x8 ∧ x8 ≤ x0 + 0) (h1 : x29 = a5_0 (x15)) (h9 : x22 = a4_0 (x15)) (h16 : x16 = a3_0 (x15)) (f17 : x15 < x2) (f19 : UNI (a5_0) (a3_0) (a4_0) (x2) (x0) (x14)) : UNI (a5_0) (a3_0) (a4_0) (x2) (x0) (x29) := by
  first
    | exact uni_first (e := x15) ‹UNI _ _ _ _ _ _› (by assumption) rfl (by omega) (by omega) (by first | exact Or.inl (by omega) | exact Or.inr (by omega))
set_option maxHeartbeats 4000000 in
theorem vc_Fa_uniteAt_at_Netail_Nehead_Emblock_13_1 (x0 : Int) (x1 : Int) (x2 : Int) (x7 : Int) (x8 : Int) (x14 : Int) (x15 : Int) (x16 : Int) (x17 : Int) (x18 : Int) (x19 : Int) (x20 : Int) (x22 : Int) (x23 : Int) (x24 : Int) (x25 : Int) (x26 : Int) (x29 : Int) (x30 : Int) (a5_0 : Int → Int) (a3_0 : Int → Int) (a4_0 : Int → Int) (a6_0 : Int → Int) (k0 : 0 ≤ x0 ∧ x0 ≤ 23) (k1 : 0 ≤ x1 ∧ x1 ≤ 16777215) (k2 : 1 ≤ x2 ∧ x2 ≤ 72) (k7 : 0 ≤ x7 ∧ x7 ≤ 25) (k8 : 0 ≤ x8 ∧ x8 ≤ 23) (k14 : (-1) ≤ x14 ∧ x14 ≤ (-1)) (k15 : 0 ≤ x15 ∧ x15 ≤ 71) (k16 : 0 ≤ x16 ∧ x16 ≤ 23) (k22 : 0 ≤ x22 ∧ x22 ≤ 23) (k23 : 0 ≤ x23 ∧ x23 ≤ 23) (k24 : 0 ≤ x24 ∧ x24 ≤ 16777215) (k25 : 1 ≤ x25 ∧ x25 ≤ 1) (k26 : 1 ≤ x26 ∧ x26 ≤ 1) (k29 : 0 ≤ x29 ∧ x29 ≤ 71) (k30 : 1 ≤ x30 ∧ x30 ≤ 72) (d0 : x15 + 1 ≤ x30 ∧ x30 ≤ x15 + 1) (d4 : x8 + 0 ≤ x22 ∧ x22 ≤ x8 + 0) (d5 : x8 + 0 ≤ x16 ∧ x16 ≤ x8 + 0) (d7 : x8 + (-4294967296) ≤ x0 ∧ x0 ≤ x8 + 0) (d10 : x0 + (-4294967296) ≤ x8 ∧ x8 ≤ x0 + 0) (h1 : x29 = a5_0 (x15)) (f5 : bvp (x26) = bvp (x24) &&& bvp (x25)) (f6 : bvp (x24) = bvp (x1) >>> (x23).toNat) (h7 : x23 = a3_0 (x15)) (h9 : x22 = a4_0 (x15)) (h16 : x16 = a3_0 (x15)) (f17 : x15 < x2) (f20 : UN2 (a5_0) (a3_0) (a4_0) (a6_0) (x7) (x2) (x0) (x1) (x14)) : UN2 (a5_0) (a3_0) (a4_0) (a6_0) (x7) (x2) (x0) (x1) (x29) := by
  first
    | exact un2_first (e := x15) ‹UN2 _ _ _ _ _ _ _ _ _› (by assumption) rfl (by omega) (by omega) (by first | exact Or.inl ⟨by omega, by omega, by rw [← ‹x17 = a4_0 x15›]; exact (bit_one (s := x1) (t := x18) (c := x20) (v := x17) (one := x19) (by assumption) (by assumption) (by omega) (by omega) (by omega) (by omega)).mpr (by omega)⟩ | exact Or.inr ⟨by omega, by omega, by rw [← ‹x19 = a3_0 x15›]; exact (bit_one (s := x1) (t := x20) (c := x22) (v := x19) (one := x21) (by assumption) (by assumption) (by omega) (by omega) (by omega) (by omega)).mpr (by omega)⟩ | exact Or.inr ⟨by omega, by omega, by rw [← ‹x23 = a3_0 x15›]; exact (bit_one (s := x1) (t := x24) (c := x26) (v := x23) (one := x25) (by assumption) (by assumption) (by omega) (by omega) (by omega) (by omega)).mpr (by omega)⟩)
def o_Fa_uniteAt_at_Netail_Nehead_Emblock_13 : or_T := (6, 31, [(0, (0, 0, 23, [])), (1, (0, 0, 16777215, [])), (2, (0, 1, 72, [])), (3, (2, 0, 0, [80])), (4, (2, 0, 0, [81])), (5, (2, 0, 0, [26])), (6, (2, 0, 0, [82])), (7, (0, 0, 25, [])), (8, (0, 0, 23, [])), (9, (0, 0, 16777215, [])), (10, (0, 1, 72, [])), (11, (2, 0, 0, [80])), (12, (2, 0, 0, [81])), (13, (2, 0, 0, [26])), (14, (0, -1, -1, [])), (15, (0, 0, 71, [])), (16, (0, 0, 23, [])), (17, (0, 0, 23, [])), (18, (0, 0, 16777215, [])), (19, (0, 1, 1, [])), (20, (0, 0, 0, [])), (22, (0, 0, 23, [])), (23, (0, 0, 23, [])), (24, (0, 0, 16777215, [])), (25, (0, 1, 1, [])), (26, (0, 1, 1, [])), (28, (0, -1, -1, [])), (29, (0, 0, 71, [])), (30, (0, 1, 72, []))], [(6, [30, 15], [1]), (10, [29, 13, 15], []), (7, [14, 28], [0]), (8, [26], [1]), (12, [26, 24], [2]), (16, [26, 24, 25], [0]), (16, [24, 9, 23], [4]), (10, [23, 11, 15], []), (7, [22, 8], [0]), (10, [22, 12, 15], []), (8, [20], [0]), (12, [20, 18], [2]), (16, [20, 18, 19], [0]), (16, [18, 9, 17], [4]), (10, [17, 12, 15], []), (7, [16, 8], [0]), (10, [16, 11, 15], []), (7, [15, 10], [2]), (20, [13, 10], [61, 1, 566]), (20, [13, 11, 12, 10, 8, 14], [61, 3, 584]), (20, [13, 11, 12, 6, 7, 10, 8, 9, 14], [61, 4, 589]), (24, [0, 8], []), (24, [1, 9], []), (24, [2, 10], []), (24, [3, 11], []), (24, [4, 12], []), (24, [5, 13], [])], [], [], [(20, [13, 11, 12, 10, 8, 29], [61, 3, 584]), (20, [13, 11, 12, 6, 7, 10, 8, 9, 29], [61, 4, 589])], [], [(30, 15, 1, 1), (30, 10, -4294967296, 0), (30, 2, -4294967296, 1), (30, 10, -4294967296, 1), (22, 8, 0, 0), (16, 8, 0, 0), (15, 10, -4294967296, -1), (0, 8, -4294967296, 0), (1, 9, -4294967296, 0), (2, 10, -4294967296, 0), (8, 0, -4294967296, 0), (9, 1, -4294967296, 0), (10, 2, -4294967296, 0), (15, 2, -4294967296, 0), (15, 10, -4294967296, 0)])
theorem oo_Fa_uniteAt_at_Netail_Nehead_Emblock_13 {kA : Nat → ClassId} : or_ok PRD kA GG o_Fa_uniteAt_at_Netail_Nehead_Emblock_13 := by
  refine or_mk fun A ta ws vs hD hth hl => ?_
  intro t0 k0 t1 k1 t2 k2 t3 r3 t4 r4 t5 r5 t6 r6 t7 k7 t8 k8 t9 k9 t10 k10 t11 r11 t12 r12 t13 r13 t14 k14 t15 k15 t16 k16 t17 k17 t18 k18 t19 k19 t20 k20 t22 k22 t23 k23 t24 k24 t25 k25 t26 k26 t28 k28 t29 k29 t30 k30 d0 d1 d2 d3 d4 d5 d6 d7 d8 d9 d10 d11 d12 d13 d14 f0 f1 f2 f3 f4 f5 f6 f7 f8 f9 f10 f11 f12 f13 f14 f15 f16 f17 f18 f19 f20 f21 f22 f23 f24 f25 f26
  replace f1 := shm_107 f1
  replace f5 := shm_11 f5
  replace f6 := shm_13 f6
  replace f7 := shm_107 f7
  replace f9 := shm_107 f9
  replace f16 := shm_107 f16
  replace f17 := shm_6 f17
  replace f19 := shm_1193 f19
  replace f20 := shm_1194 f20
  replace f21 := shm_5 f21
  replace f22 := shm_5 f22
  replace f23 := shm_5 f23
  replace f24 := shm_5 f24
  replace f25 := shm_5 f25
  replace f26 := shm_5 f26
  have q8 : n_v vs 8 = n_v vs 0 := f21.symm
  have q9 : n_v vs 9 = n_v vs 1 := f22.symm
  have q10 : n_v vs 10 = n_v vs 2 := f23.symm
  have q11 : n_v vs 11 = n_v vs 3 := f24.symm
  have q12 : n_v vs 12 = n_v vs 4 := f25.symm
  have q13 : n_v vs 13 = n_v vs 5 := f26.symm
  simp only [q13, q9, q11, q8, q12, q10] at f1 f6 f7 f9 f16 f17 f19 f20
  have h1 : v_iv (n_v vs 29) = w_ei ws (v_ad (n_v vs 5)) (v_iv (n_v vs 15)) := f1
  have h7 : v_iv (n_v vs 23) = w_ei ws (v_ad (n_v vs 3)) (v_iv (n_v vs 15)) := f7
  have h9 : v_iv (n_v vs 22) = w_ei ws (v_ad (n_v vs 4)) (v_iv (n_v vs 15)) := f9
  have h16 : v_iv (n_v vs 16) = w_ei ws (v_ad (n_v vs 3)) (v_iv (n_v vs 15)) := f16
  have nf0 : fc_1 PRD (20, [13, 11, 12, 10, 8, 29], [61, 3, 584]) ws (vs) := by
    refine ⟨nf_in hl rfl, sgq_1193 ?_⟩
    · show UNI (w_ei ws (v_ad (n_v vs 13))) (w_ei ws (v_ad (n_v vs 11))) (w_ei ws (v_ad (n_v vs 12))) (v_iv (n_v vs 10)) (v_iv (n_v vs 8)) (v_iv (n_v vs 29))
      simp only [q8, q10, q11, q12, q13]
      exact vc_Fa_uniteAt_at_Netail_Nehead_Emblock_13_0 (v_iv (n_v vs 0)) (v_iv (n_v vs 2)) (v_iv (n_v vs 8)) (v_iv (n_v vs 14)) (v_iv (n_v vs 15)) (v_iv (n_v vs 16)) (v_iv (n_v vs 22)) (v_iv (n_v vs 29)) (v_iv (n_v vs 30)) (w_ei ws (v_ad (n_v vs 5))) (w_ei ws (v_ad (n_v vs 3))) (w_ei ws (v_ad (n_v vs 4))) k0 k2 k8 k14 k15 k16 k22 k29 k30 d0 d4 d5 d7 d10 h1 h9 h16 f17 f19
  have nf1 : fc_1 PRD (20, [13, 11, 12, 6, 7, 10, 8, 9, 29], [61, 4, 589]) ws (vs) := by
    refine ⟨nf_in hl rfl, sgq_1194 ?_⟩
    · show UN2 (w_ei ws (v_ad (n_v vs 13))) (w_ei ws (v_ad (n_v vs 11))) (w_ei ws (v_ad (n_v vs 12))) (w_ei ws (v_ad (n_v vs 6))) (v_iv (n_v vs 7)) (v_iv (n_v vs 10)) (v_iv (n_v vs 8)) (v_iv (n_v vs 9)) (v_iv (n_v vs 29))
      simp only [q8, q9, q10, q11, q12, q13]
      exact vc_Fa_uniteAt_at_Netail_Nehead_Emblock_13_1 (v_iv (n_v vs 0)) (v_iv (n_v vs 1)) (v_iv (n_v vs 2)) (v_iv (n_v vs 7)) (v_iv (n_v vs 8)) (v_iv (n_v vs 14)) (v_iv (n_v vs 15)) (v_iv (n_v vs 16)) (v_iv (n_v vs 17)) (v_iv (n_v vs 18)) (v_iv (n_v vs 19)) (v_iv (n_v vs 20)) (v_iv (n_v vs 22)) (v_iv (n_v vs 23)) (v_iv (n_v vs 24)) (v_iv (n_v vs 25)) (v_iv (n_v vs 26)) (v_iv (n_v vs 29)) (v_iv (n_v vs 30)) (w_ei ws (v_ad (n_v vs 5))) (w_ei ws (v_ad (n_v vs 3))) (w_ei ws (v_ad (n_v vs 4))) (w_ei ws (v_ad (n_v vs 6))) k0 k1 k2 k7 k8 k14 k15 k16 k22 k23 k24 k25 k26 k29 k30 d0 d4 d5 d7 d10 h1 f5 f6 h7 h9 h16 f17 f20
  refine ⟨(fun _ h => (by cases h)), [], trivial, ?_, (fun _ h => (by cases h))⟩
  rw [List.append_nil]
  exact List.forall_mem_cons.mpr ⟨⟨show (20 : Nat) < 100 from by decide, nf0⟩, List.forall_mem_cons.mpr ⟨⟨show (20 : Nat) < 100 from by decide, nf1⟩, (fun _ h => (by cases h))⟩⟩
set_option maxHeartbeats 4000000 in
theorem vc_Fa_uniteAt_at_Netail_Nehead_Emblock_14_r0 (x2 : Int) (x15 : Int) (x16 : Int) (x17 : Int) (x22 : Int) (x25 : Int) (x26 : Int) (a5_0 : Int → Int) (a4_0 : Int → Int) (a3_0 : Int → Int) (k2 : 1 ≤ x2 ∧ x2 ≤ 72) (k15 : 0 ≤ x15 ∧ x15 ≤ 71) (k16 : 0 ≤ x16 ∧ x16 ≤ 23) (k17 : 0 ≤ x17 ∧ x17 ≤ 23) (k22 : 0 ≤ x22 ∧ x22 ≤ 23) (k25 : (-1) ≤ x25 ∧ x25 ≤ 71) (k26 : (-1) ≤ x26 ∧ x26 ≤ 71) (h0 : x26 = a5_0 (x15)) (h2 : x25 = a5_0 (x15)) (h5 : x22 = a4_0 (x15)) (h10 : x17 = a4_0 (x15)) (h12 : x16 = a3_0 (x15)) (f13 : x15 < x2) (f14 : BLQ (a5_0) (x2)) : 0 ≤ x26 ∧ x26 ≤ 71 := by
  first
    | omega
    | (skip; (first | subst h0 | skip); (first | subst h2 | skip); (first | subst h5 | skip); (first | subst h10 | skip); (first | subst h12 | skip); have q := ‹BLQ _ _› x15 (by omega) (by omega); omega)
def o_Fa_uniteAt_at_Netail_Nehead_Emblock_14 : or_T := (112, 27, [(0, (0, 0, 23, [])), (1, (0, 0, 16777215, [])), (2, (0, 1, 72, [])), (3, (2, 0, 0, [80])), (4, (2, 0, 0, [81])), (5, (2, 0, 0, [26])), (6, (2, 0, 0, [82])), (7, (0, 0, 25, [])), (8, (0, 0, 23, [])), (9, (0, 0, 16777215, [])), (10, (0, 1, 72, [])), (11, (2, 0, 0, [80])), (12, (2, 0, 0, [81])), (13, (2, 0, 0, [26])), (14, (0, 0, 71, [])), (15, (0, 0, 71, [])), (16, (0, 0, 23, [])), (17, (0, 0, 23, [])), (18, (0, 0, 16777215, [])), (19, (0, 1, 1, [])), (20, (0, 1, 1, [])), (22, (0, 0, 23, [])), (24, (0, -1, -1, [])), (25, (0, -1, 71, [])), (26, (0, -1, 71, []))], [(10, [26, 13, 15], []), (7, [25, 14], [1]), (10, [25, 13, 15], []), (7, [14, 24], [1]), (7, [22, 8], [1]), (10, [22, 12, 15], []), (8, [20], [1]), (12, [20, 18], [2]), (16, [20, 18, 19], [0]), (16, [18, 9, 17], [4]), (10, [17, 12, 15], []), (7, [16, 8], [0]), (10, [16, 11, 15], []), (7, [15, 10], [2]), (20, [13, 10], [61, 1, 566]), (20, [13, 11, 12, 10, 8, 14], [61, 3, 584]), (20, [13, 11, 12, 6, 7, 10, 8, 9, 14], [61, 4, 589]), (24, [0, 8], []), (24, [1, 9], []), (24, [2, 10], []), (24, [3, 11], []), (24, [4, 12], []), (24, [5, 13], [])], [(26, (0, 0, 71, []))], [], [], [], [(16, 8, 0, 0), (15, 10, -4294967296, -1), (0, 8, -4294967296, 0), (1, 9, -4294967296, 0), (2, 10, -4294967296, 0), (8, 0, -4294967296, 0), (9, 1, -4294967296, 0), (10, 2, -4294967296, 0), (14, 15, -4294967296, 70), (15, 2, -4294967296, 0), (15, 10, -4294967296, 0)])
theorem oo_Fa_uniteAt_at_Netail_Nehead_Emblock_14 {kA : Nat → ClassId} : or_ok PRD kA GG o_Fa_uniteAt_at_Netail_Nehead_Emblock_14 := by
  refine or_mk fun A ta ws vs hD hth hl => ?_
  intro t0 k0 t1 k1 t2 k2 t3 r3 t4 r4 t5 r5 t6 r6 t7 k7 t8 k8 t9 k9 t10 k10 t11 r11 t12 r12 t13 r13 t14 k14 t15 k15 t16 k16 t17 k17 t18 k18 t19 k19 t20 k20 t22 k22 t24 k24 t25 k25 t26 k26 d0 d1 d2 d3 d4 d5 d6 d7 d8 d9 d10 f0 f1 f2 f3 f4 f5 f6 f7 f8 f9 f10 f11 f12 f13 f14 f15 f16 f17 f18 f19 f20 f21 f22
  replace f0 := shm_107 f0
  replace f2 := shm_107 f2
  replace f5 := shm_107 f5
  replace f10 := shm_107 f10
  replace f12 := shm_107 f12
  replace f13 := shm_6 f13
  replace f14 := shm_365 f14
  replace f19 := shm_5 f19
  replace f20 := shm_5 f20
  replace f21 := shm_5 f21
  replace f22 := shm_5 f22
  have q10 : n_v vs 10 = n_v vs 2 := f19.symm
  have q11 : n_v vs 11 = n_v vs 3 := f20.symm
  have q12 : n_v vs 12 = n_v vs 4 := f21.symm
  have q13 : n_v vs 13 = n_v vs 5 := f22.symm
  simp only [q13, q12, q11, q10] at f0 f2 f5 f10 f12 f13 f14
  have h0 : v_iv (n_v vs 26) = w_ei ws (v_ad (n_v vs 5)) (v_iv (n_v vs 15)) := f0
  have h2 : v_iv (n_v vs 25) = w_ei ws (v_ad (n_v vs 5)) (v_iv (n_v vs 15)) := f2
  have h5 : v_iv (n_v vs 22) = w_ei ws (v_ad (n_v vs 4)) (v_iv (n_v vs 15)) := f5
  have h10 : v_iv (n_v vs 17) = w_ei ws (v_ad (n_v vs 4)) (v_iv (n_v vs 15)) := f10
  have h12 : v_iv (n_v vs 16) = w_ei ws (v_ad (n_v vs 3)) (v_iv (n_v vs 15)) := f12
  have hrf0 : 0 ≤ v_iv (n_v vs 26) ∧ v_iv (n_v vs 26) ≤ 71 := vc_Fa_uniteAt_at_Netail_Nehead_Emblock_14_r0 (v_iv (n_v vs 2)) (v_iv (n_v vs 15)) (v_iv (n_v vs 16)) (v_iv (n_v vs 17)) (v_iv (n_v vs 22)) (v_iv (n_v vs 25)) (v_iv (n_v vs 26)) (w_ei ws (v_ad (n_v vs 5))) (w_ei ws (v_ad (n_v vs 4))) (w_ei ws (v_ad (n_v vs 3))) k2 k15 k16 k17 k22 k25 k26 h0 h2 h5 h10 h12 f13 f14
  have rf26 : tv_ok ta (0, 0, 71, []) (n_v vs 26) := tv_in t26 (by first | omega | grind) (by first | omega | grind)
  refine ⟨List.forall_mem_cons.mpr ⟨rf26, (fun _ h => (by cases h))⟩, [], trivial, ?_, (fun _ h => (by cases h))⟩
  rw [List.append_nil]
  exact (fun _ h => (by cases h))

set_option maxHeartbeats 4000000 in
theorem vc_Fa_uniteAt_at_Netail_Nehead_Emblock_15_r0 (x15 : Int) (x16 : Int) (x17 : Int) (x22 : Int) (x25 : Int) (x26 : Int) (x28 : Int) (a5_0 : Int → Int) (a4_0 : Int → Int) (a3_0 : Int → Int) (k15 : 0 ≤ x15 ∧ x15 ≤ 71) (k16 : 0 ≤ x16 ∧ x16 ≤ 23) (k17 : 0 ≤ x17 ∧ x17 ≤ 23) (k22 : 0 ≤ x22 ∧ x22 ≤ 23) (k25 : (-1) ≤ x25 ∧ x25 ≤ 71) (k26 : 0 ≤ x26 ∧ x26 ≤ 71) (k28 : (-1) ≤ x28 ∧ x28 ≤ 71) (h0 : x28 = a5_0 (x15)) (h4 : x26 = a5_0 (x15)) (h6 : x25 = a5_0 (x15)) (h9 : x22 = a4_0 (x15)) (h14 : x17 = a4_0 (x15)) (h16 : x16 = a3_0 (x15)) : 0 ≤ x28 ∧ x28 ≤ 71 := by
  first
    | omega
    | (skip; (first | subst h0 | skip); (first | subst h4 | skip); (first | subst h6 | skip); (first | subst h9 | skip); (first | subst h14 | skip); (first | subst h16 | skip); have q := ‹BLQ _ _› x15 (by omega) (by omega); omega)
def o_Fa_uniteAt_at_Netail_Nehead_Emblock_15 : or_T := (124, 29, [(0, (0, 0, 23, [])), (1, (0, 0, 16777215, [])), (2, (0, 1, 72, [])), (3, (2, 0, 0, [80])), (4, (2, 0, 0, [81])), (5, (2, 0, 0, [26])), (6, (2, 0, 0, [82])), (7, (0, 0, 25, [])), (8, (0, 0, 23, [])), (9, (0, 0, 16777215, [])), (10, (0, 1, 72, [])), (11, (2, 0, 0, [80])), (12, (2, 0, 0, [81])), (13, (2, 0, 0, [26])), (14, (0, 0, 71, [])), (15, (0, 0, 71, [])), (16, (0, 0, 23, [])), (17, (0, 0, 23, [])), (18, (0, 0, 16777215, [])), (19, (0, 1, 1, [])), (20, (0, 1, 1, [])), (22, (0, 0, 23, [])), (24, (0, -1, -1, [])), (25, (0, -1, 71, [])), (26, (0, 0, 71, [])), (27, (0, 0, 71, [])), (28, (0, -1, 71, []))], [(10, [28, 13, 15], []), (23, [14, 27], [0, 1, -1]), (23, [26, 27], [0, 1, -1]), (20, [27, 14, 26], [50, 0, 0, 3, 6, 1, 2, 1, 0, 1, 1, 1, 2, 1, 0, 1, 2]), (10, [26, 13, 15], []), (7, [25, 14], [1]), (10, [25, 13, 15], []), (7, [14, 24], [1]), (7, [22, 8], [1]), (10, [22, 12, 15], []), (8, [20], [1]), (12, [20, 18], [2]), (16, [20, 18, 19], [0]), (16, [18, 9, 17], [4]), (10, [17, 12, 15], []), (7, [16, 8], [0]), (10, [16, 11, 15], []), (7, [15, 10], [2]), (20, [13, 10], [61, 1, 566]), (20, [13, 11, 12, 10, 8, 14], [61, 3, 584]), (20, [13, 11, 12, 6, 7, 10, 8, 9, 14], [61, 4, 589]), (24, [0, 8], []), (24, [1, 9], []), (24, [2, 10], []), (24, [3, 11], []), (24, [4, 12], []), (24, [5, 13], [])], [(28, (0, 0, 71, []))], [], [], [], [(16, 8, 0, 0), (15, 10, -4294967296, -1), (0, 8, -4294967296, 0), (1, 9, -4294967296, 0), (2, 10, -4294967296, 0), (8, 0, -4294967296, 0), (9, 1, -4294967296, 0), (10, 2, -4294967296, 0), (14, 15, -4294967296, 70), (15, 2, -4294967296, 0), (15, 10, -4294967296, 0)])
theorem oo_Fa_uniteAt_at_Netail_Nehead_Emblock_15 {kA : Nat → ClassId} : or_ok PRD kA GG o_Fa_uniteAt_at_Netail_Nehead_Emblock_15 := by
  refine or_mk fun A ta ws vs hD hth hl => ?_
  intro t0 k0 t1 k1 t2 k2 t3 r3 t4 r4 t5 r5 t6 r6 t7 k7 t8 k8 t9 k9 t10 k10 t11 r11 t12 r12 t13 r13 t14 k14 t15 k15 t16 k16 t17 k17 t18 k18 t19 k19 t20 k20 t22 k22 t24 k24 t25 k25 t26 k26 t27 k27 t28 k28 d0 d1 d2 d3 d4 d5 d6 d7 d8 d9 d10 f0 f1 f2 f3 f4 f5 f6 f7 f8 f9 f10 f11 f12 f13 f14 f15 f16 f17 f18 f19 f20 f21 f22 f23 f24 f25 f26
  replace f0 := shm_107 f0
  replace f4 := shm_107 f4
  replace f6 := shm_107 f6
  replace f9 := shm_107 f9
  replace f14 := shm_107 f14
  replace f16 := shm_107 f16
  replace f24 := shm_5 f24
  replace f25 := shm_5 f25
  replace f26 := shm_5 f26
  have q11 : n_v vs 11 = n_v vs 3 := f24.symm
  have q12 : n_v vs 12 = n_v vs 4 := f25.symm
  have q13 : n_v vs 13 = n_v vs 5 := f26.symm
  simp only [q13, q12, q11] at f0 f4 f6 f9 f14 f16
  have h0 : v_iv (n_v vs 28) = w_ei ws (v_ad (n_v vs 5)) (v_iv (n_v vs 15)) := f0
  have h4 : v_iv (n_v vs 26) = w_ei ws (v_ad (n_v vs 5)) (v_iv (n_v vs 15)) := f4
  have h6 : v_iv (n_v vs 25) = w_ei ws (v_ad (n_v vs 5)) (v_iv (n_v vs 15)) := f6
  have h9 : v_iv (n_v vs 22) = w_ei ws (v_ad (n_v vs 4)) (v_iv (n_v vs 15)) := f9
  have h14 : v_iv (n_v vs 17) = w_ei ws (v_ad (n_v vs 4)) (v_iv (n_v vs 15)) := f14
  have h16 : v_iv (n_v vs 16) = w_ei ws (v_ad (n_v vs 3)) (v_iv (n_v vs 15)) := f16
  have hrf0 : 0 ≤ v_iv (n_v vs 28) ∧ v_iv (n_v vs 28) ≤ 71 := vc_Fa_uniteAt_at_Netail_Nehead_Emblock_15_r0 (v_iv (n_v vs 15)) (v_iv (n_v vs 16)) (v_iv (n_v vs 17)) (v_iv (n_v vs 22)) (v_iv (n_v vs 25)) (v_iv (n_v vs 26)) (v_iv (n_v vs 28)) (w_ei ws (v_ad (n_v vs 5))) (w_ei ws (v_ad (n_v vs 4))) (w_ei ws (v_ad (n_v vs 3))) k15 k16 k17 k22 k25 k26 k28 h0 h4 h6 h9 h14 h16
  have rf28 : tv_ok ta (0, 0, 71, []) (n_v vs 28) := tv_in t28 (by first | omega | grind) (by first | omega | grind)
  refine ⟨List.forall_mem_cons.mpr ⟨rf28, (fun _ h => (by cases h))⟩, [], trivial, ?_, (fun _ h => (by cases h))⟩
  rw [List.append_nil]
  exact (fun _ h => (by cases h))
set_option maxHeartbeats 4000000 in
theorem vc_Fa_uniteAt_at_Netail_Nehead_Emblock_16_2 (x0 : Int) (x8 : Int) (x15 : Int) (x16 : Int) (x17 : Int) (x22 : Int) (x25 : Int) (x26 : Int) (x28 : Int) (a5_0 : Int → Int) (a4_0 : Int → Int) (a3_0 : Int → Int) (gu : Int) (k0 : 0 ≤ x0 ∧ x0 ≤ 23) (k8 : 0 ≤ x8 ∧ x8 ≤ 23) (k15 : 0 ≤ x15 ∧ x15 ≤ 71) (k16 : 0 ≤ x16 ∧ x16 ≤ 23) (k17 : 0 ≤ x17 ∧ x17 ≤ 23) (k22 : 0 ≤ x22 ∧ x22 ≤ 23) (k25 : (-1) ≤ x25 ∧ x25 ≤ 71) (k26 : 0 ≤ x26 ∧ x26 ≤ 71) (k28 : 0 ≤ x28 ∧ x28 ≤ 71) (d0 : x8 + 0 ≤ x16 ∧ x16 ≤ x8 + 0) (d2 : x8 + (-4294967296) ≤ x0 ∧ x0 ≤ x8 + 0) (d5 : x0 + (-4294967296) ≤ x8 ∧ x8 ≤ x0 + 0) (h3 : x28 = a5_0 (x15)) (h7 : x26 = a5_0 (x15)) (h9 : x25 = a5_0 (x15)) (h12 : x22 = a4_0 (x15)) (h17 : x17 = a4_0 (x15)) (h19 : x16 = a3_0 (x15)) (eu2 : gu = x0) : 1 * gu + ((-1) * x0 + 0) ≤ 0 := by
  first
    | omega
    | (skip; (first | subst h3 | skip); (first | subst h7 | skip); (first | subst h9 | skip); (first | subst h12 | skip); (first | subst h17 | skip); (first | subst h19 | skip); have q := ‹BLQ _ _› x15 (by omega) (by omega); omega)
set_option maxHeartbeats 4000000 in
theorem vc_Fa_uniteAt_at_Netail_Nehead_Emblock_16_3 (x0 : Int) (x8 : Int) (x15 : Int) (x16 : Int) (x17 : Int) (x22 : Int) (x25 : Int) (x26 : Int) (x28 : Int) (a5_0 : Int → Int) (a4_0 : Int → Int) (a3_0 : Int → Int) (gu : Int) (k0 : 0 ≤ x0 ∧ x0 ≤ 23) (k8 : 0 ≤ x8 ∧ x8 ≤ 23) (k15 : 0 ≤ x15 ∧ x15 ≤ 71) (k16 : 0 ≤ x16 ∧ x16 ≤ 23) (k17 : 0 ≤ x17 ∧ x17 ≤ 23) (k22 : 0 ≤ x22 ∧ x22 ≤ 23) (k25 : (-1) ≤ x25 ∧ x25 ≤ 71) (k26 : 0 ≤ x26 ∧ x26 ≤ 71) (k28 : 0 ≤ x28 ∧ x28 ≤ 71) (d0 : x8 + 0 ≤ x16 ∧ x16 ≤ x8 + 0) (d2 : x8 + (-4294967296) ≤ x0 ∧ x0 ≤ x8 + 0) (d5 : x0 + (-4294967296) ≤ x8 ∧ x8 ≤ x0 + 0) (h3 : x28 = a5_0 (x15)) (h7 : x26 = a5_0 (x15)) (h9 : x25 = a5_0 (x15)) (h12 : x22 = a4_0 (x15)) (h17 : x17 = a4_0 (x15)) (h19 : x16 = a3_0 (x15)) (eu2 : gu = x0) : (-1) * gu + (1 * x0 + 0) ≤ 0 := by
  first
    | omega
    | (skip; (first | subst h3 | skip); (first | subst h7 | skip); (first | subst h9 | skip); (first | subst h12 | skip); (first | subst h17 | skip); (first | subst h19 | skip); have q := ‹BLQ _ _› x15 (by omega) (by omega); omega)
set_option maxHeartbeats 4000000 in
theorem vc_Fa_uniteAt_at_Netail_Nehead_Emblock_16_5 (x7 : Int) (x15 : Int) (x16 : Int) (x17 : Int) (x22 : Int) (x25 : Int) (x26 : Int) (x28 : Int) (a5_0 : Int → Int) (a4_0 : Int → Int) (a3_0 : Int → Int) (gc : Int) (k7 : 0 ≤ x7 ∧ x7 ≤ 25) (k15 : 0 ≤ x15 ∧ x15 ≤ 71) (k16 : 0 ≤ x16 ∧ x16 ≤ 23) (k17 : 0 ≤ x17 ∧ x17 ≤ 23) (k22 : 0 ≤ x22 ∧ x22 ≤ 23) (k25 : (-1) ≤ x25 ∧ x25 ≤ 71) (k26 : 0 ≤ x26 ∧ x26 ≤ 71) (k28 : 0 ≤ x28 ∧ x28 ≤ 71) (h3 : x28 = a5_0 (x15)) (h7 : x26 = a5_0 (x15)) (h9 : x25 = a5_0 (x15)) (h12 : x22 = a4_0 (x15)) (h17 : x17 = a4_0 (x15)) (h19 : x16 = a3_0 (x15)) (ec2 : gc = x7) : 1 * gc + ((-1) * x7 + 0) ≤ 0 := by
  first
    | omega
    | (skip; (first | subst h3 | skip); (first | subst h7 | skip); (first | subst h9 | skip); (first | subst h12 | skip); (first | subst h17 | skip); (first | subst h19 | skip); have q := ‹BLQ _ _› x15 (by omega) (by omega); omega)
set_option maxHeartbeats 4000000 in
theorem vc_Fa_uniteAt_at_Netail_Nehead_Emblock_16_6 (x7 : Int) (x15 : Int) (x16 : Int) (x17 : Int) (x22 : Int) (x25 : Int) (x26 : Int) (x28 : Int) (a5_0 : Int → Int) (a4_0 : Int → Int) (a3_0 : Int → Int) (gc : Int) (k7 : 0 ≤ x7 ∧ x7 ≤ 25) (k15 : 0 ≤ x15 ∧ x15 ≤ 71) (k16 : 0 ≤ x16 ∧ x16 ≤ 23) (k17 : 0 ≤ x17 ∧ x17 ≤ 23) (k22 : 0 ≤ x22 ∧ x22 ≤ 23) (k25 : (-1) ≤ x25 ∧ x25 ≤ 71) (k26 : 0 ≤ x26 ∧ x26 ≤ 71) (k28 : 0 ≤ x28 ∧ x28 ≤ 71) (h3 : x28 = a5_0 (x15)) (h7 : x26 = a5_0 (x15)) (h9 : x25 = a5_0 (x15)) (h12 : x22 = a4_0 (x15)) (h17 : x17 = a4_0 (x15)) (h19 : x16 = a3_0 (x15)) (ec2 : gc = x7) : (-1) * gc + (1 * x7 + 0) ≤ 0 := by
  first
    | omega
    | (skip; (first | subst h3 | skip); (first | subst h7 | skip); (first | subst h9 | skip); (first | subst h12 | skip); (first | subst h17 | skip); (first | subst h19 | skip); have q := ‹BLQ _ _› x15 (by omega) (by omega); omega)
set_option maxHeartbeats 4000000 in
theorem vc_Fa_uniteAt_at_Netail_Nehead_Emblock_16_7 (x1 : Int) (x9 : Int) (x15 : Int) (x16 : Int) (x17 : Int) (x22 : Int) (x25 : Int) (x26 : Int) (x28 : Int) (a5_0 : Int → Int) (a4_0 : Int → Int) (a3_0 : Int → Int) (gd : Int) (k1 : 0 ≤ x1 ∧ x1 ≤ 16777215) (k9 : 0 ≤ x9 ∧ x9 ≤ 16777215) (k15 : 0 ≤ x15 ∧ x15 ≤ 71) (k16 : 0 ≤ x16 ∧ x16 ≤ 23) (k17 : 0 ≤ x17 ∧ x17 ≤ 23) (k22 : 0 ≤ x22 ∧ x22 ≤ 23) (k25 : (-1) ≤ x25 ∧ x25 ≤ 71) (k26 : 0 ≤ x26 ∧ x26 ≤ 71) (k28 : 0 ≤ x28 ∧ x28 ≤ 71) (d3 : x9 + (-4294967296) ≤ x1 ∧ x1 ≤ x9 + 0) (d6 : x1 + (-4294967296) ≤ x9 ∧ x9 ≤ x1 + 0) (h3 : x28 = a5_0 (x15)) (h7 : x26 = a5_0 (x15)) (h9 : x25 = a5_0 (x15)) (h12 : x22 = a4_0 (x15)) (h17 : x17 = a4_0 (x15)) (h19 : x16 = a3_0 (x15)) (ed2 : gd = x1) : 1 * gd + ((-1) * x1 + 0) ≤ 0 := by
  first
    | omega
    | (skip; (first | subst h3 | skip); (first | subst h7 | skip); (first | subst h9 | skip); (first | subst h12 | skip); (first | subst h17 | skip); (first | subst h19 | skip); have q := ‹BLQ _ _› x15 (by omega) (by omega); omega)
set_option maxHeartbeats 4000000 in
theorem vc_Fa_uniteAt_at_Netail_Nehead_Emblock_16_8 (x1 : Int) (x9 : Int) (x15 : Int) (x16 : Int) (x17 : Int) (x22 : Int) (x25 : Int) (x26 : Int) (x28 : Int) (a5_0 : Int → Int) (a4_0 : Int → Int) (a3_0 : Int → Int) (gd : Int) (k1 : 0 ≤ x1 ∧ x1 ≤ 16777215) (k9 : 0 ≤ x9 ∧ x9 ≤ 16777215) (k15 : 0 ≤ x15 ∧ x15 ≤ 71) (k16 : 0 ≤ x16 ∧ x16 ≤ 23) (k17 : 0 ≤ x17 ∧ x17 ≤ 23) (k22 : 0 ≤ x22 ∧ x22 ≤ 23) (k25 : (-1) ≤ x25 ∧ x25 ≤ 71) (k26 : 0 ≤ x26 ∧ x26 ≤ 71) (k28 : 0 ≤ x28 ∧ x28 ≤ 71) (d3 : x9 + (-4294967296) ≤ x1 ∧ x1 ≤ x9 + 0) (d6 : x1 + (-4294967296) ≤ x9 ∧ x9 ≤ x1 + 0) (h3 : x28 = a5_0 (x15)) (h7 : x26 = a5_0 (x15)) (h9 : x25 = a5_0 (x15)) (h12 : x22 = a4_0 (x15)) (h17 : x17 = a4_0 (x15)) (h19 : x16 = a3_0 (x15)) (ed2 : gd = x1) : (-1) * gd + (1 * x1 + 0) ≤ 0 := by
  first
    | omega
    | (skip; (first | subst h3 | skip); (first | subst h7 | skip); (first | subst h9 | skip); (first | subst h12 | skip); (first | subst h17 | skip); (first | subst h19 | skip); have q := ‹BLQ _ _› x15 (by omega) (by omega); omega)
set_option maxHeartbeats 4000000 in
theorem vc_Fa_uniteAt_at_Netail_Nehead_Emblock_16_9 (x2 : Int) (a5_0 : Int → Int) (k2 : 1 ≤ x2 ∧ x2 ≤ 72) (f21 : BLQ (a5_0) (x2)) : BLQ (a5_0) (x2) := by
  first
    | assumption
  
set_option maxHeartbeats 4000000 in
theorem vc_Fa_uniteAt_at_Netail_Nehead_Emblock_16_10 (x15 : Int) (x16 : Int) (x17 : Int) (x22 : Int) (x25 : Int) (x26 : Int) (x27 : Int) (x28 : Int) (x29 : Int) (a5_0 : Int → Int) (a4_0 : Int → Int) (a3_0 : Int → Int) (k15 : 0 ≤ x15 ∧ x15 ≤ 71) (k16 : 0 ≤ x16 ∧ x16 ≤ 23) (k17 : 0 ≤ x17 ∧ x17 ≤ 23) (k22 : 0 ≤ x22 ∧ x22 ≤ 23) (k25 : (-1) ≤ x25 ∧ x25 ≤ 71) (k26 : 0 ≤ x26 ∧ x26 ≤ 71) (k27 : 0 ≤ x27 ∧ x27 ≤ 71) (k28 : 0 ≤ x28 ∧ x28 ≤ 71) (k29 : 0 ≤ x29 ∧ x29 ≤ 71) (f1 : (-1) * x28 + (1 * x29 + 0) ≤ 0) (h3 : x28 = a5_0 (x15)) (f5 : 1 * x26 + ((-1) * x27 + 0) ≤ 0) (h7 : x26 = a5_0 (x15)) (h9 : x25 = a5_0 (x15)) (h12 : x22 = a4_0 (x15)) (h17 : x17 = a4_0 (x15)) (h19 : x16 = a3_0 (x15)) : (0 ≤ x29) ∧ (x29 ≤ x27) := by
  first
    | omega
    | (skip; (first | subst h3 | skip); (first | subst h7 | skip); (first | subst h9 | skip); (first | subst h12 | skip); (first | subst h17 | skip); (first | subst h19 | skip); have q := ‹BLQ _ _› x15 (by omega) (by omega); omega)
set_option maxHeartbeats 4000000 in
theorem vc_Fa_uniteAt_at_Netail_Nehead_Emblock_16_11 (x0 : Int) (x2 : Int) (x8 : Int) (x14 : Int) (x15 : Int) (x16 : Int) (x20 : Int) (x22 : Int) (x24 : Int) (x25 : Int) (x26 : Int) (x27 : Int) (x28 : Int) (x29 : Int) (a5_0 : Int → Int) (a4_0 : Int → Int) (a3_0 : Int → Int) (gu : Int) (k0 : 0 ≤ x0 ∧ x0 ≤ 23) (k2 : 1 ≤ x2 ∧ x2 ≤ 72) (k8 : 0 ≤ x8 ∧ x8 ≤ 23) (k14 : 0 ≤ x14 ∧ x14 ≤ 71) (k15 : 0 ≤ x15 ∧ x15 ≤ 71) (k16 : 0 ≤ x16 ∧ x16 ≤ 23) (k20 : 1 ≤ x20 ∧ x20 ≤ 1) (k22 : 0 ≤ x22 ∧ x22 ≤ 23) (k24 : (-1) ≤ x24 ∧ x24 ≤ (-1)) (k25 : (-1) ≤ x25 ∧ x25 ≤ 71) (k26 : 0 ≤ x26 ∧ x26 ≤ 71) (k27 : 0 ≤ x27 ∧ x27 ≤ 71) (k28 : 0 ≤ x28 ∧ x28 ≤ 71) (k29 : 0 ≤ x29 ∧ x29 ≤ 71) (d0 : x8 + 0 ≤ x16 ∧ x16 ≤ x8 + 0) (d2 : x8 + (-4294967296) ≤ x0 ∧ x0 ≤ x8 + 0) (d5 : x0 + (-4294967296) ≤ x8 ∧ x8 ≤ x0 + 0) (f0 : (-1) * x14 + (1 * x29 + 0) ≤ 0) (f1 : (-1) * x28 + (1 * x29 + 0) ≤ 0) (f2 : (x29 = x14) ∨ (x29 = x28)) (h3 : x28 = a5_0 (x15)) (f4 : 1 * x14 + ((-1) * x27 + 0) ≤ 0) (f5 : 1 * x26 + ((-1) * x27 + 0) ≤ 0) (f6 : (x27 = x14) ∨ (x27 = x26)) (h7 : x26 = a5_0 (x15)) (f8 : x25 ≠ x14) (h9 : x25 = a5_0 (x15)) (f10 : x14 ≠ x24) (f11 : x22 ≠ x0) (f13 : x20 ≠ 0) (h19 : x16 = a3_0 (x15)) (f20 : x15 < x2) (f22 : UNI (a5_0) (a3_0) (a4_0) (x2) (x0) (x14)) (eu2 : gu = x0) : RLP (a5_0) (a3_0) (a4_0) (x2) (x27) (x29) (gu) := by
  first
    | (rw [show gu = x0 by omega]; exact uni_rlp (e := x15) ‹UNI _ _ _ _ _ _› (by omega) rfl (by omega) (by omega) (by omega) (by first | exact Or.inl (by omega) | exact Or.inr (by omega)) (by omega) (by omega) (by omega) (by omega) (by omega) (by omega))
  
set_option maxHeartbeats 4000000 in
theorem vc_Fa_uniteAt_at_Netail_Nehead_Emblock_16_12 (x0 : Int) (x1 : Int) (x2 : Int) (x7 : Int) (x8 : Int) (x14 : Int) (x15 : Int) (x16 : Int) (x17 : Int) (x18 : Int) (x19 : Int) (x20 : Int) (x22 : Int) (x24 : Int) (x25 : Int) (x26 : Int) (x27 : Int) (x28 : Int) (x29 : Int) (a5_0 : Int → Int) (a4_0 : Int → Int) (a3_0 : Int → Int) (a6_0 : Int → Int) (gu : Int) (gc : Int) (gd : Int) (k0 : 0 ≤ x0 ∧ x0 ≤ 23) (k1 : 0 ≤ x1 ∧ x1 ≤ 16777215) (k2 : 1 ≤ x2 ∧ x2 ≤ 72) (k7 : 0 ≤ x7 ∧ x7 ≤ 25) (k8 : 0 ≤ x8 ∧ x8 ≤ 23) (k14 : 0 ≤ x14 ∧ x14 ≤ 71) (k15 : 0 ≤ x15 ∧ x15 ≤ 71) (k16 : 0 ≤ x16 ∧ x16 ≤ 23) (k17 : 0 ≤ x17 ∧ x17 ≤ 23) (k18 : 0 ≤ x18 ∧ x18 ≤ 16777215) (k19 : 1 ≤ x19 ∧ x19 ≤ 1) (k20 : 1 ≤ x20 ∧ x20 ≤ 1) (k22 : 0 ≤ x22 ∧ x22 ≤ 23) (k24 : (-1) ≤ x24 ∧ x24 ≤ (-1)) (k25 : (-1) ≤ x25 ∧ x25 ≤ 71) (k26 : 0 ≤ x26 ∧ x26 ≤ 71) (k27 : 0 ≤ x27 ∧ x27 ≤ 71) (k28 : 0 ≤ x28 ∧ x28 ≤ 71) (k29 : 0 ≤ x29 ∧ x29 ≤ 71) (d0 : x8 + 0 ≤ x16 ∧ x16 ≤ x8 + 0) (d2 : x8 + (-4294967296) ≤ x0 ∧ x0 ≤ x8 + 0) (d5 : x0 + (-4294967296) ≤ x8 ∧ x8 ≤ x0 + 0) (f0 : (-1) * x14 + (1 * x29 + 0) ≤ 0) (f1 : (-1) * x28 + (1 * x29 + 0) ≤ 0) (f2 : (x29 = x14) ∨ (x29 = x28)) (h3 : x28 = a5_0 (x15)) (f4 : 1 * x14 + ((-1) * x27 + 0) ≤ 0) (f5 : 1 * x26 + ((-1) * x27 + 0) ≤ 0) (f6 : (x27 = x14) ∨ (x27 = x26)) (h7 : x26 = a5_0 (x15)) (f8 : x25 ≠ x14) (h9 : x25 = a5_0 (x15)) (f10 : x14 ≠ x24) (f11 : x22 ≠ x0) (f13 : x20 ≠ 0) (f15 : bvp (x20) = bvp (x18) &&& bvp (x19)) (f16 : bvp (x18) = bvp (x1) >>> (x17).toNat) (h17 : x17 = a4_0 (x15)) (h19 : x16 = a3_0 (x15)) (f20 : x15 < x2) (f23 : UN2 (a5_0) (a3_0) (a4_0) (a6_0) (x7) (x2) (x0) (x1) (x14)) (eu2 : gu = x0) (ec2 : gc = x7) (ed2 : gd = x1) : QKP (a5_0) (a3_0) (a4_0) (a6_0) (gc) (x2) (gu) (gd) (x27) (x29) := by
  first
    | (rw [show gu = x0 by omega, show gc = x7 by omega, show gd = x1 by omega]; exact un2_qkp (e := x15) ‹UN2 _ _ _ _ _ _ _ _ _› (by omega) rfl (by omega) (by omega) (by omega) (by first | exact Or.inl ⟨by omega, by omega, by rw [← ‹x17 = a4_0 x15›]; exact (bit_one (s := x1) (t := x18) (c := x20) (v := x17) (one := x19) (by assumption) (by assumption) (by omega) (by omega) (by omega) (by omega)).mpr (by omega)⟩ | exact Or.inr ⟨by omega, by omega, by rw [← ‹x19 = a3_0 x15›]; exact (bit_one (s := x1) (t := x20) (c := x22) (v := x19) (one := x21) (by assumption) (by assumption) (by omega) (by omega) (by omega) (by omega)).mpr (by omega)⟩ | exact Or.inr ⟨by omega, by omega, by rw [← ‹x23 = a3_0 x15›]; exact (bit_one (s := x1) (t := x24) (c := x26) (v := x23) (one := x25) (by assumption) (by assumption) (by omega) (by omega) (by omega) (by omega)).mpr (by omega)⟩) (by omega) (by omega) (by omega) (by omega) (by omega) (by omega))
  
set_option maxHeartbeats 4000000 in
theorem vc_Fa_uniteAt_at_Netail_Nehead_Emblock_16_13 (x0 : Int) (x15 : Int) (x16 : Int) (x17 : Int) (x22 : Int) (x25 : Int) (x26 : Int) (x28 : Int) (a5_0 : Int → Int) (a4_0 : Int → Int) (a3_0 : Int → Int) (gu : Int) (k0 : 0 ≤ x0 ∧ x0 ≤ 23) (k15 : 0 ≤ x15 ∧ x15 ≤ 71) (k16 : 0 ≤ x16 ∧ x16 ≤ 23) (k17 : 0 ≤ x17 ∧ x17 ≤ 23) (k22 : 0 ≤ x22 ∧ x22 ≤ 23) (k25 : (-1) ≤ x25 ∧ x25 ≤ 71) (k26 : 0 ≤ x26 ∧ x26 ≤ 71) (k28 : 0 ≤ x28 ∧ x28 ≤ 71) (h3 : x28 = a5_0 (x15)) (h7 : x26 = a5_0 (x15)) (h9 : x25 = a5_0 (x15)) (h12 : x22 = a4_0 (x15)) (h17 : x17 = a4_0 (x15)) (h19 : x16 = a3_0 (x15)) (eu2 : gu = x0) : gu = x0 := by
  first
    | omega
    | (skip; (first | subst h3 | skip); (first | subst h7 | skip); (first | subst h9 | skip); (first | subst h12 | skip); (first | subst h17 | skip); (first | subst h19 | skip); have q := ‹BLQ _ _› x15 (by omega) (by omega); omega)
set_option maxHeartbeats 4000000 in
theorem vc_Fa_uniteAt_at_Netail_Nehead_Emblock_16_14 (x15 : Int) (x16 : Int) (x17 : Int) (x22 : Int) (x25 : Int) (x26 : Int) (x28 : Int) (x29 : Int) (a5_0 : Int → Int) (a4_0 : Int → Int) (a3_0 : Int → Int) (k15 : 0 ≤ x15 ∧ x15 ≤ 71) (k16 : 0 ≤ x16 ∧ x16 ≤ 23) (k17 : 0 ≤ x17 ∧ x17 ≤ 23) (k22 : 0 ≤ x22 ∧ x22 ≤ 23) (k25 : (-1) ≤ x25 ∧ x25 ≤ 71) (k26 : 0 ≤ x26 ∧ x26 ≤ 71) (k28 : 0 ≤ x28 ∧ x28 ≤ 71) (k29 : 0 ≤ x29 ∧ x29 ≤ 71) (h3 : x28 = a5_0 (x15)) (h7 : x26 = a5_0 (x15)) (h9 : x25 = a5_0 (x15)) (h12 : x22 = a4_0 (x15)) (h17 : x17 = a4_0 (x15)) (h19 : x16 = a3_0 (x15)) : 0 ≤ x29 := by
  first
    | omega
    | (skip; (first | subst h3 | skip); (first | subst h7 | skip); (first | subst h9 | skip); (first | subst h12 | skip); (first | subst h17 | skip); (first | subst h19 | skip); have q := ‹BLQ _ _› x15 (by omega) (by omega); omega)
set_option maxHeartbeats 4000000 in
theorem vc_Fa_uniteAt_at_Netail_Nehead_Emblock_16_15 (x7 : Int) (x15 : Int) (x16 : Int) (x17 : Int) (x22 : Int) (x25 : Int) (x26 : Int) (x28 : Int) (a5_0 : Int → Int) (a4_0 : Int → Int) (a3_0 : Int → Int) (gc : Int) (k7 : 0 ≤ x7 ∧ x7 ≤ 25) (k15 : 0 ≤ x15 ∧ x15 ≤ 71) (k16 : 0 ≤ x16 ∧ x16 ≤ 23) (k17 : 0 ≤ x17 ∧ x17 ≤ 23) (k22 : 0 ≤ x22 ∧ x22 ≤ 23) (k25 : (-1) ≤ x25 ∧ x25 ≤ 71) (k26 : 0 ≤ x26 ∧ x26 ≤ 71) (k28 : 0 ≤ x28 ∧ x28 ≤ 71) (h3 : x28 = a5_0 (x15)) (h7 : x26 = a5_0 (x15)) (h9 : x25 = a5_0 (x15)) (h12 : x22 = a4_0 (x15)) (h17 : x17 = a4_0 (x15)) (h19 : x16 = a3_0 (x15)) (ec2 : gc = x7) : gc = x7 := by
  first
    | omega
    | (skip; (first | subst h3 | skip); (first | subst h7 | skip); (first | subst h9 | skip); (first | subst h12 | skip); (first | subst h17 | skip); (first | subst h19 | skip); have q := ‹BLQ _ _› x15 (by omega) (by omega); omega)
set_option maxHeartbeats 4000000 in
theorem vc_Fa_uniteAt_at_Netail_Nehead_Emblock_16_16 (x1 : Int) (x15 : Int) (x16 : Int) (x17 : Int) (x22 : Int) (x25 : Int) (x26 : Int) (x28 : Int) (a5_0 : Int → Int) (a4_0 : Int → Int) (a3_0 : Int → Int) (gd : Int) (k1 : 0 ≤ x1 ∧ x1 ≤ 16777215) (k15 : 0 ≤ x15 ∧ x15 ≤ 71) (k16 : 0 ≤ x16 ∧ x16 ≤ 23) (k17 : 0 ≤ x17 ∧ x17 ≤ 23) (k22 : 0 ≤ x22 ∧ x22 ≤ 23) (k25 : (-1) ≤ x25 ∧ x25 ≤ 71) (k26 : 0 ≤ x26 ∧ x26 ≤ 71) (k28 : 0 ≤ x28 ∧ x28 ≤ 71) (h3 : x28 = a5_0 (x15)) (h7 : x26 = a5_0 (x15)) (h9 : x25 = a5_0 (x15)) (h12 : x22 = a4_0 (x15)) (h17 : x17 = a4_0 (x15)) (h19 : x16 = a3_0 (x15)) (ed2 : gd = x1) : gd = x1 := by
  first
    | omega
    | (skip; (first | subst h3 | skip); (first | subst h7 | skip); (first | subst h9 | skip); (first | subst h12 | skip); (first | subst h17 | skip); (first | subst h19 | skip); have q := ‹BLQ _ _› x15 (by omega) (by omega); omega)
def o_Fa_uniteAt_at_Netail_Nehead_Emblock_16 : or_T := (136, 30, [(0, (0, 0, 23, [])), (1, (0, 0, 16777215, [])), (2, (0, 1, 72, [])), (3, (2, 0, 0, [80])), (4, (2, 0, 0, [81])), (5, (2, 0, 0, [26])), (6, (2, 0, 0, [82])), (7, (0, 0, 25, [])), (8, (0, 0, 23, [])), (9, (0, 0, 16777215, [])), (10, (0, 1, 72, [])), (11, (2, 0, 0, [80])), (12, (2, 0, 0, [81])), (13, (2, 0, 0, [26])), (14, (0, 0, 71, [])), (15, (0, 0, 71, [])), (16, (0, 0, 23, [])), (17, (0, 0, 23, [])), (18, (0, 0, 16777215, [])), (19, (0, 1, 1, [])), (20, (0, 1, 1, [])), (22, (0, 0, 23, [])), (24, (0, -1, -1, [])), (25, (0, -1, 71, [])), (26, (0, 0, 71, [])), (27, (0, 0, 71, [])), (28, (0, 0, 71, [])), (29, (0, 0, 71, []))], [(23, [14, 29], [0, -1, 1]), (23, [28, 29], [0, -1, 1]), (20, [29, 14, 28], [50, 0, 0, 3, 6, 1, 2, 1, 0, 1, 1, 1, 2, 1, 0, 1, 2]), (10, [28, 13, 15], []), (23, [14, 27], [0, 1, -1]), (23, [26, 27], [0, 1, -1]), (20, [27, 14, 26], [50, 0, 0, 3, 6, 1, 2, 1, 0, 1, 1, 1, 2, 1, 0, 1, 2]), (10, [26, 13, 15], []), (7, [25, 14], [1]), (10, [25, 13, 15], []), (7, [14, 24], [1]), (7, [22, 8], [1]), (10, [22, 12, 15], []), (8, [20], [1]), (12, [20, 18], [2]), (16, [20, 18, 19], [0]), (16, [18, 9, 17], [4]), (10, [17, 12, 15], []), (7, [16, 8], [0]), (10, [16, 11, 15], []), (7, [15, 10], [2]), (20, [13, 10], [61, 1, 566]), (20, [13, 11, 12, 10, 8, 14], [61, 3, 584]), (20, [13, 11, 12, 6, 7, 10, 8, 9, 14], [61, 4, 589]), (24, [0, 8], []), (24, [1, 9], []), (24, [2, 10], []), (24, [3, 11], []), (24, [4, 12], []), (24, [5, 13], [])], [], [(2, 0, 0, [80]), (2, 0, 0, [81]), (0, 0, 24, []), (2, 0, 0, [82]), (0, 0, 25, []), (0, -2147483648, 2147483647, [])], [(24, [3, 30], []), (24, [4, 31], []), (23, [32, 8], [0, 1, -1]), (23, [32, 8], [0, -1, 1]), (24, [6, 33], []), (23, [34, 7], [0, 1, -1]), (23, [34, 7], [0, -1, 1]), (23, [35, 9], [0, 1, -1]), (23, [35, 9], [0, -1, 1]), (20, [13, 10], [61, 1, 566]), (20, [29, 27], [50, 0, 0, 2, 6, 0, 2, 0, 0, 1, 0, 0, 2, 1, 0, 1, 1]), (20, [13, 30, 31, 10, 27, 29, 32], [61, 3, 581]), (20, [13, 30, 31, 33, 34, 10, 32, 35, 27, 29], [61, 4, 590]), (20, [32, 8], [50, 0, 0, 1, 2, 1, 0, 1, 1]), (20, [29], [50, 0, 0, 0, 2, 0, 0, 1, 0]), (20, [34, 7], [50, 0, 0, 1, 2, 1, 0, 1, 1]), (20, [35, 9], [50, 0, 0, 1, 2, 1, 0, 1, 1])], [], [(16, 8, 0, 0), (15, 10, -4294967296, -1), (0, 8, -4294967296, 0), (1, 9, -4294967296, 0), (2, 10, -4294967296, 0), (8, 0, -4294967296, 0), (9, 1, -4294967296, 0), (10, 2, -4294967296, 0), (14, 15, -4294967296, 70), (15, 2, -4294967296, 0), (15, 10, -4294967296, 0)])
theorem oo_Fa_uniteAt_at_Netail_Nehead_Emblock_16 {kA : Nat → ClassId} : or_ok PRD kA GG o_Fa_uniteAt_at_Netail_Nehead_Emblock_16 := by
  refine or_mk fun A ta ws vs hD hth hl => ?_
  intro t0 k0 t1 k1 t2 k2 t3 r3 t4 r4 t5 r5 t6 r6 t7 k7 t8 k8 t9 k9 t10 k10 t11 r11 t12 r12 t13 r13 t14 k14 t15 k15 t16 k16 t17 k17 t18 k18 t19 k19 t20 k20 t22 k22 t24 k24 t25 k25 t26 k26 t27 k27 t28 k28 t29 k29 d0 d1 d2 d3 d4 d5 d6 d7 d8 d9 d10 f0 f1 f2 f3 f4 f5 f6 f7 f8 f9 f10 f11 f12 f13 f14 f15 f16 f17 f18 f19 f20 f21 f22 f23 f24 f25 f26 f27 f28 f29
  replace f0 := shm_22 f0
  replace f1 := shm_22 f1
  replace f2 := shm_898 f2
  replace f3 := shm_107 f3
  replace f4 := shm_7 f4
  replace f5 := shm_7 f5
  replace f6 := shm_898 f6
  replace f7 := shm_107 f7
  replace f8 := shm_40 f8
  replace f9 := shm_107 f9
  replace f10 := shm_40 f10
  replace f11 := shm_40 f11
  replace f12 := shm_107 f12
  replace f13 := shm_142 f13
  replace f15 := shm_11 f15
  replace f16 := shm_13 f16
  replace f17 := shm_107 f17
  replace f19 := shm_107 f19
  replace f20 := shm_6 f20
  replace f21 := shm_365 f21
  replace f22 := shm_1193 f22
  replace f23 := shm_1194 f23
  replace f24 := shm_5 f24
  replace f25 := shm_5 f25
  replace f26 := shm_5 f26
  replace f27 := shm_5 f27
  replace f28 := shm_5 f28
  replace f29 := shm_5 f29
  have q8 : n_v vs 8 = n_v vs 0 := f24.symm
  have q9 : n_v vs 9 = n_v vs 1 := f25.symm
  have q10 : n_v vs 10 = n_v vs 2 := f26.symm
  have q11 : n_v vs 11 = n_v vs 3 := f27.symm
  have q12 : n_v vs 12 = n_v vs 4 := f28.symm
  have q13 : n_v vs 13 = n_v vs 5 := f29.symm
  simp only [q13, q8, q12, q9, q11, q10] at f3 f7 f9 f11 f12 f16 f17 f19 f20 f21 f22 f23
  have h3 : v_iv (n_v vs 28) = w_ei ws (v_ad (n_v vs 5)) (v_iv (n_v vs 15)) := f3
  have h7 : v_iv (n_v vs 26) = w_ei ws (v_ad (n_v vs 5)) (v_iv (n_v vs 15)) := f7
  have h9 : v_iv (n_v vs 25) = w_ei ws (v_ad (n_v vs 5)) (v_iv (n_v vs 15)) := f9
  have h12 : v_iv (n_v vs 22) = w_ei ws (v_ad (n_v vs 4)) (v_iv (n_v vs 15)) := f12
  have h17 : v_iv (n_v vs 17) = w_ei ws (v_ad (n_v vs 4)) (v_iv (n_v vs 15)) := f17
  have h19 : v_iv (n_v vs 16) = w_ei ws (v_ad (n_v vs 3)) (v_iv (n_v vs 15)) := f19
  obtain ⟨u, eu, hu⟩ := iv_ex (ta := ta) (lo := 0) (hi := 24) (z := v_iv (n_v vs 0)) (by omega) (by omega) (by omega) (by omega)
  have eu2 : v_iv (Value.int u) = v_iv (n_v vs 0) := eu
  have eu3 : 0 ≤ v_iv (Value.int u) ∧ v_iv (Value.int u) ≤ 24 := tv_rng hu
  obtain ⟨c, ec, hc⟩ := iv_ex (ta := ta) (lo := 0) (hi := 25) (z := v_iv (n_v vs 7)) (by omega) (by omega) (by omega) (by omega)
  have ec2 : v_iv (Value.int c) = v_iv (n_v vs 7) := ec
  have ec3 : 0 ≤ v_iv (Value.int c) ∧ v_iv (Value.int c) ≤ 25 := tv_rng hc
  obtain ⟨d, ed, hd⟩ := iv_ex (ta := ta) (lo := (-2147483648)) (hi := 2147483647) (z := v_iv (n_v vs 1)) (by omega) (by omega) (by omega) (by omega)
  have ed2 : v_iv (Value.int d) = v_iv (n_v vs 1) := ed
  have ed3 : (-2147483648) ≤ v_iv (Value.int d) ∧ v_iv (Value.int d) ≤ 2147483647 := tv_rng hd
  have e_3 : n_v (vs ++ [n_v vs 3, n_v vs 4, Value.int u, n_v vs 6, Value.int c, Value.int d]) 3 = n_v vs 3 := n_v_old (by rw [hl]; decide)
  have e_4 : n_v (vs ++ [n_v vs 3, n_v vs 4, Value.int u, n_v vs 6, Value.int c, Value.int d]) 4 = n_v vs 4 := n_v_old (by rw [hl]; decide)
  have e_6 : n_v (vs ++ [n_v vs 3, n_v vs 4, Value.int u, n_v vs 6, Value.int c, Value.int d]) 6 = n_v vs 6 := n_v_old (by rw [hl]; decide)
  have e_7 : n_v (vs ++ [n_v vs 3, n_v vs 4, Value.int u, n_v vs 6, Value.int c, Value.int d]) 7 = n_v vs 7 := n_v_old (by rw [hl]; decide)
  have e_8 : n_v (vs ++ [n_v vs 3, n_v vs 4, Value.int u, n_v vs 6, Value.int c, Value.int d]) 8 = n_v vs 8 := n_v_old (by rw [hl]; decide)
  have e_9 : n_v (vs ++ [n_v vs 3, n_v vs 4, Value.int u, n_v vs 6, Value.int c, Value.int d]) 9 = n_v vs 9 := n_v_old (by rw [hl]; decide)
  have e_10 : n_v (vs ++ [n_v vs 3, n_v vs 4, Value.int u, n_v vs 6, Value.int c, Value.int d]) 10 = n_v vs 10 := n_v_old (by rw [hl]; decide)
  have e_13 : n_v (vs ++ [n_v vs 3, n_v vs 4, Value.int u, n_v vs 6, Value.int c, Value.int d]) 13 = n_v vs 13 := n_v_old (by rw [hl]; decide)
  have e_27 : n_v (vs ++ [n_v vs 3, n_v vs 4, Value.int u, n_v vs 6, Value.int c, Value.int d]) 27 = n_v vs 27 := n_v_old (by rw [hl]; decide)
  have e_29 : n_v (vs ++ [n_v vs 3, n_v vs 4, Value.int u, n_v vs 6, Value.int c, Value.int d]) 29 = n_v vs 29 := n_v_old (by rw [hl]; decide)
  have e_30 : n_v (vs ++ [n_v vs 3, n_v vs 4, Value.int u, n_v vs 6, Value.int c, Value.int d]) 30 = n_v vs 3 := n_v_newk (k := 0) hl rfl
  have e_31 : n_v (vs ++ [n_v vs 3, n_v vs 4, Value.int u, n_v vs 6, Value.int c, Value.int d]) 31 = n_v vs 4 := n_v_newk (k := 1) hl rfl
  have e_32 : n_v (vs ++ [n_v vs 3, n_v vs 4, Value.int u, n_v vs 6, Value.int c, Value.int d]) 32 = Value.int u := n_v_newk (k := 2) hl rfl
  have e_33 : n_v (vs ++ [n_v vs 3, n_v vs 4, Value.int u, n_v vs 6, Value.int c, Value.int d]) 33 = n_v vs 6 := n_v_newk (k := 3) hl rfl
  have e_34 : n_v (vs ++ [n_v vs 3, n_v vs 4, Value.int u, n_v vs 6, Value.int c, Value.int d]) 34 = Value.int c := n_v_newk (k := 4) hl rfl
  have e_35 : n_v (vs ++ [n_v vs 3, n_v vs 4, Value.int u, n_v vs 6, Value.int c, Value.int d]) 35 = Value.int d := n_v_newk (k := 5) hl rfl
  have nf0 : fc_1 PRD (24, [3, 30], []) ws (vs ++ [n_v vs 3, n_v vs 4, Value.int u, n_v vs 6, Value.int c, Value.int d]) := by
    refine ⟨nf_inA hl rfl, sgq_5 ?_⟩
    · show n_v (vs ++ [n_v vs 3, n_v vs 4, Value.int u, n_v vs 6, Value.int c, Value.int d]) 3 = n_v (vs ++ [n_v vs 3, n_v vs 4, Value.int u, n_v vs 6, Value.int c, Value.int d]) 30
      first | rfl | simp only [e_3, e_30, q8, q9, q10, q11, q12, q13]
  have nf1 : fc_1 PRD (24, [4, 31], []) ws (vs ++ [n_v vs 3, n_v vs 4, Value.int u, n_v vs 6, Value.int c, Value.int d]) := by
    refine ⟨nf_inA hl rfl, sgq_5 ?_⟩
    · show n_v (vs ++ [n_v vs 3, n_v vs 4, Value.int u, n_v vs 6, Value.int c, Value.int d]) 4 = n_v (vs ++ [n_v vs 3, n_v vs 4, Value.int u, n_v vs 6, Value.int c, Value.int d]) 31
      first | rfl | simp only [e_4, e_31, q8, q9, q10, q11, q12, q13]
  have nf2 : fc_1 PRD (23, [32, 8], [0, 1, -1]) ws (vs ++ [n_v vs 3, n_v vs 4, Value.int u, n_v vs 6, Value.int c, Value.int d]) := by
    refine ⟨nf_inA hl rfl, sgq_7 ?_⟩
    · show 1 * v_iv (n_v (vs ++ [n_v vs 3, n_v vs 4, Value.int u, n_v vs 6, Value.int c, Value.int d]) 32) + ((-1) * v_iv (n_v (vs ++ [n_v vs 3, n_v vs 4, Value.int u, n_v vs 6, Value.int c, Value.int d]) 8) + 0) ≤ 0
      simp only [e_8, e_32, q8]
      exact vc_Fa_uniteAt_at_Netail_Nehead_Emblock_16_2 (v_iv (n_v vs 0)) (v_iv (n_v vs 8)) (v_iv (n_v vs 15)) (v_iv (n_v vs 16)) (v_iv (n_v vs 17)) (v_iv (n_v vs 22)) (v_iv (n_v vs 25)) (v_iv (n_v vs 26)) (v_iv (n_v vs 28)) (w_ei ws (v_ad (n_v vs 5))) (w_ei ws (v_ad (n_v vs 4))) (w_ei ws (v_ad (n_v vs 3))) (v_iv (Value.int u)) k0 k8 k15 k16 k17 k22 k25 k26 k28 d0 d2 d5 h3 h7 h9 h12 h17 h19 eu2
  have nf3 : fc_1 PRD (23, [32, 8], [0, -1, 1]) ws (vs ++ [n_v vs 3, n_v vs 4, Value.int u, n_v vs 6, Value.int c, Value.int d]) := by
    refine ⟨nf_inA hl rfl, sgq_22 ?_⟩
    · show (-1) * v_iv (n_v (vs ++ [n_v vs 3, n_v vs 4, Value.int u, n_v vs 6, Value.int c, Value.int d]) 32) + (1 * v_iv (n_v (vs ++ [n_v vs 3, n_v vs 4, Value.int u, n_v vs 6, Value.int c, Value.int d]) 8) + 0) ≤ 0
      simp only [e_8, e_32, q8]
      exact vc_Fa_uniteAt_at_Netail_Nehead_Emblock_16_3 (v_iv (n_v vs 0)) (v_iv (n_v vs 8)) (v_iv (n_v vs 15)) (v_iv (n_v vs 16)) (v_iv (n_v vs 17)) (v_iv (n_v vs 22)) (v_iv (n_v vs 25)) (v_iv (n_v vs 26)) (v_iv (n_v vs 28)) (w_ei ws (v_ad (n_v vs 5))) (w_ei ws (v_ad (n_v vs 4))) (w_ei ws (v_ad (n_v vs 3))) (v_iv (Value.int u)) k0 k8 k15 k16 k17 k22 k25 k26 k28 d0 d2 d5 h3 h7 h9 h12 h17 h19 eu2
  have nf4 : fc_1 PRD (24, [6, 33], []) ws (vs ++ [n_v vs 3, n_v vs 4, Value.int u, n_v vs 6, Value.int c, Value.int d]) := by
    refine ⟨nf_inA hl rfl, sgq_5 ?_⟩
    · show n_v (vs ++ [n_v vs 3, n_v vs 4, Value.int u, n_v vs 6, Value.int c, Value.int d]) 6 = n_v (vs ++ [n_v vs 3, n_v vs 4, Value.int u, n_v vs 6, Value.int c, Value.int d]) 33
      first | rfl | simp only [e_6, e_33, q8, q9, q10, q11, q12, q13]
  have nf5 : fc_1 PRD (23, [34, 7], [0, 1, -1]) ws (vs ++ [n_v vs 3, n_v vs 4, Value.int u, n_v vs 6, Value.int c, Value.int d]) := by
    refine ⟨nf_inA hl rfl, sgq_7 ?_⟩
    · show 1 * v_iv (n_v (vs ++ [n_v vs 3, n_v vs 4, Value.int u, n_v vs 6, Value.int c, Value.int d]) 34) + ((-1) * v_iv (n_v (vs ++ [n_v vs 3, n_v vs 4, Value.int u, n_v vs 6, Value.int c, Value.int d]) 7) + 0) ≤ 0
      simp only [e_7, e_34]
      exact vc_Fa_uniteAt_at_Netail_Nehead_Emblock_16_5 (v_iv (n_v vs 7)) (v_iv (n_v vs 15)) (v_iv (n_v vs 16)) (v_iv (n_v vs 17)) (v_iv (n_v vs 22)) (v_iv (n_v vs 25)) (v_iv (n_v vs 26)) (v_iv (n_v vs 28)) (w_ei ws (v_ad (n_v vs 5))) (w_ei ws (v_ad (n_v vs 4))) (w_ei ws (v_ad (n_v vs 3))) (v_iv (Value.int c)) k7 k15 k16 k17 k22 k25 k26 k28 h3 h7 h9 h12 h17 h19 ec2
  have nf6 : fc_1 PRD (23, [34, 7], [0, -1, 1]) ws (vs ++ [n_v vs 3, n_v vs 4, Value.int u, n_v vs 6, Value.int c, Value.int d]) := by
    refine ⟨nf_inA hl rfl, sgq_22 ?_⟩
    · show (-1) * v_iv (n_v (vs ++ [n_v vs 3, n_v vs 4, Value.int u, n_v vs 6, Value.int c, Value.int d]) 34) + (1 * v_iv (n_v (vs ++ [n_v vs 3, n_v vs 4, Value.int u, n_v vs 6, Value.int c, Value.int d]) 7) + 0) ≤ 0
      simp only [e_7, e_34]
      exact vc_Fa_uniteAt_at_Netail_Nehead_Emblock_16_6 (v_iv (n_v vs 7)) (v_iv (n_v vs 15)) (v_iv (n_v vs 16)) (v_iv (n_v vs 17)) (v_iv (n_v vs 22)) (v_iv (n_v vs 25)) (v_iv (n_v vs 26)) (v_iv (n_v vs 28)) (w_ei ws (v_ad (n_v vs 5))) (w_ei ws (v_ad (n_v vs 4))) (w_ei ws (v_ad (n_v vs 3))) (v_iv (Value.int c)) k7 k15 k16 k17 k22 k25 k26 k28 h3 h7 h9 h12 h17 h19 ec2
  have nf7 : fc_1 PRD (23, [35, 9], [0, 1, -1]) ws (vs ++ [n_v vs 3, n_v vs 4, Value.int u, n_v vs 6, Value.int c, Value.int d]) := by
    refine ⟨nf_inA hl rfl, sgq_7 ?_⟩
    · show 1 * v_iv (n_v (vs ++ [n_v vs 3, n_v vs 4, Value.int u, n_v vs 6, Value.int c, Value.int d]) 35) + ((-1) * v_iv (n_v (vs ++ [n_v vs 3, n_v vs 4, Value.int u, n_v vs 6, Value.int c, Value.int d]) 9) + 0) ≤ 0
      simp only [e_9, e_35, q9]
      exact vc_Fa_uniteAt_at_Netail_Nehead_Emblock_16_7 (v_iv (n_v vs 1)) (v_iv (n_v vs 9)) (v_iv (n_v vs 15)) (v_iv (n_v vs 16)) (v_iv (n_v vs 17)) (v_iv (n_v vs 22)) (v_iv (n_v vs 25)) (v_iv (n_v vs 26)) (v_iv (n_v vs 28)) (w_ei ws (v_ad (n_v vs 5))) (w_ei ws (v_ad (n_v vs 4))) (w_ei ws (v_ad (n_v vs 3))) (v_iv (Value.int d)) k1 k9 k15 k16 k17 k22 k25 k26 k28 d3 d6 h3 h7 h9 h12 h17 h19 ed2
  have nf8 : fc_1 PRD (23, [35, 9], [0, -1, 1]) ws (vs ++ [n_v vs 3, n_v vs 4, Value.int u, n_v vs 6, Value.int c, Value.int d]) := by
    refine ⟨nf_inA hl rfl, sgq_22 ?_⟩
    · show (-1) * v_iv (n_v (vs ++ [n_v vs 3, n_v vs 4, Value.int u, n_v vs 6, Value.int c, Value.int d]) 35) + (1 * v_iv (n_v (vs ++ [n_v vs 3, n_v vs 4, Value.int u, n_v vs 6, Value.int c, Value.int d]) 9) + 0) ≤ 0
      simp only [e_9, e_35, q9]
      exact vc_Fa_uniteAt_at_Netail_Nehead_Emblock_16_8 (v_iv (n_v vs 1)) (v_iv (n_v vs 9)) (v_iv (n_v vs 15)) (v_iv (n_v vs 16)) (v_iv (n_v vs 17)) (v_iv (n_v vs 22)) (v_iv (n_v vs 25)) (v_iv (n_v vs 26)) (v_iv (n_v vs 28)) (w_ei ws (v_ad (n_v vs 5))) (w_ei ws (v_ad (n_v vs 4))) (w_ei ws (v_ad (n_v vs 3))) (v_iv (Value.int d)) k1 k9 k15 k16 k17 k22 k25 k26 k28 d3 d6 h3 h7 h9 h12 h17 h19 ed2
  have nf9 : fc_1 PRD (20, [13, 10], [61, 1, 566]) ws (vs ++ [n_v vs 3, n_v vs 4, Value.int u, n_v vs 6, Value.int c, Value.int d]) := by
    refine ⟨nf_inA hl rfl, sgq_365 ?_⟩
    · show BLQ (w_ei ws (v_ad (n_v (vs ++ [n_v vs 3, n_v vs 4, Value.int u, n_v vs 6, Value.int c, Value.int d]) 13))) (v_iv (n_v (vs ++ [n_v vs 3, n_v vs 4, Value.int u, n_v vs 6, Value.int c, Value.int d]) 10))
      simp only [e_10, e_13, q10, q13]
      exact vc_Fa_uniteAt_at_Netail_Nehead_Emblock_16_9 (v_iv (n_v vs 2)) (w_ei ws (v_ad (n_v vs 5))) k2 f21
  have nf10 : fc_1 PRD (20, [29, 27], [50, 0, 0, 2, 6, 0, 2, 0, 0, 1, 0, 0, 2, 1, 0, 1, 1]) ws (vs ++ [n_v vs 3, n_v vs 4, Value.int u, n_v vs 6, Value.int c, Value.int d]) := by
    refine ⟨nf_inA hl rfl, sgq_366 ?_⟩
    · show (0 ≤ v_iv (n_v (vs ++ [n_v vs 3, n_v vs 4, Value.int u, n_v vs 6, Value.int c, Value.int d]) 29)) ∧ (v_iv (n_v (vs ++ [n_v vs 3, n_v vs 4, Value.int u, n_v vs 6, Value.int c, Value.int d]) 29) ≤ v_iv (n_v (vs ++ [n_v vs 3, n_v vs 4, Value.int u, n_v vs 6, Value.int c, Value.int d]) 27))
      simp only [e_27, e_29]
      exact vc_Fa_uniteAt_at_Netail_Nehead_Emblock_16_10 (v_iv (n_v vs 15)) (v_iv (n_v vs 16)) (v_iv (n_v vs 17)) (v_iv (n_v vs 22)) (v_iv (n_v vs 25)) (v_iv (n_v vs 26)) (v_iv (n_v vs 27)) (v_iv (n_v vs 28)) (v_iv (n_v vs 29)) (w_ei ws (v_ad (n_v vs 5))) (w_ei ws (v_ad (n_v vs 4))) (w_ei ws (v_ad (n_v vs 3))) k15 k16 k17 k22 k25 k26 k27 k28 k29 f1 h3 f5 h7 h9 h12 h17 h19
  have nf11 : fc_1 PRD (20, [13, 30, 31, 10, 27, 29, 32], [61, 3, 581]) ws (vs ++ [n_v vs 3, n_v vs 4, Value.int u, n_v vs 6, Value.int c, Value.int d]) := by
    refine ⟨nf_inA hl rfl, sgq_367 ?_⟩
    · show RLP (w_ei ws (v_ad (n_v (vs ++ [n_v vs 3, n_v vs 4, Value.int u, n_v vs 6, Value.int c, Value.int d]) 13))) (w_ei ws (v_ad (n_v (vs ++ [n_v vs 3, n_v vs 4, Value.int u, n_v vs 6, Value.int c, Value.int d]) 30))) (w_ei ws (v_ad (n_v (vs ++ [n_v vs 3, n_v vs 4, Value.int u, n_v vs 6, Value.int c, Value.int d]) 31))) (v_iv (n_v (vs ++ [n_v vs 3, n_v vs 4, Value.int u, n_v vs 6, Value.int c, Value.int d]) 10)) (v_iv (n_v (vs ++ [n_v vs 3, n_v vs 4, Value.int u, n_v vs 6, Value.int c, Value.int d]) 27)) (v_iv (n_v (vs ++ [n_v vs 3, n_v vs 4, Value.int u, n_v vs 6, Value.int c, Value.int d]) 29)) (v_iv (n_v (vs ++ [n_v vs 3, n_v vs 4, Value.int u, n_v vs 6, Value.int c, Value.int d]) 32))
      simp only [e_10, e_13, e_27, e_29, e_30, e_31, e_32, q10, q13]
      exact vc_Fa_uniteAt_at_Netail_Nehead_Emblock_16_11 (v_iv (n_v vs 0)) (v_iv (n_v vs 2)) (v_iv (n_v vs 8)) (v_iv (n_v vs 14)) (v_iv (n_v vs 15)) (v_iv (n_v vs 16)) (v_iv (n_v vs 20)) (v_iv (n_v vs 22)) (v_iv (n_v vs 24)) (v_iv (n_v vs 25)) (v_iv (n_v vs 26)) (v_iv (n_v vs 27)) (v_iv (n_v vs 28)) (v_iv (n_v vs 29)) (w_ei ws (v_ad (n_v vs 5))) (w_ei ws (v_ad (n_v vs 4))) (w_ei ws (v_ad (n_v vs 3))) (v_iv (Value.int u)) k0 k2 k8 k14 k15 k16 k20 k22 k24 k25 k26 k27 k28 k29 d0 d2 d5 f0 f1 f2 h3 f4 f5 f6 h7 f8 h9 f10 f11 f13 h19 f20 f22 eu2
  have nf12 : fc_1 PRD (20, [13, 30, 31, 33, 34, 10, 32, 35, 27, 29], [61, 4, 590]) ws (vs ++ [n_v vs 3, n_v vs 4, Value.int u, n_v vs 6, Value.int c, Value.int d]) := by
    refine ⟨nf_inA hl rfl, sgq_368 ?_⟩
    · show QKP (w_ei ws (v_ad (n_v (vs ++ [n_v vs 3, n_v vs 4, Value.int u, n_v vs 6, Value.int c, Value.int d]) 13))) (w_ei ws (v_ad (n_v (vs ++ [n_v vs 3, n_v vs 4, Value.int u, n_v vs 6, Value.int c, Value.int d]) 30))) (w_ei ws (v_ad (n_v (vs ++ [n_v vs 3, n_v vs 4, Value.int u, n_v vs 6, Value.int c, Value.int d]) 31))) (w_ei ws (v_ad (n_v (vs ++ [n_v vs 3, n_v vs 4, Value.int u, n_v vs 6, Value.int c, Value.int d]) 33))) (v_iv (n_v (vs ++ [n_v vs 3, n_v vs 4, Value.int u, n_v vs 6, Value.int c, Value.int d]) 34)) (v_iv (n_v (vs ++ [n_v vs 3, n_v vs 4, Value.int u, n_v vs 6, Value.int c, Value.int d]) 10)) (v_iv (n_v (vs ++ [n_v vs 3, n_v vs 4, Value.int u, n_v vs 6, Value.int c, Value.int d]) 32)) (v_iv (n_v (vs ++ [n_v vs 3, n_v vs 4, Value.int u, n_v vs 6, Value.int c, Value.int d]) 35)) (v_iv (n_v (vs ++ [n_v vs 3, n_v vs 4, Value.int u, n_v vs 6, Value.int c, Value.int d]) 27)) (v_iv (n_v (vs ++ [n_v vs 3, n_v vs 4, Value.int u, n_v vs 6, Value.int c, Value.int d]) 29))
      simp only [e_10, e_13, e_27, e_29, e_30, e_31, e_32, e_33, e_34, e_35, q10, q13]
      exact vc_Fa_uniteAt_at_Netail_Nehead_Emblock_16_12 (v_iv (n_v vs 0)) (v_iv (n_v vs 1)) (v_iv (n_v vs 2)) (v_iv (n_v vs 7)) (v_iv (n_v vs 8)) (v_iv (n_v vs 14)) (v_iv (n_v vs 15)) (v_iv (n_v vs 16)) (v_iv (n_v vs 17)) (v_iv (n_v vs 18)) (v_iv (n_v vs 19)) (v_iv (n_v vs 20)) (v_iv (n_v vs 22)) (v_iv (n_v vs 24)) (v_iv (n_v vs 25)) (v_iv (n_v vs 26)) (v_iv (n_v vs 27)) (v_iv (n_v vs 28)) (v_iv (n_v vs 29)) (w_ei ws (v_ad (n_v vs 5))) (w_ei ws (v_ad (n_v vs 4))) (w_ei ws (v_ad (n_v vs 3))) (w_ei ws (v_ad (n_v vs 6))) (v_iv (Value.int u)) (v_iv (Value.int c)) (v_iv (Value.int d)) k0 k1 k2 k7 k8 k14 k15 k16 k17 k18 k19 k20 k22 k24 k25 k26 k27 k28 k29 d0 d2 d5 f0 f1 f2 h3 f4 f5 f6 h7 f8 h9 f10 f11 f13 f15 f16 h17 h19 f20 f23 eu2 ec2 ed2
  have nf13 : fc_1 PRD (20, [32, 8], [50, 0, 0, 1, 2, 1, 0, 1, 1]) ws (vs ++ [n_v vs 3, n_v vs 4, Value.int u, n_v vs 6, Value.int c, Value.int d]) := by
    refine ⟨nf_inA hl rfl, sgq_48 ?_⟩
    · show v_iv (n_v (vs ++ [n_v vs 3, n_v vs 4, Value.int u, n_v vs 6, Value.int c, Value.int d]) 32) = v_iv (n_v (vs ++ [n_v vs 3, n_v vs 4, Value.int u, n_v vs 6, Value.int c, Value.int d]) 8)
      simp only [e_8, e_32, q8]
      exact vc_Fa_uniteAt_at_Netail_Nehead_Emblock_16_13 (v_iv (n_v vs 0)) (v_iv (n_v vs 15)) (v_iv (n_v vs 16)) (v_iv (n_v vs 17)) (v_iv (n_v vs 22)) (v_iv (n_v vs 25)) (v_iv (n_v vs 26)) (v_iv (n_v vs 28)) (w_ei ws (v_ad (n_v vs 5))) (w_ei ws (v_ad (n_v vs 4))) (w_ei ws (v_ad (n_v vs 3))) (v_iv (Value.int u)) k0 k15 k16 k17 k22 k25 k26 k28 h3 h7 h9 h12 h17 h19 eu2
  have nf14 : fc_1 PRD (20, [29], [50, 0, 0, 0, 2, 0, 0, 1, 0]) ws (vs ++ [n_v vs 3, n_v vs 4, Value.int u, n_v vs 6, Value.int c, Value.int d]) := by
    refine ⟨nf_inA hl rfl, sgq_722 ?_⟩
    · show 0 ≤ v_iv (n_v (vs ++ [n_v vs 3, n_v vs 4, Value.int u, n_v vs 6, Value.int c, Value.int d]) 29)
      rw [e_29]
      exact vc_Fa_uniteAt_at_Netail_Nehead_Emblock_16_14 (v_iv (n_v vs 15)) (v_iv (n_v vs 16)) (v_iv (n_v vs 17)) (v_iv (n_v vs 22)) (v_iv (n_v vs 25)) (v_iv (n_v vs 26)) (v_iv (n_v vs 28)) (v_iv (n_v vs 29)) (w_ei ws (v_ad (n_v vs 5))) (w_ei ws (v_ad (n_v vs 4))) (w_ei ws (v_ad (n_v vs 3))) k15 k16 k17 k22 k25 k26 k28 k29 h3 h7 h9 h12 h17 h19
  have nf15 : fc_1 PRD (20, [34, 7], [50, 0, 0, 1, 2, 1, 0, 1, 1]) ws (vs ++ [n_v vs 3, n_v vs 4, Value.int u, n_v vs 6, Value.int c, Value.int d]) := by
    refine ⟨nf_inA hl rfl, sgq_48 ?_⟩
    · show v_iv (n_v (vs ++ [n_v vs 3, n_v vs 4, Value.int u, n_v vs 6, Value.int c, Value.int d]) 34) = v_iv (n_v (vs ++ [n_v vs 3, n_v vs 4, Value.int u, n_v vs 6, Value.int c, Value.int d]) 7)
      simp only [e_7, e_34]
      exact vc_Fa_uniteAt_at_Netail_Nehead_Emblock_16_15 (v_iv (n_v vs 7)) (v_iv (n_v vs 15)) (v_iv (n_v vs 16)) (v_iv (n_v vs 17)) (v_iv (n_v vs 22)) (v_iv (n_v vs 25)) (v_iv (n_v vs 26)) (v_iv (n_v vs 28)) (w_ei ws (v_ad (n_v vs 5))) (w_ei ws (v_ad (n_v vs 4))) (w_ei ws (v_ad (n_v vs 3))) (v_iv (Value.int c)) k7 k15 k16 k17 k22 k25 k26 k28 h3 h7 h9 h12 h17 h19 ec2
  have nf16 : fc_1 PRD (20, [35, 9], [50, 0, 0, 1, 2, 1, 0, 1, 1]) ws (vs ++ [n_v vs 3, n_v vs 4, Value.int u, n_v vs 6, Value.int c, Value.int d]) := by
    refine ⟨nf_inA hl rfl, sgq_48 ?_⟩
    · show v_iv (n_v (vs ++ [n_v vs 3, n_v vs 4, Value.int u, n_v vs 6, Value.int c, Value.int d]) 35) = v_iv (n_v (vs ++ [n_v vs 3, n_v vs 4, Value.int u, n_v vs 6, Value.int c, Value.int d]) 9)
      simp only [e_9, e_35, q9]
      exact vc_Fa_uniteAt_at_Netail_Nehead_Emblock_16_16 (v_iv (n_v vs 1)) (v_iv (n_v vs 15)) (v_iv (n_v vs 16)) (v_iv (n_v vs 17)) (v_iv (n_v vs 22)) (v_iv (n_v vs 25)) (v_iv (n_v vs 26)) (v_iv (n_v vs 28)) (w_ei ws (v_ad (n_v vs 5))) (w_ei ws (v_ad (n_v vs 4))) (w_ei ws (v_ad (n_v vs 3))) (v_iv (Value.int d)) k1 k15 k16 k17 k22 k25 k26 k28 h3 h7 h9 h12 h17 h19 ed2
  exact ⟨(fun _ h => (by cases h)), [n_v vs 3, n_v vs 4, Value.int u, n_v vs 6, Value.int c, Value.int d], ag_six t3 t4 hu t6 hc hd, List.forall_mem_cons.mpr ⟨⟨show (24 : Nat) < 100 from by decide, nf0⟩, List.forall_mem_cons.mpr ⟨⟨show (24 : Nat) < 100 from by decide, nf1⟩, List.forall_mem_cons.mpr ⟨⟨show (23 : Nat) < 100 from by decide, nf2⟩, List.forall_mem_cons.mpr ⟨⟨show (23 : Nat) < 100 from by decide, nf3⟩, List.forall_mem_cons.mpr ⟨⟨show (24 : Nat) < 100 from by decide, nf4⟩, List.forall_mem_cons.mpr ⟨⟨show (23 : Nat) < 100 from by decide, nf5⟩, List.forall_mem_cons.mpr ⟨⟨show (23 : Nat) < 100 from by decide, nf6⟩, List.forall_mem_cons.mpr ⟨⟨show (23 : Nat) < 100 from by decide, nf7⟩, List.forall_mem_cons.mpr ⟨⟨show (23 : Nat) < 100 from by decide, nf8⟩, List.forall_mem_cons.mpr ⟨⟨show (20 : Nat) < 100 from by decide, nf9⟩, List.forall_mem_cons.mpr ⟨⟨show (20 : Nat) < 100 from by decide, nf10⟩, List.forall_mem_cons.mpr ⟨⟨show (20 : Nat) < 100 from by decide, nf11⟩, List.forall_mem_cons.mpr ⟨⟨show (20 : Nat) < 100 from by decide, nf12⟩, List.forall_mem_cons.mpr ⟨⟨show (20 : Nat) < 100 from by decide, nf13⟩, List.forall_mem_cons.mpr ⟨⟨show (20 : Nat) < 100 from by decide, nf14⟩, List.forall_mem_cons.mpr ⟨⟨show (20 : Nat) < 100 from by decide, nf15⟩, List.forall_mem_cons.mpr ⟨⟨show (20 : Nat) < 100 from by decide, nf16⟩, (fun _ h => (by cases h))⟩⟩⟩⟩⟩⟩⟩⟩⟩⟩⟩⟩⟩⟩⟩⟩⟩, (fun _ h => (by cases h))⟩
