set_option maxHeartbeats 4000000 in
theorem vc_Mo_draws_15_0 (x1 : Int) (x4 : Int) (x7 : Int) (x11 : Int) (x13 : Int) (x14 : Int) (x15 : Int) (pt_0 : Int → Int) (ph_0 : Int → Int) (pn_0 : Int) (pm_0 : Int) (alive_0 : Int → Int) (blockOf_0 : Int → Int) (onlyPiece_0 : Int) (faces_0 : Int) (drawnNode_0 : Int → Int) (blockOf_1 : Int → Int) (alive_1 : Int → Int) (pm_1 : Int) (pt_1 : Int → Int) (ph_1 : Int → Int) (pn_1 : Int) (onlyPiece_1 : Int) (faces_1 : Int) (drawnNode_1 : Int → Int) (drawnEdge_1 : Int → Int) (drawnEdge_0 : Int → Int) (k1 : 0 ≤ x1 ∧ x1 ≤ 79) (k4 : 0 ≤ x4 ∧ x4 ≤ 79) (k7 : 0 ≤ x7 ∧ x7 ≤ 79) (k11 : 1 ≤ x11 ∧ x11 ≤ 1) (k13 : 0 ≤ x13 ∧ x13 ≤ 79) (k14 : 0 ≤ x14 ∧ x14 ≤ 0) (k15 : 1 ≤ x15 ∧ x15 ≤ 80) (d0 : x7 + 1 ≤ x15 ∧ x15 ≤ x7 + 1) (d2 : x4 + 0 ≤ x13 ∧ x13 ≤ x4 + 0) (d4 : x4 + (-4294967296) ≤ x1 ∧ x1 ≤ x4 + 0) (d5 : x1 + (-4294967296) ≤ x4 ∧ x4 ≤ x1 + 0) (h12 : x13 = blockOf_1 (x7)) (h15 : x11 = alive_1 (x7)) (f27 : D3 (alive_1) (blockOf_1) (drawnEdge_1) (x1) (x7)) (fe_0_31_1 : pn_0 = pn_1) (fe_0_32_1 : pm_0 = pm_1) (fe_0_39_1 : faces_0 = faces_1) (fe_0_49_1 : onlyPiece_0 = onlyPiece_1) (hE_0_17_1 : ∀ j : Int, blockOf_0 j = blockOf_1 j) (hE_0_33_1 : ∀ j : Int, pt_0 j = pt_1 j) (hE_0_34_1 : ∀ j : Int, ph_0 j = ph_1 j) (hE_0_35_1 : ∀ j : Int, alive_0 j = alive_1 j) (hK_0_35 : ∀ j : Int, 0 ≤ j → j < 80 → 0 ≤ alive_0 j ∧ alive_0 j ≤ 1) (hE_0_42_1 : ∀ j : Int, drawnNode_0 j = drawnNode_1 j) (hE_0_43_1 : ∀ j : Int, 0 ≤ j → (j = x7 → drawnEdge_0 j = x14) ∧ (j ≠ x7 → drawnEdge_0 j = drawnEdge_1 j)) (kz_0_31 : 0 ≤ pn_0 ∧ pn_0 ≤ 25) (kz_0_32 : 0 ≤ pm_0 ∧ pm_0 ≤ 80) (kz_0_39 : 0 ≤ faces_0 ∧ faces_0 ≤ 120) (kz_0_49 : (-1) ≤ onlyPiece_0 ∧ onlyPiece_0 ≤ 79) : D3 (alive_0) (blockOf_0) (drawnEdge_0) (x1) (x15) := by
  subst fe_0_31_1
  subst fe_0_32_1
  subst fe_0_39_1
  subst fe_0_49_1
  have e_hE_0_17_1 := funext hE_0_17_1; subst e_hE_0_17_1
  have e_hE_0_33_1 := funext hE_0_33_1; subst e_hE_0_33_1
  have e_hE_0_34_1 := funext hE_0_34_1; subst e_hE_0_34_1
  have e_hE_0_35_1 := funext hE_0_35_1; subst e_hE_0_35_1
  have e_hE_0_42_1 := funext hE_0_42_1; subst e_hE_0_42_1
  first
    | (intro e a b; exfalso; omega)
    | (have h := ‹D3 _ _ _ _ _›
       intro e a b
       by_cases q : e = x7
       · have v := (hE_0_43_1 e a).1 q
         rw [q] at v ⊢
         first
           | exact ⟨fun _ => ⟨by have := hK_0_35 x7 (by omega) (by omega); omega, by omega⟩, fun _ => by omega⟩
           | exact ⟨fun z => by exfalso; omega, fun z => by exfalso; have := z.1; have := z.2; omega⟩
       · rw [(hE_0_43_1 e a).2 q]; exact h e a (by omega))
def o_Mo_draws_15 : or_T := (87, 16, [(0, (2, 0, 0, [165])), (1, (0, 0, 79, [])), (2, (0, 0, 80, [])), (3, (2, 0, 0, [165])), (4, (0, 0, 79, [])), (5, (0, -1, 79, [])), (6, (0, 0, 81, [])), (7, (0, 0, 79, [])), (8, (0, 1, 80, [])), (9, (2, 0, 0, [189])), (10, (2, 0, 0, [182])), (11, (0, 1, 1, [])), (12, (2, 0, 0, [172])), (13, (0, 0, 79, [])), (14, (0, 0, 0, [])), (15, (0, 1, 80, []))], [(6, [15, 7], [1]), (20, [3], [60, 2, 2, 75, 31, 32, 33, 34]), (20, [3, 2], [60, 1, 4, 97, 32, 33, 34, 35, 17]), (23, [4, 2], [-1, 1, -1]), (20, [3], [50, 1, 0, 49, 1, 3, 2, 0, 49, 0, -1]), (20, [3], [50, 1, 0, 39, 1, 3, 2, 0, 39, 0, 0]), (20, [3, 4, 5, 6], [60, 1, 2, 158, 32, 35, 17]), (20, [3], [60, 1, 1, 160, 31, 42]), (24, [0, 3], []), (24, [1, 4], []), (100, [9, 7, 14], []), (7, [13, 4], [0]), (10, [13, 12, 7], []), (9, [12, 3], [17]), (8, [11], [1]), (10, [11, 10, 7], []), (9, [10, 3], [35]), (9, [9, 3], [43]), (7, [7, 8], [2]), (9, [8, 3], [32]), (20, [3], [60, 2, 2, 75, 31, 32, 33, 34]), (20, [3, 2], [60, 1, 4, 97, 32, 33, 34, 35, 17]), (23, [4, 2], [-1, 1, -1]), (20, [3], [50, 1, 0, 49, 1, 3, 2, 0, 49, 0, -1]), (20, [3], [50, 1, 0, 39, 1, 3, 2, 0, 39, 0, 0]), (20, [3, 4, 5, 6], [60, 1, 2, 158, 32, 35, 17]), (20, [3], [60, 1, 1, 160, 31, 42]), (20, [3, 4, 7], [60, 0, 3, 161, 35, 17, 43])], [], [], [(20, [3, 4, 15], [60, 0, 3, 161, 35, 17, 43])], [], [(15, 7, 1, 1), (15, 8, -4294967296, 0), (13, 4, 0, 0), (7, 8, -4294967296, -1), (1, 4, -4294967296, 0), (4, 1, -4294967296, 0)])
theorem oo_Mo_draws_15 {kA : Nat → ClassId} : or_ok PRD kA GG o_Mo_draws_15 := by
  refine or_mk fun A ta ws vs hD hth hl => ?_
  intro t0 r0 t1 k1 t2 k2 t3 r3 t4 k4 t5 k5 t6 k6 t7 k7 t8 k8 t9 r9 t10 r10 t11 k11 t12 r12 t13 k13 t14 k14 t15 k15 d0 d1 d2 d3 d4 d5 f0 f1 f2 f3 f4 f5 f6 f7 f8 f9 ta1 w1 le1 s1 f11 f12 f13 f14 f15 f16 f17 f18 f19 f20 f21 f22 f23 f24 f25 f26 f27
  replace f8 := shm_5 f8
  replace f9 := shm_5 f9
  have s1 : (∀ b j, w_el ws b j = if b = v_ad (n_v vs 9) ∧ j = (v_iv (n_v vs 7)).toNat then v_iv (n_v vs 14) else w_el w1 b j) ∧ ∀ b k, w_fd ws b k = w_fd w1 b k := s1.2
  replace f12 := shm_106 f12
  replace f13 := shm_781 f13
  replace f15 := shm_106 f15
  replace f16 := shm_505 f16
  replace f17 := shm_526 f17
  replace f27 := shm_1873 f27
  have q3 : n_v vs 3 = n_v vs 0 := f8.symm
  have q4 : n_v vs 4 = n_v vs 1 := f9.symm
  simp only [q3, q4] at f13 f16 f17 f27
  have ar_0_17_1 : w_ar w1 (n_v vs 0) 17 = w_ar ws (n_v vs 0) 17 := congrArg v_ad (s1.2 _ _).symm
  have cr_0_17 := fdq_187 hD hth r0
  have ar_0_33_1 : w_ar w1 (n_v vs 0) 33 = w_ar ws (n_v vs 0) 33 := congrArg v_ad (s1.2 _ _).symm
  have cr_0_33 := fdq_116 hD hth r0
  have ar_0_34_1 : w_ar w1 (n_v vs 0) 34 = w_ar ws (n_v vs 0) 34 := congrArg v_ad (s1.2 _ _).symm
  have cr_0_34 := fdq_117 hD hth r0
  have ar_0_35_1 : w_ar w1 (n_v vs 0) 35 = w_ar ws (n_v vs 0) 35 := congrArg v_ad (s1.2 _ _).symm
  have cr_0_35 := fdq_131 hD hth r0
  have ar_0_42_1 : w_ar w1 (n_v vs 0) 42 = w_ar ws (n_v vs 0) 42 := congrArg v_ad (s1.2 _ _).symm
  have cr_0_42 := fdq_135 hD hth r0
  have ar_0_43_1 : w_ar w1 (n_v vs 0) 43 = w_ar ws (n_v vs 0) 43 := congrArg v_ad (s1.2 _ _).symm
  have ad_12 : v_ad (n_v vs 12) = w_ar ws (n_v vs 0) 17 := (congrArg v_ad f13).trans ar_0_17_1
  have ad_10 : v_ad (n_v vs 10) = w_ar ws (n_v vs 0) 35 := (congrArg v_ad f16).trans ar_0_35_1
  have ad_9 : v_ad (n_v vs 9) = w_ar ws (n_v vs 0) 43 := (congrArg v_ad f17).trans ar_0_43_1
  simp only [ad_12] at f12
  have h12 : v_iv (n_v vs 13) = w_ei w1 (w_ar ws (n_v vs 0) 17) (v_iv (n_v vs 7)) := f12
  simp only [ad_10] at f15
  have h15 : v_iv (n_v vs 11) = w_ei w1 (w_ar ws (n_v vs 0) 35) (v_iv (n_v vs 7)) := f15
  simp only [ar_0_33_1, ar_0_34_1, ar_0_17_1, ar_0_35_1, ar_0_42_1, ar_0_43_1] at f27
  have fe_0_31_1 : w_fi ws (n_v vs 0) 31 = w_fi w1 (n_v vs 0) 31 := congrArg v_iv (s1.2 _ _)
  have fe_0_32_1 : w_fi ws (n_v vs 0) 32 = w_fi w1 (n_v vs 0) 32 := congrArg v_iv (s1.2 _ _)
  have fe_0_39_1 : w_fi ws (n_v vs 0) 39 = w_fi w1 (n_v vs 0) 39 := congrArg v_iv (s1.2 _ _)
  have fe_0_49_1 : w_fi ws (n_v vs 0) 49 = w_fi w1 (n_v vs 0) 49 := congrArg v_iv (s1.2 _ _)
  have hE_0_17_1 : ∀ j : Int, w_ei ws (w_ar ws (n_v vs 0) 17) j = w_ei w1 (w_ar ws (n_v vs 0) 17) j := el_kp s1.1 r9 cr_0_17 (by decide)
  have hE_0_33_1 : ∀ j : Int, w_ei ws (w_ar ws (n_v vs 0) 33) j = w_ei w1 (w_ar ws (n_v vs 0) 33) j := el_kp s1.1 r9 cr_0_33 (by decide)
  have hE_0_34_1 : ∀ j : Int, w_ei ws (w_ar ws (n_v vs 0) 34) j = w_ei w1 (w_ar ws (n_v vs 0) 34) j := el_kp s1.1 r9 cr_0_34 (by decide)
  have hE_0_35_1 : ∀ j : Int, w_ei ws (w_ar ws (n_v vs 0) 35) j = w_ei w1 (w_ar ws (n_v vs 0) 35) j := el_kp s1.1 r9 cr_0_35 (by decide)
  have hK_0_35 := elq_69 hD hth cr_0_35
  have hE_0_42_1 : ∀ j : Int, w_ei ws (w_ar ws (n_v vs 0) 42) j = w_ei w1 (w_ar ws (n_v vs 0) 42) j := el_kp s1.1 r9 cr_0_42 (by decide)
  have hE_0_43_1 : ∀ j : Int, 0 ≤ j → (j = v_iv (n_v vs 7) → w_ei ws (w_ar ws (n_v vs 0) 43) j = v_iv (n_v vs 14)) ∧ (j ≠ v_iv (n_v vs 7) → w_ei ws (w_ar ws (n_v vs 0) 43) j = w_ei w1 (w_ar ws (n_v vs 0) 43) j) := fun j hj => ⟨fun h => by unfold w_ei; rw [s1.1, if_pos ⟨ad_9.symm, by rw [h]⟩], fun h => by unfold w_ei; rw [s1.1, if_neg (fun e => h (by have := e.2; omega))]⟩
  have kz_0_31 := fdq_144 hD hth r0
  have kz_0_32 := fdq_139 hD hth r0
  have kz_0_39 := fdq_134 hD hth r0
  have kz_0_49 := fdq_145 hD hth r0
  have nf0 : fc_1 PRD (20, [3, 4, 15], [60, 0, 3, 161, 35, 17, 43]) ws (vs) := by
    refine ⟨nf_in hl rfl, sgq_1873 ?_⟩
    · show D3 (w_ei ws (w_ar ws (n_v vs 3) 35)) (w_ei ws (w_ar ws (n_v vs 3) 17)) (w_ei ws (w_ar ws (n_v vs 3) 43)) (v_iv (n_v vs 4)) (v_iv (n_v vs 15))
      simp only [q3, q4]
      exact vc_Mo_draws_15_0 (v_iv (n_v vs 1)) (v_iv (n_v vs 4)) (v_iv (n_v vs 7)) (v_iv (n_v vs 11)) (v_iv (n_v vs 13)) (v_iv (n_v vs 14)) (v_iv (n_v vs 15)) (w_ei ws (w_ar ws (n_v vs 0) 33)) (w_ei ws (w_ar ws (n_v vs 0) 34)) (w_fi ws (n_v vs 0) 31) (w_fi ws (n_v vs 0) 32) (w_ei ws (w_ar ws (n_v vs 0) 35)) (w_ei ws (w_ar ws (n_v vs 0) 17)) (w_fi ws (n_v vs 0) 49) (w_fi ws (n_v vs 0) 39) (w_ei ws (w_ar ws (n_v vs 0) 42)) (w_ei w1 (w_ar ws (n_v vs 0) 17)) (w_ei w1 (w_ar ws (n_v vs 0) 35)) (w_fi w1 (n_v vs 0) 32) (w_ei w1 (w_ar ws (n_v vs 0) 33)) (w_ei w1 (w_ar ws (n_v vs 0) 34)) (w_fi w1 (n_v vs 0) 31) (w_fi w1 (n_v vs 0) 49) (w_fi w1 (n_v vs 0) 39) (w_ei w1 (w_ar ws (n_v vs 0) 42)) (w_ei w1 (w_ar ws (n_v vs 0) 43)) (w_ei ws (w_ar ws (n_v vs 0) 43)) k1 k4 k7 k11 k13 k14 k15 d0 d2 d4 d5 h12 h15 f27 fe_0_31_1 fe_0_32_1 fe_0_39_1 fe_0_49_1 hE_0_17_1 hE_0_33_1 hE_0_34_1 hE_0_35_1 hK_0_35 hE_0_42_1 hE_0_43_1 kz_0_31 kz_0_32 kz_0_39 kz_0_49
  refine ⟨(fun _ h => (by cases h)), [], trivial, ?_, (fun _ h => (by cases h))⟩
  rw [List.append_nil]
  exact List.forall_mem_cons.mpr ⟨⟨show (20 : Nat) < 100 from by decide, nf0⟩, (fun _ h => (by cases h))⟩
set_option maxHeartbeats 4000000 in
theorem vc_Mo_draws_16_0 (x1 : Int) (x4 : Int) (x7 : Int) (x11 : Int) (x13 : Int) (x14 : Int) (x15 : Int) (pt_0 : Int → Int) (ph_0 : Int → Int) (pn_0 : Int) (pm_0 : Int) (alive_0 : Int → Int) (blockOf_0 : Int → Int) (onlyPiece_0 : Int) (faces_0 : Int) (drawnNode_0 : Int → Int) (blockOf_1 : Int → Int) (alive_1 : Int → Int) (pm_1 : Int) (pt_1 : Int → Int) (ph_1 : Int → Int) (pn_1 : Int) (onlyPiece_1 : Int) (faces_1 : Int) (drawnNode_1 : Int → Int) (drawnEdge_1 : Int → Int) (drawnEdge_0 : Int → Int) (k1 : 0 ≤ x1 ∧ x1 ≤ 79) (k4 : 0 ≤ x4 ∧ x4 ≤ 79) (k7 : 0 ≤ x7 ∧ x7 ≤ 79) (k11 : 1 ≤ x11 ∧ x11 ≤ 1) (k13 : (-1) ≤ x13 ∧ x13 ≤ 79) (k14 : 1 ≤ x14 ∧ x14 ≤ 1) (k15 : 1 ≤ x15 ∧ x15 ≤ 80) (d0 : x7 + 1 ≤ x15 ∧ x15 ≤ x7 + 1) (d3 : x4 + (-4294967296) ≤ x1 ∧ x1 ≤ x4 + 0) (d4 : x1 + (-4294967296) ≤ x4 ∧ x4 ≤ x1 + 0) (f11 : x13 ≠ x1) (h12 : x13 = blockOf_1 (x7)) (f14 : x11 ≠ 0) (f27 : D3 (alive_1) (blockOf_1) (drawnEdge_1) (x1) (x7)) (fe_0_31_1 : pn_0 = pn_1) (fe_0_32_1 : pm_0 = pm_1) (fe_0_39_1 : faces_0 = faces_1) (fe_0_49_1 : onlyPiece_0 = onlyPiece_1) (hE_0_17_1 : ∀ j : Int, blockOf_0 j = blockOf_1 j) (hE_0_33_1 : ∀ j : Int, pt_0 j = pt_1 j) (hE_0_34_1 : ∀ j : Int, ph_0 j = ph_1 j) (hE_0_35_1 : ∀ j : Int, alive_0 j = alive_1 j) (hK_0_35 : ∀ j : Int, 0 ≤ j → j < 80 → 0 ≤ alive_0 j ∧ alive_0 j ≤ 1) (hE_0_42_1 : ∀ j : Int, drawnNode_0 j = drawnNode_1 j) (hE_0_43_1 : ∀ j : Int, 0 ≤ j → (j = x7 → drawnEdge_0 j = x14) ∧ (j ≠ x7 → drawnEdge_0 j = drawnEdge_1 j)) (kz_0_31 : 0 ≤ pn_0 ∧ pn_0 ≤ 25) (kz_0_32 : 0 ≤ pm_0 ∧ pm_0 ≤ 80) (kz_0_39 : 0 ≤ faces_0 ∧ faces_0 ≤ 120) (kz_0_49 : (-1) ≤ onlyPiece_0 ∧ onlyPiece_0 ≤ 79) : D3 (alive_0) (blockOf_0) (drawnEdge_0) (x1) (x15) := by
  subst fe_0_31_1
  subst fe_0_32_1
  subst fe_0_39_1
  subst fe_0_49_1
  have e_hE_0_17_1 := funext hE_0_17_1; subst e_hE_0_17_1
  have e_hE_0_33_1 := funext hE_0_33_1; subst e_hE_0_33_1
  have e_hE_0_34_1 := funext hE_0_34_1; subst e_hE_0_34_1
  have e_hE_0_35_1 := funext hE_0_35_1; subst e_hE_0_35_1
  have e_hE_0_42_1 := funext hE_0_42_1; subst e_hE_0_42_1
  first
    | (intro e a b; exfalso; omega)
    | (have h := ‹D3 _ _ _ _ _›
       intro e a b
       by_cases q : e = x7
       · have v := (hE_0_43_1 e a).1 q
         rw [q] at v ⊢
         first
           | exact ⟨fun _ => ⟨by have := hK_0_35 x7 (by omega) (by omega); omega, by omega⟩, fun _ => by omega⟩
           | exact ⟨fun z => by exfalso; omega, fun z => by exfalso; have := z.1; have := z.2; omega⟩
       · rw [(hE_0_43_1 e a).2 q]; exact h e a (by omega))
def o_Mo_draws_16 : or_T := (87, 16, [(0, (2, 0, 0, [165])), (1, (0, 0, 79, [])), (2, (0, 0, 80, [])), (3, (2, 0, 0, [165])), (4, (0, 0, 79, [])), (5, (0, -1, 79, [])), (6, (0, 0, 81, [])), (7, (0, 0, 79, [])), (8, (0, 1, 80, [])), (9, (2, 0, 0, [189])), (10, (2, 0, 0, [182])), (11, (0, 1, 1, [])), (12, (2, 0, 0, [172])), (13, (0, -1, 79, [])), (14, (0, 1, 1, [])), (15, (0, 1, 80, []))], [(6, [15, 7], [1]), (20, [3], [60, 2, 2, 75, 31, 32, 33, 34]), (20, [3, 2], [60, 1, 4, 97, 32, 33, 34, 35, 17]), (23, [4, 2], [-1, 1, -1]), (20, [3], [50, 1, 0, 49, 1, 3, 2, 0, 49, 0, -1]), (20, [3], [50, 1, 0, 39, 1, 3, 2, 0, 39, 0, 0]), (20, [3, 4, 5, 6], [60, 1, 2, 158, 32, 35, 17]), (20, [3], [60, 1, 1, 160, 31, 42]), (24, [0, 3], []), (24, [1, 4], []), (100, [9, 7, 14], []), (7, [13, 4], [1]), (10, [13, 12, 7], []), (9, [12, 3], [17]), (8, [11], [1]), (10, [11, 10, 7], []), (9, [10, 3], [35]), (9, [9, 3], [43]), (7, [7, 8], [2]), (9, [8, 3], [32]), (20, [3], [60, 2, 2, 75, 31, 32, 33, 34]), (20, [3, 2], [60, 1, 4, 97, 32, 33, 34, 35, 17]), (23, [4, 2], [-1, 1, -1]), (20, [3], [50, 1, 0, 49, 1, 3, 2, 0, 49, 0, -1]), (20, [3], [50, 1, 0, 39, 1, 3, 2, 0, 39, 0, 0]), (20, [3, 4, 5, 6], [60, 1, 2, 158, 32, 35, 17]), (20, [3], [60, 1, 1, 160, 31, 42]), (20, [3, 4, 7], [60, 0, 3, 161, 35, 17, 43])], [], [], [(20, [3, 4, 15], [60, 0, 3, 161, 35, 17, 43])], [], [(15, 7, 1, 1), (15, 8, -4294967296, 0), (7, 8, -4294967296, -1), (1, 4, -4294967296, 0), (4, 1, -4294967296, 0)])
theorem oo_Mo_draws_16 {kA : Nat → ClassId} : or_ok PRD kA GG o_Mo_draws_16 := by
  refine or_mk fun A ta ws vs hD hth hl => ?_
  intro t0 r0 t1 k1 t2 k2 t3 r3 t4 k4 t5 k5 t6 k6 t7 k7 t8 k8 t9 r9 t10 r10 t11 k11 t12 r12 t13 k13 t14 k14 t15 k15 d0 d1 d2 d3 d4 f0 f1 f2 f3 f4 f5 f6 f7 f8 f9 ta1 w1 le1 s1 f11 f12 f13 f14 f15 f16 f17 f18 f19 f20 f21 f22 f23 f24 f25 f26 f27
  replace f8 := shm_5 f8
  replace f9 := shm_5 f9
  have s1 : (∀ b j, w_el ws b j = if b = v_ad (n_v vs 9) ∧ j = (v_iv (n_v vs 7)).toNat then v_iv (n_v vs 14) else w_el w1 b j) ∧ ∀ b k, w_fd ws b k = w_fd w1 b k := s1.2
  replace f11 := shm_40 f11
  replace f12 := shm_106 f12
  replace f13 := shm_781 f13
  replace f14 := shm_154 f14
  replace f17 := shm_526 f17
  replace f27 := shm_1873 f27
  have q3 : n_v vs 3 = n_v vs 0 := f8.symm
  have q4 : n_v vs 4 = n_v vs 1 := f9.symm
  simp only [q3, q4] at f11 f13 f17 f27
  have ar_0_17_1 : w_ar w1 (n_v vs 0) 17 = w_ar ws (n_v vs 0) 17 := congrArg v_ad (s1.2 _ _).symm
  have cr_0_17 := fdq_187 hD hth r0
  have ar_0_33_1 : w_ar w1 (n_v vs 0) 33 = w_ar ws (n_v vs 0) 33 := congrArg v_ad (s1.2 _ _).symm
  have cr_0_33 := fdq_116 hD hth r0
  have ar_0_34_1 : w_ar w1 (n_v vs 0) 34 = w_ar ws (n_v vs 0) 34 := congrArg v_ad (s1.2 _ _).symm
  have cr_0_34 := fdq_117 hD hth r0
  have ar_0_35_1 : w_ar w1 (n_v vs 0) 35 = w_ar ws (n_v vs 0) 35 := congrArg v_ad (s1.2 _ _).symm
  have cr_0_35 := fdq_131 hD hth r0
  have ar_0_42_1 : w_ar w1 (n_v vs 0) 42 = w_ar ws (n_v vs 0) 42 := congrArg v_ad (s1.2 _ _).symm
  have cr_0_42 := fdq_135 hD hth r0
  have ar_0_43_1 : w_ar w1 (n_v vs 0) 43 = w_ar ws (n_v vs 0) 43 := congrArg v_ad (s1.2 _ _).symm
  have ad_12 : v_ad (n_v vs 12) = w_ar ws (n_v vs 0) 17 := (congrArg v_ad f13).trans ar_0_17_1
  have ad_9 : v_ad (n_v vs 9) = w_ar ws (n_v vs 0) 43 := (congrArg v_ad f17).trans ar_0_43_1
  simp only [ad_12] at f12
  have h12 : v_iv (n_v vs 13) = w_ei w1 (w_ar ws (n_v vs 0) 17) (v_iv (n_v vs 7)) := f12
  simp only [ar_0_33_1, ar_0_34_1, ar_0_17_1, ar_0_35_1, ar_0_42_1, ar_0_43_1] at f27
  have fe_0_31_1 : w_fi ws (n_v vs 0) 31 = w_fi w1 (n_v vs 0) 31 := congrArg v_iv (s1.2 _ _)
  have fe_0_32_1 : w_fi ws (n_v vs 0) 32 = w_fi w1 (n_v vs 0) 32 := congrArg v_iv (s1.2 _ _)
  have fe_0_39_1 : w_fi ws (n_v vs 0) 39 = w_fi w1 (n_v vs 0) 39 := congrArg v_iv (s1.2 _ _)
  have fe_0_49_1 : w_fi ws (n_v vs 0) 49 = w_fi w1 (n_v vs 0) 49 := congrArg v_iv (s1.2 _ _)
  have hE_0_17_1 : ∀ j : Int, w_ei ws (w_ar ws (n_v vs 0) 17) j = w_ei w1 (w_ar ws (n_v vs 0) 17) j := el_kp s1.1 r9 cr_0_17 (by decide)
  have hE_0_33_1 : ∀ j : Int, w_ei ws (w_ar ws (n_v vs 0) 33) j = w_ei w1 (w_ar ws (n_v vs 0) 33) j := el_kp s1.1 r9 cr_0_33 (by decide)
  have hE_0_34_1 : ∀ j : Int, w_ei ws (w_ar ws (n_v vs 0) 34) j = w_ei w1 (w_ar ws (n_v vs 0) 34) j := el_kp s1.1 r9 cr_0_34 (by decide)
  have hE_0_35_1 : ∀ j : Int, w_ei ws (w_ar ws (n_v vs 0) 35) j = w_ei w1 (w_ar ws (n_v vs 0) 35) j := el_kp s1.1 r9 cr_0_35 (by decide)
  have hK_0_35 := elq_69 hD hth cr_0_35
  have hE_0_42_1 : ∀ j : Int, w_ei ws (w_ar ws (n_v vs 0) 42) j = w_ei w1 (w_ar ws (n_v vs 0) 42) j := el_kp s1.1 r9 cr_0_42 (by decide)
  have hE_0_43_1 : ∀ j : Int, 0 ≤ j → (j = v_iv (n_v vs 7) → w_ei ws (w_ar ws (n_v vs 0) 43) j = v_iv (n_v vs 14)) ∧ (j ≠ v_iv (n_v vs 7) → w_ei ws (w_ar ws (n_v vs 0) 43) j = w_ei w1 (w_ar ws (n_v vs 0) 43) j) := fun j hj => ⟨fun h => by unfold w_ei; rw [s1.1, if_pos ⟨ad_9.symm, by rw [h]⟩], fun h => by unfold w_ei; rw [s1.1, if_neg (fun e => h (by have := e.2; omega))]⟩
  have kz_0_31 := fdq_144 hD hth r0
  have kz_0_32 := fdq_139 hD hth r0
  have kz_0_39 := fdq_134 hD hth r0
  have kz_0_49 := fdq_145 hD hth r0
  have nf0 : fc_1 PRD (20, [3, 4, 15], [60, 0, 3, 161, 35, 17, 43]) ws (vs) := by
    refine ⟨nf_in hl rfl, sgq_1873 ?_⟩
    · show D3 (w_ei ws (w_ar ws (n_v vs 3) 35)) (w_ei ws (w_ar ws (n_v vs 3) 17)) (w_ei ws (w_ar ws (n_v vs 3) 43)) (v_iv (n_v vs 4)) (v_iv (n_v vs 15))
      simp only [q3, q4]
      exact vc_Mo_draws_16_0 (v_iv (n_v vs 1)) (v_iv (n_v vs 4)) (v_iv (n_v vs 7)) (v_iv (n_v vs 11)) (v_iv (n_v vs 13)) (v_iv (n_v vs 14)) (v_iv (n_v vs 15)) (w_ei ws (w_ar ws (n_v vs 0) 33)) (w_ei ws (w_ar ws (n_v vs 0) 34)) (w_fi ws (n_v vs 0) 31) (w_fi ws (n_v vs 0) 32) (w_ei ws (w_ar ws (n_v vs 0) 35)) (w_ei ws (w_ar ws (n_v vs 0) 17)) (w_fi ws (n_v vs 0) 49) (w_fi ws (n_v vs 0) 39) (w_ei ws (w_ar ws (n_v vs 0) 42)) (w_ei w1 (w_ar ws (n_v vs 0) 17)) (w_ei w1 (w_ar ws (n_v vs 0) 35)) (w_fi w1 (n_v vs 0) 32) (w_ei w1 (w_ar ws (n_v vs 0) 33)) (w_ei w1 (w_ar ws (n_v vs 0) 34)) (w_fi w1 (n_v vs 0) 31) (w_fi w1 (n_v vs 0) 49) (w_fi w1 (n_v vs 0) 39) (w_ei w1 (w_ar ws (n_v vs 0) 42)) (w_ei w1 (w_ar ws (n_v vs 0) 43)) (w_ei ws (w_ar ws (n_v vs 0) 43)) k1 k4 k7 k11 k13 k14 k15 d0 d3 d4 f11 h12 f14 f27 fe_0_31_1 fe_0_32_1 fe_0_39_1 fe_0_49_1 hE_0_17_1 hE_0_33_1 hE_0_34_1 hE_0_35_1 hK_0_35 hE_0_42_1 hE_0_43_1 kz_0_31 kz_0_32 kz_0_39 kz_0_49
  refine ⟨(fun _ h => (by cases h)), [], trivial, ?_, (fun _ h => (by cases h))⟩
  rw [List.append_nil]
  exact List.forall_mem_cons.mpr ⟨⟨show (20 : Nat) < 100 from by decide, nf0⟩, (fun _ h => (by cases h))⟩
set_option maxHeartbeats 4000000 in
theorem vc_Mo_draws_17_0 (x1 : Int) (x5 : Int) (x7 : Int) (x9 : Int) (x10 : Int) (x12 : Int) (x14 : Int) (x15 : Int) (pt_0 : Int → Int) (ph_0 : Int → Int) (pn_0 : Int) (pm_0 : Int) (alive_0 : Int → Int) (blockOf_0 : Int → Int) (onlyPiece_0 : Int) (pt_1 : Int → Int) (wayMany_1 : Int) (ph_1 : Int → Int) (pn_1 : Int) (pm_1 : Int) (alive_1 : Int → Int) (blockOf_1 : Int → Int) (onlyPiece_1 : Int) (drawnEdge_1 : Int → Int) (drawnNode_1 : Int → Int) (way_1 : Int → Int) (faceMany_1 : Int → Int) (face_1 : Int → Int) (wayMany_0 : Int) (faceMany_0 : Int → Int) (face_0 : Int → Int) (drawnNode_0 : Int → Int) (drawnEdge_0 : Int → Int) (way_0 : Int → Int) (k1 : 0 ≤ x1 ∧ x1 ≤ 79) (k5 : 0 ≤ x5 ∧ x5 ≤ 79) (k7 : 0 ≤ x7 ∧ x7 ≤ 29) (k9 : 1 ≤ x9 ∧ x9 ≤ 30) (k10 : 0 ≤ x10 ∧ x10 ≤ 30) (k12 : 60 ≤ x12 ∧ x12 ≤ 60) (k14 : 0 ≤ x14 ∧ x14 ≤ 24) (k15 : 1 ≤ x15 ∧ x15 ≤ 1) (d0 : x10 + 0 ≤ x9 ∧ x9 ≤ x10 + 4294967296) (d1 : x7 + 1 ≤ x9 ∧ x9 ≤ x7 + 1) (h7 : x14 = pt_1 (x5)) (g11 : x10 = wayMany_1) (f17 : R1 (pn_1) (pm_1) (wayMany_1) (pt_1) (ph_1) (alive_1) (blockOf_1) (drawnEdge_1) (drawnNode_1) (way_1) (faceMany_1) (face_1) (x1) (x5) (x7)) (fe_0_31_1 : pn_0 = pn_1) (fe_0_32_1 : pm_0 = pm_1) (fe_0_45_1 : wayMany_0 = wayMany_1) (fe_0_49_1 : onlyPiece_0 = onlyPiece_1) (hE_0_17_1 : ∀ j : Int, blockOf_0 j = blockOf_1 j) (hE_0_33_1 : ∀ j : Int, pt_0 j = pt_1 j) (hE_0_34_1 : ∀ j : Int, ph_0 j = ph_1 j) (hE_0_35_1 : ∀ j : Int, alive_0 j = alive_1 j) (hE_0_40_1 : ∀ j : Int, faceMany_0 j = faceMany_1 j) (hE_0_41_1 : ∀ j : Int, 0 ≤ j → (j = x12 → face_0 j = x14) ∧ (j ≠ x12 → face_0 j = face_1 j)) (hE_0_42_1 : ∀ j : Int, drawnNode_0 j = drawnNode_1 j) (hE_0_43_1 : ∀ j : Int, drawnEdge_0 j = drawnEdge_1 j) (hE_0_46_1 : ∀ j : Int, way_0 j = way_1 j) (kz_0_31 : 0 ≤ pn_0 ∧ pn_0 ≤ 25) (kz_0_32 : 0 ≤ pm_0 ∧ pm_0 ≤ 80) (kz_0_45 : 0 ≤ wayMany_0 ∧ wayMany_0 ≤ 30) (kz_0_49 : (-1) ≤ onlyPiece_0 ∧ onlyPiece_0 ≤ 79) : R2 (pn_0) (pm_0) (wayMany_0) (pt_0) (ph_0) (alive_0) (blockOf_0) (drawnEdge_0) (drawnNode_0) (way_0) (faceMany_0) (face_0) (x1) (x5) (x15) := by
  subst fe_0_31_1
  subst fe_0_32_1
  subst fe_0_45_1
  subst fe_0_49_1
  have e_hE_0_17_1 := funext hE_0_17_1; subst e_hE_0_17_1
  have e_hE_0_33_1 := funext hE_0_33_1; subst e_hE_0_33_1
  have e_hE_0_34_1 := funext hE_0_34_1; subst e_hE_0_34_1
  have e_hE_0_35_1 := funext hE_0_35_1; subst e_hE_0_35_1
  have e_hE_0_40_1 := funext hE_0_40_1; subst e_hE_0_40_1
  have e_hE_0_42_1 := funext hE_0_42_1; subst e_hE_0_42_1
  have e_hE_0_43_1 := funext hE_0_43_1; subst e_hE_0_43_1
  have e_hE_0_46_1 := funext hE_0_46_1; subst e_hE_0_46_1
  first
    | exact r2_of (k := x7) ‹R1 _ _ _ _ _ _ _ _ _ _ _ _ _ _ _› (by omega) (by omega) hE_0_41_1 (by omega) (by omega) (by omega)
    | exact r2_next (k := x7) (q := x12) ‹R2 _ _ _ _ _ _ _ _ _ _ _ _ _ _ _› (by omega) hE_0_41_1 (by omega) (by omega) (by omega) (by omega) (by omega) (by omega)
def o_Mo_draws_17 : or_T := (250, 16, [(0, (2, 0, 0, [165])), (1, (0, 0, 79, [])), (5, (0, 0, 79, [])), (7, (0, 0, 29, [])), (9, (0, 1, 30, [])), (10, (0, 0, 30, [])), (11, (2, 0, 0, [187])), (12, (0, 60, 60, [])), (14, (0, 0, 24, [])), (15, (0, 1, 1, []))], [(24, [0, 3], []), (24, [1, 4], []), (100, [11, 12, 14], []), (10, [14, 13, 5], []), (9, [13, 3], [33]), (9, [11, 3], [41]), (9, [10, 3], [45]), (20, [3, 4, 5, 7], [60, 3, 9, 164, 31, 32, 45, 33, 34, 35, 17, 43, 42, 46, 40, 41])], [], [], [(20, [3, 4, 5, 15], [60, 3, 9, 165, 31, 32, 45, 33, 34, 35, 17, 43, 42, 46, 40, 41])], [], [(9, 10, 0, 4294967296), (9, 7, 1, 1)])
theorem oo_Mo_draws_17 {kA : Nat → ClassId} : or_ok PRD kA GG o_Mo_draws_17 := by
  refine or_mk fun A ta ws vs hD hth hl => ?_
  intro t0 r0 t1 k1 t5 k5 t7 k7 t9 k9 t10 k10 t11 r11 t12 k12 t14 k14 t15 k15 d0 d1 f4 f5 ta1 w1 le1 s1 f7 f8 f9 f11 f17
  replace f4 := shm_5 f4
  replace f5 := shm_5 f5
  have s1 : (∀ b j, w_el ws b j = if b = v_ad (n_v vs 11) ∧ j = (v_iv (n_v vs 12)).toNat then v_iv (n_v vs 14) else w_el w1 b j) ∧ ∀ b k, w_fd ws b k = w_fd w1 b k := s1.2
  replace f7 := shm_106 f7
  replace f8 := shm_488 f8
  replace f9 := shm_516 f9
  replace f11 := shm_727 f11
  replace f17 := shm_1876 f17
  have q3 : n_v vs 3 = n_v vs 0 := f4.symm
  have q4 : n_v vs 4 = n_v vs 1 := f5.symm
  simp only [q3, q4] at f8 f9 f11 f17
  have ar_0_17_1 : w_ar w1 (n_v vs 0) 17 = w_ar ws (n_v vs 0) 17 := congrArg v_ad (s1.2 _ _).symm
  have cr_0_17 := fdq_187 hD hth r0
  have ar_0_33_1 : w_ar w1 (n_v vs 0) 33 = w_ar ws (n_v vs 0) 33 := congrArg v_ad (s1.2 _ _).symm
  have cr_0_33 := fdq_116 hD hth r0
  have ar_0_34_1 : w_ar w1 (n_v vs 0) 34 = w_ar ws (n_v vs 0) 34 := congrArg v_ad (s1.2 _ _).symm
  have cr_0_34 := fdq_117 hD hth r0
  have ar_0_35_1 : w_ar w1 (n_v vs 0) 35 = w_ar ws (n_v vs 0) 35 := congrArg v_ad (s1.2 _ _).symm
  have cr_0_35 := fdq_131 hD hth r0
  have ar_0_40_1 : w_ar w1 (n_v vs 0) 40 = w_ar ws (n_v vs 0) 40 := congrArg v_ad (s1.2 _ _).symm
  have cr_0_40 := fdq_132 hD hth r0
  have ar_0_41_1 : w_ar w1 (n_v vs 0) 41 = w_ar ws (n_v vs 0) 41 := congrArg v_ad (s1.2 _ _).symm
  have ar_0_42_1 : w_ar w1 (n_v vs 0) 42 = w_ar ws (n_v vs 0) 42 := congrArg v_ad (s1.2 _ _).symm
  have cr_0_42 := fdq_135 hD hth r0
  have ar_0_43_1 : w_ar w1 (n_v vs 0) 43 = w_ar ws (n_v vs 0) 43 := congrArg v_ad (s1.2 _ _).symm
  have cr_0_43 := fdq_136 hD hth r0
  have ar_0_46_1 : w_ar w1 (n_v vs 0) 46 = w_ar ws (n_v vs 0) 46 := congrArg v_ad (s1.2 _ _).symm
  have cr_0_46 := fdq_188 hD hth r0
  have ad_13 : v_ad (n_v vs 13) = w_ar ws (n_v vs 0) 33 := (congrArg v_ad f8).trans ar_0_33_1
  have ad_11 : v_ad (n_v vs 11) = w_ar ws (n_v vs 0) 41 := (congrArg v_ad f9).trans ar_0_41_1
  simp only [ad_13] at f7
  have h7 : v_iv (n_v vs 14) = w_ei w1 (w_ar ws (n_v vs 0) 33) (v_iv (n_v vs 5)) := f7
  have g11 : v_iv (n_v vs 10) = w_fi w1 (n_v vs 0) 45 := congrArg v_iv f11
  simp only [ar_0_33_1, ar_0_34_1, ar_0_17_1, ar_0_35_1, ar_0_40_1, ar_0_41_1, ar_0_42_1, ar_0_43_1, ar_0_46_1] at f17
  have fe_0_31_1 : w_fi ws (n_v vs 0) 31 = w_fi w1 (n_v vs 0) 31 := congrArg v_iv (s1.2 _ _)
  have fe_0_32_1 : w_fi ws (n_v vs 0) 32 = w_fi w1 (n_v vs 0) 32 := congrArg v_iv (s1.2 _ _)
  have fe_0_45_1 : w_fi ws (n_v vs 0) 45 = w_fi w1 (n_v vs 0) 45 := congrArg v_iv (s1.2 _ _)
  have fe_0_49_1 : w_fi ws (n_v vs 0) 49 = w_fi w1 (n_v vs 0) 49 := congrArg v_iv (s1.2 _ _)
  have hE_0_17_1 : ∀ j : Int, w_ei ws (w_ar ws (n_v vs 0) 17) j = w_ei w1 (w_ar ws (n_v vs 0) 17) j := el_kp s1.1 r11 cr_0_17 (by decide)
  have hE_0_33_1 : ∀ j : Int, w_ei ws (w_ar ws (n_v vs 0) 33) j = w_ei w1 (w_ar ws (n_v vs 0) 33) j := el_kp s1.1 r11 cr_0_33 (by decide)
  have hE_0_34_1 : ∀ j : Int, w_ei ws (w_ar ws (n_v vs 0) 34) j = w_ei w1 (w_ar ws (n_v vs 0) 34) j := el_kp s1.1 r11 cr_0_34 (by decide)
  have hE_0_35_1 : ∀ j : Int, w_ei ws (w_ar ws (n_v vs 0) 35) j = w_ei w1 (w_ar ws (n_v vs 0) 35) j := el_kp s1.1 r11 cr_0_35 (by decide)
  have hE_0_40_1 : ∀ j : Int, w_ei ws (w_ar ws (n_v vs 0) 40) j = w_ei w1 (w_ar ws (n_v vs 0) 40) j := el_kp s1.1 r11 cr_0_40 (by decide)
  have hE_0_41_1 : ∀ j : Int, 0 ≤ j → (j = v_iv (n_v vs 12) → w_ei ws (w_ar ws (n_v vs 0) 41) j = v_iv (n_v vs 14)) ∧ (j ≠ v_iv (n_v vs 12) → w_ei ws (w_ar ws (n_v vs 0) 41) j = w_ei w1 (w_ar ws (n_v vs 0) 41) j) := fun j hj => ⟨fun h => by unfold w_ei; rw [s1.1, if_pos ⟨ad_11.symm, by rw [h]⟩], fun h => by unfold w_ei; rw [s1.1, if_neg (fun e => h (by have := e.2; omega))]⟩
  have hE_0_42_1 : ∀ j : Int, w_ei ws (w_ar ws (n_v vs 0) 42) j = w_ei w1 (w_ar ws (n_v vs 0) 42) j := el_kp s1.1 r11 cr_0_42 (by decide)
  have hE_0_43_1 : ∀ j : Int, w_ei ws (w_ar ws (n_v vs 0) 43) j = w_ei w1 (w_ar ws (n_v vs 0) 43) j := el_kp s1.1 r11 cr_0_43 (by decide)
  have hE_0_46_1 : ∀ j : Int, w_ei ws (w_ar ws (n_v vs 0) 46) j = w_ei w1 (w_ar ws (n_v vs 0) 46) j := el_kp s1.1 r11 cr_0_46 (by decide)
  have kz_0_31 := fdq_144 hD hth r0
  have kz_0_32 := fdq_139 hD hth r0
  have kz_0_45 := fdq_189 hD hth r0
  have kz_0_49 := fdq_145 hD hth r0
  have nf0 : fc_1 PRD (20, [3, 4, 5, 15], [60, 3, 9, 165, 31, 32, 45, 33, 34, 35, 17, 43, 42, 46, 40, 41]) ws (vs) := by
    refine ⟨nf_in hl rfl, sgq_1878 ?_⟩
    · show R2 (w_fi ws (n_v vs 3) 31) (w_fi ws (n_v vs 3) 32) (w_fi ws (n_v vs 3) 45) (w_ei ws (w_ar ws (n_v vs 3) 33)) (w_ei ws (w_ar ws (n_v vs 3) 34)) (w_ei ws (w_ar ws (n_v vs 3) 35)) (w_ei ws (w_ar ws (n_v vs 3) 17)) (w_ei ws (w_ar ws (n_v vs 3) 43)) (w_ei ws (w_ar ws (n_v vs 3) 42)) (w_ei ws (w_ar ws (n_v vs 3) 46)) (w_ei ws (w_ar ws (n_v vs 3) 40)) (w_ei ws (w_ar ws (n_v vs 3) 41)) (v_iv (n_v vs 4)) (v_iv (n_v vs 5)) (v_iv (n_v vs 15))
      simp only [q3, q4]
      exact vc_Mo_draws_17_0 (v_iv (n_v vs 1)) (v_iv (n_v vs 5)) (v_iv (n_v vs 7)) (v_iv (n_v vs 9)) (v_iv (n_v vs 10)) (v_iv (n_v vs 12)) (v_iv (n_v vs 14)) (v_iv (n_v vs 15)) (w_ei ws (w_ar ws (n_v vs 0) 33)) (w_ei ws (w_ar ws (n_v vs 0) 34)) (w_fi ws (n_v vs 0) 31) (w_fi ws (n_v vs 0) 32) (w_ei ws (w_ar ws (n_v vs 0) 35)) (w_ei ws (w_ar ws (n_v vs 0) 17)) (w_fi ws (n_v vs 0) 49) (w_ei w1 (w_ar ws (n_v vs 0) 33)) (w_fi w1 (n_v vs 0) 45) (w_ei w1 (w_ar ws (n_v vs 0) 34)) (w_fi w1 (n_v vs 0) 31) (w_fi w1 (n_v vs 0) 32) (w_ei w1 (w_ar ws (n_v vs 0) 35)) (w_ei w1 (w_ar ws (n_v vs 0) 17)) (w_fi w1 (n_v vs 0) 49) (w_ei w1 (w_ar ws (n_v vs 0) 43)) (w_ei w1 (w_ar ws (n_v vs 0) 42)) (w_ei w1 (w_ar ws (n_v vs 0) 46)) (w_ei w1 (w_ar ws (n_v vs 0) 40)) (w_ei w1 (w_ar ws (n_v vs 0) 41)) (w_fi ws (n_v vs 0) 45) (w_ei ws (w_ar ws (n_v vs 0) 40)) (w_ei ws (w_ar ws (n_v vs 0) 41)) (w_ei ws (w_ar ws (n_v vs 0) 42)) (w_ei ws (w_ar ws (n_v vs 0) 43)) (w_ei ws (w_ar ws (n_v vs 0) 46)) k1 k5 k7 k9 k10 k12 k14 k15 d0 d1 h7 g11 f17 fe_0_31_1 fe_0_32_1 fe_0_45_1 fe_0_49_1 hE_0_17_1 hE_0_33_1 hE_0_34_1 hE_0_35_1 hE_0_40_1 hE_0_41_1 hE_0_42_1 hE_0_43_1 hE_0_46_1 kz_0_31 kz_0_32 kz_0_45 kz_0_49
  refine ⟨(fun _ h => (by cases h)), [], trivial, ?_, (fun _ h => (by cases h))⟩
  rw [List.append_nil]
  exact List.forall_mem_cons.mpr ⟨⟨show (20 : Nat) < 100 from by decide, nf0⟩, (fun _ h => (by cases h))⟩
set_option maxHeartbeats 4000000 in
theorem vc_Mo_draws_18_0 (x1 : Int) (x5 : Int) (x7 : Int) (x9 : Int) (x10 : Int) (x13 : Int) (x15 : Int) (x16 : Int) (pt_0 : Int → Int) (ph_0 : Int → Int) (pn_0 : Int) (pm_0 : Int) (alive_0 : Int → Int) (blockOf_0 : Int → Int) (onlyPiece_0 : Int) (way_1 : Int → Int) (wayMany_1 : Int) (pt_1 : Int → Int) (ph_1 : Int → Int) (pn_1 : Int) (pm_1 : Int) (alive_1 : Int → Int) (blockOf_1 : Int → Int) (onlyPiece_1 : Int) (drawnEdge_1 : Int → Int) (drawnNode_1 : Int → Int) (faceMany_1 : Int → Int) (face_1 : Int → Int) (wayMany_0 : Int) (faceMany_0 : Int → Int) (face_0 : Int → Int) (drawnNode_0 : Int → Int) (drawnEdge_0 : Int → Int) (way_0 : Int → Int) (k1 : 0 ≤ x1 ∧ x1 ≤ 79) (k5 : 0 ≤ x5 ∧ x5 ≤ 79) (k7 : 0 ≤ x7 ∧ x7 ≤ 28) (k9 : 1 ≤ x9 ∧ x9 ≤ 29) (k10 : 2 ≤ x10 ∧ x10 ≤ 30) (k13 : 1 ≤ x13 ∧ x13 ≤ 29) (k15 : 0 ≤ x15 ∧ x15 ≤ 24) (k16 : 1 ≤ x16 ∧ x16 ≤ 29) (d0 : x7 + 1 ≤ x16 ∧ x16 ≤ x7 + 1) (d1 : x7 + 1 ≤ x13 ∧ x13 ≤ x7 + 1) (d2 : x10 + (-4294967296) ≤ x9 ∧ x9 ≤ x10 + (-1)) (d3 : x7 + 1 ≤ x9 ∧ x9 ≤ x7 + 1) (f0 : x16 = x7 + 1) (h8 : x15 = way_1 (x7)) (g13 : x10 = wayMany_1) (f19 : R1 (pn_1) (pm_1) (wayMany_1) (pt_1) (ph_1) (alive_1) (blockOf_1) (drawnEdge_1) (drawnNode_1) (way_1) (faceMany_1) (face_1) (x1) (x5) (x7)) (fe_0_31_1 : pn_0 = pn_1) (fe_0_32_1 : pm_0 = pm_1) (fe_0_45_1 : wayMany_0 = wayMany_1) (fe_0_49_1 : onlyPiece_0 = onlyPiece_1) (hE_0_17_1 : ∀ j : Int, blockOf_0 j = blockOf_1 j) (hE_0_33_1 : ∀ j : Int, pt_0 j = pt_1 j) (hE_0_34_1 : ∀ j : Int, ph_0 j = ph_1 j) (hE_0_35_1 : ∀ j : Int, alive_0 j = alive_1 j) (hE_0_40_1 : ∀ j : Int, faceMany_0 j = faceMany_1 j) (hE_0_41_1 : ∀ j : Int, 0 ≤ j → (j = x13 → face_0 j = x15) ∧ (j ≠ x13 → face_0 j = face_1 j)) (hE_0_42_1 : ∀ j : Int, drawnNode_0 j = drawnNode_1 j) (hE_0_43_1 : ∀ j : Int, drawnEdge_0 j = drawnEdge_1 j) (hE_0_46_1 : ∀ j : Int, way_0 j = way_1 j) (kz_0_31 : 0 ≤ pn_0 ∧ pn_0 ≤ 25) (kz_0_32 : 0 ≤ pm_0 ∧ pm_0 ≤ 80) (kz_0_45 : 0 ≤ wayMany_0 ∧ wayMany_0 ≤ 30) (kz_0_49 : (-1) ≤ onlyPiece_0 ∧ onlyPiece_0 ≤ 79) : R1 (pn_0) (pm_0) (wayMany_0) (pt_0) (ph_0) (alive_0) (blockOf_0) (drawnEdge_0) (drawnNode_0) (way_0) (faceMany_0) (face_0) (x1) (x5) (x16) := by
  subst fe_0_31_1
  subst fe_0_32_1
  subst fe_0_45_1
  subst fe_0_49_1
  have e_hE_0_17_1 := funext hE_0_17_1; subst e_hE_0_17_1
  have e_hE_0_33_1 := funext hE_0_33_1; subst e_hE_0_33_1
  have e_hE_0_34_1 := funext hE_0_34_1; subst e_hE_0_34_1
  have e_hE_0_35_1 := funext hE_0_35_1; subst e_hE_0_35_1
  have e_hE_0_40_1 := funext hE_0_40_1; subst e_hE_0_40_1
  have e_hE_0_42_1 := funext hE_0_42_1; subst e_hE_0_42_1
  have e_hE_0_43_1 := funext hE_0_43_1; subst e_hE_0_43_1
  have e_hE_0_46_1 := funext hE_0_46_1; subst e_hE_0_46_1
  first
    | exact r1_next (k := x7) ‹R1 _ _ _ _ _ _ _ _ _ _ _ _ _ _ _› hE_0_41_1 (by omega) (by omega) (by omega) (by omega) (by omega)
    | (have h := ‹RGS _ _ _ _ _ _ _ _ _ _ _ _›
       have hb := rgs_bd h
       exact ⟨h, by rw [(hE_0_40_2 0 (by omega)).2 (by omega), (hE_0_40_3 0 (by omega)).1 (by omega)]; omega, by rw [(hE_0_40_2 1 (by omega)).1 (by omega)]; omega, by rw [(hE_0_41_1 0 (by omega)).1 (by omega)]; omega, fun j a b => by exfalso; omega, by omega⟩)
def o_Mo_draws_18 : or_T := (201, 17, [(0, (2, 0, 0, [165])), (1, (0, 0, 79, [])), (5, (0, 0, 79, [])), (7, (0, 0, 28, [])), (9, (0, 1, 29, [])), (10, (0, 2, 30, [])), (11, (2, 0, 0, [187])), (13, (0, 1, 29, [])), (15, (0, 0, 24, [])), (16, (0, 1, 29, []))], [(6, [16, 7], [1]), (24, [0, 3], []), (24, [1, 4], []), (100, [11, 13, 15], []), (10, [15, 14, 7], []), (9, [14, 3], [46]), (9, [11, 3], [41]), (9, [10, 3], [45]), (20, [3, 4, 5, 7], [60, 3, 9, 164, 31, 32, 45, 33, 34, 35, 17, 43, 42, 46, 40, 41])], [], [], [(20, [3, 4, 5, 16], [60, 3, 9, 164, 31, 32, 45, 33, 34, 35, 17, 43, 42, 46, 40, 41])], [], [(16, 7, 1, 1), (13, 7, 1, 1), (9, 10, -4294967296, -1), (9, 7, 1, 1)])
theorem oo_Mo_draws_18 {kA : Nat → ClassId} : or_ok PRD kA GG o_Mo_draws_18 := by
  refine or_mk fun A ta ws vs hD hth hl => ?_
  intro t0 r0 t1 k1 t5 k5 t7 k7 t9 k9 t10 k10 t11 r11 t13 k13 t15 k15 t16 k16 d0 d1 d2 d3 f0 f5 f6 ta1 w1 le1 s1 f8 f9 f11 f13 f19
  replace f0 := shm_4 f0
  replace f5 := shm_5 f5
  replace f6 := shm_5 f6
  have s1 : (∀ b j, w_el ws b j = if b = v_ad (n_v vs 11) ∧ j = (v_iv (n_v vs 13)).toNat then v_iv (n_v vs 15) else w_el w1 b j) ∧ ∀ b k, w_fd ws b k = w_fd w1 b k := s1.2
  replace f8 := shm_106 f8
  replace f9 := shm_723 f9
  replace f11 := shm_516 f11
  replace f13 := shm_727 f13
  replace f19 := shm_1876 f19
  have q3 : n_v vs 3 = n_v vs 0 := f5.symm
  have q4 : n_v vs 4 = n_v vs 1 := f6.symm
  simp only [q3, q4] at f9 f11 f13 f19
  have ar_0_17_1 : w_ar w1 (n_v vs 0) 17 = w_ar ws (n_v vs 0) 17 := congrArg v_ad (s1.2 _ _).symm
  have cr_0_17 := fdq_187 hD hth r0
  have ar_0_33_1 : w_ar w1 (n_v vs 0) 33 = w_ar ws (n_v vs 0) 33 := congrArg v_ad (s1.2 _ _).symm
  have cr_0_33 := fdq_116 hD hth r0
  have ar_0_34_1 : w_ar w1 (n_v vs 0) 34 = w_ar ws (n_v vs 0) 34 := congrArg v_ad (s1.2 _ _).symm
  have cr_0_34 := fdq_117 hD hth r0
  have ar_0_35_1 : w_ar w1 (n_v vs 0) 35 = w_ar ws (n_v vs 0) 35 := congrArg v_ad (s1.2 _ _).symm
  have cr_0_35 := fdq_131 hD hth r0
  have ar_0_40_1 : w_ar w1 (n_v vs 0) 40 = w_ar ws (n_v vs 0) 40 := congrArg v_ad (s1.2 _ _).symm
  have cr_0_40 := fdq_132 hD hth r0
  have ar_0_41_1 : w_ar w1 (n_v vs 0) 41 = w_ar ws (n_v vs 0) 41 := congrArg v_ad (s1.2 _ _).symm
  have ar_0_42_1 : w_ar w1 (n_v vs 0) 42 = w_ar ws (n_v vs 0) 42 := congrArg v_ad (s1.2 _ _).symm
  have cr_0_42 := fdq_135 hD hth r0
  have ar_0_43_1 : w_ar w1 (n_v vs 0) 43 = w_ar ws (n_v vs 0) 43 := congrArg v_ad (s1.2 _ _).symm
  have cr_0_43 := fdq_136 hD hth r0
  have ar_0_46_1 : w_ar w1 (n_v vs 0) 46 = w_ar ws (n_v vs 0) 46 := congrArg v_ad (s1.2 _ _).symm
  have cr_0_46 := fdq_188 hD hth r0
  have ad_14 : v_ad (n_v vs 14) = w_ar ws (n_v vs 0) 46 := (congrArg v_ad f9).trans ar_0_46_1
  have ad_11 : v_ad (n_v vs 11) = w_ar ws (n_v vs 0) 41 := (congrArg v_ad f11).trans ar_0_41_1
  simp only [ad_14] at f8
  have h8 : v_iv (n_v vs 15) = w_ei w1 (w_ar ws (n_v vs 0) 46) (v_iv (n_v vs 7)) := f8
  have g13 : v_iv (n_v vs 10) = w_fi w1 (n_v vs 0) 45 := congrArg v_iv f13
  simp only [ar_0_33_1, ar_0_34_1, ar_0_17_1, ar_0_35_1, ar_0_40_1, ar_0_41_1, ar_0_42_1, ar_0_43_1, ar_0_46_1] at f19
  have fe_0_31_1 : w_fi ws (n_v vs 0) 31 = w_fi w1 (n_v vs 0) 31 := congrArg v_iv (s1.2 _ _)
  have fe_0_32_1 : w_fi ws (n_v vs 0) 32 = w_fi w1 (n_v vs 0) 32 := congrArg v_iv (s1.2 _ _)
  have fe_0_45_1 : w_fi ws (n_v vs 0) 45 = w_fi w1 (n_v vs 0) 45 := congrArg v_iv (s1.2 _ _)
  have fe_0_49_1 : w_fi ws (n_v vs 0) 49 = w_fi w1 (n_v vs 0) 49 := congrArg v_iv (s1.2 _ _)
  have hE_0_17_1 : ∀ j : Int, w_ei ws (w_ar ws (n_v vs 0) 17) j = w_ei w1 (w_ar ws (n_v vs 0) 17) j := el_kp s1.1 r11 cr_0_17 (by decide)
  have hE_0_33_1 : ∀ j : Int, w_ei ws (w_ar ws (n_v vs 0) 33) j = w_ei w1 (w_ar ws (n_v vs 0) 33) j := el_kp s1.1 r11 cr_0_33 (by decide)
  have hE_0_34_1 : ∀ j : Int, w_ei ws (w_ar ws (n_v vs 0) 34) j = w_ei w1 (w_ar ws (n_v vs 0) 34) j := el_kp s1.1 r11 cr_0_34 (by decide)
  have hE_0_35_1 : ∀ j : Int, w_ei ws (w_ar ws (n_v vs 0) 35) j = w_ei w1 (w_ar ws (n_v vs 0) 35) j := el_kp s1.1 r11 cr_0_35 (by decide)
  have hE_0_40_1 : ∀ j : Int, w_ei ws (w_ar ws (n_v vs 0) 40) j = w_ei w1 (w_ar ws (n_v vs 0) 40) j := el_kp s1.1 r11 cr_0_40 (by decide)
  have hE_0_41_1 : ∀ j : Int, 0 ≤ j → (j = v_iv (n_v vs 13) → w_ei ws (w_ar ws (n_v vs 0) 41) j = v_iv (n_v vs 15)) ∧ (j ≠ v_iv (n_v vs 13) → w_ei ws (w_ar ws (n_v vs 0) 41) j = w_ei w1 (w_ar ws (n_v vs 0) 41) j) := fun j hj => ⟨fun h => by unfold w_ei; rw [s1.1, if_pos ⟨ad_11.symm, by rw [h]⟩], fun h => by unfold w_ei; rw [s1.1, if_neg (fun e => h (by have := e.2; omega))]⟩
  have hE_0_42_1 : ∀ j : Int, w_ei ws (w_ar ws (n_v vs 0) 42) j = w_ei w1 (w_ar ws (n_v vs 0) 42) j := el_kp s1.1 r11 cr_0_42 (by decide)
  have hE_0_43_1 : ∀ j : Int, w_ei ws (w_ar ws (n_v vs 0) 43) j = w_ei w1 (w_ar ws (n_v vs 0) 43) j := el_kp s1.1 r11 cr_0_43 (by decide)
  have hE_0_46_1 : ∀ j : Int, w_ei ws (w_ar ws (n_v vs 0) 46) j = w_ei w1 (w_ar ws (n_v vs 0) 46) j := el_kp s1.1 r11 cr_0_46 (by decide)
  have kz_0_31 := fdq_144 hD hth r0
  have kz_0_32 := fdq_139 hD hth r0
  have kz_0_45 := fdq_189 hD hth r0
  have kz_0_49 := fdq_145 hD hth r0
  have nf0 : fc_1 PRD (20, [3, 4, 5, 16], [60, 3, 9, 164, 31, 32, 45, 33, 34, 35, 17, 43, 42, 46, 40, 41]) ws (vs) := by
    refine ⟨nf_in hl rfl, sgq_1876 ?_⟩
    · show R1 (w_fi ws (n_v vs 3) 31) (w_fi ws (n_v vs 3) 32) (w_fi ws (n_v vs 3) 45) (w_ei ws (w_ar ws (n_v vs 3) 33)) (w_ei ws (w_ar ws (n_v vs 3) 34)) (w_ei ws (w_ar ws (n_v vs 3) 35)) (w_ei ws (w_ar ws (n_v vs 3) 17)) (w_ei ws (w_ar ws (n_v vs 3) 43)) (w_ei ws (w_ar ws (n_v vs 3) 42)) (w_ei ws (w_ar ws (n_v vs 3) 46)) (w_ei ws (w_ar ws (n_v vs 3) 40)) (w_ei ws (w_ar ws (n_v vs 3) 41)) (v_iv (n_v vs 4)) (v_iv (n_v vs 5)) (v_iv (n_v vs 16))
      simp only [q3, q4]
      exact vc_Mo_draws_18_0 (v_iv (n_v vs 1)) (v_iv (n_v vs 5)) (v_iv (n_v vs 7)) (v_iv (n_v vs 9)) (v_iv (n_v vs 10)) (v_iv (n_v vs 13)) (v_iv (n_v vs 15)) (v_iv (n_v vs 16)) (w_ei ws (w_ar ws (n_v vs 0) 33)) (w_ei ws (w_ar ws (n_v vs 0) 34)) (w_fi ws (n_v vs 0) 31) (w_fi ws (n_v vs 0) 32) (w_ei ws (w_ar ws (n_v vs 0) 35)) (w_ei ws (w_ar ws (n_v vs 0) 17)) (w_fi ws (n_v vs 0) 49) (w_ei w1 (w_ar ws (n_v vs 0) 46)) (w_fi w1 (n_v vs 0) 45) (w_ei w1 (w_ar ws (n_v vs 0) 33)) (w_ei w1 (w_ar ws (n_v vs 0) 34)) (w_fi w1 (n_v vs 0) 31) (w_fi w1 (n_v vs 0) 32) (w_ei w1 (w_ar ws (n_v vs 0) 35)) (w_ei w1 (w_ar ws (n_v vs 0) 17)) (w_fi w1 (n_v vs 0) 49) (w_ei w1 (w_ar ws (n_v vs 0) 43)) (w_ei w1 (w_ar ws (n_v vs 0) 42)) (w_ei w1 (w_ar ws (n_v vs 0) 40)) (w_ei w1 (w_ar ws (n_v vs 0) 41)) (w_fi ws (n_v vs 0) 45) (w_ei ws (w_ar ws (n_v vs 0) 40)) (w_ei ws (w_ar ws (n_v vs 0) 41)) (w_ei ws (w_ar ws (n_v vs 0) 42)) (w_ei ws (w_ar ws (n_v vs 0) 43)) (w_ei ws (w_ar ws (n_v vs 0) 46)) k1 k5 k7 k9 k10 k13 k15 k16 d0 d1 d2 d3 f0 h8 g13 f19 fe_0_31_1 fe_0_32_1 fe_0_45_1 fe_0_49_1 hE_0_17_1 hE_0_33_1 hE_0_34_1 hE_0_35_1 hE_0_40_1 hE_0_41_1 hE_0_42_1 hE_0_43_1 hE_0_46_1 kz_0_31 kz_0_32 kz_0_45 kz_0_49
  refine ⟨(fun _ h => (by cases h)), [], trivial, ?_, (fun _ h => (by cases h))⟩
  rw [List.append_nil]
  exact List.forall_mem_cons.mpr ⟨⟨show (20 : Nat) < 100 from by decide, nf0⟩, (fun _ h => (by cases h))⟩
set_option maxHeartbeats 4000000 in
theorem vc_Mo_draws_19_0 (x1 : Int) (x4 : Int) (pt_0 : Int → Int) (ph_0 : Int → Int) (pn_0 : Int) (pm_0 : Int) (alive_0 : Int → Int) (blockOf_0 : Int → Int) (onlyPiece_0 : Int) (drawnEdge_0 : Int → Int) (drawnNode_0 : Int → Int) (way_0 : Int → Int) (faceMany_0 : Int → Int) (face_0 : Int → Int) (wayMany_0 : Int) (wayMany_1 : Int) (pt_1 : Int → Int) (ph_1 : Int → Int) (pn_1 : Int) (pm_1 : Int) (alive_1 : Int → Int) (blockOf_1 : Int → Int) (onlyPiece_1 : Int) (drawnEdge_1 : Int → Int) (drawnNode_1 : Int → Int) (way_1 : Int → Int) (faceMany_1 : Int → Int) (face_1 : Int → Int) (gx : Int) (k1 : 0 ≤ x1 ∧ x1 ≤ 79) (k4 : 0 ≤ x4 ∧ x4 ≤ 79) (d1 : x4 + (-4294967296) ≤ x1 ∧ x1 ≤ x4 + 0) (d2 : x1 + (-4294967296) ≤ x4 ∧ x4 ≤ x1 + 0) (fe_0_31_1 : pn_0 = pn_1) (fe_0_32_1 : pm_0 = pm_1) (fe_0_45_1 : wayMany_0 = wayMany_1) (fe_0_49_1 : onlyPiece_0 = onlyPiece_1) (hE_0_17_1 : ∀ j : Int, blockOf_0 j = blockOf_1 j) (hE_0_33_1 : ∀ j : Int, pt_0 j = pt_1 j) (hE_0_34_1 : ∀ j : Int, ph_0 j = ph_1 j) (hE_0_35_1 : ∀ j : Int, alive_0 j = alive_1 j) (hE_0_40_1 : ∀ j : Int, faceMany_0 j = faceMany_1 j) (hE_0_41_1 : ∀ j : Int, face_0 j = face_1 j) (hE_0_42_1 : ∀ j : Int, drawnNode_0 j = drawnNode_1 j) (hE_0_43_1 : ∀ j : Int, drawnEdge_0 j = drawnEdge_1 j) (hE_0_46_1 : ∀ j : Int, way_0 j = way_1 j) (kz_0_31 : 0 ≤ pn_0 ∧ pn_0 ≤ 25) (kz_0_32 : 0 ≤ pm_0 ∧ pm_0 ≤ 80) (kz_0_45 : 0 ≤ wayMany_0 ∧ wayMany_0 ≤ 30) (kz_0_49 : (-1) ≤ onlyPiece_0 ∧ onlyPiece_0 ≤ 79) (ex2 : gx = x1) : 1 * gx + ((-1) * x1 + 0) ≤ 0 := by
  subst fe_0_31_1
  subst fe_0_32_1
  subst fe_0_45_1
  subst fe_0_49_1
  have e_hE_0_17_1 := funext hE_0_17_1; subst e_hE_0_17_1
  have e_hE_0_33_1 := funext hE_0_33_1; subst e_hE_0_33_1
  have e_hE_0_34_1 := funext hE_0_34_1; subst e_hE_0_34_1
  have e_hE_0_35_1 := funext hE_0_35_1; subst e_hE_0_35_1
  have e_hE_0_40_1 := funext hE_0_40_1; subst e_hE_0_40_1
  have e_hE_0_41_1 := funext hE_0_41_1; subst e_hE_0_41_1
  have e_hE_0_42_1 := funext hE_0_42_1; subst e_hE_0_42_1
  have e_hE_0_43_1 := funext hE_0_43_1; subst e_hE_0_43_1
  have e_hE_0_46_1 := funext hE_0_46_1; subst e_hE_0_46_1
  first | omega
set_option maxHeartbeats 4000000 in
theorem vc_Mo_draws_19_1 (x1 : Int) (x4 : Int) (pt_0 : Int → Int) (ph_0 : Int → Int) (pn_0 : Int) (pm_0 : Int) (alive_0 : Int → Int) (blockOf_0 : Int → Int) (onlyPiece_0 : Int) (drawnEdge_0 : Int → Int) (drawnNode_0 : Int → Int) (way_0 : Int → Int) (faceMany_0 : Int → Int) (face_0 : Int → Int) (wayMany_0 : Int) (wayMany_1 : Int) (pt_1 : Int → Int) (ph_1 : Int → Int) (pn_1 : Int) (pm_1 : Int) (alive_1 : Int → Int) (blockOf_1 : Int → Int) (onlyPiece_1 : Int) (drawnEdge_1 : Int → Int) (drawnNode_1 : Int → Int) (way_1 : Int → Int) (faceMany_1 : Int → Int) (face_1 : Int → Int) (gx : Int) (k1 : 0 ≤ x1 ∧ x1 ≤ 79) (k4 : 0 ≤ x4 ∧ x4 ≤ 79) (d1 : x4 + (-4294967296) ≤ x1 ∧ x1 ≤ x4 + 0) (d2 : x1 + (-4294967296) ≤ x4 ∧ x4 ≤ x1 + 0) (fe_0_31_1 : pn_0 = pn_1) (fe_0_32_1 : pm_0 = pm_1) (fe_0_45_1 : wayMany_0 = wayMany_1) (fe_0_49_1 : onlyPiece_0 = onlyPiece_1) (hE_0_17_1 : ∀ j : Int, blockOf_0 j = blockOf_1 j) (hE_0_33_1 : ∀ j : Int, pt_0 j = pt_1 j) (hE_0_34_1 : ∀ j : Int, ph_0 j = ph_1 j) (hE_0_35_1 : ∀ j : Int, alive_0 j = alive_1 j) (hE_0_40_1 : ∀ j : Int, faceMany_0 j = faceMany_1 j) (hE_0_41_1 : ∀ j : Int, face_0 j = face_1 j) (hE_0_42_1 : ∀ j : Int, drawnNode_0 j = drawnNode_1 j) (hE_0_43_1 : ∀ j : Int, drawnEdge_0 j = drawnEdge_1 j) (hE_0_46_1 : ∀ j : Int, way_0 j = way_1 j) (kz_0_31 : 0 ≤ pn_0 ∧ pn_0 ≤ 25) (kz_0_32 : 0 ≤ pm_0 ∧ pm_0 ≤ 80) (kz_0_45 : 0 ≤ wayMany_0 ∧ wayMany_0 ≤ 30) (kz_0_49 : (-1) ≤ onlyPiece_0 ∧ onlyPiece_0 ≤ 79) (ex2 : gx = x1) : (-1) * gx + (1 * x1 + 0) ≤ 0 := by
  subst fe_0_31_1
  subst fe_0_32_1
  subst fe_0_45_1
  subst fe_0_49_1
  have e_hE_0_17_1 := funext hE_0_17_1; subst e_hE_0_17_1
  have e_hE_0_33_1 := funext hE_0_33_1; subst e_hE_0_33_1
  have e_hE_0_34_1 := funext hE_0_34_1; subst e_hE_0_34_1
  have e_hE_0_35_1 := funext hE_0_35_1; subst e_hE_0_35_1
  have e_hE_0_40_1 := funext hE_0_40_1; subst e_hE_0_40_1
  have e_hE_0_41_1 := funext hE_0_41_1; subst e_hE_0_41_1
  have e_hE_0_42_1 := funext hE_0_42_1; subst e_hE_0_42_1
  have e_hE_0_43_1 := funext hE_0_43_1; subst e_hE_0_43_1
  have e_hE_0_46_1 := funext hE_0_46_1; subst e_hE_0_46_1
  first | omega
set_option maxHeartbeats 4000000 in
theorem vc_Mo_draws_19_2 (pt_0 : Int → Int) (ph_0 : Int → Int) (pn_0 : Int) (pm_0 : Int) (alive_0 : Int → Int) (blockOf_0 : Int → Int) (onlyPiece_0 : Int) (drawnEdge_0 : Int → Int) (drawnNode_0 : Int → Int) (way_0 : Int → Int) (faceMany_0 : Int → Int) (face_0 : Int → Int) (wayMany_0 : Int) (wayMany_1 : Int) (pt_1 : Int → Int) (ph_1 : Int → Int) (pn_1 : Int) (pm_1 : Int) (alive_1 : Int → Int) (blockOf_1 : Int → Int) (onlyPiece_1 : Int) (drawnEdge_1 : Int → Int) (drawnNode_1 : Int → Int) (way_1 : Int → Int) (faceMany_1 : Int → Int) (face_1 : Int → Int) (f10 : GOK (pn_1) (pm_1) (pt_1) (ph_1)) (fe_0_31_1 : pn_0 = pn_1) (fe_0_32_1 : pm_0 = pm_1) (fe_0_45_1 : wayMany_0 = wayMany_1) (fe_0_49_1 : onlyPiece_0 = onlyPiece_1) (hE_0_17_1 : ∀ j : Int, blockOf_0 j = blockOf_1 j) (hE_0_33_1 : ∀ j : Int, pt_0 j = pt_1 j) (hE_0_34_1 : ∀ j : Int, ph_0 j = ph_1 j) (hE_0_35_1 : ∀ j : Int, alive_0 j = alive_1 j) (hE_0_40_1 : ∀ j : Int, faceMany_0 j = faceMany_1 j) (hE_0_41_1 : ∀ j : Int, face_0 j = face_1 j) (hE_0_42_1 : ∀ j : Int, drawnNode_0 j = drawnNode_1 j) (hE_0_43_1 : ∀ j : Int, drawnEdge_0 j = drawnEdge_1 j) (hE_0_46_1 : ∀ j : Int, way_0 j = way_1 j) (kz_0_31 : 0 ≤ pn_0 ∧ pn_0 ≤ 25) (kz_0_32 : 0 ≤ pm_0 ∧ pm_0 ≤ 80) (kz_0_45 : 0 ≤ wayMany_0 ∧ wayMany_0 ≤ 30) (kz_0_49 : (-1) ≤ onlyPiece_0 ∧ onlyPiece_0 ≤ 79) : GOK (pn_0) (pm_0) (pt_0) (ph_0) := by
  subst fe_0_31_1
  subst fe_0_32_1
  subst fe_0_45_1
  subst fe_0_49_1
  have e_hE_0_17_1 := funext hE_0_17_1; subst e_hE_0_17_1
  have e_hE_0_33_1 := funext hE_0_33_1; subst e_hE_0_33_1
  have e_hE_0_34_1 := funext hE_0_34_1; subst e_hE_0_34_1
  have e_hE_0_35_1 := funext hE_0_35_1; subst e_hE_0_35_1
  have e_hE_0_40_1 := funext hE_0_40_1; subst e_hE_0_40_1
  have e_hE_0_41_1 := funext hE_0_41_1; subst e_hE_0_41_1
  have e_hE_0_42_1 := funext hE_0_42_1; subst e_hE_0_42_1
  have e_hE_0_43_1 := funext hE_0_43_1; subst e_hE_0_43_1
  have e_hE_0_46_1 := funext hE_0_46_1; subst e_hE_0_46_1
  first | assumption
set_option maxHeartbeats 4000000 in
theorem vc_Mo_draws_19_3 (x1 : Int) (x5 : Int) (x7 : Int) (x8 : Int) (x9 : Int) (pt_0 : Int → Int) (ph_0 : Int → Int) (pn_0 : Int) (pm_0 : Int) (alive_0 : Int → Int) (blockOf_0 : Int → Int) (onlyPiece_0 : Int) (drawnEdge_0 : Int → Int) (drawnNode_0 : Int → Int) (way_0 : Int → Int) (faceMany_0 : Int → Int) (face_0 : Int → Int) (wayMany_0 : Int) (wayMany_1 : Int) (pt_1 : Int → Int) (ph_1 : Int → Int) (pn_1 : Int) (pm_1 : Int) (alive_1 : Int → Int) (blockOf_1 : Int → Int) (onlyPiece_1 : Int) (drawnEdge_1 : Int → Int) (drawnNode_1 : Int → Int) (way_1 : Int → Int) (faceMany_1 : Int → Int) (face_1 : Int → Int) (faces_0 : Int) (gx : Int) (k1 : 0 ≤ x1 ∧ x1 ≤ 79) (k5 : 0 ≤ x5 ∧ x5 ≤ 79) (k7 : 1 ≤ x7 ∧ x7 ≤ 30) (k8 : 0 ≤ x8 ∧ x8 ≤ 30) (k9 : 2 ≤ x9 ∧ x9 ≤ 2) (d0 : x8 + 0 ≤ x7 ∧ x7 ≤ x8 + 4294967296) (g9 : x8 = wayMany_1) (f14 : R2 (pn_1) (pm_1) (wayMany_1) (pt_1) (ph_1) (alive_1) (blockOf_1) (drawnEdge_1) (drawnNode_1) (way_1) (faceMany_1) (face_1) (x1) (x5) (x7)) (fe_0_31_1 : pn_0 = pn_1) (fe_0_32_1 : pm_0 = pm_1) (fe_0_39_1 : faces_0 = x9) (fe_0_45_1 : wayMany_0 = wayMany_1) (fe_0_49_1 : onlyPiece_0 = onlyPiece_1) (hE_0_17_1 : ∀ j : Int, blockOf_0 j = blockOf_1 j) (hE_0_33_1 : ∀ j : Int, pt_0 j = pt_1 j) (hE_0_34_1 : ∀ j : Int, ph_0 j = ph_1 j) (hE_0_35_1 : ∀ j : Int, alive_0 j = alive_1 j) (hE_0_40_1 : ∀ j : Int, faceMany_0 j = faceMany_1 j) (hE_0_41_1 : ∀ j : Int, face_0 j = face_1 j) (hE_0_42_1 : ∀ j : Int, drawnNode_0 j = drawnNode_1 j) (hE_0_43_1 : ∀ j : Int, drawnEdge_0 j = drawnEdge_1 j) (hE_0_46_1 : ∀ j : Int, way_0 j = way_1 j) (kz_0_31 : 0 ≤ pn_0 ∧ pn_0 ≤ 25) (kz_0_32 : 0 ≤ pm_0 ∧ pm_0 ≤ 80) (kz_0_39 : 0 ≤ faces_0 ∧ faces_0 ≤ 120) (kz_0_45 : 0 ≤ wayMany_0 ∧ wayMany_0 ≤ 30) (kz_0_49 : (-1) ≤ onlyPiece_0 ∧ onlyPiece_0 ≤ 79) (ex2 : gx = x1) : DWP (pn_0) (pm_0) (faces_0) (wayMany_0) (pt_0) (ph_0) (alive_0) (blockOf_0) (drawnEdge_0) (drawnNode_0) (faceMany_0) (face_0) (way_0) (gx) := by
  subst fe_0_31_1
  subst fe_0_32_1
  subst fe_0_45_1
  subst fe_0_49_1
  have e_hE_0_17_1 := funext hE_0_17_1; subst e_hE_0_17_1
  have e_hE_0_33_1 := funext hE_0_33_1; subst e_hE_0_33_1
  have e_hE_0_34_1 := funext hE_0_34_1; subst e_hE_0_34_1
  have e_hE_0_35_1 := funext hE_0_35_1; subst e_hE_0_35_1
  have e_hE_0_40_1 := funext hE_0_40_1; subst e_hE_0_40_1
  have e_hE_0_41_1 := funext hE_0_41_1; subst e_hE_0_41_1
  have e_hE_0_42_1 := funext hE_0_42_1; subst e_hE_0_42_1
  have e_hE_0_43_1 := funext hE_0_43_1; subst e_hE_0_43_1
  have e_hE_0_46_1 := funext hE_0_46_1; subst e_hE_0_46_1
  have h := r2_dwp (faces := faces_0) ‹R2 _ _ _ _ _ _ _ _ _ _ _ _ _ _ _› (by omega) (by omega) (by omega) (by omega) (by omega)
  first | exact h | (rw [ex2]; exact h)
def o_Mo_draws_19 : or_T := (293, 10, [(0, (2, 0, 0, [165])), (1, (0, 0, 79, [])), (4, (0, 0, 79, [])), (5, (0, 0, 79, [])), (7, (0, 1, 30, [])), (8, (0, 0, 30, [])), (9, (0, 2, 2, []))], [(24, [0, 3], []), (24, [1, 4], []), (101, [3, 9], [39]), (9, [8, 3], [45]), (20, [3], [60, 2, 2, 75, 31, 32, 33, 34]), (20, [3, 4, 5, 7], [60, 3, 9, 165, 31, 32, 45, 33, 34, 35, 17, 43, 42, 46, 40, 41])], [], [(0, 0, 79, [])], [(23, [10, 4], [0, 1, -1]), (23, [10, 4], [0, -1, 1]), (20, [3], [60, 2, 2, 75, 31, 32, 33, 34]), (20, [3, 10], [60, 4, 9, 152, 31, 32, 39, 45, 33, 34, 35, 17, 43, 42, 40, 41, 46])], [], [(7, 8, 0, 4294967296), (1, 4, -4294967296, 0), (4, 1, -4294967296, 0)])
theorem oo_Mo_draws_19 {kA : Nat → ClassId} : or_ok PRD kA GG o_Mo_draws_19 := by
  refine or_mk fun A ta ws vs hD hth hl => ?_
  intro t0 r0 t1 k1 t4 k4 t5 k5 t7 k7 t8 k8 t9 k9 d0 d1 d2 f5 f6 ta1 w1 le1 s1 f9 f10 f14
  replace f5 := shm_5 f5
  replace f6 := shm_5 f6
  have s1 : (∀ b j, w_el ws b j = w_el w1 b j) ∧ ∀ b j, w_fd ws b j = if b = v_ad (n_v vs 3) ∧ j = 39 then n_v vs 9 else w_fd w1 b j := s1.2
  replace f9 := shm_727 f9
  replace f10 := shm_563 f10
  replace f14 := shm_1878 f14
  have q3 : n_v vs 3 = n_v vs 0 := f5.symm
  have q4 : n_v vs 4 = n_v vs 1 := f6.symm
  rw [q3] at s1
  simp only [q3, q4] at f9 f10 f14
  have ar_0_17_1 : w_ar w1 (n_v vs 0) 17 = w_ar ws (n_v vs 0) 17 := by show v_ad (w_fd w1 _ _) = v_ad (w_fd ws _ _); rw [s1.2, if_neg (fun e => absurd e.2 (by decide))]
  have ar_0_33_1 : w_ar w1 (n_v vs 0) 33 = w_ar ws (n_v vs 0) 33 := by show v_ad (w_fd w1 _ _) = v_ad (w_fd ws _ _); rw [s1.2, if_neg (fun e => absurd e.2 (by decide))]
  have ar_0_34_1 : w_ar w1 (n_v vs 0) 34 = w_ar ws (n_v vs 0) 34 := by show v_ad (w_fd w1 _ _) = v_ad (w_fd ws _ _); rw [s1.2, if_neg (fun e => absurd e.2 (by decide))]
  have ar_0_35_1 : w_ar w1 (n_v vs 0) 35 = w_ar ws (n_v vs 0) 35 := by show v_ad (w_fd w1 _ _) = v_ad (w_fd ws _ _); rw [s1.2, if_neg (fun e => absurd e.2 (by decide))]
  have ar_0_40_1 : w_ar w1 (n_v vs 0) 40 = w_ar ws (n_v vs 0) 40 := by show v_ad (w_fd w1 _ _) = v_ad (w_fd ws _ _); rw [s1.2, if_neg (fun e => absurd e.2 (by decide))]
  have ar_0_41_1 : w_ar w1 (n_v vs 0) 41 = w_ar ws (n_v vs 0) 41 := by show v_ad (w_fd w1 _ _) = v_ad (w_fd ws _ _); rw [s1.2, if_neg (fun e => absurd e.2 (by decide))]
  have ar_0_42_1 : w_ar w1 (n_v vs 0) 42 = w_ar ws (n_v vs 0) 42 := by show v_ad (w_fd w1 _ _) = v_ad (w_fd ws _ _); rw [s1.2, if_neg (fun e => absurd e.2 (by decide))]
  have ar_0_43_1 : w_ar w1 (n_v vs 0) 43 = w_ar ws (n_v vs 0) 43 := by show v_ad (w_fd w1 _ _) = v_ad (w_fd ws _ _); rw [s1.2, if_neg (fun e => absurd e.2 (by decide))]
  have ar_0_46_1 : w_ar w1 (n_v vs 0) 46 = w_ar ws (n_v vs 0) 46 := by show v_ad (w_fd w1 _ _) = v_ad (w_fd ws _ _); rw [s1.2, if_neg (fun e => absurd e.2 (by decide))]
  have g9 : v_iv (n_v vs 8) = w_fi w1 (n_v vs 0) 45 := congrArg v_iv f9
  simp only [ar_0_33_1, ar_0_34_1, ar_0_17_1, ar_0_35_1, ar_0_40_1, ar_0_41_1, ar_0_42_1, ar_0_43_1, ar_0_46_1] at f10 f14
  have fe_0_31_1 : w_fi ws (n_v vs 0) 31 = w_fi w1 (n_v vs 0) 31 := by show v_iv (w_fd _ _ _) = v_iv (w_fd _ _ _); rw [s1.2, if_neg (fun e => absurd e.2 (by decide))]
  have fe_0_32_1 : w_fi ws (n_v vs 0) 32 = w_fi w1 (n_v vs 0) 32 := by show v_iv (w_fd _ _ _) = v_iv (w_fd _ _ _); rw [s1.2, if_neg (fun e => absurd e.2 (by decide))]
  have fe_0_39_1 : w_fi ws (n_v vs 0) 39 = v_iv (n_v vs 9) := by show v_iv (w_fd _ _ _) = _; rw [s1.2, if_pos ⟨rfl, rfl⟩]
  have fe_0_45_1 : w_fi ws (n_v vs 0) 45 = w_fi w1 (n_v vs 0) 45 := by show v_iv (w_fd _ _ _) = v_iv (w_fd _ _ _); rw [s1.2, if_neg (fun e => absurd e.2 (by decide))]
  have fe_0_49_1 : w_fi ws (n_v vs 0) 49 = w_fi w1 (n_v vs 0) 49 := by show v_iv (w_fd _ _ _) = v_iv (w_fd _ _ _); rw [s1.2, if_neg (fun e => absurd e.2 (by decide))]
  have hE_0_17_1 : ∀ j : Int, w_ei ws (w_ar ws (n_v vs 0) 17) j = w_ei w1 (w_ar ws (n_v vs 0) 17) j := fun j => s1.1 _ _
  have hE_0_33_1 : ∀ j : Int, w_ei ws (w_ar ws (n_v vs 0) 33) j = w_ei w1 (w_ar ws (n_v vs 0) 33) j := fun j => s1.1 _ _
  have hE_0_34_1 : ∀ j : Int, w_ei ws (w_ar ws (n_v vs 0) 34) j = w_ei w1 (w_ar ws (n_v vs 0) 34) j := fun j => s1.1 _ _
  have hE_0_35_1 : ∀ j : Int, w_ei ws (w_ar ws (n_v vs 0) 35) j = w_ei w1 (w_ar ws (n_v vs 0) 35) j := fun j => s1.1 _ _
  have hE_0_40_1 : ∀ j : Int, w_ei ws (w_ar ws (n_v vs 0) 40) j = w_ei w1 (w_ar ws (n_v vs 0) 40) j := fun j => s1.1 _ _
  have hE_0_41_1 : ∀ j : Int, w_ei ws (w_ar ws (n_v vs 0) 41) j = w_ei w1 (w_ar ws (n_v vs 0) 41) j := fun j => s1.1 _ _
  have hE_0_42_1 : ∀ j : Int, w_ei ws (w_ar ws (n_v vs 0) 42) j = w_ei w1 (w_ar ws (n_v vs 0) 42) j := fun j => s1.1 _ _
  have hE_0_43_1 : ∀ j : Int, w_ei ws (w_ar ws (n_v vs 0) 43) j = w_ei w1 (w_ar ws (n_v vs 0) 43) j := fun j => s1.1 _ _
  have hE_0_46_1 : ∀ j : Int, w_ei ws (w_ar ws (n_v vs 0) 46) j = w_ei w1 (w_ar ws (n_v vs 0) 46) j := fun j => s1.1 _ _
  have kz_0_31 := fdq_144 hD hth r0
  have kz_0_32 := fdq_139 hD hth r0
  have kz_0_39 := fdq_134 hD hth r0
  have kz_0_45 := fdq_189 hD hth r0
  have kz_0_49 := fdq_145 hD hth r0
  obtain ⟨x, ex, hx⟩ := iv_ex (ta := ta) (lo := 0) (hi := 79) (z := v_iv (n_v vs 1)) (by omega) (by omega) (by omega) (by omega)
  have ex2 : v_iv (Value.int x) = v_iv (n_v vs 1) := ex
  have ex3 : 0 ≤ v_iv (Value.int x) ∧ v_iv (Value.int x) ≤ 79 := tv_rng hx
  have e_3 : n_v (vs ++ [Value.int x]) 3 = n_v vs 3 := n_v_old (by rw [hl]; decide)
  have e_4 : n_v (vs ++ [Value.int x]) 4 = n_v vs 4 := n_v_old (by rw [hl]; decide)
  have e_10 : n_v (vs ++ [Value.int x]) 10 = Value.int x := n_v_new hl
  have nf0 : fc_1 PRD (23, [10, 4], [0, 1, -1]) ws (vs ++ [Value.int x]) := by
    refine ⟨nf_inA hl rfl, sgq_7 ?_⟩
    · show 1 * v_iv (n_v (vs ++ [Value.int x]) 10) + ((-1) * v_iv (n_v (vs ++ [Value.int x]) 4) + 0) ≤ 0
      simp only [e_4, e_10, q4]
      exact vc_Mo_draws_19_0 (v_iv (n_v vs 1)) (v_iv (n_v vs 4)) (w_ei ws (w_ar ws (n_v vs 0) 33)) (w_ei ws (w_ar ws (n_v vs 0) 34)) (w_fi ws (n_v vs 0) 31) (w_fi ws (n_v vs 0) 32) (w_ei ws (w_ar ws (n_v vs 0) 35)) (w_ei ws (w_ar ws (n_v vs 0) 17)) (w_fi ws (n_v vs 0) 49) (w_ei ws (w_ar ws (n_v vs 0) 43)) (w_ei ws (w_ar ws (n_v vs 0) 42)) (w_ei ws (w_ar ws (n_v vs 0) 46)) (w_ei ws (w_ar ws (n_v vs 0) 40)) (w_ei ws (w_ar ws (n_v vs 0) 41)) (w_fi ws (n_v vs 0) 45) (w_fi w1 (n_v vs 0) 45) (w_ei w1 (w_ar ws (n_v vs 0) 33)) (w_ei w1 (w_ar ws (n_v vs 0) 34)) (w_fi w1 (n_v vs 0) 31) (w_fi w1 (n_v vs 0) 32) (w_ei w1 (w_ar ws (n_v vs 0) 35)) (w_ei w1 (w_ar ws (n_v vs 0) 17)) (w_fi w1 (n_v vs 0) 49) (w_ei w1 (w_ar ws (n_v vs 0) 43)) (w_ei w1 (w_ar ws (n_v vs 0) 42)) (w_ei w1 (w_ar ws (n_v vs 0) 46)) (w_ei w1 (w_ar ws (n_v vs 0) 40)) (w_ei w1 (w_ar ws (n_v vs 0) 41)) (v_iv (Value.int x)) k1 k4 d1 d2 fe_0_31_1 fe_0_32_1 fe_0_45_1 fe_0_49_1 hE_0_17_1 hE_0_33_1 hE_0_34_1 hE_0_35_1 hE_0_40_1 hE_0_41_1 hE_0_42_1 hE_0_43_1 hE_0_46_1 kz_0_31 kz_0_32 kz_0_45 kz_0_49 ex2
  have nf1 : fc_1 PRD (23, [10, 4], [0, -1, 1]) ws (vs ++ [Value.int x]) := by
    refine ⟨nf_inA hl rfl, sgq_22 ?_⟩
    · show (-1) * v_iv (n_v (vs ++ [Value.int x]) 10) + (1 * v_iv (n_v (vs ++ [Value.int x]) 4) + 0) ≤ 0
      simp only [e_4, e_10, q4]
      exact vc_Mo_draws_19_1 (v_iv (n_v vs 1)) (v_iv (n_v vs 4)) (w_ei ws (w_ar ws (n_v vs 0) 33)) (w_ei ws (w_ar ws (n_v vs 0) 34)) (w_fi ws (n_v vs 0) 31) (w_fi ws (n_v vs 0) 32) (w_ei ws (w_ar ws (n_v vs 0) 35)) (w_ei ws (w_ar ws (n_v vs 0) 17)) (w_fi ws (n_v vs 0) 49) (w_ei ws (w_ar ws (n_v vs 0) 43)) (w_ei ws (w_ar ws (n_v vs 0) 42)) (w_ei ws (w_ar ws (n_v vs 0) 46)) (w_ei ws (w_ar ws (n_v vs 0) 40)) (w_ei ws (w_ar ws (n_v vs 0) 41)) (w_fi ws (n_v vs 0) 45) (w_fi w1 (n_v vs 0) 45) (w_ei w1 (w_ar ws (n_v vs 0) 33)) (w_ei w1 (w_ar ws (n_v vs 0) 34)) (w_fi w1 (n_v vs 0) 31) (w_fi w1 (n_v vs 0) 32) (w_ei w1 (w_ar ws (n_v vs 0) 35)) (w_ei w1 (w_ar ws (n_v vs 0) 17)) (w_fi w1 (n_v vs 0) 49) (w_ei w1 (w_ar ws (n_v vs 0) 43)) (w_ei w1 (w_ar ws (n_v vs 0) 42)) (w_ei w1 (w_ar ws (n_v vs 0) 46)) (w_ei w1 (w_ar ws (n_v vs 0) 40)) (w_ei w1 (w_ar ws (n_v vs 0) 41)) (v_iv (Value.int x)) k1 k4 d1 d2 fe_0_31_1 fe_0_32_1 fe_0_45_1 fe_0_49_1 hE_0_17_1 hE_0_33_1 hE_0_34_1 hE_0_35_1 hE_0_40_1 hE_0_41_1 hE_0_42_1 hE_0_43_1 hE_0_46_1 kz_0_31 kz_0_32 kz_0_45 kz_0_49 ex2
  have nf2 : fc_1 PRD (20, [3], [60, 2, 2, 75, 31, 32, 33, 34]) ws (vs ++ [Value.int x]) := by
    refine ⟨nf_inA hl rfl, sgq_563 ?_⟩
    · show GOK (w_fi ws (n_v (vs ++ [Value.int x]) 3) 31) (w_fi ws (n_v (vs ++ [Value.int x]) 3) 32) (w_ei ws (w_ar ws (n_v (vs ++ [Value.int x]) 3) 33)) (w_ei ws (w_ar ws (n_v (vs ++ [Value.int x]) 3) 34))
      simp only [e_3, q3]
      exact vc_Mo_draws_19_2 (w_ei ws (w_ar ws (n_v vs 0) 33)) (w_ei ws (w_ar ws (n_v vs 0) 34)) (w_fi ws (n_v vs 0) 31) (w_fi ws (n_v vs 0) 32) (w_ei ws (w_ar ws (n_v vs 0) 35)) (w_ei ws (w_ar ws (n_v vs 0) 17)) (w_fi ws (n_v vs 0) 49) (w_ei ws (w_ar ws (n_v vs 0) 43)) (w_ei ws (w_ar ws (n_v vs 0) 42)) (w_ei ws (w_ar ws (n_v vs 0) 46)) (w_ei ws (w_ar ws (n_v vs 0) 40)) (w_ei ws (w_ar ws (n_v vs 0) 41)) (w_fi ws (n_v vs 0) 45) (w_fi w1 (n_v vs 0) 45) (w_ei w1 (w_ar ws (n_v vs 0) 33)) (w_ei w1 (w_ar ws (n_v vs 0) 34)) (w_fi w1 (n_v vs 0) 31) (w_fi w1 (n_v vs 0) 32) (w_ei w1 (w_ar ws (n_v vs 0) 35)) (w_ei w1 (w_ar ws (n_v vs 0) 17)) (w_fi w1 (n_v vs 0) 49) (w_ei w1 (w_ar ws (n_v vs 0) 43)) (w_ei w1 (w_ar ws (n_v vs 0) 42)) (w_ei w1 (w_ar ws (n_v vs 0) 46)) (w_ei w1 (w_ar ws (n_v vs 0) 40)) (w_ei w1 (w_ar ws (n_v vs 0) 41)) f10 fe_0_31_1 fe_0_32_1 fe_0_45_1 fe_0_49_1 hE_0_17_1 hE_0_33_1 hE_0_34_1 hE_0_35_1 hE_0_40_1 hE_0_41_1 hE_0_42_1 hE_0_43_1 hE_0_46_1 kz_0_31 kz_0_32 kz_0_45 kz_0_49
  have nf3 : fc_1 PRD (20, [3, 10], [60, 4, 9, 152, 31, 32, 39, 45, 33, 34, 35, 17, 43, 42, 40, 41, 46]) ws (vs ++ [Value.int x]) := by
    refine ⟨nf_inA hl rfl, sgq_1094 ?_⟩
    · show DWP (w_fi ws (n_v (vs ++ [Value.int x]) 3) 31) (w_fi ws (n_v (vs ++ [Value.int x]) 3) 32) (w_fi ws (n_v (vs ++ [Value.int x]) 3) 39) (w_fi ws (n_v (vs ++ [Value.int x]) 3) 45) (w_ei ws (w_ar ws (n_v (vs ++ [Value.int x]) 3) 33)) (w_ei ws (w_ar ws (n_v (vs ++ [Value.int x]) 3) 34)) (w_ei ws (w_ar ws (n_v (vs ++ [Value.int x]) 3) 35)) (w_ei ws (w_ar ws (n_v (vs ++ [Value.int x]) 3) 17)) (w_ei ws (w_ar ws (n_v (vs ++ [Value.int x]) 3) 43)) (w_ei ws (w_ar ws (n_v (vs ++ [Value.int x]) 3) 42)) (w_ei ws (w_ar ws (n_v (vs ++ [Value.int x]) 3) 40)) (w_ei ws (w_ar ws (n_v (vs ++ [Value.int x]) 3) 41)) (w_ei ws (w_ar ws (n_v (vs ++ [Value.int x]) 3) 46)) (v_iv (n_v (vs ++ [Value.int x]) 10))
      simp only [e_3, e_10, q3]
      exact vc_Mo_draws_19_3 (v_iv (n_v vs 1)) (v_iv (n_v vs 5)) (v_iv (n_v vs 7)) (v_iv (n_v vs 8)) (v_iv (n_v vs 9)) (w_ei ws (w_ar ws (n_v vs 0) 33)) (w_ei ws (w_ar ws (n_v vs 0) 34)) (w_fi ws (n_v vs 0) 31) (w_fi ws (n_v vs 0) 32) (w_ei ws (w_ar ws (n_v vs 0) 35)) (w_ei ws (w_ar ws (n_v vs 0) 17)) (w_fi ws (n_v vs 0) 49) (w_ei ws (w_ar ws (n_v vs 0) 43)) (w_ei ws (w_ar ws (n_v vs 0) 42)) (w_ei ws (w_ar ws (n_v vs 0) 46)) (w_ei ws (w_ar ws (n_v vs 0) 40)) (w_ei ws (w_ar ws (n_v vs 0) 41)) (w_fi ws (n_v vs 0) 45) (w_fi w1 (n_v vs 0) 45) (w_ei w1 (w_ar ws (n_v vs 0) 33)) (w_ei w1 (w_ar ws (n_v vs 0) 34)) (w_fi w1 (n_v vs 0) 31) (w_fi w1 (n_v vs 0) 32) (w_ei w1 (w_ar ws (n_v vs 0) 35)) (w_ei w1 (w_ar ws (n_v vs 0) 17)) (w_fi w1 (n_v vs 0) 49) (w_ei w1 (w_ar ws (n_v vs 0) 43)) (w_ei w1 (w_ar ws (n_v vs 0) 42)) (w_ei w1 (w_ar ws (n_v vs 0) 46)) (w_ei w1 (w_ar ws (n_v vs 0) 40)) (w_ei w1 (w_ar ws (n_v vs 0) 41)) (w_fi ws (n_v vs 0) 39) (v_iv (Value.int x)) k1 k5 k7 k8 k9 d0 g9 f14 fe_0_31_1 fe_0_32_1 fe_0_39_1 fe_0_45_1 fe_0_49_1 hE_0_17_1 hE_0_33_1 hE_0_34_1 hE_0_35_1 hE_0_40_1 hE_0_41_1 hE_0_42_1 hE_0_43_1 hE_0_46_1 kz_0_31 kz_0_32 kz_0_39 kz_0_45 kz_0_49 ex2
  exact ⟨(fun _ h => (by cases h)), [Value.int x], ag_one hx, List.forall_mem_cons.mpr ⟨⟨show (23 : Nat) < 100 from by decide, nf0⟩, List.forall_mem_cons.mpr ⟨⟨show (23 : Nat) < 100 from by decide, nf1⟩, List.forall_mem_cons.mpr ⟨⟨show (20 : Nat) < 100 from by decide, nf2⟩, List.forall_mem_cons.mpr ⟨⟨show (20 : Nat) < 100 from by decide, nf3⟩, (fun _ h => (by cases h))⟩⟩⟩⟩, (fun _ h => (by cases h))⟩
set_option maxHeartbeats 4000000 in
theorem vc_Mo_draws_20_0 (pt_0 : Int → Int) (ph_0 : Int → Int) (pn_0 : Int) (pm_0 : Int) (f3 : GOK (pn_0) (pm_0) (pt_0) (ph_0)) (kz_0_31 : 0 ≤ pn_0 ∧ pn_0 ≤ 25) (kz_0_32 : 0 ≤ pm_0 ∧ pm_0 ≤ 80) : GOK (pn_0) (pm_0) (pt_0) (ph_0) := by
  first | assumption
set_option maxHeartbeats 4000000 in
theorem vc_Mo_draws_20_1 (x2 : Int) (pt_0 : Int → Int) (ph_0 : Int → Int) (pm_0 : Int) (alive_0 : Int → Int) (blockOf_0 : Int → Int) (k2 : 0 ≤ x2 ∧ x2 ≤ 80) (f4 : BK (pm_0) (pt_0) (ph_0) (alive_0) (blockOf_0) (x2)) (kz_0_32 : 0 ≤ pm_0 ∧ pm_0 ≤ 80) : BK (pm_0) (pt_0) (ph_0) (alive_0) (blockOf_0) (x2) := by
  first | assumption
set_option maxHeartbeats 4000000 in
theorem vc_Mo_draws_20_2 (x1 : Int) (x2 : Int) (k1 : 0 ≤ x1 ∧ x1 ≤ 79) (k2 : 0 ≤ x2 ∧ x2 ≤ 80) (f15 : 1 * x1 + ((-1) * x2 + 0) ≤ (-1)) : 1 * x1 + ((-1) * x2 + 0) ≤ (-1) := by
  first | omega
set_option maxHeartbeats 4000000 in
theorem vc_Mo_draws_20_3 (onlyPiece_0 : Int) (f6 : onlyPiece_0 = (-1)) (kz_0_49 : (-1) ≤ onlyPiece_0 ∧ onlyPiece_0 ≤ 79) : onlyPiece_0 = (-1) := by
  first | omega
set_option maxHeartbeats 4000000 in
theorem vc_Mo_draws_20_4 (x1 : Int) (x4 : Int) (x10 : Int) (pt_0 : Int → Int) (ph_0 : Int → Int) (pm_0 : Int) (alive_0 : Int → Int) (blockOf_0 : Int → Int) (drawnEdge_0 : Int → Int) (drawnNode_0 : Int → Int) (faceMany_0 : Int → Int) (face_0 : Int → Int) (faces_0 : Int) (k1 : 0 ≤ x1 ∧ x1 ≤ 79) (k4 : 0 ≤ x4 ∧ x4 ≤ 79) (k10 : 0 ≤ x10 ∧ x10 ≤ 79) (d0 : x4 + (-4294967296) ≤ x1 ∧ x1 ≤ x4 + 0) (d1 : x1 + (-4294967296) ≤ x4 ∧ x4 ≤ x1 + 0) (f0 : 1 * x10 + ((-1) * x1 + 0) ≤ 0) (f1 : (-1) * x10 + (1 * x1 + 0) ≤ 0) (f9 : DWQ (pm_0) (faces_0) (pt_0) (ph_0) (alive_0) (blockOf_0) (drawnEdge_0) (drawnNode_0) (faceMany_0) (face_0) (x10)) (kz_0_32 : 0 ≤ pm_0 ∧ pm_0 ≤ 80) (kz_0_39 : 0 ≤ faces_0 ∧ faces_0 ≤ 120) : DSB (pm_0) (pt_0) (ph_0) (alive_0) (blockOf_0) (drawnEdge_0) (drawnNode_0) (x1) := by
  first
    | assumption
    | (have h := ‹DWQ _ _ _ _ _ _ _ _ _ _ _›
       have e : x10 = x1 := by omega
       rw [e] at h; exact h.1)
set_option maxHeartbeats 4000000 in
theorem vc_Mo_draws_20_5 (x1 : Int) (x4 : Int) (x10 : Int) (pt_0 : Int → Int) (ph_0 : Int → Int) (pm_0 : Int) (alive_0 : Int → Int) (blockOf_0 : Int → Int) (drawnEdge_0 : Int → Int) (drawnNode_0 : Int → Int) (faceMany_0 : Int → Int) (face_0 : Int → Int) (faces_0 : Int) (k1 : 0 ≤ x1 ∧ x1 ≤ 79) (k4 : 0 ≤ x4 ∧ x4 ≤ 79) (k10 : 0 ≤ x10 ∧ x10 ≤ 79) (d0 : x4 + (-4294967296) ≤ x1 ∧ x1 ≤ x4 + 0) (d1 : x1 + (-4294967296) ≤ x4 ∧ x4 ≤ x1 + 0) (f0 : 1 * x10 + ((-1) * x1 + 0) ≤ 0) (f1 : (-1) * x10 + (1 * x1 + 0) ≤ 0) (f9 : DWQ (pm_0) (faces_0) (pt_0) (ph_0) (alive_0) (blockOf_0) (drawnEdge_0) (drawnNode_0) (faceMany_0) (face_0) (x10)) (kz_0_32 : 0 ≤ pm_0 ∧ pm_0 ≤ 80) (kz_0_39 : 0 ≤ faces_0 ∧ faces_0 ≤ 120) : FI (pm_0) (faces_0) (pt_0) (ph_0) (alive_0) (blockOf_0) (drawnEdge_0) (faceMany_0) (face_0) (x1) := by
  first
    | assumption
    | (have h := ‹DWQ _ _ _ _ _ _ _ _ _ _ _›
       have e : x10 = x1 := by omega
       rw [e] at h; exact h.2.1)
set_option maxHeartbeats 4000000 in
theorem vc_Mo_draws_20_6 (x10 : Int) (pt_0 : Int → Int) (ph_0 : Int → Int) (pm_0 : Int) (alive_0 : Int → Int) (blockOf_0 : Int → Int) (drawnEdge_0 : Int → Int) (drawnNode_0 : Int → Int) (faceMany_0 : Int → Int) (face_0 : Int → Int) (faces_0 : Int) (k10 : 0 ≤ x10 ∧ x10 ≤ 79) (f9 : DWQ (pm_0) (faces_0) (pt_0) (ph_0) (alive_0) (blockOf_0) (drawnEdge_0) (drawnNode_0) (faceMany_0) (face_0) (x10)) (kz_0_32 : 0 ≤ pm_0 ∧ pm_0 ≤ 80) (kz_0_39 : 0 ≤ faces_0 ∧ faces_0 ≤ 120) : CZF (pm_0) (faces_0) (drawnEdge_0) := by
  first
    | assumption
    | (have h := ‹DWQ _ _ _ _ _ _ _ _ _ _ _›
       exact h.2.2)
set_option maxHeartbeats 4000000 in
theorem vc_Mo_draws_20_7 (faces_0 : Int) (gx : Int) (kz_0_39 : 0 ≤ faces_0 ∧ faces_0 ≤ 120) (ex2 : gx = 120) : (-1) * faces_0 + ((-1) * gx + 0) ≤ (-120) := by
  first | omega
def o_Mo_draws_20 : or_T := (296, 11, [(0, (2, 0, 0, [165])), (1, (0, 0, 79, [])), (2, (0, 0, 80, [])), (3, (2, 0, 0, [165])), (4, (0, 0, 79, [])), (9, (0, 2, 2, [])), (10, (0, 0, 79, []))], [(23, [10, 4], [0, 1, -1]), (23, [10, 4], [0, -1, 1]), (20, [3], [60, 2, 2, 75, 31, 32, 33, 34]), (20, [3], [60, 2, 2, 75, 31, 32, 33, 34]), (20, [3, 2], [60, 1, 4, 97, 32, 33, 34, 35, 17]), (23, [4, 2], [-1, 1, -1]), (20, [3], [50, 1, 0, 49, 1, 3, 2, 0, 49, 0, -1]), (24, [0, 3], []), (24, [1, 4], []), (20, [3, 10], [60, 2, 8, 154, 32, 39, 33, 34, 35, 17, 43, 42, 40, 41]), (102, [10], [1176956575385002643219210516851437453019191645837006471168]), (23, [10, 4], [0, 1, -1]), (23, [10, 4], [0, -1, 1]), (23, [4, 2], [-1, 1, -1]), (101, [3, 9], [39]), (23, [4, 2], [-1, 1, -1])], [], [(0, -2, 120, [])], [(20, [3], [60, 2, 2, 75, 31, 32, 33, 34]), (20, [3, 2], [60, 1, 4, 97, 32, 33, 34, 35, 17]), (23, [4, 2], [-1, 1, -1]), (20, [3], [50, 1, 0, 49, 1, 3, 2, 0, 49, 0, -1]), (20, [3, 4], [60, 1, 6, 166, 32, 33, 34, 35, 17, 43, 42]), (20, [3, 4], [60, 2, 7, 167, 32, 39, 33, 34, 35, 17, 43, 40, 41]), (20, [3], [60, 2, 1, 168, 32, 39, 43]), (20, [3, 11], [30, -120, -1, 1, 39, -1, 0, 0]), (24, [0, 3], []), (24, [1, 4], [])], [], [(1, 4, -4294967296, 0), (4, 1, -4294967296, 0)])
theorem oo_Mo_draws_20 {kA : Nat → ClassId} : or_ok PRD kA GG o_Mo_draws_20 := by
  refine or_mk fun A ta ws vs hD hth hl => ?_
  intro t0 r0 t1 k1 t2 k2 t3 r3 t4 k4 t9 k9 t10 k10 d0 d1 f0 f1 f2 f3 f4 f5 f6 f7 f8 f9 ta1 w1 le1 s1 f11 f12 f13 ta2 w2 le2 s2 f15
  replace f0 := shm_7 f0
  replace f1 := shm_22 f1
  replace f2 := shm_563 f2
  replace f3 := shm_563 f3
  replace f4 := shm_1481 f4
  replace f5 := shm_211 f5
  replace f6 := shm_1612 f6
  replace f7 := shm_5 f7
  replace f8 := shm_5 f8
  replace f9 := shm_1096 f9
  replace f11 := shm_7 f11
  replace f12 := shm_22 f12
  replace f13 := shm_211 f13
  have s2 : (∀ b j, w_el w1 b j = w_el w2 b j) ∧ ∀ b j, w_fd w1 b j = if b = v_ad (n_v vs 3) ∧ j = 39 then n_v vs 9 else w_fd w2 b j := s2.2
  replace f15 := shm_211 f15
  have q3 : n_v vs 3 = n_v vs 0 := f7.symm
  have q4 : n_v vs 4 = n_v vs 1 := f8.symm
  simp only [q4, q3] at f0 f1 f2 f3 f4 f5 f6 f9 f11 f12 f13
  rw [q3] at s2
  simp only [q4] at f15
  have cr_0_17 := fdq_187 hD hth r0
  have cr_0_33 := fdq_116 hD hth r0
  have cr_0_34 := fdq_117 hD hth r0
  have cr_0_35 := fdq_131 hD hth r0
  have cr_0_40 := fdq_132 hD hth r0
  have cr_0_41 := fdq_133 hD hth r0
  have cr_0_42 := fdq_135 hD hth r0
  have cr_0_43 := fdq_136 hD hth r0
  have hK_0_17 := elq_110 hD hth cr_0_17
  have hK_0_33 := elq_57 hD hth cr_0_33
  have hK_0_34 := elq_58 hD hth cr_0_34
  have hK_0_35 := elq_69 hD hth cr_0_35
  have hK_0_40 := elq_70 hD hth cr_0_40
  have hK_0_41 := elq_71 hD hth cr_0_41
  have hK_0_42 := elq_72 hD hth cr_0_42
  have hK_0_43 := elq_73 hD hth cr_0_43
  have kz_0_31 := fdq_144 hD hth r0
  have kz_0_32 := fdq_139 hD hth r0
  have kz_0_39 := fdq_134 hD hth r0
  have kz_0_49 := fdq_145 hD hth r0
  first | have hz := czf_bd ‹CZF _ _ _› (by omega) | skip
  obtain ⟨x, ex, hx⟩ := iv_ex (ta := ta) (lo := (-2)) (hi := 120) (z := 120) (by omega) (by omega) (by omega) (by omega)
  have ex2 : v_iv (Value.int x) = 120 := ex
  have ex3 : (-2) ≤ v_iv (Value.int x) ∧ v_iv (Value.int x) ≤ 120 := tv_rng hx
  have e_0 : n_v (vs ++ [Value.int x]) 0 = n_v vs 0 := n_v_old (by rw [hl]; decide)
  have e_1 : n_v (vs ++ [Value.int x]) 1 = n_v vs 1 := n_v_old (by rw [hl]; decide)
  have e_2 : n_v (vs ++ [Value.int x]) 2 = n_v vs 2 := n_v_old (by rw [hl]; decide)
  have e_3 : n_v (vs ++ [Value.int x]) 3 = n_v vs 3 := n_v_old (by rw [hl]; decide)
  have e_4 : n_v (vs ++ [Value.int x]) 4 = n_v vs 4 := n_v_old (by rw [hl]; decide)
  have e_11 : n_v (vs ++ [Value.int x]) 11 = Value.int x := n_v_new hl
  have nf0 : fc_1 PRD (20, [3], [60, 2, 2, 75, 31, 32, 33, 34]) ws (vs ++ [Value.int x]) := by
    refine ⟨nf_inA hl rfl, sgq_563 ?_⟩
    · show GOK (w_fi ws (n_v (vs ++ [Value.int x]) 3) 31) (w_fi ws (n_v (vs ++ [Value.int x]) 3) 32) (w_ei ws (w_ar ws (n_v (vs ++ [Value.int x]) 3) 33)) (w_ei ws (w_ar ws (n_v (vs ++ [Value.int x]) 3) 34))
      simp only [e_3, q3]
      exact vc_Mo_draws_20_0 (w_ei ws (w_ar ws (n_v vs 0) 33)) (w_ei ws (w_ar ws (n_v vs 0) 34)) (w_fi ws (n_v vs 0) 31) (w_fi ws (n_v vs 0) 32) f3 kz_0_31 kz_0_32
  have nf1 : fc_1 PRD (20, [3, 2], [60, 1, 4, 97, 32, 33, 34, 35, 17]) ws (vs ++ [Value.int x]) := by
    refine ⟨nf_inA hl rfl, sgq_1481 ?_⟩
    · show BK (w_fi ws (n_v (vs ++ [Value.int x]) 3) 32) (w_ei ws (w_ar ws (n_v (vs ++ [Value.int x]) 3) 33)) (w_ei ws (w_ar ws (n_v (vs ++ [Value.int x]) 3) 34)) (w_ei ws (w_ar ws (n_v (vs ++ [Value.int x]) 3) 35)) (w_ei ws (w_ar ws (n_v (vs ++ [Value.int x]) 3) 17)) (v_iv (n_v (vs ++ [Value.int x]) 2))
      simp only [e_2, e_3, q3]
      exact vc_Mo_draws_20_1 (v_iv (n_v vs 2)) (w_ei ws (w_ar ws (n_v vs 0) 33)) (w_ei ws (w_ar ws (n_v vs 0) 34)) (w_fi ws (n_v vs 0) 32) (w_ei ws (w_ar ws (n_v vs 0) 35)) (w_ei ws (w_ar ws (n_v vs 0) 17)) k2 f4 kz_0_32
  have nf2 : fc_1 PRD (23, [4, 2], [-1, 1, -1]) ws (vs ++ [Value.int x]) := by
    refine ⟨nf_inA hl rfl, sgq_211 ?_⟩
    · show 1 * v_iv (n_v (vs ++ [Value.int x]) 4) + ((-1) * v_iv (n_v (vs ++ [Value.int x]) 2) + 0) ≤ (-1)
      simp only [e_2, e_4, q4]
      exact vc_Mo_draws_20_2 (v_iv (n_v vs 1)) (v_iv (n_v vs 2)) k1 k2 f15
  have nf3 : fc_1 PRD (20, [3], [50, 1, 0, 49, 1, 3, 2, 0, 49, 0, -1]) ws (vs ++ [Value.int x]) := by
    refine ⟨nf_inA hl rfl, sgq_1612 ?_⟩
    · show w_fi ws (n_v (vs ++ [Value.int x]) 3) 49 = (-1)
      simp only [e_3, q3]
      exact vc_Mo_draws_20_3 (w_fi ws (n_v vs 0) 49) f6 kz_0_49
  have nf4 : fc_1 PRD (20, [3, 4], [60, 1, 6, 166, 32, 33, 34, 35, 17, 43, 42]) ws (vs ++ [Value.int x]) := by
    refine ⟨nf_inA hl rfl, sgq_1879 ?_⟩
    · show DSB (w_fi ws (n_v (vs ++ [Value.int x]) 3) 32) (w_ei ws (w_ar ws (n_v (vs ++ [Value.int x]) 3) 33)) (w_ei ws (w_ar ws (n_v (vs ++ [Value.int x]) 3) 34)) (w_ei ws (w_ar ws (n_v (vs ++ [Value.int x]) 3) 35)) (w_ei ws (w_ar ws (n_v (vs ++ [Value.int x]) 3) 17)) (w_ei ws (w_ar ws (n_v (vs ++ [Value.int x]) 3) 43)) (w_ei ws (w_ar ws (n_v (vs ++ [Value.int x]) 3) 42)) (v_iv (n_v (vs ++ [Value.int x]) 4))
      simp only [e_3, e_4, q3, q4]
      exact vc_Mo_draws_20_4 (v_iv (n_v vs 1)) (v_iv (n_v vs 4)) (v_iv (n_v vs 10)) (w_ei ws (w_ar ws (n_v vs 0) 33)) (w_ei ws (w_ar ws (n_v vs 0) 34)) (w_fi ws (n_v vs 0) 32) (w_ei ws (w_ar ws (n_v vs 0) 35)) (w_ei ws (w_ar ws (n_v vs 0) 17)) (w_ei ws (w_ar ws (n_v vs 0) 43)) (w_ei ws (w_ar ws (n_v vs 0) 42)) (w_ei ws (w_ar ws (n_v vs 0) 40)) (w_ei ws (w_ar ws (n_v vs 0) 41)) (w_fi ws (n_v vs 0) 39) k1 k4 k10 d0 d1 f0 f1 f9 kz_0_32 kz_0_39
  have nf5 : fc_1 PRD (20, [3, 4], [60, 2, 7, 167, 32, 39, 33, 34, 35, 17, 43, 40, 41]) ws (vs ++ [Value.int x]) := by
    refine ⟨nf_inA hl rfl, sgq_1880 ?_⟩
    · show FI (w_fi ws (n_v (vs ++ [Value.int x]) 3) 32) (w_fi ws (n_v (vs ++ [Value.int x]) 3) 39) (w_ei ws (w_ar ws (n_v (vs ++ [Value.int x]) 3) 33)) (w_ei ws (w_ar ws (n_v (vs ++ [Value.int x]) 3) 34)) (w_ei ws (w_ar ws (n_v (vs ++ [Value.int x]) 3) 35)) (w_ei ws (w_ar ws (n_v (vs ++ [Value.int x]) 3) 17)) (w_ei ws (w_ar ws (n_v (vs ++ [Value.int x]) 3) 43)) (w_ei ws (w_ar ws (n_v (vs ++ [Value.int x]) 3) 40)) (w_ei ws (w_ar ws (n_v (vs ++ [Value.int x]) 3) 41)) (v_iv (n_v (vs ++ [Value.int x]) 4))
      simp only [e_3, e_4, q3, q4]
      exact vc_Mo_draws_20_5 (v_iv (n_v vs 1)) (v_iv (n_v vs 4)) (v_iv (n_v vs 10)) (w_ei ws (w_ar ws (n_v vs 0) 33)) (w_ei ws (w_ar ws (n_v vs 0) 34)) (w_fi ws (n_v vs 0) 32) (w_ei ws (w_ar ws (n_v vs 0) 35)) (w_ei ws (w_ar ws (n_v vs 0) 17)) (w_ei ws (w_ar ws (n_v vs 0) 43)) (w_ei ws (w_ar ws (n_v vs 0) 42)) (w_ei ws (w_ar ws (n_v vs 0) 40)) (w_ei ws (w_ar ws (n_v vs 0) 41)) (w_fi ws (n_v vs 0) 39) k1 k4 k10 d0 d1 f0 f1 f9 kz_0_32 kz_0_39
  have nf6 : fc_1 PRD (20, [3], [60, 2, 1, 168, 32, 39, 43]) ws (vs ++ [Value.int x]) := by
    refine ⟨nf_inA hl rfl, sgq_1881 ?_⟩
    · show CZF (w_fi ws (n_v (vs ++ [Value.int x]) 3) 32) (w_fi ws (n_v (vs ++ [Value.int x]) 3) 39) (w_ei ws (w_ar ws (n_v (vs ++ [Value.int x]) 3) 43))
      simp only [e_3, q3]
      exact vc_Mo_draws_20_6 (v_iv (n_v vs 10)) (w_ei ws (w_ar ws (n_v vs 0) 33)) (w_ei ws (w_ar ws (n_v vs 0) 34)) (w_fi ws (n_v vs 0) 32) (w_ei ws (w_ar ws (n_v vs 0) 35)) (w_ei ws (w_ar ws (n_v vs 0) 17)) (w_ei ws (w_ar ws (n_v vs 0) 43)) (w_ei ws (w_ar ws (n_v vs 0) 42)) (w_ei ws (w_ar ws (n_v vs 0) 40)) (w_ei ws (w_ar ws (n_v vs 0) 41)) (w_fi ws (n_v vs 0) 39) k10 f9 kz_0_32 kz_0_39
  have nf7 : fc_1 PRD (20, [3, 11], [30, -120, -1, 1, 39, -1, 0, 0]) ws (vs ++ [Value.int x]) := by
    refine ⟨nf_inA hl rfl, sgq_721 ?_⟩
    · show (-1) * w_fi ws (n_v (vs ++ [Value.int x]) 3) 39 + ((-1) * v_iv (n_v (vs ++ [Value.int x]) 11) + 0) ≤ (-120)
      simp only [e_3, e_11, q3]
      exact vc_Mo_draws_20_7 (w_fi ws (n_v vs 0) 39) (v_iv (Value.int x)) kz_0_39 ex2
  have nf8 : fc_1 PRD (24, [0, 3], []) ws (vs ++ [Value.int x]) := by
    refine ⟨nf_inA hl rfl, sgq_5 ?_⟩
    · show n_v (vs ++ [Value.int x]) 0 = n_v (vs ++ [Value.int x]) 3
      first | rfl | simp only [e_0, e_3, q3, q4]
  have nf9 : fc_1 PRD (24, [1, 4], []) ws (vs ++ [Value.int x]) := by
    refine ⟨nf_inA hl rfl, sgq_5 ?_⟩
    · show n_v (vs ++ [Value.int x]) 1 = n_v (vs ++ [Value.int x]) 4
      first | rfl | simp only [e_1, e_4, q3, q4]
  exact ⟨(fun _ h => (by cases h)), [Value.int x], ag_one hx, List.forall_mem_cons.mpr ⟨⟨show (20 : Nat) < 100 from by decide, nf0⟩, List.forall_mem_cons.mpr ⟨⟨show (20 : Nat) < 100 from by decide, nf1⟩, List.forall_mem_cons.mpr ⟨⟨show (23 : Nat) < 100 from by decide, nf2⟩, List.forall_mem_cons.mpr ⟨⟨show (20 : Nat) < 100 from by decide, nf3⟩, List.forall_mem_cons.mpr ⟨⟨show (20 : Nat) < 100 from by decide, nf4⟩, List.forall_mem_cons.mpr ⟨⟨show (20 : Nat) < 100 from by decide, nf5⟩, List.forall_mem_cons.mpr ⟨⟨show (20 : Nat) < 100 from by decide, nf6⟩, List.forall_mem_cons.mpr ⟨⟨show (20 : Nat) < 100 from by decide, nf7⟩, List.forall_mem_cons.mpr ⟨⟨show (24 : Nat) < 100 from by decide, nf8⟩, List.forall_mem_cons.mpr ⟨⟨show (24 : Nat) < 100 from by decide, nf9⟩, (fun _ h => (by cases h))⟩⟩⟩⟩⟩⟩⟩⟩⟩⟩, (fun _ h => (by cases h))⟩

set_option maxHeartbeats 4000000 in
theorem vc_Mo_draws_21_0 (x1 : Int) (x5 : Int) (x7 : Int) (x8 : Int) (x11 : Int) (x12 : Int) (x13 : Int) (x14 : Int) (pt_0 : Int → Int) (ph_0 : Int → Int) (pn_0 : Int) (pm_0 : Int) (alive_0 : Int → Int) (blockOf_0 : Int → Int) (onlyPiece_0 : Int) (face_1 : Int → Int) (wayMany_1 : Int) (pt_1 : Int → Int) (ph_1 : Int → Int) (pn_1 : Int) (pm_1 : Int) (alive_1 : Int → Int) (blockOf_1 : Int → Int) (onlyPiece_1 : Int) (drawnEdge_1 : Int → Int) (drawnNode_1 : Int → Int) (way_1 : Int → Int) (faceMany_1 : Int → Int) (wayMany_0 : Int) (faceMany_0 : Int → Int) (face_0 : Int → Int) (drawnNode_0 : Int → Int) (drawnEdge_0 : Int → Int) (way_0 : Int → Int) (k1 : 0 ≤ x1 ∧ x1 ≤ 79) (k5 : 0 ≤ x5 ∧ x5 ≤ 79) (k7 : 1 ≤ x7 ∧ x7 ≤ 29) (k8 : 2 ≤ x8 ∧ x8 ≤ 30) (k11 : 61 ≤ x11 ∧ x11 ≤ 89) (k12 : 1 ≤ x12 ∧ x12 ≤ 29) (k13 : 0 ≤ x13 ∧ x13 ≤ 24) (k14 : 2 ≤ x14 ∧ x14 ≤ 30) (d0 : x7 + 1 ≤ x14 ∧ x14 ≤ x7 + 1) (d3 : x7 + 60 ≤ x11 ∧ x11 ≤ x7 + 60) (f0 : x14 = x7 + 1) (h8 : x13 = face_1 (x12)) (f9 : x12 = x8 - x7) (g10 : x8 = wayMany_1) (f18 : R2 (pn_1) (pm_1) (wayMany_1) (pt_1) (ph_1) (alive_1) (blockOf_1) (drawnEdge_1) (drawnNode_1) (way_1) (faceMany_1) (face_1) (x1) (x5) (x7)) (fe_0_31_1 : pn_0 = pn_1) (fe_0_32_1 : pm_0 = pm_1) (fe_0_45_1 : wayMany_0 = wayMany_1) (fe_0_49_1 : onlyPiece_0 = onlyPiece_1) (hE_0_17_1 : ∀ j : Int, blockOf_0 j = blockOf_1 j) (hE_0_33_1 : ∀ j : Int, pt_0 j = pt_1 j) (hE_0_34_1 : ∀ j : Int, ph_0 j = ph_1 j) (hE_0_35_1 : ∀ j : Int, alive_0 j = alive_1 j) (hE_0_40_1 : ∀ j : Int, faceMany_0 j = faceMany_1 j) (hE_0_41_1 : ∀ j : Int, 0 ≤ j → (j = x11 → face_0 j = x13) ∧ (j ≠ x11 → face_0 j = face_1 j)) (hE_0_42_1 : ∀ j : Int, drawnNode_0 j = drawnNode_1 j) (hE_0_43_1 : ∀ j : Int, drawnEdge_0 j = drawnEdge_1 j) (hE_0_46_1 : ∀ j : Int, way_0 j = way_1 j) (kz_0_31 : 0 ≤ pn_0 ∧ pn_0 ≤ 25) (kz_0_32 : 0 ≤ pm_0 ∧ pm_0 ≤ 80) (kz_0_45 : 0 ≤ wayMany_0 ∧ wayMany_0 ≤ 30) (kz_0_49 : (-1) ≤ onlyPiece_0 ∧ onlyPiece_0 ≤ 79) : R2 (pn_0) (pm_0) (wayMany_0) (pt_0) (ph_0) (alive_0) (blockOf_0) (drawnEdge_0) (drawnNode_0) (way_0) (faceMany_0) (face_0) (x1) (x5) (x14) := by
  subst fe_0_31_1
  subst fe_0_32_1
  subst fe_0_45_1
  subst fe_0_49_1
  have e_hE_0_17_1 := funext hE_0_17_1; subst e_hE_0_17_1
  have e_hE_0_33_1 := funext hE_0_33_1; subst e_hE_0_33_1
  have e_hE_0_34_1 := funext hE_0_34_1; subst e_hE_0_34_1
  have e_hE_0_35_1 := funext hE_0_35_1; subst e_hE_0_35_1
  have e_hE_0_40_1 := funext hE_0_40_1; subst e_hE_0_40_1
  have e_hE_0_42_1 := funext hE_0_42_1; subst e_hE_0_42_1
  have e_hE_0_43_1 := funext hE_0_43_1; subst e_hE_0_43_1
  have e_hE_0_46_1 := funext hE_0_46_1; subst e_hE_0_46_1
  first
    | exact r2_of (k := x7) ‹R1 _ _ _ _ _ _ _ _ _ _ _ _ _ _ _› (by omega) (by omega) hE_0_41_1 (by omega) (by omega) (by omega)
    | exact r2_next (k := x7) (q := x12) ‹R2 _ _ _ _ _ _ _ _ _ _ _ _ _ _ _› (by omega) hE_0_41_1 (by omega) (by omega) (by omega) (by omega) (by omega) (by omega)
def o_Mo_draws_21 : or_T := (250, 15, [(0, (2, 0, 0, [165])), (1, (0, 0, 79, [])), (5, (0, 0, 79, [])), (7, (0, 1, 29, [])), (8, (0, 2, 30, [])), (9, (2, 0, 0, [187])), (11, (0, 61, 89, [])), (12, (0, 1, 29, [])), (13, (0, 0, 24, [])), (14, (0, 2, 30, []))], [(6, [14, 7], [1]), (24, [0, 3], []), (24, [1, 4], []), (100, [9, 11, 13], []), (10, [13, 9, 12], []), (2, [12, 8, 7], []), (9, [8, 3], [45]), (9, [9, 3], [41]), (20, [3, 4, 5, 7], [60, 3, 9, 165, 31, 32, 45, 33, 34, 35, 17, 43, 42, 46, 40, 41])], [], [], [(20, [3, 4, 5, 14], [60, 3, 9, 165, 31, 32, 45, 33, 34, 35, 17, 43, 42, 46, 40, 41])], [], [(14, 7, 1, 1), (11, 7, 60, 60), (11, 8, -4294967296, 59)])
theorem oo_Mo_draws_21 {kA : Nat → ClassId} : or_ok PRD kA GG o_Mo_draws_21 := by
  refine or_mk fun A ta ws vs hD hth hl => ?_
  intro t0 r0 t1 k1 t5 k5 t7 k7 t8 k8 t9 r9 t11 k11 t12 k12 t13 k13 t14 k14 d0 d3 d4 f0 f5 f6 ta1 w1 le1 s1 f8 f9 f10 f11 f18
  replace f0 := shm_4 f0
  replace f5 := shm_5 f5
  replace f6 := shm_5 f6
  have s1 : (∀ b j, w_el ws b j = if b = v_ad (n_v vs 9) ∧ j = (v_iv (n_v vs 11)).toNat then v_iv (n_v vs 13) else w_el w1 b j) ∧ ∀ b k, w_fd ws b k = w_fd w1 b k := s1.2
  replace f8 := shm_106 f8
  replace f9 := shm_14 f9
  replace f10 := shm_727 f10
  replace f11 := shm_516 f11
  replace f18 := shm_1878 f18
  have q3 : n_v vs 3 = n_v vs 0 := f5.symm
  have q4 : n_v vs 4 = n_v vs 1 := f6.symm
  simp only [q3, q4] at f10 f11 f18
  have ar_0_17_1 : w_ar w1 (n_v vs 0) 17 = w_ar ws (n_v vs 0) 17 := congrArg v_ad (s1.2 _ _).symm
  have cr_0_17 := fdq_187 hD hth r0
  have ar_0_33_1 : w_ar w1 (n_v vs 0) 33 = w_ar ws (n_v vs 0) 33 := congrArg v_ad (s1.2 _ _).symm
  have cr_0_33 := fdq_116 hD hth r0
  have ar_0_34_1 : w_ar w1 (n_v vs 0) 34 = w_ar ws (n_v vs 0) 34 := congrArg v_ad (s1.2 _ _).symm
  have cr_0_34 := fdq_117 hD hth r0
  have ar_0_35_1 : w_ar w1 (n_v vs 0) 35 = w_ar ws (n_v vs 0) 35 := congrArg v_ad (s1.2 _ _).symm
  have cr_0_35 := fdq_131 hD hth r0
  have ar_0_40_1 : w_ar w1 (n_v vs 0) 40 = w_ar ws (n_v vs 0) 40 := congrArg v_ad (s1.2 _ _).symm
  have cr_0_40 := fdq_132 hD hth r0
  have ar_0_41_1 : w_ar w1 (n_v vs 0) 41 = w_ar ws (n_v vs 0) 41 := congrArg v_ad (s1.2 _ _).symm
  have ar_0_42_1 : w_ar w1 (n_v vs 0) 42 = w_ar ws (n_v vs 0) 42 := congrArg v_ad (s1.2 _ _).symm
  have cr_0_42 := fdq_135 hD hth r0
  have ar_0_43_1 : w_ar w1 (n_v vs 0) 43 = w_ar ws (n_v vs 0) 43 := congrArg v_ad (s1.2 _ _).symm
  have cr_0_43 := fdq_136 hD hth r0
  have ar_0_46_1 : w_ar w1 (n_v vs 0) 46 = w_ar ws (n_v vs 0) 46 := congrArg v_ad (s1.2 _ _).symm
  have cr_0_46 := fdq_188 hD hth r0
  have ad_9 : v_ad (n_v vs 9) = w_ar ws (n_v vs 0) 41 := (congrArg v_ad f11).trans ar_0_41_1
  simp only [ad_9] at f8
  have h8 : v_iv (n_v vs 13) = w_ei w1 (w_ar ws (n_v vs 0) 41) (v_iv (n_v vs 12)) := f8
  have g10 : v_iv (n_v vs 8) = w_fi w1 (n_v vs 0) 45 := congrArg v_iv f10
  simp only [ar_0_33_1, ar_0_34_1, ar_0_17_1, ar_0_35_1, ar_0_40_1, ar_0_41_1, ar_0_42_1, ar_0_43_1, ar_0_46_1] at f18
  have fe_0_31_1 : w_fi ws (n_v vs 0) 31 = w_fi w1 (n_v vs 0) 31 := congrArg v_iv (s1.2 _ _)
  have fe_0_32_1 : w_fi ws (n_v vs 0) 32 = w_fi w1 (n_v vs 0) 32 := congrArg v_iv (s1.2 _ _)
  have fe_0_45_1 : w_fi ws (n_v vs 0) 45 = w_fi w1 (n_v vs 0) 45 := congrArg v_iv (s1.2 _ _)
  have fe_0_49_1 : w_fi ws (n_v vs 0) 49 = w_fi w1 (n_v vs 0) 49 := congrArg v_iv (s1.2 _ _)
  have hE_0_17_1 : ∀ j : Int, w_ei ws (w_ar ws (n_v vs 0) 17) j = w_ei w1 (w_ar ws (n_v vs 0) 17) j := el_kp s1.1 r9 cr_0_17 (by decide)
  have hE_0_33_1 : ∀ j : Int, w_ei ws (w_ar ws (n_v vs 0) 33) j = w_ei w1 (w_ar ws (n_v vs 0) 33) j := el_kp s1.1 r9 cr_0_33 (by decide)
  have hE_0_34_1 : ∀ j : Int, w_ei ws (w_ar ws (n_v vs 0) 34) j = w_ei w1 (w_ar ws (n_v vs 0) 34) j := el_kp s1.1 r9 cr_0_34 (by decide)
  have hE_0_35_1 : ∀ j : Int, w_ei ws (w_ar ws (n_v vs 0) 35) j = w_ei w1 (w_ar ws (n_v vs 0) 35) j := el_kp s1.1 r9 cr_0_35 (by decide)
  have hE_0_40_1 : ∀ j : Int, w_ei ws (w_ar ws (n_v vs 0) 40) j = w_ei w1 (w_ar ws (n_v vs 0) 40) j := el_kp s1.1 r9 cr_0_40 (by decide)
  have hE_0_41_1 : ∀ j : Int, 0 ≤ j → (j = v_iv (n_v vs 11) → w_ei ws (w_ar ws (n_v vs 0) 41) j = v_iv (n_v vs 13)) ∧ (j ≠ v_iv (n_v vs 11) → w_ei ws (w_ar ws (n_v vs 0) 41) j = w_ei w1 (w_ar ws (n_v vs 0) 41) j) := fun j hj => ⟨fun h => by unfold w_ei; rw [s1.1, if_pos ⟨ad_9.symm, by rw [h]⟩], fun h => by unfold w_ei; rw [s1.1, if_neg (fun e => h (by have := e.2; omega))]⟩
  have hE_0_42_1 : ∀ j : Int, w_ei ws (w_ar ws (n_v vs 0) 42) j = w_ei w1 (w_ar ws (n_v vs 0) 42) j := el_kp s1.1 r9 cr_0_42 (by decide)
  have hE_0_43_1 : ∀ j : Int, w_ei ws (w_ar ws (n_v vs 0) 43) j = w_ei w1 (w_ar ws (n_v vs 0) 43) j := el_kp s1.1 r9 cr_0_43 (by decide)
  have hE_0_46_1 : ∀ j : Int, w_ei ws (w_ar ws (n_v vs 0) 46) j = w_ei w1 (w_ar ws (n_v vs 0) 46) j := el_kp s1.1 r9 cr_0_46 (by decide)
  have kz_0_31 := fdq_144 hD hth r0
  have kz_0_32 := fdq_139 hD hth r0
  have kz_0_45 := fdq_189 hD hth r0
  have kz_0_49 := fdq_145 hD hth r0
  have nf0 : fc_1 PRD (20, [3, 4, 5, 14], [60, 3, 9, 165, 31, 32, 45, 33, 34, 35, 17, 43, 42, 46, 40, 41]) ws (vs) := by
    refine ⟨nf_in hl rfl, sgq_1878 ?_⟩
    · show R2 (w_fi ws (n_v vs 3) 31) (w_fi ws (n_v vs 3) 32) (w_fi ws (n_v vs 3) 45) (w_ei ws (w_ar ws (n_v vs 3) 33)) (w_ei ws (w_ar ws (n_v vs 3) 34)) (w_ei ws (w_ar ws (n_v vs 3) 35)) (w_ei ws (w_ar ws (n_v vs 3) 17)) (w_ei ws (w_ar ws (n_v vs 3) 43)) (w_ei ws (w_ar ws (n_v vs 3) 42)) (w_ei ws (w_ar ws (n_v vs 3) 46)) (w_ei ws (w_ar ws (n_v vs 3) 40)) (w_ei ws (w_ar ws (n_v vs 3) 41)) (v_iv (n_v vs 4)) (v_iv (n_v vs 5)) (v_iv (n_v vs 14))
      simp only [q3, q4]
      exact vc_Mo_draws_21_0 (v_iv (n_v vs 1)) (v_iv (n_v vs 5)) (v_iv (n_v vs 7)) (v_iv (n_v vs 8)) (v_iv (n_v vs 11)) (v_iv (n_v vs 12)) (v_iv (n_v vs 13)) (v_iv (n_v vs 14)) (w_ei ws (w_ar ws (n_v vs 0) 33)) (w_ei ws (w_ar ws (n_v vs 0) 34)) (w_fi ws (n_v vs 0) 31) (w_fi ws (n_v vs 0) 32) (w_ei ws (w_ar ws (n_v vs 0) 35)) (w_ei ws (w_ar ws (n_v vs 0) 17)) (w_fi ws (n_v vs 0) 49) (w_ei w1 (w_ar ws (n_v vs 0) 41)) (w_fi w1 (n_v vs 0) 45) (w_ei w1 (w_ar ws (n_v vs 0) 33)) (w_ei w1 (w_ar ws (n_v vs 0) 34)) (w_fi w1 (n_v vs 0) 31) (w_fi w1 (n_v vs 0) 32) (w_ei w1 (w_ar ws (n_v vs 0) 35)) (w_ei w1 (w_ar ws (n_v vs 0) 17)) (w_fi w1 (n_v vs 0) 49) (w_ei w1 (w_ar ws (n_v vs 0) 43)) (w_ei w1 (w_ar ws (n_v vs 0) 42)) (w_ei w1 (w_ar ws (n_v vs 0) 46)) (w_ei w1 (w_ar ws (n_v vs 0) 40)) (w_fi ws (n_v vs 0) 45) (w_ei ws (w_ar ws (n_v vs 0) 40)) (w_ei ws (w_ar ws (n_v vs 0) 41)) (w_ei ws (w_ar ws (n_v vs 0) 42)) (w_ei ws (w_ar ws (n_v vs 0) 43)) (w_ei ws (w_ar ws (n_v vs 0) 46)) k1 k5 k7 k8 k11 k12 k13 k14 d0 d3 f0 h8 f9 g10 f18 fe_0_31_1 fe_0_32_1 fe_0_45_1 fe_0_49_1 hE_0_17_1 hE_0_33_1 hE_0_34_1 hE_0_35_1 hE_0_40_1 hE_0_41_1 hE_0_42_1 hE_0_43_1 hE_0_46_1 kz_0_31 kz_0_32 kz_0_45 kz_0_49
  refine ⟨(fun _ h => (by cases h)), [], trivial, ?_, (fun _ h => (by cases h))⟩
  rw [List.append_nil]
  exact List.forall_mem_cons.mpr ⟨⟨show (20 : Nat) < 100 from by decide, nf0⟩, (fun _ h => (by cases h))⟩
set_option maxHeartbeats 4000000 in
theorem vc_Mo_draws_22_0 (x1 : Int) (x9 : Int) (x10 : Int) (drawnEdge_0 : Int → Int) (pm_0 : Int) (pt_0 : Int → Int) (ph_0 : Int → Int) (alive_0 : Int → Int) (blockOf_0 : Int → Int) (faceMany_0 : Int → Int) (face_0 : Int → Int) (faces_0 : Int) (k1 : 0 ≤ x1 ∧ x1 ≤ 79) (k9 : 0 ≤ x9 ∧ x9 ≤ 0) (k10 : 1 ≤ x10 ∧ x10 ≤ 1) (f0 : x9 = 0) (f1 : MIS (pm_0) (drawnEdge_0) (x9)) (f7 : FI (pm_0) (faces_0) (pt_0) (ph_0) (alive_0) (blockOf_0) (drawnEdge_0) (faceMany_0) (face_0) (x1)) (f8 : CZF (pm_0) (faces_0) (drawnEdge_0)) (kz_0_32 : 0 ≤ pm_0 ∧ pm_0 ≤ 80) (kz_0_39 : 0 ≤ faces_0 ∧ faces_0 ≤ 120) : DRQ (pm_0) (faces_0) (pt_0) (ph_0) (alive_0) (blockOf_0) (faceMany_0) (face_0) (x1) (x10) := by
  exact drq_end ‹FI _ _ _ _ _ _ _ _ _ _› ‹CZF _ _ _› ‹MIS _ _ _› (by omega)
set_option maxHeartbeats 4000000 in
theorem vc_Mo_draws_22_1 (onlyPiece_0 : Int) (f5 : onlyPiece_0 = (-1)) (kz_0_49 : (-1) ≤ onlyPiece_0 ∧ onlyPiece_0 ≤ 79) : onlyPiece_0 = (-1) := by
  first | omega
def o_Mo_draws_22 : or_T := (352, 11, [(0, (2, 0, 0, [165])), (1, (0, 0, 79, [])), (9, (0, 0, 0, [])), (10, (0, 1, 1, []))], [(8, [9], [0]), (20, [3, 9], [60, 1, 1, 155, 32, 43]), (20, [3], [50, 1, 0, 49, 1, 3, 2, 0, 49, 0, -1]), (20, [3, 4], [60, 2, 7, 167, 32, 39, 33, 34, 35, 17, 43, 40, 41]), (20, [3], [60, 2, 1, 168, 32, 39, 43]), (24, [0, 3], []), (24, [1, 4], [])], [], [], [(20, [0, 1, 10], [60, 2, 6, 169, 32, 39, 33, 34, 35, 17, 40, 41]), (20, [0], [50, 1, 0, 49, 1, 3, 2, 0, 49, 0, -1])], [], [])
theorem oo_Mo_draws_22 {kA : Nat → ClassId} : or_ok PRD kA GG o_Mo_draws_22 := by
  refine or_mk fun A ta ws vs hD hth hl => ?_
  intro t0 r0 t1 k1 t9 k9 t10 k10 f0 f1 f5 f7 f8 f10 f11
  replace f1 := shm_628 f1
  replace f5 := shm_1612 f5
  replace f7 := shm_1880 f7
  replace f8 := shm_1881 f8
  replace f10 := shm_5 f10
  replace f11 := shm_5 f11
  have q3 : n_v vs 3 = n_v vs 0 := f10.symm
  have q4 : n_v vs 4 = n_v vs 1 := f11.symm
  simp only [q3, q4] at f1 f5 f7 f8
  have kz_0_32 := fdq_139 hD hth r0
  have kz_0_39 := fdq_134 hD hth r0
  have kz_0_49 := fdq_145 hD hth r0
  have nf0 : fc_1 PRD (20, [0, 1, 10], [60, 2, 6, 169, 32, 39, 33, 34, 35, 17, 40, 41]) ws (vs) := ⟨nf_in hl rfl, sgq_1877 (vc_Mo_draws_22_0 (v_iv (n_v vs 1)) (v_iv (n_v vs 9)) (v_iv (n_v vs 10)) (w_ei ws (w_ar ws (n_v vs 0) 43)) (w_fi ws (n_v vs 0) 32) (w_ei ws (w_ar ws (n_v vs 0) 33)) (w_ei ws (w_ar ws (n_v vs 0) 34)) (w_ei ws (w_ar ws (n_v vs 0) 35)) (w_ei ws (w_ar ws (n_v vs 0) 17)) (w_ei ws (w_ar ws (n_v vs 0) 40)) (w_ei ws (w_ar ws (n_v vs 0) 41)) (w_fi ws (n_v vs 0) 39) k1 k9 k10 (shm_210 f0) f1 f7 f8 kz_0_32 kz_0_39)⟩
  have nf1 : fc_1 PRD (20, [0], [50, 1, 0, 49, 1, 3, 2, 0, 49, 0, -1]) ws (vs) := ⟨nf_in hl rfl, sgq_1612 (vc_Mo_draws_22_1 (w_fi ws (n_v vs 0) 49) f5 kz_0_49)⟩
  refine ⟨(fun _ h => (by cases h)), [], trivial, ?_, (fun _ h => (by cases h))⟩
  rw [List.append_nil]
  exact List.forall_mem_cons.mpr ⟨⟨show (20 : Nat) < 100 from by decide, nf0⟩, List.forall_mem_cons.mpr ⟨⟨show (20 : Nat) < 100 from by decide, nf1⟩, (fun _ h => (by cases h))⟩⟩
set_option maxHeartbeats 4000000 in
theorem vc_Mo_draws_23_0 (x1 : Int) (pm_0 : Int) (drawnEdge_0 : Int → Int) (pt_0 : Int → Int) (ph_0 : Int → Int) (alive_0 : Int → Int) (blockOf_0 : Int → Int) (drawnNode_0 : Int → Int) (k1 : 0 ≤ x1 ∧ x1 ≤ 79) (f8 : DSB (pm_0) (pt_0) (ph_0) (alive_0) (blockOf_0) (drawnEdge_0) (drawnNode_0) (x1)) (kz_0_32 : 0 ≤ pm_0 ∧ pm_0 ≤ 80) : UA (pm_0) (alive_0) (drawnEdge_0) := by
  have h := ‹DSB _ _ _ _ _ _ _ _›
  exact fun e a b c => (h.1 e a b c).1
set_option maxHeartbeats 4000000 in
theorem vc_Mo_draws_23_1 (x1 : Int) (x2 : Int) (x10 : Int) (ends_0 : Int → Int) (faceNodes_0 : Int → Int) (faces_0 : Int) (pieceOf_0 : Int → Int) (pm_0 : Int) (drawnEdge_0 : Int → Int) (pt_0 : Int → Int) (ph_0 : Int → Int) (pn_0 : Int) (alive_0 : Int → Int) (blockOf_0 : Int → Int) (drawnNode_0 : Int → Int) (k1 : 0 ≤ x1 ∧ x1 ≤ 79) (k2 : 0 ≤ x2 ∧ x2 ≤ 80) (k10 : 0 ≤ x10 ∧ x10 ≤ 79) (f1 : 0 ≤ x10) (f2 : CH1 (pm_0) (faces_0) (pieceOf_0) (ends_0) (faceNodes_0) (x10)) (f4 : GOK (pn_0) (pm_0) (pt_0) (ph_0)) (f5 : BK (pm_0) (pt_0) (ph_0) (alive_0) (blockOf_0) (x2)) (f8 : DSB (pm_0) (pt_0) (ph_0) (alive_0) (blockOf_0) (drawnEdge_0) (drawnNode_0) (x1)) (f14 : PCS (pm_0) (pt_0) (ph_0) (drawnEdge_0) (drawnNode_0) (pieceOf_0)) (f15 : END (pm_0) (pt_0) (ph_0) (drawnEdge_0) (drawnNode_0) (pieceOf_0) (ends_0)) (kz_0_31 : 0 ≤ pn_0 ∧ pn_0 ≤ 25) (kz_0_32 : 0 ≤ pm_0 ∧ pm_0 ≤ 80) (kz_0_39 : 0 ≤ faces_0 ∧ faces_0 ≤ 120) : WPR (pn_0) (pm_0) (pt_0) (ph_0) (drawnEdge_0) (pieceOf_0) (drawnNode_0) (ends_0) (x10) := by
  exact wpr_ch ‹GOK _ _ _ _› (by omega) ‹BK _ _ _ _ _ _› ‹DSB _ _ _ _ _ _ _ _› ‹PCS _ _ _ _ _ _› ‹END _ _ _ _ _ _ _› ‹CH1 _ _ _ _ _ _› (by omega)
def o_Mo_draws_23 : or_T := (335, 12, [(0, (2, 0, 0, [165])), (1, (0, 0, 79, [])), (2, (0, 0, 80, [])), (10, (0, 0, 79, []))], [(8, [10], [3]), (20, [3, 10], [60, 2, 3, 118, 32, 39, 44, 50, 51]), (20, [3], [60, 2, 2, 75, 31, 32, 33, 34]), (20, [3, 2], [60, 1, 4, 97, 32, 33, 34, 35, 17]), (20, [3, 4], [60, 1, 6, 166, 32, 33, 34, 35, 17, 43, 42]), (24, [0, 3], []), (24, [1, 4], []), (20, [3], [60, 1, 5, 106, 32, 33, 34, 43, 42, 44]), (20, [3], [60, 1, 6, 109, 32, 33, 34, 43, 42, 44, 50])], [], [], [(20, [3], [60, 1, 2, 122, 32, 35, 43]), (20, [3, 10], [60, 2, 6, 135, 31, 32, 33, 34, 43, 44, 42, 50])], [], [])
theorem oo_Mo_draws_23 {kA : Nat → ClassId} : or_ok PRD kA GG o_Mo_draws_23 := by
  refine or_mk fun A ta ws vs hD hth hl => ?_
  intro t0 r0 t1 k1 t2 k2 t10 k10 f1 f2 f4 f5 f8 f12 f13 f14 f15
  replace f1 := shm_32 f1
  replace f2 := shm_945 f2
  replace f4 := shm_563 f4
  replace f5 := shm_1481 f5
  replace f8 := shm_1879 f8
  replace f12 := shm_5 f12
  replace f13 := shm_5 f13
  replace f14 := shm_517 f14
  replace f15 := shm_523 f15
  have q3 : n_v vs 3 = n_v vs 0 := f12.symm
  have q4 : n_v vs 4 = n_v vs 1 := f13.symm
  simp only [q3, q4] at f2 f4 f5 f8 f14 f15
  have kz_0_31 := fdq_144 hD hth r0
  have kz_0_32 := fdq_139 hD hth r0
  have kz_0_39 := fdq_134 hD hth r0
  have nf0 : fc_1 PRD (20, [3], [60, 1, 2, 122, 32, 35, 43]) ws (vs) := by
    refine ⟨nf_in hl rfl, sgq_1406 ?_⟩
    · show UA (w_fi ws (n_v vs 3) 32) (w_ei ws (w_ar ws (n_v vs 3) 35)) (w_ei ws (w_ar ws (n_v vs 3) 43))
      rw [q3]
      exact vc_Mo_draws_23_0 (v_iv (n_v vs 1)) (w_fi ws (n_v vs 0) 32) (w_ei ws (w_ar ws (n_v vs 0) 43)) (w_ei ws (w_ar ws (n_v vs 0) 33)) (w_ei ws (w_ar ws (n_v vs 0) 34)) (w_ei ws (w_ar ws (n_v vs 0) 35)) (w_ei ws (w_ar ws (n_v vs 0) 17)) (w_ei ws (w_ar ws (n_v vs 0) 42)) k1 f8 kz_0_32
  have nf1 : fc_1 PRD (20, [3, 10], [60, 2, 6, 135, 31, 32, 33, 34, 43, 44, 42, 50]) ws (vs) := by
    refine ⟨nf_in hl rfl, sgq_1606 ?_⟩
    · show WPR (w_fi ws (n_v vs 3) 31) (w_fi ws (n_v vs 3) 32) (w_ei ws (w_ar ws (n_v vs 3) 33)) (w_ei ws (w_ar ws (n_v vs 3) 34)) (w_ei ws (w_ar ws (n_v vs 3) 43)) (w_ei ws (w_ar ws (n_v vs 3) 44)) (w_ei ws (w_ar ws (n_v vs 3) 42)) (w_ei ws (w_ar ws (n_v vs 3) 50)) (v_iv (n_v vs 10))
      rw [q3]
      exact vc_Mo_draws_23_1 (v_iv (n_v vs 1)) (v_iv (n_v vs 2)) (v_iv (n_v vs 10)) (w_ei ws (w_ar ws (n_v vs 0) 50)) (w_ei ws (w_ar ws (n_v vs 0) 51)) (w_fi ws (n_v vs 0) 39) (w_ei ws (w_ar ws (n_v vs 0) 44)) (w_fi ws (n_v vs 0) 32) (w_ei ws (w_ar ws (n_v vs 0) 43)) (w_ei ws (w_ar ws (n_v vs 0) 33)) (w_ei ws (w_ar ws (n_v vs 0) 34)) (w_fi ws (n_v vs 0) 31) (w_ei ws (w_ar ws (n_v vs 0) 35)) (w_ei ws (w_ar ws (n_v vs 0) 17)) (w_ei ws (w_ar ws (n_v vs 0) 42)) k1 k2 k10 f1 f2 f4 f5 f8 f14 f15 kz_0_31 kz_0_32 kz_0_39
  refine ⟨(fun _ h => (by cases h)), [], trivial, ?_, (fun _ h => (by cases h))⟩
  rw [List.append_nil]
  exact List.forall_mem_cons.mpr ⟨⟨show (20 : Nat) < 100 from by decide, nf0⟩, List.forall_mem_cons.mpr ⟨⟨show (20 : Nat) < 100 from by decide, nf1⟩, (fun _ h => (by cases h))⟩⟩
set_option maxHeartbeats 4000000 in
theorem vc_Mo_draws_24_r0 (x10 : Int) (x11 : Int) (drawnEdge_0 : Int → Int) (pm_0 : Int) (pieceOf_0 : Int → Int) (ends_0 : Int → Int) (faceNodes_0 : Int → Int) (faces_0 : Int) (k10 : 0 ≤ x10 ∧ x10 ≤ 79) (k11 : (-1) ≤ x11 ∧ x11 ≤ 119) (f2 : FFT (faces_0) (ends_0) (faceNodes_0) (x10) (x11)) (f3 : CH1 (pm_0) (faces_0) (pieceOf_0) (ends_0) (faceNodes_0) (x10)) (f10 : CZF (pm_0) (faces_0) (drawnEdge_0)) (f20 : 0 ≤ x10) (kz_0_32 : 0 ≤ pm_0 ∧ pm_0 ≤ 80) (kz_0_39 : 0 ≤ faces_0 ∧ faces_0 ≤ 120) : 0 ≤ x11 ∧ x11 ≤ 119 := by
  first
    | (have h := ch1_fft ‹CH1 _ _ _ _ _ _› (by omega) ‹FFT _ _ _ _ _›
       have h2 := czf_bd ‹CZF _ _ _› (by omega)
       omega)
    | (have h2 := czf_bd ‹CZF _ _ _› (by omega)
       omega)
    | omega
set_option maxHeartbeats 4000000 in
theorem vc_Mo_draws_24_0 (x1 : Int) (x4 : Int) (x10 : Int) (x11 : Int) (drawnEdge_0 : Int → Int) (pm_0 : Int) (pieceOf_0 : Int → Int) (ends_0 : Int → Int) (faceNodes_0 : Int → Int) (faces_0 : Int) (gx : Int) (k1 : 0 ≤ x1 ∧ x1 ≤ 79) (k4 : 0 ≤ x4 ∧ x4 ≤ 79) (k10 : 0 ≤ x10 ∧ x10 ≤ 79) (k11 : (-1) ≤ x11 ∧ x11 ≤ 119) (d0 : x4 + (-4294967296) ≤ x1 ∧ x1 ≤ x4 + 0) (d1 : x1 + (-4294967296) ≤ x4 ∧ x4 ≤ x1 + 0) (f2 : FFT (faces_0) (ends_0) (faceNodes_0) (x10) (x11)) (f3 : CH1 (pm_0) (faces_0) (pieceOf_0) (ends_0) (faceNodes_0) (x10)) (f10 : CZF (pm_0) (faces_0) (drawnEdge_0)) (f20 : 0 ≤ x10) (kz_0_32 : 0 ≤ pm_0 ∧ pm_0 ≤ 80) (kz_0_39 : 0 ≤ faces_0 ∧ faces_0 ≤ 120) (ex2 : gx = x1) : 1 * gx + ((-1) * x1 + 0) ≤ 0 := by
  first
    | (have h := ch1_fft ‹CH1 _ _ _ _ _ _› (by omega) ‹FFT _ _ _ _ _›
       have h2 := czf_bd ‹CZF _ _ _› (by omega)
       omega)
    | (have h2 := czf_bd ‹CZF _ _ _› (by omega)
       omega)
    | omega
set_option maxHeartbeats 4000000 in
theorem vc_Mo_draws_24_1 (x1 : Int) (x4 : Int) (x10 : Int) (x11 : Int) (drawnEdge_0 : Int → Int) (pm_0 : Int) (pieceOf_0 : Int → Int) (ends_0 : Int → Int) (faceNodes_0 : Int → Int) (faces_0 : Int) (gx : Int) (k1 : 0 ≤ x1 ∧ x1 ≤ 79) (k4 : 0 ≤ x4 ∧ x4 ≤ 79) (k10 : 0 ≤ x10 ∧ x10 ≤ 79) (k11 : (-1) ≤ x11 ∧ x11 ≤ 119) (d0 : x4 + (-4294967296) ≤ x1 ∧ x1 ≤ x4 + 0) (d1 : x1 + (-4294967296) ≤ x4 ∧ x4 ≤ x1 + 0) (f2 : FFT (faces_0) (ends_0) (faceNodes_0) (x10) (x11)) (f3 : CH1 (pm_0) (faces_0) (pieceOf_0) (ends_0) (faceNodes_0) (x10)) (f10 : CZF (pm_0) (faces_0) (drawnEdge_0)) (f20 : 0 ≤ x10) (kz_0_32 : 0 ≤ pm_0 ∧ pm_0 ≤ 80) (kz_0_39 : 0 ≤ faces_0 ∧ faces_0 ≤ 120) (ex2 : gx = x1) : (-1) * gx + (1 * x1 + 0) ≤ 0 := by
  first
    | (have h := ch1_fft ‹CH1 _ _ _ _ _ _› (by omega) ‹FFT _ _ _ _ _›
       have h2 := czf_bd ‹CZF _ _ _› (by omega)
       omega)
    | (have h2 := czf_bd ‹CZF _ _ _› (by omega)
       omega)
    | omega
set_option maxHeartbeats 4000000 in
theorem vc_Mo_draws_24_2 (x8 : Int) (x10 : Int) (x11 : Int) (drawnEdge_0 : Int → Int) (pm_0 : Int) (pieceOf_0 : Int → Int) (ends_0 : Int → Int) (faceNodes_0 : Int → Int) (faces_0 : Int) (gy : Int) (k8 : (-2) ≤ x8 ∧ x8 ≤ 120) (k10 : 0 ≤ x10 ∧ x10 ≤ 79) (k11 : (-1) ≤ x11 ∧ x11 ≤ 119) (f2 : FFT (faces_0) (ends_0) (faceNodes_0) (x10) (x11)) (f3 : CH1 (pm_0) (faces_0) (pieceOf_0) (ends_0) (faceNodes_0) (x10)) (f10 : CZF (pm_0) (faces_0) (drawnEdge_0)) (f20 : 0 ≤ x10) (kz_0_32 : 0 ≤ pm_0 ∧ pm_0 ≤ 80) (kz_0_39 : 0 ≤ faces_0 ∧ faces_0 ≤ 120) (ey2 : gy = x8) : 1 * gy + ((-1) * x8 + 0) ≤ 0 := by
  first
    | (have h := ch1_fft ‹CH1 _ _ _ _ _ _› (by omega) ‹FFT _ _ _ _ _›
       have h2 := czf_bd ‹CZF _ _ _› (by omega)
       omega)
    | (have h2 := czf_bd ‹CZF _ _ _› (by omega)
       omega)
    | omega
set_option maxHeartbeats 4000000 in
theorem vc_Mo_draws_24_3 (x8 : Int) (x10 : Int) (x11 : Int) (drawnEdge_0 : Int → Int) (pm_0 : Int) (pieceOf_0 : Int → Int) (ends_0 : Int → Int) (faceNodes_0 : Int → Int) (faces_0 : Int) (gy : Int) (k8 : (-2) ≤ x8 ∧ x8 ≤ 120) (k10 : 0 ≤ x10 ∧ x10 ≤ 79) (k11 : (-1) ≤ x11 ∧ x11 ≤ 119) (f2 : FFT (faces_0) (ends_0) (faceNodes_0) (x10) (x11)) (f3 : CH1 (pm_0) (faces_0) (pieceOf_0) (ends_0) (faceNodes_0) (x10)) (f10 : CZF (pm_0) (faces_0) (drawnEdge_0)) (f20 : 0 ≤ x10) (kz_0_32 : 0 ≤ pm_0 ∧ pm_0 ≤ 80) (kz_0_39 : 0 ≤ faces_0 ∧ faces_0 ≤ 120) (ey2 : gy = x8) : (-1) * gy + (1 * x8 + 0) ≤ 0 := by
  first
    | (have h := ch1_fft ‹CH1 _ _ _ _ _ _› (by omega) ‹FFT _ _ _ _ _›
       have h2 := czf_bd ‹CZF _ _ _› (by omega)
       omega)
    | (have h2 := czf_bd ‹CZF _ _ _› (by omega)
       omega)
    | omega
set_option maxHeartbeats 4000000 in
theorem vc_Mo_draws_24_4 (x1 : Int) (x10 : Int) (x11 : Int) (alive_0 : Int → Int) (drawnEdge_0 : Int → Int) (pm_0 : Int) (pt_0 : Int → Int) (ph_0 : Int → Int) (pieceOf_0 : Int → Int) (drawnNode_0 : Int → Int) (ends_0 : Int → Int) (pn_0 : Int) (faceNodes_0 : Int → Int) (faces_0 : Int) (blockOf_0 : Int → Int) (faceMany_0 : Int → Int) (face_0 : Int → Int) (way_0 : Int → Int) (wayMany_0 : Int) (gx : Int) (k1 : 0 ≤ x1 ∧ x1 ≤ 79) (k10 : 0 ≤ x10 ∧ x10 ≤ 79) (k11 : (-1) ≤ x11 ∧ x11 ≤ 119) (f2 : FFT (faces_0) (ends_0) (faceNodes_0) (x10) (x11)) (f3 : CH1 (pm_0) (faces_0) (pieceOf_0) (ends_0) (faceNodes_0) (x10)) (f5 : GOK (pn_0) (pm_0) (pt_0) (ph_0)) (f8 : DSB (pm_0) (pt_0) (ph_0) (alive_0) (blockOf_0) (drawnEdge_0) (drawnNode_0) (x1)) (f9 : FI (pm_0) (faces_0) (pt_0) (ph_0) (alive_0) (blockOf_0) (drawnEdge_0) (faceMany_0) (face_0) (x1)) (f10 : CZF (pm_0) (faces_0) (drawnEdge_0)) (f16 : FCF (faces_0) (faceMany_0) (face_0) (faceNodes_0)) (f17 : WOP (pn_0) (pm_0) (wayMany_0) (pt_0) (ph_0) (alive_0) (drawnEdge_0) (pieceOf_0) (drawnNode_0) (ends_0) (way_0) (x10)) (f20 : 0 ≤ x10) (kz_0_31 : 0 ≤ pn_0 ∧ pn_0 ≤ 25) (kz_0_32 : 0 ≤ pm_0 ∧ pm_0 ≤ 80) (kz_0_39 : 0 ≤ faces_0 ∧ faces_0 ≤ 120) (kz_0_45 : 0 ≤ wayMany_0 ∧ wayMany_0 ≤ 30) (ex2 : gx = x1) : SPR (pn_0) (pm_0) (faces_0) (wayMany_0) (pt_0) (ph_0) (alive_0) (blockOf_0) (drawnEdge_0) (faceMany_0) (face_0) (way_0) (gx) (x11) := by
  rw [ex2]
  exact spr_of ‹GOK _ _ _ _› (by omega) ‹FI _ _ _ _ _ _ _ _ _ _› ‹DSB _ _ _ _ _ _ _ _› ‹CZF _ _ _› ‹WOP _ _ _ _ _ _ _ _ _ _ _ _› ‹FFT _ _ _ _ _› ‹FCF _ _ _ _› (by first | omega | (have h := ch1_fft ‹CH1 _ _ _ _ _ _› (by omega) ‹FFT _ _ _ _ _›; omega))
set_option maxHeartbeats 4000000 in
theorem vc_Mo_draws_24_5 (x10 : Int) (x11 : Int) (drawnEdge_0 : Int → Int) (pm_0 : Int) (pieceOf_0 : Int → Int) (ends_0 : Int → Int) (faceNodes_0 : Int → Int) (faces_0 : Int) (k10 : 0 ≤ x10 ∧ x10 ≤ 79) (k11 : (-1) ≤ x11 ∧ x11 ≤ 119) (f2 : FFT (faces_0) (ends_0) (faceNodes_0) (x10) (x11)) (f3 : CH1 (pm_0) (faces_0) (pieceOf_0) (ends_0) (faceNodes_0) (x10)) (f10 : CZF (pm_0) (faces_0) (drawnEdge_0)) (f20 : 0 ≤ x10) (kz_0_32 : 0 ≤ pm_0 ∧ pm_0 ≤ 80) (kz_0_39 : 0 ≤ faces_0 ∧ faces_0 ≤ 120) : faces_0 ≤ 118 := by
  first
    | (have h := ch1_fft ‹CH1 _ _ _ _ _ _› (by omega) ‹FFT _ _ _ _ _›
       have h2 := czf_bd ‹CZF _ _ _› (by omega)
       omega)
    | (have h2 := czf_bd ‹CZF _ _ _› (by omega)
       omega)
    | omega
set_option maxHeartbeats 4000000 in
theorem vc_Mo_draws_24_6 (x8 : Int) (x10 : Int) (x11 : Int) (drawnEdge_0 : Int → Int) (pm_0 : Int) (pieceOf_0 : Int → Int) (ends_0 : Int → Int) (faceNodes_0 : Int → Int) (faces_0 : Int) (gy : Int) (k8 : (-2) ≤ x8 ∧ x8 ≤ 120) (k10 : 0 ≤ x10 ∧ x10 ≤ 79) (k11 : (-1) ≤ x11 ∧ x11 ≤ 119) (f2 : FFT (faces_0) (ends_0) (faceNodes_0) (x10) (x11)) (f3 : CH1 (pm_0) (faces_0) (pieceOf_0) (ends_0) (faceNodes_0) (x10)) (f10 : CZF (pm_0) (faces_0) (drawnEdge_0)) (f11 : (-1) * faces_0 + ((-1) * x8 + 0) ≤ (-120)) (f20 : 0 ≤ x10) (kz_0_32 : 0 ≤ pm_0 ∧ pm_0 ≤ 80) (kz_0_39 : 0 ≤ faces_0 ∧ faces_0 ≤ 120) (ey2 : gy = x8) : (-1) * faces_0 + ((-1) * gy + 0) ≤ (-120) := by
  first
    | (have h := ch1_fft ‹CH1 _ _ _ _ _ _› (by omega) ‹FFT _ _ _ _ _›
       have h2 := czf_bd ‹CZF _ _ _› (by omega)
       omega)
    | (have h2 := czf_bd ‹CZF _ _ _› (by omega)
       omega)
    | omega
def o_Mo_draws_24 : or_T := (341, 12, [(0, (2, 0, 0, [165])), (1, (0, 0, 79, [])), (2, (0, 0, 80, [])), (3, (2, 0, 0, [165])), (4, (0, 0, 79, [])), (8, (0, -2, 120, [])), (9, (0, 1, 1, [])), (10, (0, 0, 79, [])), (11, (0, -1, 119, []))], [(20, [3], [60, 1, 2, 122, 32, 35, 43]), (20, [3, 10], [60, 2, 6, 135, 31, 32, 33, 34, 43, 44, 42, 50]), (20, [3, 10, 11], [60, 1, 2, 117, 39, 50, 51]), (20, [3, 10], [60, 2, 3, 118, 32, 39, 44, 50, 51]), (20, [3, 9], [60, 1, 1, 155, 32, 43]), (20, [3], [60, 2, 2, 75, 31, 32, 33, 34]), (20, [3, 2], [60, 1, 4, 97, 32, 33, 34, 35, 17]), (23, [4, 2], [-1, 1, -1]), (20, [3, 4], [60, 1, 6, 166, 32, 33, 34, 35, 17, 43, 42]), (20, [3, 4], [60, 2, 7, 167, 32, 39, 33, 34, 35, 17, 43, 40, 41]), (20, [3], [60, 2, 1, 168, 32, 39, 43]), (20, [3, 8], [30, -120, -1, 1, 39, -1, 0, 0]), (24, [0, 3], []), (24, [1, 4], []), (20, [3], [60, 1, 5, 106, 32, 33, 34, 43, 42, 44]), (20, [3], [60, 1, 6, 109, 32, 33, 34, 43, 42, 44, 50]), (20, [3], [60, 1, 3, 113, 39, 40, 41, 51]), (20, [3, 10], [60, 3, 8, 142, 31, 32, 45, 33, 34, 35, 43, 44, 42, 50, 46]), (20, [3], [50, 1, 0, 49, 1, 3, 2, 0, 49, 0, -1]), (102, [11], [59632466486173467256439999520472830952972376722408327872512, 165045, 165049]), (8, [10], [3]), (23, [4, 2], [-1, 1, -1]), (102, [9], [37662610412320084583014736539245998496614132666784207077376]), (23, [4, 2], [-1, 1, -1]), (102, [9], [1569275433846670190958947355801916604025588861116008628224]), (8, [9], [1]), (23, [4, 2], [-1, 1, -1])], [(11, (0, 0, 119, []))], [(0, 0, 79, []), (0, -2, 120, [])], [(23, [12, 4], [0, 1, -1]), (23, [12, 4], [0, -1, 1]), (23, [13, 8], [0, 1, -1]), (23, [13, 8], [0, -1, 1]), (20, [3, 12, 11], [60, 4, 8, 143, 31, 32, 39, 45, 33, 34, 35, 17, 43, 40, 41, 46]), (20, [3], [50, 1, 0, 39, 0, 3, 2, 0, 39, 0, 118]), (20, [3, 13], [30, -120, -1, 1, 39, -1, 0, 0])], [], [(1, 4, -4294967296, 0), (4, 1, -4294967296, 0)])
theorem oo_Mo_draws_24 {kA : Nat → ClassId} : or_ok PRD kA GG o_Mo_draws_24 := by
  refine or_mk fun A ta ws vs hD hth hl => ?_
  intro t0 r0 t1 k1 t2 k2 t3 r3 t4 k4 t8 k8 t9 k9 t10 k10 t11 k11 d0 d1 f0 f1 f2 f3 f4 f5 f6 f7 f8 f9 f10 f11 f12 f13 f14 f15 f16 f17 f18 ta1 w1 le1 s1 f20 f21 ta2 w2 le2 s2 f23 ta3 w3 le3 s3 f25 f26
  replace f2 := shm_964 f2
  replace f3 := shm_945 f3
  replace f5 := shm_563 f5
  replace f8 := shm_1879 f8
  replace f9 := shm_1880 f9
  replace f10 := shm_1881 f10
  replace f11 := shm_721 f11
  replace f12 := shm_5 f12
  replace f13 := shm_5 f13
  replace f16 := shm_528 f16
  replace f17 := shm_1616 f17
  replace f20 := shm_32 f20
  have q3 : n_v vs 3 = n_v vs 0 := f12.symm
  have q4 : n_v vs 4 = n_v vs 1 := f13.symm
  simp only [q3, q4] at f2 f3 f5 f8 f9 f10 f11 f16 f17
  have kz_0_31 := fdq_144 hD hth r0
  have kz_0_32 := fdq_139 hD hth r0
  have kz_0_39 := fdq_134 hD hth r0
  have kz_0_45 := fdq_189 hD hth r0
  obtain ⟨x, ex, hx⟩ := iv_ex (ta := ta) (lo := 0) (hi := 79) (z := v_iv (n_v vs 1)) (by omega) (by omega) (by omega) (by omega)
  have ex2 : v_iv (Value.int x) = v_iv (n_v vs 1) := ex
  have ex3 : 0 ≤ v_iv (Value.int x) ∧ v_iv (Value.int x) ≤ 79 := tv_rng hx
  obtain ⟨y, ey, hy⟩ := iv_ex (ta := ta) (lo := (-2)) (hi := 120) (z := v_iv (n_v vs 8)) (by omega) (by omega) (by omega) (by omega)
  have ey2 : v_iv (Value.int y) = v_iv (n_v vs 8) := ey
  have ey3 : (-2) ≤ v_iv (Value.int y) ∧ v_iv (Value.int y) ≤ 120 := tv_rng hy
  have hrf0 : 0 ≤ v_iv (n_v vs 11) ∧ v_iv (n_v vs 11) ≤ 119 := vc_Mo_draws_24_r0 (v_iv (n_v vs 10)) (v_iv (n_v vs 11)) (w_ei ws (w_ar ws (n_v vs 0) 43)) (w_fi ws (n_v vs 0) 32) (w_ei ws (w_ar ws (n_v vs 0) 44)) (w_ei ws (w_ar ws (n_v vs 0) 50)) (w_ei ws (w_ar ws (n_v vs 0) 51)) (w_fi ws (n_v vs 0) 39) k10 k11 f2 f3 f10 f20 kz_0_32 kz_0_39
  have e_3 : n_v (vs ++ [Value.int x, Value.int y]) 3 = n_v vs 3 := n_v_old (by rw [hl]; decide)
  have e_4 : n_v (vs ++ [Value.int x, Value.int y]) 4 = n_v vs 4 := n_v_old (by rw [hl]; decide)
  have e_8 : n_v (vs ++ [Value.int x, Value.int y]) 8 = n_v vs 8 := n_v_old (by rw [hl]; decide)
  have e_11 : n_v (vs ++ [Value.int x, Value.int y]) 11 = n_v vs 11 := n_v_old (by rw [hl]; decide)
  have e_12 : n_v (vs ++ [Value.int x, Value.int y]) 12 = Value.int x := n_v_new0 hl
  have e_13 : n_v (vs ++ [Value.int x, Value.int y]) 13 = Value.int y := n_v_new1 hl
  have nf0 : fc_1 PRD (23, [12, 4], [0, 1, -1]) ws (vs ++ [Value.int x, Value.int y]) := by
    refine ⟨nf_inA hl rfl, sgq_7 ?_⟩
    · show 1 * v_iv (n_v (vs ++ [Value.int x, Value.int y]) 12) + ((-1) * v_iv (n_v (vs ++ [Value.int x, Value.int y]) 4) + 0) ≤ 0
      simp only [e_4, e_12, q4]
      exact vc_Mo_draws_24_0 (v_iv (n_v vs 1)) (v_iv (n_v vs 4)) (v_iv (n_v vs 10)) (v_iv (n_v vs 11)) (w_ei ws (w_ar ws (n_v vs 0) 43)) (w_fi ws (n_v vs 0) 32) (w_ei ws (w_ar ws (n_v vs 0) 44)) (w_ei ws (w_ar ws (n_v vs 0) 50)) (w_ei ws (w_ar ws (n_v vs 0) 51)) (w_fi ws (n_v vs 0) 39) (v_iv (Value.int x)) k1 k4 k10 k11 d0 d1 f2 f3 f10 f20 kz_0_32 kz_0_39 ex2
  have nf1 : fc_1 PRD (23, [12, 4], [0, -1, 1]) ws (vs ++ [Value.int x, Value.int y]) := by
    refine ⟨nf_inA hl rfl, sgq_22 ?_⟩
    · show (-1) * v_iv (n_v (vs ++ [Value.int x, Value.int y]) 12) + (1 * v_iv (n_v (vs ++ [Value.int x, Value.int y]) 4) + 0) ≤ 0
      simp only [e_4, e_12, q4]
      exact vc_Mo_draws_24_1 (v_iv (n_v vs 1)) (v_iv (n_v vs 4)) (v_iv (n_v vs 10)) (v_iv (n_v vs 11)) (w_ei ws (w_ar ws (n_v vs 0) 43)) (w_fi ws (n_v vs 0) 32) (w_ei ws (w_ar ws (n_v vs 0) 44)) (w_ei ws (w_ar ws (n_v vs 0) 50)) (w_ei ws (w_ar ws (n_v vs 0) 51)) (w_fi ws (n_v vs 0) 39) (v_iv (Value.int x)) k1 k4 k10 k11 d0 d1 f2 f3 f10 f20 kz_0_32 kz_0_39 ex2
  have nf2 : fc_1 PRD (23, [13, 8], [0, 1, -1]) ws (vs ++ [Value.int x, Value.int y]) := by
    refine ⟨nf_inA hl rfl, sgq_7 ?_⟩
    · show 1 * v_iv (n_v (vs ++ [Value.int x, Value.int y]) 13) + ((-1) * v_iv (n_v (vs ++ [Value.int x, Value.int y]) 8) + 0) ≤ 0
      simp only [e_8, e_13]
      exact vc_Mo_draws_24_2 (v_iv (n_v vs 8)) (v_iv (n_v vs 10)) (v_iv (n_v vs 11)) (w_ei ws (w_ar ws (n_v vs 0) 43)) (w_fi ws (n_v vs 0) 32) (w_ei ws (w_ar ws (n_v vs 0) 44)) (w_ei ws (w_ar ws (n_v vs 0) 50)) (w_ei ws (w_ar ws (n_v vs 0) 51)) (w_fi ws (n_v vs 0) 39) (v_iv (Value.int y)) k8 k10 k11 f2 f3 f10 f20 kz_0_32 kz_0_39 ey2
  have nf3 : fc_1 PRD (23, [13, 8], [0, -1, 1]) ws (vs ++ [Value.int x, Value.int y]) := by
    refine ⟨nf_inA hl rfl, sgq_22 ?_⟩
    · show (-1) * v_iv (n_v (vs ++ [Value.int x, Value.int y]) 13) + (1 * v_iv (n_v (vs ++ [Value.int x, Value.int y]) 8) + 0) ≤ 0
      simp only [e_8, e_13]
      exact vc_Mo_draws_24_3 (v_iv (n_v vs 8)) (v_iv (n_v vs 10)) (v_iv (n_v vs 11)) (w_ei ws (w_ar ws (n_v vs 0) 43)) (w_fi ws (n_v vs 0) 32) (w_ei ws (w_ar ws (n_v vs 0) 44)) (w_ei ws (w_ar ws (n_v vs 0) 50)) (w_ei ws (w_ar ws (n_v vs 0) 51)) (w_fi ws (n_v vs 0) 39) (v_iv (Value.int y)) k8 k10 k11 f2 f3 f10 f20 kz_0_32 kz_0_39 ey2
  have nf4 : fc_1 PRD (20, [3, 12, 11], [60, 4, 8, 143, 31, 32, 39, 45, 33, 34, 35, 17, 43, 40, 41, 46]) ws (vs ++ [Value.int x, Value.int y]) := by
    refine ⟨nf_inA hl rfl, sgq_719 ?_⟩
    · show SPR (w_fi ws (n_v (vs ++ [Value.int x, Value.int y]) 3) 31) (w_fi ws (n_v (vs ++ [Value.int x, Value.int y]) 3) 32) (w_fi ws (n_v (vs ++ [Value.int x, Value.int y]) 3) 39) (w_fi ws (n_v (vs ++ [Value.int x, Value.int y]) 3) 45) (w_ei ws (w_ar ws (n_v (vs ++ [Value.int x, Value.int y]) 3) 33)) (w_ei ws (w_ar ws (n_v (vs ++ [Value.int x, Value.int y]) 3) 34)) (w_ei ws (w_ar ws (n_v (vs ++ [Value.int x, Value.int y]) 3) 35)) (w_ei ws (w_ar ws (n_v (vs ++ [Value.int x, Value.int y]) 3) 17)) (w_ei ws (w_ar ws (n_v (vs ++ [Value.int x, Value.int y]) 3) 43)) (w_ei ws (w_ar ws (n_v (vs ++ [Value.int x, Value.int y]) 3) 40)) (w_ei ws (w_ar ws (n_v (vs ++ [Value.int x, Value.int y]) 3) 41)) (w_ei ws (w_ar ws (n_v (vs ++ [Value.int x, Value.int y]) 3) 46)) (v_iv (n_v (vs ++ [Value.int x, Value.int y]) 12)) (v_iv (n_v (vs ++ [Value.int x, Value.int y]) 11))
      simp only [e_3, e_11, e_12, q3]
      exact vc_Mo_draws_24_4 (v_iv (n_v vs 1)) (v_iv (n_v vs 10)) (v_iv (n_v vs 11)) (w_ei ws (w_ar ws (n_v vs 0) 35)) (w_ei ws (w_ar ws (n_v vs 0) 43)) (w_fi ws (n_v vs 0) 32) (w_ei ws (w_ar ws (n_v vs 0) 33)) (w_ei ws (w_ar ws (n_v vs 0) 34)) (w_ei ws (w_ar ws (n_v vs 0) 44)) (w_ei ws (w_ar ws (n_v vs 0) 42)) (w_ei ws (w_ar ws (n_v vs 0) 50)) (w_fi ws (n_v vs 0) 31) (w_ei ws (w_ar ws (n_v vs 0) 51)) (w_fi ws (n_v vs 0) 39) (w_ei ws (w_ar ws (n_v vs 0) 17)) (w_ei ws (w_ar ws (n_v vs 0) 40)) (w_ei ws (w_ar ws (n_v vs 0) 41)) (w_ei ws (w_ar ws (n_v vs 0) 46)) (w_fi ws (n_v vs 0) 45) (v_iv (Value.int x)) k1 k10 k11 f2 f3 f5 f8 f9 f10 f16 f17 f20 kz_0_31 kz_0_32 kz_0_39 kz_0_45 ex2
  have nf5 : fc_1 PRD (20, [3], [50, 1, 0, 39, 0, 3, 2, 0, 39, 0, 118]) ws (vs ++ [Value.int x, Value.int y]) := by
    refine ⟨nf_inA hl rfl, sgq_720 ?_⟩
    · show w_fi ws (n_v (vs ++ [Value.int x, Value.int y]) 3) 39 ≤ 118
      simp only [e_3, q3]
      exact vc_Mo_draws_24_5 (v_iv (n_v vs 10)) (v_iv (n_v vs 11)) (w_ei ws (w_ar ws (n_v vs 0) 43)) (w_fi ws (n_v vs 0) 32) (w_ei ws (w_ar ws (n_v vs 0) 44)) (w_ei ws (w_ar ws (n_v vs 0) 50)) (w_ei ws (w_ar ws (n_v vs 0) 51)) (w_fi ws (n_v vs 0) 39) k10 k11 f2 f3 f10 f20 kz_0_32 kz_0_39
  have nf6 : fc_1 PRD (20, [3, 13], [30, -120, -1, 1, 39, -1, 0, 0]) ws (vs ++ [Value.int x, Value.int y]) := by
    refine ⟨nf_inA hl rfl, sgq_721 ?_⟩
    · show (-1) * w_fi ws (n_v (vs ++ [Value.int x, Value.int y]) 3) 39 + ((-1) * v_iv (n_v (vs ++ [Value.int x, Value.int y]) 13) + 0) ≤ (-120)
      simp only [e_3, e_13, q3]
      exact vc_Mo_draws_24_6 (v_iv (n_v vs 8)) (v_iv (n_v vs 10)) (v_iv (n_v vs 11)) (w_ei ws (w_ar ws (n_v vs 0) 43)) (w_fi ws (n_v vs 0) 32) (w_ei ws (w_ar ws (n_v vs 0) 44)) (w_ei ws (w_ar ws (n_v vs 0) 50)) (w_ei ws (w_ar ws (n_v vs 0) 51)) (w_fi ws (n_v vs 0) 39) (v_iv (Value.int y)) k8 k10 k11 f2 f3 f10 f11 f20 kz_0_32 kz_0_39 ey2
  have rf11 : tv_ok ta (0, 0, 119, []) (n_v vs 11) := tv_in t11 (by first | omega | grind) (by first | omega | grind)
  exact ⟨List.forall_mem_cons.mpr ⟨rf11, (fun _ h => (by cases h))⟩, [Value.int x, Value.int y], ag_two hx hy, List.forall_mem_cons.mpr ⟨⟨show (23 : Nat) < 100 from by decide, nf0⟩, List.forall_mem_cons.mpr ⟨⟨show (23 : Nat) < 100 from by decide, nf1⟩, List.forall_mem_cons.mpr ⟨⟨show (23 : Nat) < 100 from by decide, nf2⟩, List.forall_mem_cons.mpr ⟨⟨show (23 : Nat) < 100 from by decide, nf3⟩, List.forall_mem_cons.mpr ⟨⟨show (20 : Nat) < 100 from by decide, nf4⟩, List.forall_mem_cons.mpr ⟨⟨show (20 : Nat) < 100 from by decide, nf5⟩, List.forall_mem_cons.mpr ⟨⟨show (20 : Nat) < 100 from by decide, nf6⟩, (fun _ h => (by cases h))⟩⟩⟩⟩⟩⟩⟩, (fun _ h => (by cases h))⟩
set_option maxHeartbeats 4000000 in
theorem vc_Mo_draws_25_0 (x1 : Int) (x4 : Int) (x12 : Int) (gx : Int) (k1 : 0 ≤ x1 ∧ x1 ≤ 79) (k4 : 0 ≤ x4 ∧ x4 ≤ 79) (k12 : 0 ≤ x12 ∧ x12 ≤ 79) (d0 : x4 + (-4294967296) ≤ x1 ∧ x1 ≤ x4 + 0) (d1 : x1 + (-4294967296) ≤ x4 ∧ x4 ≤ x1 + 0) (f0 : 1 * x12 + ((-1) * x1 + 0) ≤ 0) (f1 : (-1) * x12 + (1 * x1 + 0) ≤ 0) (ex2 : gx = x1) : 1 * gx + ((-1) * x1 + 0) ≤ 0 := by
  first | omega
set_option maxHeartbeats 4000000 in
theorem vc_Mo_draws_25_1 (x1 : Int) (x4 : Int) (x12 : Int) (gx : Int) (k1 : 0 ≤ x1 ∧ x1 ≤ 79) (k4 : 0 ≤ x4 ∧ x4 ≤ 79) (k12 : 0 ≤ x12 ∧ x12 ≤ 79) (d0 : x4 + (-4294967296) ≤ x1 ∧ x1 ≤ x4 + 0) (d1 : x1 + (-4294967296) ≤ x4 ∧ x4 ≤ x1 + 0) (f0 : 1 * x12 + ((-1) * x1 + 0) ≤ 0) (f1 : (-1) * x12 + (1 * x1 + 0) ≤ 0) (ex2 : gx = x1) : (-1) * gx + (1 * x1 + 0) ≤ 0 := by
  first | omega
set_option maxHeartbeats 4000000 in
theorem vc_Mo_draws_25_2 (pm_0 : Int) (pt_0 : Int → Int) (ph_0 : Int → Int) (pn_0 : Int) (f7 : GOK (pn_0) (pm_0) (pt_0) (ph_0)) (kz_0_31 : 0 ≤ pn_0 ∧ pn_0 ≤ 25) (kz_0_32 : 0 ≤ pm_0 ∧ pm_0 ≤ 80) : GOK (pn_0) (pm_0) (pt_0) (ph_0) := by
  first | assumption
set_option maxHeartbeats 4000000 in
theorem vc_Mo_draws_25_3 (x1 : Int) (x4 : Int) (x10 : Int) (x12 : Int) (alive_0 : Int → Int) (drawnEdge_0 : Int → Int) (pm_0 : Int) (pt_0 : Int → Int) (ph_0 : Int → Int) (pieceOf_0 : Int → Int) (drawnNode_0 : Int → Int) (ends_0 : Int → Int) (pn_0 : Int) (blockOf_0 : Int → Int) (way_0 : Int → Int) (wayMany_0 : Int) (faceMany_0 : Int → Int) (face_0 : Int → Int) (faces_0 : Int) (gx : Int) (k1 : 0 ≤ x1 ∧ x1 ≤ 79) (k4 : 0 ≤ x4 ∧ x4 ≤ 79) (k10 : 0 ≤ x10 ∧ x10 ≤ 79) (k12 : 0 ≤ x12 ∧ x12 ≤ 79) (d0 : x4 + (-4294967296) ≤ x1 ∧ x1 ≤ x4 + 0) (d1 : x1 + (-4294967296) ≤ x4 ∧ x4 ≤ x1 + 0) (f0 : 1 * x12 + ((-1) * x1 + 0) ≤ 0) (f1 : (-1) * x12 + (1 * x1 + 0) ≤ 0) (f7 : GOK (pn_0) (pm_0) (pt_0) (ph_0)) (f10 : DSB (pm_0) (pt_0) (ph_0) (alive_0) (blockOf_0) (drawnEdge_0) (drawnNode_0) (x1)) (f15 : WOP (pn_0) (pm_0) (wayMany_0) (pt_0) (ph_0) (alive_0) (drawnEdge_0) (pieceOf_0) (drawnNode_0) (ends_0) (way_0) (x10)) (f17 : SPQ (pm_0) (faces_0) (wayMany_0) (pt_0) (ph_0) (alive_0) (blockOf_0) (drawnEdge_0) (faceMany_0) (face_0) (way_0) (x12)) (kz_0_31 : 0 ≤ pn_0 ∧ pn_0 ≤ 25) (kz_0_32 : 0 ≤ pm_0 ∧ pm_0 ≤ 80) (kz_0_39 : 0 ≤ faces_0 ∧ faces_0 ≤ 120) (kz_0_45 : 0 ≤ wayMany_0 ∧ wayMany_0 ≤ 30) (ex2 : gx = x1) : DWP (pn_0) (pm_0) (faces_0) (wayMany_0) (pt_0) (ph_0) (alive_0) (blockOf_0) (drawnEdge_0) (drawnNode_0) (faceMany_0) (face_0) (way_0) (gx) := by
  have q := ‹SPQ _ _ _ _ _ _ _ _ _ _ _ _›
  rw [show x12 = x1 by omega] at q
  rw [ex2]
  exact dwp_of ‹GOK _ _ _ _› ‹DSB _ _ _ _ _ _ _ _› ‹WOP _ _ _ _ _ _ _ _ _ _ _ _› q
def o_Mo_draws_25 : or_T := (345, 14, [(0, (2, 0, 0, [165])), (1, (0, 0, 79, [])), (4, (0, 0, 79, [])), (10, (0, 0, 79, [])), (12, (0, 0, 79, []))], [(23, [12, 4], [0, 1, -1]), (23, [12, 4], [0, -1, 1]), (20, [3], [60, 2, 2, 75, 31, 32, 33, 34]), (20, [3, 4], [60, 1, 6, 166, 32, 33, 34, 35, 17, 43, 42]), (24, [0, 3], []), (24, [1, 4], []), (20, [3, 10], [60, 3, 8, 142, 31, 32, 45, 33, 34, 35, 43, 44, 42, 50, 46]), (20, [3, 12], [60, 3, 8, 151, 32, 39, 45, 33, 34, 35, 17, 43, 40, 41, 46])], [], [(0, 0, 79, [])], [(23, [14, 4], [0, 1, -1]), (23, [14, 4], [0, -1, 1]), (20, [3], [60, 2, 2, 75, 31, 32, 33, 34]), (20, [3, 14], [60, 4, 9, 152, 31, 32, 39, 45, 33, 34, 35, 17, 43, 42, 40, 41, 46])], [], [(1, 4, -4294967296, 0), (4, 1, -4294967296, 0)])
theorem oo_Mo_draws_25 {kA : Nat → ClassId} : or_ok PRD kA GG o_Mo_draws_25 := by
  refine or_mk fun A ta ws vs hD hth hl => ?_
  intro t0 r0 t1 k1 t4 k4 t10 k10 t12 k12 d0 d1 f0 f1 f7 f10 f11 f12 f15 f17
  replace f0 := shm_7 f0
  replace f1 := shm_22 f1
  replace f7 := shm_563 f7
  replace f10 := shm_1879 f10
  replace f11 := shm_5 f11
  replace f12 := shm_5 f12
  replace f15 := shm_1616 f15
  replace f17 := shm_733 f17
  have q3 : n_v vs 3 = n_v vs 0 := f11.symm
  have q4 : n_v vs 4 = n_v vs 1 := f12.symm
  simp only [q4, q3] at f0 f1 f7 f10 f15 f17
  have kz_0_31 := fdq_144 hD hth r0
  have kz_0_32 := fdq_139 hD hth r0
  have kz_0_39 := fdq_134 hD hth r0
  have kz_0_45 := fdq_189 hD hth r0
  obtain ⟨x, ex, hx⟩ := iv_ex (ta := ta) (lo := 0) (hi := 79) (z := v_iv (n_v vs 1)) (by omega) (by omega) (by omega) (by omega)
  have ex2 : v_iv (Value.int x) = v_iv (n_v vs 1) := ex
  have ex3 : 0 ≤ v_iv (Value.int x) ∧ v_iv (Value.int x) ≤ 79 := tv_rng hx
  have e_3 : n_v (vs ++ [Value.int x]) 3 = n_v vs 3 := n_v_old (by rw [hl]; decide)
  have e_4 : n_v (vs ++ [Value.int x]) 4 = n_v vs 4 := n_v_old (by rw [hl]; decide)
  have e_14 : n_v (vs ++ [Value.int x]) 14 = Value.int x := n_v_new hl
  have nf0 : fc_1 PRD (23, [14, 4], [0, 1, -1]) ws (vs ++ [Value.int x]) := by
    refine ⟨nf_inA hl rfl, sgq_7 ?_⟩
    · show 1 * v_iv (n_v (vs ++ [Value.int x]) 14) + ((-1) * v_iv (n_v (vs ++ [Value.int x]) 4) + 0) ≤ 0
      simp only [e_4, e_14, q4]
      exact vc_Mo_draws_25_0 (v_iv (n_v vs 1)) (v_iv (n_v vs 4)) (v_iv (n_v vs 12)) (v_iv (Value.int x)) k1 k4 k12 d0 d1 f0 f1 ex2
  have nf1 : fc_1 PRD (23, [14, 4], [0, -1, 1]) ws (vs ++ [Value.int x]) := by
    refine ⟨nf_inA hl rfl, sgq_22 ?_⟩
    · show (-1) * v_iv (n_v (vs ++ [Value.int x]) 14) + (1 * v_iv (n_v (vs ++ [Value.int x]) 4) + 0) ≤ 0
      simp only [e_4, e_14, q4]
      exact vc_Mo_draws_25_1 (v_iv (n_v vs 1)) (v_iv (n_v vs 4)) (v_iv (n_v vs 12)) (v_iv (Value.int x)) k1 k4 k12 d0 d1 f0 f1 ex2
  have nf2 : fc_1 PRD (20, [3], [60, 2, 2, 75, 31, 32, 33, 34]) ws (vs ++ [Value.int x]) := by
    refine ⟨nf_inA hl rfl, sgq_563 ?_⟩
    · show GOK (w_fi ws (n_v (vs ++ [Value.int x]) 3) 31) (w_fi ws (n_v (vs ++ [Value.int x]) 3) 32) (w_ei ws (w_ar ws (n_v (vs ++ [Value.int x]) 3) 33)) (w_ei ws (w_ar ws (n_v (vs ++ [Value.int x]) 3) 34))
      simp only [e_3, q3]
      exact vc_Mo_draws_25_2 (w_fi ws (n_v vs 0) 32) (w_ei ws (w_ar ws (n_v vs 0) 33)) (w_ei ws (w_ar ws (n_v vs 0) 34)) (w_fi ws (n_v vs 0) 31) f7 kz_0_31 kz_0_32
  have nf3 : fc_1 PRD (20, [3, 14], [60, 4, 9, 152, 31, 32, 39, 45, 33, 34, 35, 17, 43, 42, 40, 41, 46]) ws (vs ++ [Value.int x]) := by
    refine ⟨nf_inA hl rfl, sgq_1094 ?_⟩
    · show DWP (w_fi ws (n_v (vs ++ [Value.int x]) 3) 31) (w_fi ws (n_v (vs ++ [Value.int x]) 3) 32) (w_fi ws (n_v (vs ++ [Value.int x]) 3) 39) (w_fi ws (n_v (vs ++ [Value.int x]) 3) 45) (w_ei ws (w_ar ws (n_v (vs ++ [Value.int x]) 3) 33)) (w_ei ws (w_ar ws (n_v (vs ++ [Value.int x]) 3) 34)) (w_ei ws (w_ar ws (n_v (vs ++ [Value.int x]) 3) 35)) (w_ei ws (w_ar ws (n_v (vs ++ [Value.int x]) 3) 17)) (w_ei ws (w_ar ws (n_v (vs ++ [Value.int x]) 3) 43)) (w_ei ws (w_ar ws (n_v (vs ++ [Value.int x]) 3) 42)) (w_ei ws (w_ar ws (n_v (vs ++ [Value.int x]) 3) 40)) (w_ei ws (w_ar ws (n_v (vs ++ [Value.int x]) 3) 41)) (w_ei ws (w_ar ws (n_v (vs ++ [Value.int x]) 3) 46)) (v_iv (n_v (vs ++ [Value.int x]) 14))
      simp only [e_3, e_14, q3]
      exact vc_Mo_draws_25_3 (v_iv (n_v vs 1)) (v_iv (n_v vs 4)) (v_iv (n_v vs 10)) (v_iv (n_v vs 12)) (w_ei ws (w_ar ws (n_v vs 0) 35)) (w_ei ws (w_ar ws (n_v vs 0) 43)) (w_fi ws (n_v vs 0) 32) (w_ei ws (w_ar ws (n_v vs 0) 33)) (w_ei ws (w_ar ws (n_v vs 0) 34)) (w_ei ws (w_ar ws (n_v vs 0) 44)) (w_ei ws (w_ar ws (n_v vs 0) 42)) (w_ei ws (w_ar ws (n_v vs 0) 50)) (w_fi ws (n_v vs 0) 31) (w_ei ws (w_ar ws (n_v vs 0) 17)) (w_ei ws (w_ar ws (n_v vs 0) 46)) (w_fi ws (n_v vs 0) 45) (w_ei ws (w_ar ws (n_v vs 0) 40)) (w_ei ws (w_ar ws (n_v vs 0) 41)) (w_fi ws (n_v vs 0) 39) (v_iv (Value.int x)) k1 k4 k10 k12 d0 d1 f0 f1 f7 f10 f15 f17 kz_0_31 kz_0_32 kz_0_39 kz_0_45 ex2
  exact ⟨(fun _ h => (by cases h)), [Value.int x], ag_one hx, List.forall_mem_cons.mpr ⟨⟨show (23 : Nat) < 100 from by decide, nf0⟩, List.forall_mem_cons.mpr ⟨⟨show (23 : Nat) < 100 from by decide, nf1⟩, List.forall_mem_cons.mpr ⟨⟨show (20 : Nat) < 100 from by decide, nf2⟩, List.forall_mem_cons.mpr ⟨⟨show (20 : Nat) < 100 from by decide, nf3⟩, (fun _ h => (by cases h))⟩⟩⟩⟩, (fun _ h => (by cases h))⟩
set_option maxHeartbeats 4000000 in
theorem vc_Mo_draws_26_0 (pt_0 : Int → Int) (ph_0 : Int → Int) (pn_0 : Int) (pm_0 : Int) (f7 : GOK (pn_0) (pm_0) (pt_0) (ph_0)) (kz_0_31 : 0 ≤ pn_0 ∧ pn_0 ≤ 25) (kz_0_32 : 0 ≤ pm_0 ∧ pm_0 ≤ 80) : GOK (pn_0) (pm_0) (pt_0) (ph_0) := by
  first | assumption
set_option maxHeartbeats 4000000 in
theorem vc_Mo_draws_26_1 (x2 : Int) (pt_0 : Int → Int) (ph_0 : Int → Int) (pm_0 : Int) (alive_0 : Int → Int) (blockOf_0 : Int → Int) (k2 : 0 ≤ x2 ∧ x2 ≤ 80) (f8 : BK (pm_0) (pt_0) (ph_0) (alive_0) (blockOf_0) (x2)) (kz_0_32 : 0 ≤ pm_0 ∧ pm_0 ≤ 80) : BK (pm_0) (pt_0) (ph_0) (alive_0) (blockOf_0) (x2) := by
  first | assumption
set_option maxHeartbeats 4000000 in
theorem vc_Mo_draws_26_2 (x1 : Int) (x2 : Int) (k1 : 0 ≤ x1 ∧ x1 ≤ 79) (k2 : 0 ≤ x2 ∧ x2 ≤ 80) (f34 : 1 * x1 + ((-1) * x2 + 0) ≤ (-1)) : 1 * x1 + ((-1) * x2 + 0) ≤ (-1) := by
  first | omega
set_option maxHeartbeats 4000000 in
theorem vc_Mo_draws_26_3 (onlyPiece_0 : Int) (f12 : onlyPiece_0 = (-1)) (kz_0_49 : (-1) ≤ onlyPiece_0 ∧ onlyPiece_0 ≤ 79) : onlyPiece_0 = (-1) := by
  first | omega
set_option maxHeartbeats 4000000 in
theorem vc_Mo_draws_26_4 (x1 : Int) (x4 : Int) (x14 : Int) (pt_0 : Int → Int) (ph_0 : Int → Int) (pm_0 : Int) (alive_0 : Int → Int) (blockOf_0 : Int → Int) (faces_0 : Int) (drawnEdge_0 : Int → Int) (drawnNode_0 : Int → Int) (faceMany_0 : Int → Int) (face_0 : Int → Int) (k1 : 0 ≤ x1 ∧ x1 ≤ 79) (k4 : 0 ≤ x4 ∧ x4 ≤ 79) (k14 : 0 ≤ x14 ∧ x14 ≤ 79) (d0 : x4 + (-4294967296) ≤ x1 ∧ x1 ≤ x4 + 0) (d1 : x1 + (-4294967296) ≤ x4 ∧ x4 ≤ x1 + 0) (f0 : 1 * x14 + ((-1) * x1 + 0) ≤ 0) (f1 : (-1) * x14 + (1 * x1 + 0) ≤ 0) (f14 : DWQ (pm_0) (faces_0) (pt_0) (ph_0) (alive_0) (blockOf_0) (drawnEdge_0) (drawnNode_0) (faceMany_0) (face_0) (x14)) (kz_0_32 : 0 ≤ pm_0 ∧ pm_0 ≤ 80) (kz_0_39 : 0 ≤ faces_0 ∧ faces_0 ≤ 120) : DSB (pm_0) (pt_0) (ph_0) (alive_0) (blockOf_0) (drawnEdge_0) (drawnNode_0) (x1) := by
  have h := ‹DWQ _ _ _ _ _ _ _ _ _ _ _›
  have e : x14 = x1 := by omega
  rw [e] at h; exact h.1
set_option maxHeartbeats 4000000 in
theorem vc_Mo_draws_26_5 (x1 : Int) (x4 : Int) (x14 : Int) (pt_0 : Int → Int) (ph_0 : Int → Int) (pm_0 : Int) (alive_0 : Int → Int) (blockOf_0 : Int → Int) (faces_0 : Int) (drawnEdge_0 : Int → Int) (drawnNode_0 : Int → Int) (faceMany_0 : Int → Int) (face_0 : Int → Int) (k1 : 0 ≤ x1 ∧ x1 ≤ 79) (k4 : 0 ≤ x4 ∧ x4 ≤ 79) (k14 : 0 ≤ x14 ∧ x14 ≤ 79) (d0 : x4 + (-4294967296) ≤ x1 ∧ x1 ≤ x4 + 0) (d1 : x1 + (-4294967296) ≤ x4 ∧ x4 ≤ x1 + 0) (f0 : 1 * x14 + ((-1) * x1 + 0) ≤ 0) (f1 : (-1) * x14 + (1 * x1 + 0) ≤ 0) (f14 : DWQ (pm_0) (faces_0) (pt_0) (ph_0) (alive_0) (blockOf_0) (drawnEdge_0) (drawnNode_0) (faceMany_0) (face_0) (x14)) (kz_0_32 : 0 ≤ pm_0 ∧ pm_0 ≤ 80) (kz_0_39 : 0 ≤ faces_0 ∧ faces_0 ≤ 120) : FI (pm_0) (faces_0) (pt_0) (ph_0) (alive_0) (blockOf_0) (drawnEdge_0) (faceMany_0) (face_0) (x1) := by
  have h := ‹DWQ _ _ _ _ _ _ _ _ _ _ _›
  have e : x14 = x1 := by omega
  rw [e] at h; exact h.2.1
set_option maxHeartbeats 4000000 in
theorem vc_Mo_draws_26_6 (x14 : Int) (pt_0 : Int → Int) (ph_0 : Int → Int) (pm_0 : Int) (alive_0 : Int → Int) (blockOf_0 : Int → Int) (faces_0 : Int) (drawnEdge_0 : Int → Int) (drawnNode_0 : Int → Int) (faceMany_0 : Int → Int) (face_0 : Int → Int) (k14 : 0 ≤ x14 ∧ x14 ≤ 79) (f14 : DWQ (pm_0) (faces_0) (pt_0) (ph_0) (alive_0) (blockOf_0) (drawnEdge_0) (drawnNode_0) (faceMany_0) (face_0) (x14)) (kz_0_32 : 0 ≤ pm_0 ∧ pm_0 ≤ 80) (kz_0_39 : 0 ≤ faces_0 ∧ faces_0 ≤ 120) : CZF (pm_0) (faces_0) (drawnEdge_0) := by
  have h := ‹DWQ _ _ _ _ _ _ _ _ _ _ _›
  exact h.2.2
set_option maxHeartbeats 4000000 in
theorem vc_Mo_draws_26_7 (x8 : Int) (x13 : Int) (faces_0 : Int) (gx : Int) (k8 : (-2) ≤ x8 ∧ x8 ≤ 120) (k13 : (-2) ≤ x13 ∧ x13 ≤ 120) (f5 : 1 * x13 + ((-1) * x8 + 0) ≤ 0) (f6 : (-1) * x13 + (1 * x8 + 0) ≤ 0) (f13 : (-1) * faces_0 + ((-1) * x13 + 0) ≤ (-121)) (kz_0_39 : 0 ≤ faces_0 ∧ faces_0 ≤ 120) (ex2 : gx = 0 + (1 * x8 + 0)) : (-1) * faces_0 + ((-1) * gx + 0) ≤ (-121) := by
  first | omega
def o_Mo_draws_26 : or_T := (348, 15, [(0, (2, 0, 0, [165])), (1, (0, 0, 79, [])), (2, (0, 0, 80, [])), (3, (2, 0, 0, [165])), (4, (0, 0, 79, [])), (8, (0, -2, 120, [])), (12, (0, 0, 79, [])), (13, (0, -2, 120, [])), (14, (0, 0, 79, []))], [(23, [14, 4], [0, 1, -1]), (23, [14, 4], [0, -1, 1]), (20, [3], [60, 2, 2, 75, 31, 32, 33, 34]), (23, [12, 4], [0, 1, -1]), (23, [12, 4], [0, -1, 1]), (23, [13, 8], [0, 1, -1]), (23, [13, 8], [0, -1, 1]), (20, [3], [60, 2, 2, 75, 31, 32, 33, 34]), (20, [3, 2], [60, 1, 4, 97, 32, 33, 34, 35, 17]), (23, [4, 2], [-1, 1, -1]), (24, [0, 3], []), (24, [1, 4], []), (20, [3], [50, 1, 0, 49, 1, 3, 2, 0, 49, 0, -1]), (20, [3, 13], [30, -121, -1, 1, 39, -1, 0, 0]), (20, [3, 14], [60, 2, 8, 154, 32, 39, 33, 34, 35, 17, 43, 42, 40, 41]), (102, [14], [1176956575385002643219210516851437453019191645837006471168]), (23, [14, 4], [0, 1, -1]), (23, [14, 4], [0, -1, 1]), (23, [12, 4], [0, 1, -1]), (23, [12, 4], [0, -1, 1]), (23, [13, 8], [0, 1, -1]), (23, [13, 8], [0, -1, 1]), (23, [4, 2], [-1, 1, -1]), (102, [13], [294287034331902719831626327557457810416785997056819855360, 165039]), (23, [12, 4], [0, 1, -1]), (23, [12, 4], [0, -1, 1]), (23, [13, 8], [0, 1, -1]), (23, [13, 8], [0, -1, 1]), (23, [4, 2], [-1, 1, -1]), (102, [11], [59632466486173467256439999520472830952972376722408327872512, 165045, 165049]), (23, [4, 2], [-1, 1, -1]), (102, [9], [37662610412320084583014736539245998496614132666784207077376]), (23, [4, 2], [-1, 1, -1]), (102, [9], [1569275433846670190958947355801916604025588861116008628224]), (23, [4, 2], [-1, 1, -1])], [], [(0, -2, 120, [])], [(20, [3], [60, 2, 2, 75, 31, 32, 33, 34]), (20, [3, 2], [60, 1, 4, 97, 32, 33, 34, 35, 17]), (23, [4, 2], [-1, 1, -1]), (20, [3], [50, 1, 0, 49, 1, 3, 2, 0, 49, 0, -1]), (20, [3, 4], [60, 1, 6, 166, 32, 33, 34, 35, 17, 43, 42]), (20, [3, 4], [60, 2, 7, 167, 32, 39, 33, 34, 35, 17, 43, 40, 41]), (20, [3], [60, 2, 1, 168, 32, 39, 43]), (20, [3, 15], [30, -121, -1, 1, 39, -1, 0, 0]), (24, [0, 3], []), (24, [1, 4], [])], [(15, 8, 0, 0)], [(1, 4, -4294967296, 0), (4, 1, -4294967296, 0)])
theorem oo_Mo_draws_26 {kA : Nat → ClassId} : or_ok PRD kA GG o_Mo_draws_26 := by
  refine or_mk fun A ta ws vs hD hth hl => ?_
  intro t0 r0 t1 k1 t2 k2 t3 r3 t4 k4 t8 k8 t12 k12 t13 k13 t14 k14 d0 d1 f0 f1 f2 f3 f4 f5 f6 f7 f8 f9 f10 f11 f12 f13 f14 ta1 w1 le1 s1 f16 f17 f18 f19 f20 f21 f22 ta2 w2 le2 s2 f24 f25 f26 f27 f28 ta3 w3 le3 s3 f30 ta4 w4 le4 s4 f32 ta5 w5 le5 s5 f34
  replace f0 := shm_7 f0
  replace f1 := shm_22 f1
  replace f2 := shm_563 f2
  replace f3 := shm_7 f3
  replace f4 := shm_22 f4
  replace f5 := shm_7 f5
  replace f6 := shm_22 f6
  replace f7 := shm_563 f7
  replace f8 := shm_1481 f8
  replace f9 := shm_211 f9
  replace f10 := shm_5 f10
  replace f11 := shm_5 f11
  replace f12 := shm_1612 f12
  replace f13 := shm_734 f13
  replace f14 := shm_1096 f14
  replace f16 := shm_7 f16
  replace f17 := shm_22 f17
  replace f18 := shm_7 f18
  replace f19 := shm_22 f19
  replace f20 := shm_7 f20
  replace f21 := shm_22 f21
  replace f22 := shm_211 f22
  replace f24 := shm_7 f24
  replace f25 := shm_22 f25
  replace f26 := shm_7 f26
  replace f27 := shm_22 f27
  replace f28 := shm_211 f28
  replace f30 := shm_211 f30
  replace f32 := shm_211 f32
  replace f34 := shm_211 f34
  have q3 : n_v vs 3 = n_v vs 0 := f10.symm
  have q4 : n_v vs 4 = n_v vs 1 := f11.symm
  simp only [q4, q3] at f0 f1 f2 f3 f4 f7 f8 f9 f12 f13 f14 f16 f17 f18 f19 f22 f24 f25 f28 f30 f32 f34
  have cr_0_17 := fdq_187 hD hth r0
  have cr_0_33 := fdq_116 hD hth r0
  have cr_0_34 := fdq_117 hD hth r0
  have cr_0_35 := fdq_131 hD hth r0
  have cr_0_40 := fdq_132 hD hth r0
  have cr_0_41 := fdq_133 hD hth r0
  have cr_0_42 := fdq_135 hD hth r0
  have cr_0_43 := fdq_136 hD hth r0
  have hK_0_17 := elq_110 hD hth cr_0_17
  have hK_0_33 := elq_57 hD hth cr_0_33
  have hK_0_34 := elq_58 hD hth cr_0_34
  have hK_0_35 := elq_69 hD hth cr_0_35
  have hK_0_40 := elq_70 hD hth cr_0_40
  have hK_0_41 := elq_71 hD hth cr_0_41
  have hK_0_42 := elq_72 hD hth cr_0_42
  have hK_0_43 := elq_73 hD hth cr_0_43
  have kz_0_31 := fdq_144 hD hth r0
  have kz_0_32 := fdq_139 hD hth r0
  have kz_0_39 := fdq_134 hD hth r0
  have kz_0_49 := fdq_145 hD hth r0
  obtain ⟨x, ex, hx⟩ := iv_ex (ta := ta) (lo := (-2)) (hi := 120) (z := 0 + (1 * v_iv (n_v vs 8) + 0)) (by omega) (by omega) (by omega) (by omega)
  have ex2 : v_iv (Value.int x) = 0 + (1 * v_iv (n_v vs 8) + 0) := ex
  have ex3 : (-2) ≤ v_iv (Value.int x) ∧ v_iv (Value.int x) ≤ 120 := tv_rng hx
  have e_0 : n_v (vs ++ [Value.int x]) 0 = n_v vs 0 := n_v_old (by rw [hl]; decide)
  have e_1 : n_v (vs ++ [Value.int x]) 1 = n_v vs 1 := n_v_old (by rw [hl]; decide)
  have e_2 : n_v (vs ++ [Value.int x]) 2 = n_v vs 2 := n_v_old (by rw [hl]; decide)
  have e_3 : n_v (vs ++ [Value.int x]) 3 = n_v vs 3 := n_v_old (by rw [hl]; decide)
  have e_4 : n_v (vs ++ [Value.int x]) 4 = n_v vs 4 := n_v_old (by rw [hl]; decide)
  have e_15 : n_v (vs ++ [Value.int x]) 15 = Value.int x := n_v_new hl
  have nf0 : fc_1 PRD (20, [3], [60, 2, 2, 75, 31, 32, 33, 34]) ws (vs ++ [Value.int x]) := by
    refine ⟨nf_inA hl rfl, sgq_563 ?_⟩
    · show GOK (w_fi ws (n_v (vs ++ [Value.int x]) 3) 31) (w_fi ws (n_v (vs ++ [Value.int x]) 3) 32) (w_ei ws (w_ar ws (n_v (vs ++ [Value.int x]) 3) 33)) (w_ei ws (w_ar ws (n_v (vs ++ [Value.int x]) 3) 34))
      simp only [e_3, q3]
      exact vc_Mo_draws_26_0 (w_ei ws (w_ar ws (n_v vs 0) 33)) (w_ei ws (w_ar ws (n_v vs 0) 34)) (w_fi ws (n_v vs 0) 31) (w_fi ws (n_v vs 0) 32) f7 kz_0_31 kz_0_32
  have nf1 : fc_1 PRD (20, [3, 2], [60, 1, 4, 97, 32, 33, 34, 35, 17]) ws (vs ++ [Value.int x]) := by
    refine ⟨nf_inA hl rfl, sgq_1481 ?_⟩
    · show BK (w_fi ws (n_v (vs ++ [Value.int x]) 3) 32) (w_ei ws (w_ar ws (n_v (vs ++ [Value.int x]) 3) 33)) (w_ei ws (w_ar ws (n_v (vs ++ [Value.int x]) 3) 34)) (w_ei ws (w_ar ws (n_v (vs ++ [Value.int x]) 3) 35)) (w_ei ws (w_ar ws (n_v (vs ++ [Value.int x]) 3) 17)) (v_iv (n_v (vs ++ [Value.int x]) 2))
      simp only [e_2, e_3, q3]
      exact vc_Mo_draws_26_1 (v_iv (n_v vs 2)) (w_ei ws (w_ar ws (n_v vs 0) 33)) (w_ei ws (w_ar ws (n_v vs 0) 34)) (w_fi ws (n_v vs 0) 32) (w_ei ws (w_ar ws (n_v vs 0) 35)) (w_ei ws (w_ar ws (n_v vs 0) 17)) k2 f8 kz_0_32
  have nf2 : fc_1 PRD (23, [4, 2], [-1, 1, -1]) ws (vs ++ [Value.int x]) := by
    refine ⟨nf_inA hl rfl, sgq_211 ?_⟩
    · show 1 * v_iv (n_v (vs ++ [Value.int x]) 4) + ((-1) * v_iv (n_v (vs ++ [Value.int x]) 2) + 0) ≤ (-1)
      simp only [e_2, e_4, q4]
      exact vc_Mo_draws_26_2 (v_iv (n_v vs 1)) (v_iv (n_v vs 2)) k1 k2 f34
  have nf3 : fc_1 PRD (20, [3], [50, 1, 0, 49, 1, 3, 2, 0, 49, 0, -1]) ws (vs ++ [Value.int x]) := by
    refine ⟨nf_inA hl rfl, sgq_1612 ?_⟩
    · show w_fi ws (n_v (vs ++ [Value.int x]) 3) 49 = (-1)
      simp only [e_3, q3]
      exact vc_Mo_draws_26_3 (w_fi ws (n_v vs 0) 49) f12 kz_0_49
  have nf4 : fc_1 PRD (20, [3, 4], [60, 1, 6, 166, 32, 33, 34, 35, 17, 43, 42]) ws (vs ++ [Value.int x]) := by
    refine ⟨nf_inA hl rfl, sgq_1879 ?_⟩
    · show DSB (w_fi ws (n_v (vs ++ [Value.int x]) 3) 32) (w_ei ws (w_ar ws (n_v (vs ++ [Value.int x]) 3) 33)) (w_ei ws (w_ar ws (n_v (vs ++ [Value.int x]) 3) 34)) (w_ei ws (w_ar ws (n_v (vs ++ [Value.int x]) 3) 35)) (w_ei ws (w_ar ws (n_v (vs ++ [Value.int x]) 3) 17)) (w_ei ws (w_ar ws (n_v (vs ++ [Value.int x]) 3) 43)) (w_ei ws (w_ar ws (n_v (vs ++ [Value.int x]) 3) 42)) (v_iv (n_v (vs ++ [Value.int x]) 4))
      simp only [e_3, e_4, q3, q4]
      exact vc_Mo_draws_26_4 (v_iv (n_v vs 1)) (v_iv (n_v vs 4)) (v_iv (n_v vs 14)) (w_ei ws (w_ar ws (n_v vs 0) 33)) (w_ei ws (w_ar ws (n_v vs 0) 34)) (w_fi ws (n_v vs 0) 32) (w_ei ws (w_ar ws (n_v vs 0) 35)) (w_ei ws (w_ar ws (n_v vs 0) 17)) (w_fi ws (n_v vs 0) 39) (w_ei ws (w_ar ws (n_v vs 0) 43)) (w_ei ws (w_ar ws (n_v vs 0) 42)) (w_ei ws (w_ar ws (n_v vs 0) 40)) (w_ei ws (w_ar ws (n_v vs 0) 41)) k1 k4 k14 d0 d1 f0 f1 f14 kz_0_32 kz_0_39
  have nf5 : fc_1 PRD (20, [3, 4], [60, 2, 7, 167, 32, 39, 33, 34, 35, 17, 43, 40, 41]) ws (vs ++ [Value.int x]) := by
    refine ⟨nf_inA hl rfl, sgq_1880 ?_⟩
    · show FI (w_fi ws (n_v (vs ++ [Value.int x]) 3) 32) (w_fi ws (n_v (vs ++ [Value.int x]) 3) 39) (w_ei ws (w_ar ws (n_v (vs ++ [Value.int x]) 3) 33)) (w_ei ws (w_ar ws (n_v (vs ++ [Value.int x]) 3) 34)) (w_ei ws (w_ar ws (n_v (vs ++ [Value.int x]) 3) 35)) (w_ei ws (w_ar ws (n_v (vs ++ [Value.int x]) 3) 17)) (w_ei ws (w_ar ws (n_v (vs ++ [Value.int x]) 3) 43)) (w_ei ws (w_ar ws (n_v (vs ++ [Value.int x]) 3) 40)) (w_ei ws (w_ar ws (n_v (vs ++ [Value.int x]) 3) 41)) (v_iv (n_v (vs ++ [Value.int x]) 4))
      simp only [e_3, e_4, q3, q4]
      exact vc_Mo_draws_26_5 (v_iv (n_v vs 1)) (v_iv (n_v vs 4)) (v_iv (n_v vs 14)) (w_ei ws (w_ar ws (n_v vs 0) 33)) (w_ei ws (w_ar ws (n_v vs 0) 34)) (w_fi ws (n_v vs 0) 32) (w_ei ws (w_ar ws (n_v vs 0) 35)) (w_ei ws (w_ar ws (n_v vs 0) 17)) (w_fi ws (n_v vs 0) 39) (w_ei ws (w_ar ws (n_v vs 0) 43)) (w_ei ws (w_ar ws (n_v vs 0) 42)) (w_ei ws (w_ar ws (n_v vs 0) 40)) (w_ei ws (w_ar ws (n_v vs 0) 41)) k1 k4 k14 d0 d1 f0 f1 f14 kz_0_32 kz_0_39
  have nf6 : fc_1 PRD (20, [3], [60, 2, 1, 168, 32, 39, 43]) ws (vs ++ [Value.int x]) := by
    refine ⟨nf_inA hl rfl, sgq_1881 ?_⟩
    · show CZF (w_fi ws (n_v (vs ++ [Value.int x]) 3) 32) (w_fi ws (n_v (vs ++ [Value.int x]) 3) 39) (w_ei ws (w_ar ws (n_v (vs ++ [Value.int x]) 3) 43))
      simp only [e_3, q3]
      exact vc_Mo_draws_26_6 (v_iv (n_v vs 14)) (w_ei ws (w_ar ws (n_v vs 0) 33)) (w_ei ws (w_ar ws (n_v vs 0) 34)) (w_fi ws (n_v vs 0) 32) (w_ei ws (w_ar ws (n_v vs 0) 35)) (w_ei ws (w_ar ws (n_v vs 0) 17)) (w_fi ws (n_v vs 0) 39) (w_ei ws (w_ar ws (n_v vs 0) 43)) (w_ei ws (w_ar ws (n_v vs 0) 42)) (w_ei ws (w_ar ws (n_v vs 0) 40)) (w_ei ws (w_ar ws (n_v vs 0) 41)) k14 f14 kz_0_32 kz_0_39
  have nf7 : fc_1 PRD (20, [3, 15], [30, -121, -1, 1, 39, -1, 0, 0]) ws (vs ++ [Value.int x]) := by
    refine ⟨nf_inA hl rfl, sgq_734 ?_⟩
    · show (-1) * w_fi ws (n_v (vs ++ [Value.int x]) 3) 39 + ((-1) * v_iv (n_v (vs ++ [Value.int x]) 15) + 0) ≤ (-121)
      simp only [e_3, e_15, q3]
      exact vc_Mo_draws_26_7 (v_iv (n_v vs 8)) (v_iv (n_v vs 13)) (w_fi ws (n_v vs 0) 39) (v_iv (Value.int x)) k8 k13 f5 f6 f13 kz_0_39 ex2
  have nf8 : fc_1 PRD (24, [0, 3], []) ws (vs ++ [Value.int x]) := by
    refine ⟨nf_inA hl rfl, sgq_5 ?_⟩
    · show n_v (vs ++ [Value.int x]) 0 = n_v (vs ++ [Value.int x]) 3
      first | rfl | simp only [e_0, e_3, q3, q4]
  have nf9 : fc_1 PRD (24, [1, 4], []) ws (vs ++ [Value.int x]) := by
    refine ⟨nf_inA hl rfl, sgq_5 ?_⟩
    · show n_v (vs ++ [Value.int x]) 1 = n_v (vs ++ [Value.int x]) 4
      first | rfl | simp only [e_1, e_4, q3, q4]
  obtain ⟨x0, e0, _, _⟩ := tv_int t8 rfl
  have e1 : v_iv (n_v vs 8) = x0.toInt := by rw [e0]; rfl
  have ho : sy_ofs (vs ++ [Value.int x]) (15, 8, 0, 0) := by
    refine ⟨x, x0, by rw [List.getElem?_append_right (by rw [hl]; decide), hl]; rfl, ?_, ?_, ?_⟩
    · rw [List.getElem?_append_left (by rw [hl]; decide)]; exact n_v_some (by rw [hl]; decide) e0
    · show x0.toInt + 0 ≤ x.toInt; omega
    · show x.toInt ≤ x0.toInt + 0; omega
  exact ⟨(fun _ h => (by cases h)), [Value.int x], ag_one hx, List.forall_mem_cons.mpr ⟨⟨show (20 : Nat) < 100 from by decide, nf0⟩, List.forall_mem_cons.mpr ⟨⟨show (20 : Nat) < 100 from by decide, nf1⟩, List.forall_mem_cons.mpr ⟨⟨show (23 : Nat) < 100 from by decide, nf2⟩, List.forall_mem_cons.mpr ⟨⟨show (20 : Nat) < 100 from by decide, nf3⟩, List.forall_mem_cons.mpr ⟨⟨show (20 : Nat) < 100 from by decide, nf4⟩, List.forall_mem_cons.mpr ⟨⟨show (20 : Nat) < 100 from by decide, nf5⟩, List.forall_mem_cons.mpr ⟨⟨show (20 : Nat) < 100 from by decide, nf6⟩, List.forall_mem_cons.mpr ⟨⟨show (20 : Nat) < 100 from by decide, nf7⟩, List.forall_mem_cons.mpr ⟨⟨show (24 : Nat) < 100 from by decide, nf8⟩, List.forall_mem_cons.mpr ⟨⟨show (24 : Nat) < 100 from by decide, nf9⟩, (fun _ h => (by cases h))⟩⟩⟩⟩⟩⟩⟩⟩⟩⟩, List.forall_mem_cons.mpr ⟨ho, (fun _ h => (by cases h))⟩⟩
set_option maxHeartbeats 4000000 in
theorem vc_Mo_draws_27_0 (x1 : Int) (x11 : Int) (pm_0 : Int) (faces_0 : Int) (pt_0 : Int → Int) (ph_0 : Int → Int) (alive_0 : Int → Int) (blockOf_0 : Int → Int) (faceMany_0 : Int → Int) (face_0 : Int → Int) (k1 : 0 ≤ x1 ∧ x1 ≤ 79) (k11 : 0 ≤ x11 ∧ x11 ≤ 0) (kz_0_32 : 0 ≤ pm_0 ∧ pm_0 ≤ 80) (kz_0_39 : 0 ≤ faces_0 ∧ faces_0 ≤ 120) : DRQ (pm_0) (faces_0) (pt_0) (ph_0) (alive_0) (blockOf_0) (faceMany_0) (face_0) (x1) (x11) := by
  intro z
  exfalso; omega
set_option maxHeartbeats 4000000 in
theorem vc_Mo_draws_27_1 (onlyPiece_0 : Int) (f6 : onlyPiece_0 = (-1)) (kz_0_49 : (-1) ≤ onlyPiece_0 ∧ onlyPiece_0 ≤ 79) : onlyPiece_0 = (-1) := by
  first | omega
def o_Mo_draws_27 : or_T := (323, 12, [(0, (2, 0, 0, [165])), (1, (0, 0, 79, [])), (11, (0, 0, 0, []))], [(20, [3], [50, 1, 0, 49, 1, 3, 2, 0, 49, 0, -1]), (24, [0, 3], [])], [], [], [(20, [0, 1, 11], [60, 2, 6, 169, 32, 39, 33, 34, 35, 17, 40, 41]), (20, [0], [50, 1, 0, 49, 1, 3, 2, 0, 49, 0, -1])], [], [])
theorem oo_Mo_draws_27 {kA : Nat → ClassId} : or_ok PRD kA GG o_Mo_draws_27 := by
  refine or_mk fun A ta ws vs hD hth hl => ?_
  intro t0 r0 t1 k1 t11 k11 f6 f11
  replace f6 := shm_1612 f6
  replace f11 := shm_5 f11
  have q3 : n_v vs 3 = n_v vs 0 := f11.symm
  simp only [q3] at f6
  have kz_0_32 := fdq_139 hD hth r0
  have kz_0_39 := fdq_134 hD hth r0
  have kz_0_49 := fdq_145 hD hth r0
  have nf0 : fc_1 PRD (20, [0, 1, 11], [60, 2, 6, 169, 32, 39, 33, 34, 35, 17, 40, 41]) ws (vs) := ⟨nf_in hl rfl, sgq_1877 (vc_Mo_draws_27_0 (v_iv (n_v vs 1)) (v_iv (n_v vs 11)) (w_fi ws (n_v vs 0) 32) (w_fi ws (n_v vs 0) 39) (w_ei ws (w_ar ws (n_v vs 0) 33)) (w_ei ws (w_ar ws (n_v vs 0) 34)) (w_ei ws (w_ar ws (n_v vs 0) 35)) (w_ei ws (w_ar ws (n_v vs 0) 17)) (w_ei ws (w_ar ws (n_v vs 0) 40)) (w_ei ws (w_ar ws (n_v vs 0) 41)) k1 k11 kz_0_32 kz_0_39)⟩
  have nf1 : fc_1 PRD (20, [0], [50, 1, 0, 49, 1, 3, 2, 0, 49, 0, -1]) ws (vs) := ⟨nf_in hl rfl, sgq_1612 (vc_Mo_draws_27_1 (w_fi ws (n_v vs 0) 49) f6 kz_0_49)⟩
  refine ⟨(fun _ h => (by cases h)), [], trivial, ?_, (fun _ h => (by cases h))⟩
  rw [List.append_nil]
  exact List.forall_mem_cons.mpr ⟨⟨show (20 : Nat) < 100 from by decide, nf0⟩, List.forall_mem_cons.mpr ⟨⟨show (20 : Nat) < 100 from by decide, nf1⟩, (fun _ h => (by cases h))⟩⟩
set_option maxHeartbeats 4000000 in
theorem vc_Mo_draws_28_0 (pt_0 : Int → Int) (ph_0 : Int → Int) (pn_0 : Int) (pm_0 : Int) (f0 : GOK (pn_0) (pm_0) (pt_0) (ph_0)) (kz_0_31 : 0 ≤ pn_0 ∧ pn_0 ≤ 25) (kz_0_32 : 0 ≤ pm_0 ∧ pm_0 ≤ 80) : GOK (pn_0) (pm_0) (pt_0) (ph_0) := by
  first | assumption
set_option maxHeartbeats 4000000 in
theorem vc_Mo_draws_28_1 (x2 : Int) (pt_0 : Int → Int) (ph_0 : Int → Int) (pm_0 : Int) (alive_0 : Int → Int) (blockOf_0 : Int → Int) (k2 : 0 ≤ x2 ∧ x2 ≤ 80) (f1 : BK (pm_0) (pt_0) (ph_0) (alive_0) (blockOf_0) (x2)) (kz_0_32 : 0 ≤ pm_0 ∧ pm_0 ≤ 80) : BK (pm_0) (pt_0) (ph_0) (alive_0) (blockOf_0) (x2) := by
  first | assumption
set_option maxHeartbeats 4000000 in
theorem vc_Mo_draws_28_2 (x1 : Int) (x2 : Int) (k1 : 0 ≤ x1 ∧ x1 ≤ 79) (k2 : 0 ≤ x2 ∧ x2 ≤ 80) (f2 : 1 * x1 + ((-1) * x2 + 0) ≤ (-1)) : 1 * x1 + ((-1) * x2 + 0) ≤ (-1) := by
  first | omega
set_option maxHeartbeats 4000000 in
theorem vc_Mo_draws_28_3 (onlyPiece_0 : Int) (f3 : onlyPiece_0 = (-1)) (kz_0_49 : (-1) ≤ onlyPiece_0 ∧ onlyPiece_0 ≤ 79) : onlyPiece_0 = (-1) := by
  first | omega
set_option maxHeartbeats 4000000 in
theorem vc_Mo_draws_28_4 (x1 : Int) (pt_0 : Int → Int) (ph_0 : Int → Int) (pm_0 : Int) (alive_0 : Int → Int) (blockOf_0 : Int → Int) (drawnEdge_0 : Int → Int) (drawnNode_0 : Int → Int) (k1 : 0 ≤ x1 ∧ x1 ≤ 79) (f4 : DSB (pm_0) (pt_0) (ph_0) (alive_0) (blockOf_0) (drawnEdge_0) (drawnNode_0) (x1)) (kz_0_32 : 0 ≤ pm_0 ∧ pm_0 ≤ 80) : DSB (pm_0) (pt_0) (ph_0) (alive_0) (blockOf_0) (drawnEdge_0) (drawnNode_0) (x1) := by
  first
    | assumption
    | (have h := ‹DWQ _ _ _ _ _ _ _ _ _ _ _›
       have e : x10 = x1 := by omega
       rw [e] at h; exact h.1)
set_option maxHeartbeats 4000000 in
theorem vc_Mo_draws_28_5 (x1 : Int) (pt_0 : Int → Int) (ph_0 : Int → Int) (pm_0 : Int) (alive_0 : Int → Int) (blockOf_0 : Int → Int) (drawnEdge_0 : Int → Int) (faceMany_0 : Int → Int) (face_0 : Int → Int) (faces_0 : Int) (k1 : 0 ≤ x1 ∧ x1 ≤ 79) (f5 : FI (pm_0) (faces_0) (pt_0) (ph_0) (alive_0) (blockOf_0) (drawnEdge_0) (faceMany_0) (face_0) (x1)) (kz_0_32 : 0 ≤ pm_0 ∧ pm_0 ≤ 80) (kz_0_39 : 0 ≤ faces_0 ∧ faces_0 ≤ 120) : FI (pm_0) (faces_0) (pt_0) (ph_0) (alive_0) (blockOf_0) (drawnEdge_0) (faceMany_0) (face_0) (x1) := by
  first
    | assumption
    | (have h := ‹DWQ _ _ _ _ _ _ _ _ _ _ _›
       have e : x10 = x1 := by omega
       rw [e] at h; exact h.2.1)
set_option maxHeartbeats 4000000 in
theorem vc_Mo_draws_28_6 (pm_0 : Int) (drawnEdge_0 : Int → Int) (faces_0 : Int) (f6 : CZF (pm_0) (faces_0) (drawnEdge_0)) (kz_0_32 : 0 ≤ pm_0 ∧ pm_0 ≤ 80) (kz_0_39 : 0 ≤ faces_0 ∧ faces_0 ≤ 120) : CZF (pm_0) (faces_0) (drawnEdge_0) := by
  first
    | assumption
    | (have h := ‹DWQ _ _ _ _ _ _ _ _ _ _ _›
       exact h.2.2)
set_option maxHeartbeats 4000000 in
theorem vc_Mo_draws_28_7 (x9 : Int) (faces_0 : Int) (gx : Int) (k9 : (-2) ≤ x9 ∧ x9 ≤ 120) (f7 : (-1) * faces_0 + ((-1) * x9 + 0) ≤ (-121)) (kz_0_39 : 0 ≤ faces_0 ∧ faces_0 ≤ 120) (ex2 : gx = (-1) + (1 * x9 + 0)) : (-1) * faces_0 + ((-1) * gx + 0) ≤ (-120) := by
  first | omega
def o_Mo_draws_28 : or_T := (296, 10, [(0, (2, 0, 0, [165])), (1, (0, 0, 79, [])), (2, (0, 0, 80, [])), (3, (2, 0, 0, [165])), (4, (0, 0, 79, [])), (9, (0, -2, 120, []))], [(20, [3], [60, 2, 2, 75, 31, 32, 33, 34]), (20, [3, 2], [60, 1, 4, 97, 32, 33, 34, 35, 17]), (23, [4, 2], [-1, 1, -1]), (20, [3], [50, 1, 0, 49, 1, 3, 2, 0, 49, 0, -1]), (20, [3, 4], [60, 1, 6, 166, 32, 33, 34, 35, 17, 43, 42]), (20, [3, 4], [60, 2, 7, 167, 32, 39, 33, 34, 35, 17, 43, 40, 41]), (20, [3], [60, 2, 1, 168, 32, 39, 43]), (20, [3, 9], [30, -121, -1, 1, 39, -1, 0, 0]), (24, [0, 3], []), (24, [1, 4], [])], [], [(0, -2, 120, [])], [(20, [3], [60, 2, 2, 75, 31, 32, 33, 34]), (20, [3, 2], [60, 1, 4, 97, 32, 33, 34, 35, 17]), (23, [4, 2], [-1, 1, -1]), (20, [3], [50, 1, 0, 49, 1, 3, 2, 0, 49, 0, -1]), (20, [3, 4], [60, 1, 6, 166, 32, 33, 34, 35, 17, 43, 42]), (20, [3, 4], [60, 2, 7, 167, 32, 39, 33, 34, 35, 17, 43, 40, 41]), (20, [3], [60, 2, 1, 168, 32, 39, 43]), (20, [3, 10], [30, -120, -1, 1, 39, -1, 0, 0]), (24, [0, 3], []), (24, [1, 4], [])], [(10, 9, -1000000000000, -1)], [(1, 4, -4294967296, 0), (4, 1, -4294967296, 0)])
theorem oo_Mo_draws_28 {kA : Nat → ClassId} : or_ok PRD kA GG o_Mo_draws_28 := by
  refine or_mk fun A ta ws vs hD hth hl => ?_
  intro t0 r0 t1 k1 t2 k2 t3 r3 t4 k4 t9 k9 d0 d1 f0 f1 f2 f3 f4 f5 f6 f7 f8 f9
  replace f0 := shm_563 f0
  replace f1 := shm_1481 f1
  replace f2 := shm_211 f2
  replace f3 := shm_1612 f3
  replace f4 := shm_1879 f4
  replace f5 := shm_1880 f5
  replace f6 := shm_1881 f6
  replace f7 := shm_734 f7
  replace f8 := shm_5 f8
  replace f9 := shm_5 f9
  have q3 : n_v vs 3 = n_v vs 0 := f8.symm
  have q4 : n_v vs 4 = n_v vs 1 := f9.symm
  simp only [q3, q4] at f0 f1 f2 f3 f4 f5 f6 f7
  have cr_0_17 := fdq_187 hD hth r0
  have cr_0_33 := fdq_116 hD hth r0
  have cr_0_34 := fdq_117 hD hth r0
  have cr_0_35 := fdq_131 hD hth r0
  have cr_0_40 := fdq_132 hD hth r0
  have cr_0_41 := fdq_133 hD hth r0
  have cr_0_42 := fdq_135 hD hth r0
  have cr_0_43 := fdq_136 hD hth r0
  have hK_0_17 := elq_110 hD hth cr_0_17
  have hK_0_33 := elq_57 hD hth cr_0_33
  have hK_0_34 := elq_58 hD hth cr_0_34
  have hK_0_35 := elq_69 hD hth cr_0_35
  have hK_0_40 := elq_70 hD hth cr_0_40
  have hK_0_41 := elq_71 hD hth cr_0_41
  have hK_0_42 := elq_72 hD hth cr_0_42
  have hK_0_43 := elq_73 hD hth cr_0_43
  have kz_0_31 := fdq_144 hD hth r0
  have kz_0_32 := fdq_139 hD hth r0
  have kz_0_39 := fdq_134 hD hth r0
  have kz_0_49 := fdq_145 hD hth r0
  first | have hz := czf_bd ‹CZF _ _ _› (by omega) | skip
  obtain ⟨x, ex, hx⟩ := iv_ex (ta := ta) (lo := (-2)) (hi := 120) (z := (-1) + (1 * v_iv (n_v vs 9) + 0)) (by omega) (by omega) (by omega) (by omega)
  have ex2 : v_iv (Value.int x) = (-1) + (1 * v_iv (n_v vs 9) + 0) := ex
  have ex3 : (-2) ≤ v_iv (Value.int x) ∧ v_iv (Value.int x) ≤ 120 := tv_rng hx
  have e_0 : n_v (vs ++ [Value.int x]) 0 = n_v vs 0 := n_v_old (by rw [hl]; decide)
  have e_1 : n_v (vs ++ [Value.int x]) 1 = n_v vs 1 := n_v_old (by rw [hl]; decide)
  have e_2 : n_v (vs ++ [Value.int x]) 2 = n_v vs 2 := n_v_old (by rw [hl]; decide)
  have e_3 : n_v (vs ++ [Value.int x]) 3 = n_v vs 3 := n_v_old (by rw [hl]; decide)
  have e_4 : n_v (vs ++ [Value.int x]) 4 = n_v vs 4 := n_v_old (by rw [hl]; decide)
  have e_10 : n_v (vs ++ [Value.int x]) 10 = Value.int x := n_v_new hl
  have nf0 : fc_1 PRD (20, [3], [60, 2, 2, 75, 31, 32, 33, 34]) ws (vs ++ [Value.int x]) := by
    refine ⟨nf_inA hl rfl, sgq_563 ?_⟩
    · show GOK (w_fi ws (n_v (vs ++ [Value.int x]) 3) 31) (w_fi ws (n_v (vs ++ [Value.int x]) 3) 32) (w_ei ws (w_ar ws (n_v (vs ++ [Value.int x]) 3) 33)) (w_ei ws (w_ar ws (n_v (vs ++ [Value.int x]) 3) 34))
      simp only [e_3, q3]
      exact vc_Mo_draws_28_0 (w_ei ws (w_ar ws (n_v vs 0) 33)) (w_ei ws (w_ar ws (n_v vs 0) 34)) (w_fi ws (n_v vs 0) 31) (w_fi ws (n_v vs 0) 32) f0 kz_0_31 kz_0_32
  have nf1 : fc_1 PRD (20, [3, 2], [60, 1, 4, 97, 32, 33, 34, 35, 17]) ws (vs ++ [Value.int x]) := by
    refine ⟨nf_inA hl rfl, sgq_1481 ?_⟩
    · show BK (w_fi ws (n_v (vs ++ [Value.int x]) 3) 32) (w_ei ws (w_ar ws (n_v (vs ++ [Value.int x]) 3) 33)) (w_ei ws (w_ar ws (n_v (vs ++ [Value.int x]) 3) 34)) (w_ei ws (w_ar ws (n_v (vs ++ [Value.int x]) 3) 35)) (w_ei ws (w_ar ws (n_v (vs ++ [Value.int x]) 3) 17)) (v_iv (n_v (vs ++ [Value.int x]) 2))
      simp only [e_2, e_3, q3]
      exact vc_Mo_draws_28_1 (v_iv (n_v vs 2)) (w_ei ws (w_ar ws (n_v vs 0) 33)) (w_ei ws (w_ar ws (n_v vs 0) 34)) (w_fi ws (n_v vs 0) 32) (w_ei ws (w_ar ws (n_v vs 0) 35)) (w_ei ws (w_ar ws (n_v vs 0) 17)) k2 f1 kz_0_32
  have nf2 : fc_1 PRD (23, [4, 2], [-1, 1, -1]) ws (vs ++ [Value.int x]) := by
    refine ⟨nf_inA hl rfl, sgq_211 ?_⟩
    · show 1 * v_iv (n_v (vs ++ [Value.int x]) 4) + ((-1) * v_iv (n_v (vs ++ [Value.int x]) 2) + 0) ≤ (-1)
      simp only [e_2, e_4, q4]
      exact vc_Mo_draws_28_2 (v_iv (n_v vs 1)) (v_iv (n_v vs 2)) k1 k2 f2
  have nf3 : fc_1 PRD (20, [3], [50, 1, 0, 49, 1, 3, 2, 0, 49, 0, -1]) ws (vs ++ [Value.int x]) := by
    refine ⟨nf_inA hl rfl, sgq_1612 ?_⟩
    · show w_fi ws (n_v (vs ++ [Value.int x]) 3) 49 = (-1)
      simp only [e_3, q3]
      exact vc_Mo_draws_28_3 (w_fi ws (n_v vs 0) 49) f3 kz_0_49
  have nf4 : fc_1 PRD (20, [3, 4], [60, 1, 6, 166, 32, 33, 34, 35, 17, 43, 42]) ws (vs ++ [Value.int x]) := by
    refine ⟨nf_inA hl rfl, sgq_1879 ?_⟩
    · show DSB (w_fi ws (n_v (vs ++ [Value.int x]) 3) 32) (w_ei ws (w_ar ws (n_v (vs ++ [Value.int x]) 3) 33)) (w_ei ws (w_ar ws (n_v (vs ++ [Value.int x]) 3) 34)) (w_ei ws (w_ar ws (n_v (vs ++ [Value.int x]) 3) 35)) (w_ei ws (w_ar ws (n_v (vs ++ [Value.int x]) 3) 17)) (w_ei ws (w_ar ws (n_v (vs ++ [Value.int x]) 3) 43)) (w_ei ws (w_ar ws (n_v (vs ++ [Value.int x]) 3) 42)) (v_iv (n_v (vs ++ [Value.int x]) 4))
      simp only [e_3, e_4, q3, q4]
      exact vc_Mo_draws_28_4 (v_iv (n_v vs 1)) (w_ei ws (w_ar ws (n_v vs 0) 33)) (w_ei ws (w_ar ws (n_v vs 0) 34)) (w_fi ws (n_v vs 0) 32) (w_ei ws (w_ar ws (n_v vs 0) 35)) (w_ei ws (w_ar ws (n_v vs 0) 17)) (w_ei ws (w_ar ws (n_v vs 0) 43)) (w_ei ws (w_ar ws (n_v vs 0) 42)) k1 f4 kz_0_32
  have nf5 : fc_1 PRD (20, [3, 4], [60, 2, 7, 167, 32, 39, 33, 34, 35, 17, 43, 40, 41]) ws (vs ++ [Value.int x]) := by
    refine ⟨nf_inA hl rfl, sgq_1880 ?_⟩
    · show FI (w_fi ws (n_v (vs ++ [Value.int x]) 3) 32) (w_fi ws (n_v (vs ++ [Value.int x]) 3) 39) (w_ei ws (w_ar ws (n_v (vs ++ [Value.int x]) 3) 33)) (w_ei ws (w_ar ws (n_v (vs ++ [Value.int x]) 3) 34)) (w_ei ws (w_ar ws (n_v (vs ++ [Value.int x]) 3) 35)) (w_ei ws (w_ar ws (n_v (vs ++ [Value.int x]) 3) 17)) (w_ei ws (w_ar ws (n_v (vs ++ [Value.int x]) 3) 43)) (w_ei ws (w_ar ws (n_v (vs ++ [Value.int x]) 3) 40)) (w_ei ws (w_ar ws (n_v (vs ++ [Value.int x]) 3) 41)) (v_iv (n_v (vs ++ [Value.int x]) 4))
      simp only [e_3, e_4, q3, q4]
      exact vc_Mo_draws_28_5 (v_iv (n_v vs 1)) (w_ei ws (w_ar ws (n_v vs 0) 33)) (w_ei ws (w_ar ws (n_v vs 0) 34)) (w_fi ws (n_v vs 0) 32) (w_ei ws (w_ar ws (n_v vs 0) 35)) (w_ei ws (w_ar ws (n_v vs 0) 17)) (w_ei ws (w_ar ws (n_v vs 0) 43)) (w_ei ws (w_ar ws (n_v vs 0) 40)) (w_ei ws (w_ar ws (n_v vs 0) 41)) (w_fi ws (n_v vs 0) 39) k1 f5 kz_0_32 kz_0_39
  have nf6 : fc_1 PRD (20, [3], [60, 2, 1, 168, 32, 39, 43]) ws (vs ++ [Value.int x]) := by
    refine ⟨nf_inA hl rfl, sgq_1881 ?_⟩
    · show CZF (w_fi ws (n_v (vs ++ [Value.int x]) 3) 32) (w_fi ws (n_v (vs ++ [Value.int x]) 3) 39) (w_ei ws (w_ar ws (n_v (vs ++ [Value.int x]) 3) 43))
      simp only [e_3, q3]
      exact vc_Mo_draws_28_6 (w_fi ws (n_v vs 0) 32) (w_ei ws (w_ar ws (n_v vs 0) 43)) (w_fi ws (n_v vs 0) 39) f6 kz_0_32 kz_0_39
  have nf7 : fc_1 PRD (20, [3, 10], [30, -120, -1, 1, 39, -1, 0, 0]) ws (vs ++ [Value.int x]) := by
    refine ⟨nf_inA hl rfl, sgq_721 ?_⟩
    · show (-1) * w_fi ws (n_v (vs ++ [Value.int x]) 3) 39 + ((-1) * v_iv (n_v (vs ++ [Value.int x]) 10) + 0) ≤ (-120)
      simp only [e_3, e_10, q3]
      exact vc_Mo_draws_28_7 (v_iv (n_v vs 9)) (w_fi ws (n_v vs 0) 39) (v_iv (Value.int x)) k9 f7 kz_0_39 ex2
  have nf8 : fc_1 PRD (24, [0, 3], []) ws (vs ++ [Value.int x]) := by
    refine ⟨nf_inA hl rfl, sgq_5 ?_⟩
    · show n_v (vs ++ [Value.int x]) 0 = n_v (vs ++ [Value.int x]) 3
      first | rfl | simp only [e_0, e_3, q3, q4]
  have nf9 : fc_1 PRD (24, [1, 4], []) ws (vs ++ [Value.int x]) := by
    refine ⟨nf_inA hl rfl, sgq_5 ?_⟩
    · show n_v (vs ++ [Value.int x]) 1 = n_v (vs ++ [Value.int x]) 4
      first | rfl | simp only [e_1, e_4, q3, q4]
  obtain ⟨x0, e0, _, _⟩ := tv_int t9 rfl
  have e1 : v_iv (n_v vs 9) = x0.toInt := by rw [e0]; rfl
  have ho : sy_ofs (vs ++ [Value.int x]) (10, 9, -1000000000000, -1) := by
    refine ⟨x, x0, by rw [List.getElem?_append_right (by rw [hl]; decide), hl]; rfl, ?_, ?_, ?_⟩
    · rw [List.getElem?_append_left (by rw [hl]; decide)]; exact n_v_some (by rw [hl]; decide) e0
    · show x0.toInt + (-1000000000000) ≤ x.toInt; omega
    · show x.toInt ≤ x0.toInt + (-1); omega
  exact ⟨(fun _ h => (by cases h)), [Value.int x], ag_one hx, List.forall_mem_cons.mpr ⟨⟨show (20 : Nat) < 100 from by decide, nf0⟩, List.forall_mem_cons.mpr ⟨⟨show (20 : Nat) < 100 from by decide, nf1⟩, List.forall_mem_cons.mpr ⟨⟨show (23 : Nat) < 100 from by decide, nf2⟩, List.forall_mem_cons.mpr ⟨⟨show (20 : Nat) < 100 from by decide, nf3⟩, List.forall_mem_cons.mpr ⟨⟨show (20 : Nat) < 100 from by decide, nf4⟩, List.forall_mem_cons.mpr ⟨⟨show (20 : Nat) < 100 from by decide, nf5⟩, List.forall_mem_cons.mpr ⟨⟨show (20 : Nat) < 100 from by decide, nf6⟩, List.forall_mem_cons.mpr ⟨⟨show (20 : Nat) < 100 from by decide, nf7⟩, List.forall_mem_cons.mpr ⟨⟨show (24 : Nat) < 100 from by decide, nf8⟩, List.forall_mem_cons.mpr ⟨⟨show (24 : Nat) < 100 from by decide, nf9⟩, (fun _ h => (by cases h))⟩⟩⟩⟩⟩⟩⟩⟩⟩⟩, List.forall_mem_cons.mpr ⟨ho, (fun _ h => (by cases h))⟩⟩
def n_Mo_draws_an : List an_T := [(12, [(0, (2, 0, 0, [165])), (1, (0, 0, 79, [])), (2, (0, (Int.negSucc 0), 79, [])), (3, (0, 0, 81, [])), (4, (0, (Int.negSucc 0), 79, []))], [], (0, 0), [(0, 0, 99988), (2, 7, (Int.negSucc 0)), (0, 0, 100000)], [(1, 4, (Int.negSucc 999999999999), 0), (4, 1, (Int.negSucc 999999999999), 0), (5, 6, (Int.negSucc 999999999999), 78)], [], [(2, 0, 0, [165]), (0, 0, 79, []), (0, 0, 80, [])], 0, [], [(20, [3], [60, 2, 2, 75, 31, 32, 33, 34]), (20, [3, 2], [60, 1, 4, 97, 32, 33, 34, 35, 17]), (23, [4, 2], [(Int.negSucc 0), 1, (Int.negSucc 0)]), (20, [3], [50, 1, 0, 49, 1, 3, 2, 0, 49, 0, (Int.negSucc 0)]), (20, [3, 4, 5, 6, 7], [60, 1, 2, 157, 32, 35, 17]), (24, [0, 3], []), (24, [1, 4], [])]), (61, [(0, (2, 0, 0, [165])), (1, (0, 0, 79, [])), (2, (0, (Int.negSucc 0), 79, [])), (3, (0, 0, 81, [])), (4, (0, 0, 25, []))], [], (0, 0), [(0, 0, 99939), (1, 7, 25), (0, 0, 100000)], [(1, 4, (Int.negSucc 999999999999), 0), (4, 1, (Int.negSucc 999999999999), 0)], [], [(2, 0, 0, [165]), (0, 0, 79, []), (0, 0, 80, [])], 0, [], [(20, [3], [60, 2, 2, 75, 31, 32, 33, 34]), (20, [3, 2], [60, 1, 4, 97, 32, 33, 34, 35, 17]), (23, [4, 2], [(Int.negSucc 0), 1, (Int.negSucc 0)]), (20, [3], [50, 1, 0, 49, 1, 3, 2, 0, 49, 0, (Int.negSucc 0)]), (20, [3], [50, 1, 0, 39, 1, 3, 2, 0, 39, 0, 0]), (20, [3, 4, 5, 6], [60, 1, 2, 158, 32, 35, 17]), (20, [3, 7], [60, 0, 1, 159, 42]), (24, [0, 3], []), (24, [1, 4], [])]), (87, [(0, (2, 0, 0, [165])), (1, (0, 0, 79, [])), (2, (0, (Int.negSucc 0), 79, [])), (3, (0, 0, 81, [])), (4, (0, 0, 80, []))], [], (0, 0), [(0, 0, 99913), (1, 7, 80), (0, 0, 100000)], [(1, 4, (Int.negSucc 999999999999), 0), (4, 1, (Int.negSucc 999999999999), 0)], [], [(2, 0, 0, [165]), (0, 0, 79, []), (0, 0, 80, [])], 0, [], [(20, [3], [60, 2, 2, 75, 31, 32, 33, 34]), (20, [3, 2], [60, 1, 4, 97, 32, 33, 34, 35, 17]), (23, [4, 2], [(Int.negSucc 0), 1, (Int.negSucc 0)]), (20, [3], [50, 1, 0, 49, 1, 3, 2, 0, 49, 0, (Int.negSucc 0)]), (20, [3], [50, 1, 0, 39, 1, 3, 2, 0, 39, 0, 0]), (20, [3, 4, 5, 6], [60, 1, 2, 158, 32, 35, 17]), (20, [3], [60, 1, 1, 160, 31, 42]), (20, [3, 4, 7], [60, 0, 3, 161, 35, 17, 43]), (24, [0, 3], []), (24, [1, 4], [])]), (201, [(0, (2, 0, 0, [165])), (1, (0, 0, 79, [])), (2, (0, 0, 79, [])), (3, (0, 0, 81, [])), (4, (0, 0, 29, []))], [], (0, 0), [(0, 0, 99799), (1, 7, 29), (0, 0, 100000)], [(1, 4, (Int.negSucc 999999999999), 0), (4, 1, (Int.negSucc 999999999999), 0)], [], [(2, 0, 0, [165]), (0, 0, 79, []), (0, 0, 80, [])], 0, [], [(20, [3], [60, 2, 2, 75, 31, 32, 33, 34]), (20, [3, 2], [60, 1, 4, 97, 32, 33, 34, 35, 17]), (23, [4, 2], [(Int.negSucc 0), 1, (Int.negSucc 0)]), (20, [3], [50, 1, 0, 49, 1, 3, 2, 0, 49, 0, (Int.negSucc 0)]), (20, [3, 4, 5, 7], [60, 3, 9, 164, 31, 32, 45, 33, 34, 35, 17, 43, 42, 46, 40, 41]), (24, [0, 3], []), (24, [1, 4], [])]), (250, [(0, (2, 0, 0, [165])), (1, (0, 0, 79, [])), (2, (0, 0, 79, [])), (3, (0, 0, 127, [])), (4, (0, 1, 30, []))], [], (0, 0), [(0, 0, 99750), (1, 7, 30), (0, 0, 100000)], [(1, 4, (Int.negSucc 999999999999), 0), (4, 1, (Int.negSucc 999999999999), 0)], [], [(2, 0, 0, [165]), (0, 0, 79, []), (0, 0, 80, [])], 0, [], [(20, [3], [60, 2, 2, 75, 31, 32, 33, 34]), (20, [3, 2], [60, 1, 4, 97, 32, 33, 34, 35, 17]), (23, [4, 2], [(Int.negSucc 0), 1, (Int.negSucc 0)]), (20, [3], [50, 1, 0, 49, 1, 3, 2, 0, 49, 0, (Int.negSucc 0)]), (20, [3, 4, 5, 7], [60, 3, 9, 165, 31, 32, 45, 33, 34, 35, 17, 43, 42, 46, 40, 41]), (24, [0, 3], []), (24, [1, 4], [])]), (296, [(0, (2, 0, 0, [165])), (1, (0, 0, 79, [])), (2, (0, 0, 79, [])), (3, (0, 0, 127, [])), (4, (0, 0, 79, []))], [], (0, 0), [(0, 0, 99704), (2, 8, (Int.negSucc 1)), (0, 0, 100000)], [(1, 4, (Int.negSucc 999999999999), 0), (4, 1, (Int.negSucc 999999999999), 0)], [], [(2, 0, 0, [165]), (0, 0, 79, []), (0, 0, 80, [])], 0, [(0, (Int.negSucc 1), 120, [])], [(20, [3], [60, 2, 2, 75, 31, 32, 33, 34]), (20, [3, 2], [60, 1, 4, 97, 32, 33, 34, 35, 17]), (23, [4, 2], [(Int.negSucc 0), 1, (Int.negSucc 0)]), (20, [3], [50, 1, 0, 49, 1, 3, 2, 0, 49, 0, (Int.negSucc 0)]), (20, [3, 4], [60, 1, 6, 166, 32, 33, 34, 35, 17, 43, 42]), (20, [3, 4], [60, 2, 7, 167, 32, 39, 33, 34, 35, 17, 43, 40, 41]), (20, [3], [60, 2, 1, 168, 32, 39, 43]), (20, [3, 8], [30, (Int.negSucc 119), (Int.negSucc 0), 1, 39, (Int.negSucc 0), 0, 0]), (24, [0, 3], []), (24, [1, 4], [])]), (348, [(0, (2, 0, 0, [165])), (1, (0, 0, 79, [])), (2, (0, 0, 79, [])), (3, (0, 0, 127, [])), (4, (0, 0, 79, [])), (5, (0, 0, 119, []))], [], (0, 0), [(0, 0, 99704), (2, 9, (Int.negSucc 1)), (0, 0, 99652)], [(1, 4, (Int.negSucc 999999999999), 0), (4, 1, (Int.negSucc 999999999999), 0)], [], [(2, 0, 0, [165]), (0, 0, 79, []), (0, 0, 80, [])], 0, [(0, (Int.negSucc 1), 120, [])], [(20, [3], [60, 2, 2, 75, 31, 32, 33, 34]), (20, [3, 2], [60, 1, 4, 97, 32, 33, 34, 35, 17]), (23, [4, 2], [(Int.negSucc 0), 1, (Int.negSucc 0)]), (20, [3], [50, 1, 0, 49, 1, 3, 2, 0, 49, 0, (Int.negSucc 0)]), (20, [3, 4], [60, 1, 6, 166, 32, 33, 34, 35, 17, 43, 42]), (20, [3, 4], [60, 2, 7, 167, 32, 39, 33, 34, 35, 17, 43, 40, 41]), (20, [3], [60, 2, 1, 168, 32, 39, 43]), (20, [3, 9], [30, (Int.negSucc 120), (Int.negSucc 0), 1, 39, (Int.negSucc 0), 0, 0]), (24, [0, 3], []), (24, [1, 4], [])])]
def t_Mo_draws_ct : ct_L := [(1, 615, e_Mo_shortest), (1, 622, e_Mo_drawWay), (1, 625, e_Mo_missing), (1, 628, e_Mo_pieces), (1, 631, e_Mo_bits), (1, 634, e_Mo_choose), (1, 637, e_Mo_firstFit), (1, 640, e_Mo_wayOf), (1, 643, e_Mo_split)]
set_option maxRecDepth 100000 in
theorem c_Mo_draws {l : Launch} {D : va_G} {kA : Nat → ClassId} (h_Mo_bits : ct_ok PRD l D kA GG y_Mo_bits z_Mo_bits e_Mo_bits) (h_Mo_choose : ct_ok PRD l D kA GG y_Mo_choose z_Mo_choose e_Mo_choose) (h_Mo_drawWay : ct_ok PRD l D kA GG y_Mo_drawWay z_Mo_drawWay e_Mo_drawWay) (h_Mo_firstFit : ct_ok PRD l D kA GG y_Mo_firstFit z_Mo_firstFit e_Mo_firstFit) (h_Mo_missing : ct_ok PRD l D kA GG y_Mo_missing z_Mo_missing e_Mo_missing) (h_Mo_pieces : ct_ok PRD l D kA GG y_Mo_pieces z_Mo_pieces e_Mo_pieces) (h_Mo_shortest : ct_ok PRD l D kA GG y_Mo_shortest z_Mo_shortest e_Mo_shortest) (h_Mo_split : ct_ok PRD l D kA GG y_Mo_split z_Mo_split e_Mo_split) (h_Mo_wayOf : ct_ok PRD l D kA GG y_Mo_wayOf z_Mo_wayOf e_Mo_wayOf) : ct_ok PRD l D kA GG y_Mo_draws z_Mo_draws e_Mo_draws := chk_all_ok (FT := [(32, 13, 17), (57, 13, 33), (60, 13, 34), (63, 13, 35), (75, 13, 40), (78, 13, 41), (81, 13, 42), (84, 13, 43), (90, 13, 46), (594, 13, 31), (597, 13, 32), (619, 13, 45)]) (PT := [(612, 13, 39, .int)]) (CT := t_Mo_draws_ct) (KT := []) (NT := []) (AN := n_Mo_draws_an) (OT := [o_Mo_draws_0, o_Mo_draws_1, o_Mo_draws_2, o_Mo_draws_3, o_Mo_draws_4, o_Mo_draws_5, o_Mo_draws_6, o_Mo_draws_7, o_Mo_draws_8, o_Mo_draws_9, o_Mo_draws_10, o_Mo_draws_11, o_Mo_draws_12, o_Mo_draws_13, o_Mo_draws_14, o_Mo_draws_15, o_Mo_draws_16, o_Mo_draws_17, o_Mo_draws_18, o_Mo_draws_19, o_Mo_draws_20, o_Mo_draws_21, o_Mo_draws_22, o_Mo_draws_23, o_Mo_draws_24, o_Mo_draws_25, o_Mo_draws_26, o_Mo_draws_27, o_Mo_draws_28]) 3 824 (List.forall_mem_cons.mpr ⟨oo_Mo_draws_0, List.forall_mem_cons.mpr ⟨oo_Mo_draws_1, List.forall_mem_cons.mpr ⟨oo_Mo_draws_2, List.forall_mem_cons.mpr ⟨oo_Mo_draws_3, List.forall_mem_cons.mpr ⟨oo_Mo_draws_4, List.forall_mem_cons.mpr ⟨oo_Mo_draws_5, List.forall_mem_cons.mpr ⟨oo_Mo_draws_6, List.forall_mem_cons.mpr ⟨oo_Mo_draws_7, List.forall_mem_cons.mpr ⟨oo_Mo_draws_8, List.forall_mem_cons.mpr ⟨oo_Mo_draws_9, List.forall_mem_cons.mpr ⟨oo_Mo_draws_10, List.forall_mem_cons.mpr ⟨oo_Mo_draws_11, List.forall_mem_cons.mpr ⟨oo_Mo_draws_12, List.forall_mem_cons.mpr ⟨oo_Mo_draws_13, List.forall_mem_cons.mpr ⟨oo_Mo_draws_14, List.forall_mem_cons.mpr ⟨oo_Mo_draws_15, List.forall_mem_cons.mpr ⟨oo_Mo_draws_16, List.forall_mem_cons.mpr ⟨oo_Mo_draws_17, List.forall_mem_cons.mpr ⟨oo_Mo_draws_18, List.forall_mem_cons.mpr ⟨oo_Mo_draws_19, List.forall_mem_cons.mpr ⟨oo_Mo_draws_20, List.forall_mem_cons.mpr ⟨oo_Mo_draws_21, List.forall_mem_cons.mpr ⟨oo_Mo_draws_22, List.forall_mem_cons.mpr ⟨oo_Mo_draws_23, List.forall_mem_cons.mpr ⟨oo_Mo_draws_24, List.forall_mem_cons.mpr ⟨oo_Mo_draws_25, List.forall_mem_cons.mpr ⟨oo_Mo_draws_26, List.forall_mem_cons.mpr ⟨oo_Mo_draws_27, List.forall_mem_cons.mpr ⟨oo_Mo_draws_28, List.forall_mem_nil _⟩⟩⟩⟩⟩⟩⟩⟩⟩⟩⟩⟩⟩⟩⟩⟩⟩⟩⟩⟩⟩⟩⟩⟩⟩⟩⟩⟩⟩) (by decide +kernel) ⟨List.forall_mem_cons.mpr ⟨gf_Mo_32, List.forall_mem_cons.mpr ⟨gf_Mo_57, List.forall_mem_cons.mpr ⟨gf_Mo_60, List.forall_mem_cons.mpr ⟨gf_Mo_63, List.forall_mem_cons.mpr ⟨gf_Mo_75, List.forall_mem_cons.mpr ⟨gf_Mo_78, List.forall_mem_cons.mpr ⟨gf_Mo_81, List.forall_mem_cons.mpr ⟨gf_Mo_84, List.forall_mem_cons.mpr ⟨gf_Mo_90, List.forall_mem_cons.mpr ⟨gf_Mo_594, List.forall_mem_cons.mpr ⟨gf_Mo_597, List.forall_mem_cons.mpr ⟨gf_Mo_619, List.forall_mem_nil _⟩⟩⟩⟩⟩⟩⟩⟩⟩⟩⟩⟩, List.forall_mem_cons.mpr ⟨pf_Mo_612, List.forall_mem_nil _⟩, List.forall_mem_cons.mpr ⟨cl_virtual (y := y_Mo_shortest) (ci := 13) rfl rfl ⟨_, _, rfl⟩ (by decide +kernel) h_Mo_shortest wm_3182 wm_9 wm_3179 wm_3181 wv_15_4 ⟨by decide, by decide, by decide +kernel⟩ (by decide), List.forall_mem_cons.mpr ⟨cl_virtual (y := y_Mo_drawWay) (ci := 13) rfl rfl ⟨_, _, rfl⟩ (by decide +kernel) h_Mo_drawWay wm_3199 wm_9 wm_3196 wm_3198 wv_15_8 ⟨by decide, by decide, by decide +kernel⟩ (by decide), List.forall_mem_cons.mpr ⟨cl_virtual (y := y_Mo_missing) (ci := 13) rfl rfl ⟨_, _, rfl⟩ (by decide +kernel) h_Mo_missing wm_3203 wm_9 wm_3200 wm_3202 wv_15_9 ⟨by decide, by decide, by decide +kernel⟩ (by decide), List.forall_mem_cons.mpr ⟨cl_virtual (y := y_Mo_pieces) (ci := 13) rfl rfl ⟨_, _, rfl⟩ (by decide +kernel) h_Mo_pieces wm_3207 wm_9 wm_3204 wm_3206 wv_15_10 ⟨by decide, by decide, by decide +kernel⟩ (by decide), List.forall_mem_cons.mpr ⟨cl_virtual (y := y_Mo_bits) (ci := 13) rfl rfl ⟨_, _, rfl⟩ (by decide +kernel) h_Mo_bits wm_3215 wm_9 wm_3212 wm_3214 wv_15_12 ⟨by decide, by decide, by decide +kernel⟩ (by decide), List.forall_mem_cons.mpr ⟨cl_virtual (y := y_Mo_choose) (ci := 13) rfl rfl ⟨_, _, rfl⟩ (by decide +kernel) h_Mo_choose wm_3219 wm_9 wm_3216 wm_3218 wv_15_13 ⟨by decide, by decide, by decide +kernel⟩ (by decide), List.forall_mem_cons.mpr ⟨cl_virtual (y := y_Mo_firstFit) (ci := 13) rfl rfl ⟨_, _, rfl⟩ (by decide +kernel) h_Mo_firstFit wm_3227 wm_9 wm_3224 wm_3226 wv_15_15 ⟨by decide, by decide, by decide +kernel⟩ (by decide), List.forall_mem_cons.mpr ⟨cl_virtual (y := y_Mo_wayOf) (ci := 13) rfl rfl ⟨_, _, rfl⟩ (by decide +kernel) h_Mo_wayOf wm_3231 wm_9 wm_3228 wm_3230 wv_16_0 ⟨by decide, by decide, by decide +kernel⟩ (by decide), List.forall_mem_cons.mpr ⟨cl_virtual (y := y_Mo_split) (ci := 13) rfl rfl ⟨_, _, rfl⟩ (by decide +kernel) h_Mo_split wm_3239 wm_9 wm_3236 wm_3238 wv_16_2 ⟨by decide, by decide, by decide +kernel⟩ (by decide), List.forall_mem_nil _⟩⟩⟩⟩⟩⟩⟩⟩⟩, List.forall_mem_nil _, List.forall_mem_nil _, GG_pl⟩ (by decide +kernel)
set_option maxHeartbeats 4000000 in
theorem vc_Mo_meets_0_0 (x1 : Int) (x2 : Int) (x3 : Int) (x4 : Int) (bendMany_0 : Int → Int) (g0_0 : Int) (k1 : 0 ≤ x1 ∧ x1 ≤ 47) (k2 : 0 ≤ x2 ∧ x2 ≤ 24) (k3 : 0 ≤ x3 ∧ x3 ≤ 47) (k4 : 0 ≤ x4 ∧ x4 ≤ 24) (f0 : x2 ≤ bendMany_0 (((48 * g0_0) + x1))) (f1 : x4 ≤ bendMany_0 (((48 * g0_0) + x3))) (hK_0_64 : ∀ j : Int, 0 ≤ j → j < 192 → 0 ≤ bendMany_0 j ∧ bendMany_0 j ≤ 24) (kz_0_139 : 0 ≤ g0_0 ∧ g0_0 ≤ 3) : x2 ≤ (bendMany_0 (((48 * g0_0) + x1)) + 1) := by
  first | assumption | (clear hK_0_64; omega) | omega | grind
def o_Mo_meets_0 : or_T := (3, 5, [(0, (2, 0, 0, [165])), (1, (0, 0, 47, [])), (2, (0, 0, 24, [])), (3, (0, 0, 47, [])), (4, (0, 0, 24, []))], [(20, [2, 0, 1], [50, 1, 1, 1139, 1064, 0, 2, 1, 0, 3, 1, 64, 4, 7, 6, 2, 0, 48, 2, 1, 139, 1, 2]), (20, [4, 0, 3], [50, 1, 1, 1139, 1064, 0, 2, 1, 0, 3, 1, 64, 4, 7, 6, 2, 0, 48, 2, 1, 139, 1, 2])], [], [], [(20, [2, 0, 1], [50, 1, 1, 1139, 1064, 0, 2, 1, 0, 4, 14, 3, 1, 64, 4, 7, 6, 2, 0, 48, 2, 1, 139, 1, 2, 0, 1])], [], [])
theorem oo_Mo_meets_0 {kA : Nat → ClassId} : or_ok PRD kA GG o_Mo_meets_0 := by
  refine or_mk fun A ta ws vs hD hth hl => ?_
  intro t0 r0 t1 k1 t2 k2 t3 k3 t4 k4 f0 f1
  have cr_0_64 := fdq_170 hD hth r0
  have hK_0_64 := elq_98 hD hth cr_0_64
  have kz_0_139 := fdq_171 hD hth r0
  have nf0 : fc_1 PRD (20, [2, 0, 1], [50, 1, 1, 1139, 1064, 0, 2, 1, 0, 4, 14, 3, 1, 64, 4, 7, 6, 2, 0, 48, 2, 1, 139, 1, 2, 0, 1]) ws (vs) := ⟨nf_in hl rfl, sgq_1385 (vc_Mo_meets_0_0 (v_iv (n_v vs 1)) (v_iv (n_v vs 2)) (v_iv (n_v vs 3)) (v_iv (n_v vs 4)) (w_ei ws (w_ar ws (n_v vs 0) 64)) (w_fi ws (n_v vs 0) 139) k1 k2 k3 k4 (shm_1882 f0) (shm_1882 f1) hK_0_64 kz_0_139)⟩
  refine ⟨(fun _ h => (by cases h)), [], trivial, ?_, (fun _ h => (by cases h))⟩
  rw [List.append_nil]
  exact List.forall_mem_cons.mpr ⟨⟨show (20 : Nat) < 100 from by decide, nf0⟩, (fun _ h => (by cases h))⟩
set_option maxHeartbeats 4000000 in
theorem vc_Mo_meets_1_0 (x1 : Int) (x2 : Int) (x3 : Int) (x4 : Int) (x5 : Int) (x6 : Int) (x7 : Int) (x8 : Int) (x9 : Int) (x10 : Int) (nodeY_0 : Int → Int) (all_0 : Int → Int) (g0_0 : Int) (r_0 : Int) (bendMany_0 : Int → Int) (bendY_0 : Int → Int) (nodeX_0 : Int → Int) (bendX_0 : Int → Int) (k1 : 0 ≤ x1 ∧ x1 ≤ 47) (k2 : 0 ≤ x2 ∧ x2 ≤ 24) (k3 : 0 ≤ x3 ∧ x3 ≤ 47) (k4 : 0 ≤ x4 ∧ x4 ≤ 24) (k5 : (-300000011) ≤ x5 ∧ x5 ≤ 300000000) (k6 : (-300000011) ≤ x6 ∧ x6 ≤ 300000000) (k7 : (-900000000) ≤ x7 ∧ x7 ≤ 900000000) (k8 : (-900000000) ≤ x8 ∧ x8 ≤ 900000000) (k9 : 1 ≤ x9 ∧ x9 ≤ 1) (k10 : 1 ≤ x10 ∧ x10 ≤ 25) (d0 : x2 + 1 ≤ x10 ∧ x10 ≤ x2 + 1) (f0 : x10 = x2 + x9) (f1 : x8 = x7) (f2 : (x2 = 0) → (x7 = nodeY_0 (((24 * g0_0) + all_0 (((r_0 + 267) + x1)))))) (f3 : (x2 = (bendMany_0 (((48 * g0_0) + x1)) + 1)) → (x7 = nodeY_0 (((24 * g0_0) + all_0 (((r_0 + 315) + x1)))))) (f4 : (x2 = 0) ∨ ((x2 = (bendMany_0 (((48 * g0_0) + x1)) + 1)) ∨ (x7 = bendY_0 (((24 * ((48 * g0_0) + x1)) + (x2 - 1)))))) (f5 : x6 = x5) (f6 : (x2 = 0) → (x5 = nodeX_0 (((24 * g0_0) + all_0 (((r_0 + 267) + x1)))))) (f7 : (x2 = (bendMany_0 (((48 * g0_0) + x1)) + 1)) → (x5 = nodeX_0 (((24 * g0_0) + all_0 (((r_0 + 315) + x1)))))) (f8 : (x2 = 0) ∨ ((x2 = (bendMany_0 (((48 * g0_0) + x1)) + 1)) ∨ (x5 = bendX_0 (((24 * ((48 * g0_0) + x1)) + (x2 - 1)))))) (f9 : x2 ≤ (bendMany_0 (((48 * g0_0) + x1)) + 1)) (f10 : x2 ≤ bendMany_0 (((48 * g0_0) + x1))) (f11 : x4 ≤ bendMany_0 (((48 * g0_0) + x3))) (hK_0_62 : ∀ j : Int, 0 ≤ j → j < 96 → (-300000000) ≤ nodeX_0 j ∧ nodeX_0 j ≤ 300000000) (hK_0_63 : ∀ j : Int, 0 ≤ j → j < 96 → (-300000000) ≤ nodeY_0 j ∧ nodeY_0 j ≤ 300000000) (hK_0_64 : ∀ j : Int, 0 ≤ j → j < 192 → 0 ≤ bendMany_0 j ∧ bendMany_0 j ≤ 24) (hK_0_65 : ∀ j : Int, 0 ≤ j → j < 4608 → (-300000011) ≤ bendX_0 j ∧ bendX_0 j ≤ 221100000) (hK_0_66 : ∀ j : Int, 0 ≤ j → j < 4608 → (-900000000) ≤ bendY_0 j ∧ bendY_0 j ≤ 900000000) (kz_0_139 : 0 ≤ g0_0 ∧ g0_0 ≤ 3) : x10 ≤ (bendMany_0 (((48 * g0_0) + x1)) + 1) := by
  first | assumption | (clear f2 f3 f4 f6 f7 f8 hK_0_62 hK_0_63 hK_0_64 hK_0_65 hK_0_66; omega) | (clear hK_0_62 hK_0_63 hK_0_64 hK_0_65 hK_0_66; grind) | omega | grind
def o_Mo_meets_1 : or_T := (23, 11, [(0, (2, 0, 0, [165])), (1, (0, 0, 47, [])), (2, (0, 0, 24, [])), (3, (0, 0, 47, [])), (4, (0, 0, 24, [])), (5, (0, -300000011, 300000000, [])), (6, (1, -300000011, 300000000, [])), (7, (0, -900000000, 900000000, [])), (8, (1, -900000000, 900000000, [])), (9, (0, 1, 1, [])), (10, (0, 1, 25, []))], [(1, [10, 2, 9], []), (22, [8, 7], []), (20, [2, 7, 0, 1], [50, 2, 2, 2139, 2005, 2063, 2002, 4, 6, 1, 2, 1, 0, 0, 0, 1, 2, 1, 1, 3, 2, 63, 4, 7, 6, 2, 0, 24, 2, 2, 139, 3, 2, 2, 4, 7, 4, 3, 2, 2, 5, 0, 267, 1, 3]), (20, [2, 0, 1, 7], [50, 2, 3, 1139, 1005, 1064, 1063, 1002, 4, 22, 1, 2, 1, 0, 4, 14, 3, 1, 64, 4, 7, 6, 2, 0, 48, 2, 1, 139, 1, 2, 0, 1, 1, 2, 1, 3, 3, 1, 63, 4, 7, 6, 2, 0, 24, 2, 1, 139, 3, 1, 2, 4, 7, 4, 3, 2, 1, 5, 0, 315, 1, 2]), (20, [2, 0, 1, 7], [50, 1, 2, 1139, 1064, 1066, 3, 6, 1, 2, 1, 0, 0, 0, 3, 22, 1, 2, 1, 0, 4, 14, 3, 1, 64, 4, 7, 6, 2, 0, 48, 2, 1, 139, 1, 2, 0, 1, 1, 2, 1, 3, 3, 1, 66, 4, 15, 6, 2, 0, 24, 4, 7, 6, 2, 0, 48, 2, 1, 139, 1, 2, 5, 2, 1, 0, 0, 1]), (22, [6, 5], []), (20, [2, 5, 0, 1], [50, 2, 2, 2139, 2005, 2062, 2002, 4, 6, 1, 2, 1, 0, 0, 0, 1, 2, 1, 1, 3, 2, 62, 4, 7, 6, 2, 0, 24, 2, 2, 139, 3, 2, 2, 4, 7, 4, 3, 2, 2, 5, 0, 267, 1, 3]), (20, [2, 0, 1, 5], [50, 2, 3, 1139, 1005, 1064, 1062, 1002, 4, 22, 1, 2, 1, 0, 4, 14, 3, 1, 64, 4, 7, 6, 2, 0, 48, 2, 1, 139, 1, 2, 0, 1, 1, 2, 1, 3, 3, 1, 62, 4, 7, 6, 2, 0, 24, 2, 1, 139, 3, 1, 2, 4, 7, 4, 3, 2, 1, 5, 0, 315, 1, 2]), (20, [2, 0, 1, 5], [50, 1, 2, 1139, 1064, 1065, 3, 6, 1, 2, 1, 0, 0, 0, 3, 22, 1, 2, 1, 0, 4, 14, 3, 1, 64, 4, 7, 6, 2, 0, 48, 2, 1, 139, 1, 2, 0, 1, 1, 2, 1, 3, 3, 1, 65, 4, 15, 6, 2, 0, 24, 4, 7, 6, 2, 0, 48, 2, 1, 139, 1, 2, 5, 2, 1, 0, 0, 1]), (20, [2, 0, 1], [50, 1, 1, 1139, 1064, 0, 2, 1, 0, 4, 14, 3, 1, 64, 4, 7, 6, 2, 0, 48, 2, 1, 139, 1, 2, 0, 1]), (20, [2, 0, 1], [50, 1, 1, 1139, 1064, 0, 2, 1, 0, 3, 1, 64, 4, 7, 6, 2, 0, 48, 2, 1, 139, 1, 2]), (20, [4, 0, 3], [50, 1, 1, 1139, 1064, 0, 2, 1, 0, 3, 1, 64, 4, 7, 6, 2, 0, 48, 2, 1, 139, 1, 2])], [], [], [(20, [10, 0, 1], [50, 1, 1, 1139, 1064, 0, 2, 1, 0, 4, 14, 3, 1, 64, 4, 7, 6, 2, 0, 48, 2, 1, 139, 1, 2, 0, 1])], [], [(10, 2, 1, 1)])
theorem oo_Mo_meets_1 {kA : Nat → ClassId} : or_ok PRD kA GG o_Mo_meets_1 := by
  refine or_mk fun A ta ws vs hD hth hl => ?_
  intro t0 r0 t1 k1 t2 k2 t3 k3 t4 k4 t5 k5 t6 k6 t7 k7 t8 k8 t9 k9 t10 k10 d0 f0 f1 f2 f3 f4 f5 f6 f7 f8 f9 f10 f11
  have cr_0_62 := fdq_172 hD hth r0
  have cr_0_63 := fdq_173 hD hth r0
  have cr_0_64 := fdq_170 hD hth r0
  have cr_0_65 := fdq_286 hD hth r0
  have cr_0_66 := fdq_287 hD hth r0
  have hK_0_62 := elq_99 hD hth cr_0_62
  have hK_0_63 := elq_100 hD hth cr_0_63
  have hK_0_64 := elq_98 hD hth cr_0_64
  have hK_0_65 := elq_182 hD hth cr_0_65
  have hK_0_66 := elq_183 hD hth cr_0_66
  have kz_0_139 := fdq_171 hD hth r0
  have nf0 : fc_1 PRD (20, [10, 0, 1], [50, 1, 1, 1139, 1064, 0, 2, 1, 0, 4, 14, 3, 1, 64, 4, 7, 6, 2, 0, 48, 2, 1, 139, 1, 2, 0, 1]) ws (vs) := ⟨nf_in hl rfl, sgq_1385 (vc_Mo_meets_1_0 (v_iv (n_v vs 1)) (v_iv (n_v vs 2)) (v_iv (n_v vs 3)) (v_iv (n_v vs 4)) (v_iv (n_v vs 5)) (v_iv (n_v vs 6)) (v_iv (n_v vs 7)) (v_iv (n_v vs 8)) (v_iv (n_v vs 9)) (v_iv (n_v vs 10)) (w_ei ws (w_ar ws (n_v vs 0) 63)) (w_ei ws (w_ar ws (n_v vs 0) 2)) (w_fi ws (n_v vs 0) 139) (w_fi ws (n_v vs 0) 5) (w_ei ws (w_ar ws (n_v vs 0) 64)) (w_ei ws (w_ar ws (n_v vs 0) 66)) (w_ei ws (w_ar ws (n_v vs 0) 62)) (w_ei ws (w_ar ws (n_v vs 0) 65)) k1 k2 k3 k4 k5 k6 k7 k8 k9 k10 d0 (shm_12 f0) (shm_47 f1) (shm_1391 f2) (shm_1392 f3) (shm_1393 f4) (shm_47 f5) (shm_1387 f6) (shm_1388 f7) (shm_1389 f8) (shm_1385 f9) (shm_1882 f10) (shm_1882 f11) hK_0_62 hK_0_63 hK_0_64 hK_0_65 hK_0_66 kz_0_139)⟩
  refine ⟨(fun _ h => (by cases h)), [], trivial, ?_, (fun _ h => (by cases h))⟩
  rw [List.append_nil]
  exact List.forall_mem_cons.mpr ⟨⟨show (20 : Nat) < 100 from by decide, nf0⟩, (fun _ h => (by cases h))⟩
set_option maxHeartbeats 4000000 in
theorem vc_Mo_meets_2_0 (x1 : Int) (x2 : Int) (x3 : Int) (x4 : Int) (x5 : Int) (x6 : Int) (x7 : Int) (x8 : Int) (x9 : Int) (x10 : Int) (x11 : Int) (x12 : Int) (x13 : Int) (x14 : Int) (nodeX_0 : Int → Int) (all_0 : Int → Int) (g0_0 : Int) (r_0 : Int) (bendMany_0 : Int → Int) (bendX_0 : Int → Int) (nodeY_0 : Int → Int) (bendY_0 : Int → Int) (k1 : 0 ≤ x1 ∧ x1 ≤ 47) (k2 : 0 ≤ x2 ∧ x2 ≤ 24) (k3 : 0 ≤ x3 ∧ x3 ≤ 47) (k4 : 0 ≤ x4 ∧ x4 ≤ 24) (k5 : (-300000011) ≤ x5 ∧ x5 ≤ 300000000) (k6 : (-300000011) ≤ x6 ∧ x6 ≤ 300000000) (k7 : (-900000000) ≤ x7 ∧ x7 ≤ 900000000) (k8 : (-900000000) ≤ x8 ∧ x8 ≤ 900000000) (k9 : 1 ≤ x9 ∧ x9 ≤ 1) (k10 : 1 ≤ x10 ∧ x10 ≤ 25) (k11 : (-300000011) ≤ x11 ∧ x11 ≤ 300000000) (k12 : (-300000011) ≤ x12 ∧ x12 ≤ 300000000) (k13 : 1 ≤ x13 ∧ x13 ≤ 1) (k14 : 1 ≤ x14 ∧ x14 ≤ 25) (d0 : x2 + 1 ≤ x14 ∧ x14 ≤ x2 + 1) (d1 : x2 + 1 ≤ x10 ∧ x10 ≤ x2 + 1) (f0 : x14 = x2 + x13) (f1 : x12 = x11) (f2 : (x10 = 0) → (x11 = nodeX_0 (((24 * g0_0) + all_0 (((r_0 + 267) + x1)))))) (f3 : (x10 = (bendMany_0 (((48 * g0_0) + x1)) + 1)) → (x11 = nodeX_0 (((24 * g0_0) + all_0 (((r_0 + 315) + x1)))))) (f4 : (x10 = 0) ∨ ((x10 = (bendMany_0 (((48 * g0_0) + x1)) + 1)) ∨ (x11 = bendX_0 (((24 * ((48 * g0_0) + x1)) + (x10 - 1)))))) (f5 : x10 ≤ (bendMany_0 (((48 * g0_0) + x1)) + 1)) (f6 : x10 = x2 + x9) (f7 : x8 = x7) (f8 : (x2 = 0) → (x7 = nodeY_0 (((24 * g0_0) + all_0 (((r_0 + 267) + x1)))))) (f9 : (x2 = (bendMany_0 (((48 * g0_0) + x1)) + 1)) → (x7 = nodeY_0 (((24 * g0_0) + all_0 (((r_0 + 315) + x1)))))) (f10 : (x2 = 0) ∨ ((x2 = (bendMany_0 (((48 * g0_0) + x1)) + 1)) ∨ (x7 = bendY_0 (((24 * ((48 * g0_0) + x1)) + (x2 - 1)))))) (f11 : x6 = x5) (f12 : (x2 = 0) → (x5 = nodeX_0 (((24 * g0_0) + all_0 (((r_0 + 267) + x1)))))) (f13 : (x2 = (bendMany_0 (((48 * g0_0) + x1)) + 1)) → (x5 = nodeX_0 (((24 * g0_0) + all_0 (((r_0 + 315) + x1)))))) (f14 : (x2 = 0) ∨ ((x2 = (bendMany_0 (((48 * g0_0) + x1)) + 1)) ∨ (x5 = bendX_0 (((24 * ((48 * g0_0) + x1)) + (x2 - 1)))))) (f15 : x2 ≤ (bendMany_0 (((48 * g0_0) + x1)) + 1)) (f16 : x2 ≤ bendMany_0 (((48 * g0_0) + x1))) (f17 : x4 ≤ bendMany_0 (((48 * g0_0) + x3))) (hK_0_62 : ∀ j : Int, 0 ≤ j → j < 96 → (-300000000) ≤ nodeX_0 j ∧ nodeX_0 j ≤ 300000000) (hK_0_63 : ∀ j : Int, 0 ≤ j → j < 96 → (-300000000) ≤ nodeY_0 j ∧ nodeY_0 j ≤ 300000000) (hK_0_64 : ∀ j : Int, 0 ≤ j → j < 192 → 0 ≤ bendMany_0 j ∧ bendMany_0 j ≤ 24) (hK_0_65 : ∀ j : Int, 0 ≤ j → j < 4608 → (-300000011) ≤ bendX_0 j ∧ bendX_0 j ≤ 221100000) (hK_0_66 : ∀ j : Int, 0 ≤ j → j < 4608 → (-900000000) ≤ bendY_0 j ∧ bendY_0 j ≤ 900000000) (kz_0_139 : 0 ≤ g0_0 ∧ g0_0 ≤ 3) : x14 ≤ (bendMany_0 (((48 * g0_0) + x1)) + 1) := by
  first | assumption | (clear f2 f3 f4 f8 f9 f10 f12 f13 f14 hK_0_62 hK_0_63 hK_0_64 hK_0_65 hK_0_66; omega) | (clear hK_0_62 hK_0_63 hK_0_64 hK_0_65 hK_0_66; grind) | omega | grind
def o_Mo_meets_2 : or_T := (34, 15, [(0, (2, 0, 0, [165])), (1, (0, 0, 47, [])), (2, (0, 0, 24, [])), (3, (0, 0, 47, [])), (4, (0, 0, 24, [])), (5, (0, -300000011, 300000000, [])), (6, (1, -300000011, 300000000, [])), (7, (0, -900000000, 900000000, [])), (8, (1, -900000000, 900000000, [])), (9, (0, 1, 1, [])), (10, (0, 1, 25, [])), (11, (0, -300000011, 300000000, [])), (12, (1, -300000011, 300000000, [])), (13, (0, 1, 1, [])), (14, (0, 1, 25, []))], [(1, [14, 2, 13], []), (22, [12, 11], []), (20, [10, 11, 0, 1], [50, 2, 2, 2139, 2005, 2062, 2002, 4, 6, 1, 2, 1, 0, 0, 0, 1, 2, 1, 1, 3, 2, 62, 4, 7, 6, 2, 0, 24, 2, 2, 139, 3, 2, 2, 4, 7, 4, 3, 2, 2, 5, 0, 267, 1, 3]), (20, [10, 0, 1, 11], [50, 2, 3, 1139, 1005, 1064, 1062, 1002, 4, 22, 1, 2, 1, 0, 4, 14, 3, 1, 64, 4, 7, 6, 2, 0, 48, 2, 1, 139, 1, 2, 0, 1, 1, 2, 1, 3, 3, 1, 62, 4, 7, 6, 2, 0, 24, 2, 1, 139, 3, 1, 2, 4, 7, 4, 3, 2, 1, 5, 0, 315, 1, 2]), (20, [10, 0, 1, 11], [50, 1, 2, 1139, 1064, 1065, 3, 6, 1, 2, 1, 0, 0, 0, 3, 22, 1, 2, 1, 0, 4, 14, 3, 1, 64, 4, 7, 6, 2, 0, 48, 2, 1, 139, 1, 2, 0, 1, 1, 2, 1, 3, 3, 1, 65, 4, 15, 6, 2, 0, 24, 4, 7, 6, 2, 0, 48, 2, 1, 139, 1, 2, 5, 2, 1, 0, 0, 1]), (20, [10, 0, 1], [50, 1, 1, 1139, 1064, 0, 2, 1, 0, 4, 14, 3, 1, 64, 4, 7, 6, 2, 0, 48, 2, 1, 139, 1, 2, 0, 1]), (1, [10, 2, 9], []), (22, [8, 7], []), (20, [2, 7, 0, 1], [50, 2, 2, 2139, 2005, 2063, 2002, 4, 6, 1, 2, 1, 0, 0, 0, 1, 2, 1, 1, 3, 2, 63, 4, 7, 6, 2, 0, 24, 2, 2, 139, 3, 2, 2, 4, 7, 4, 3, 2, 2, 5, 0, 267, 1, 3]), (20, [2, 0, 1, 7], [50, 2, 3, 1139, 1005, 1064, 1063, 1002, 4, 22, 1, 2, 1, 0, 4, 14, 3, 1, 64, 4, 7, 6, 2, 0, 48, 2, 1, 139, 1, 2, 0, 1, 1, 2, 1, 3, 3, 1, 63, 4, 7, 6, 2, 0, 24, 2, 1, 139, 3, 1, 2, 4, 7, 4, 3, 2, 1, 5, 0, 315, 1, 2]), (20, [2, 0, 1, 7], [50, 1, 2, 1139, 1064, 1066, 3, 6, 1, 2, 1, 0, 0, 0, 3, 22, 1, 2, 1, 0, 4, 14, 3, 1, 64, 4, 7, 6, 2, 0, 48, 2, 1, 139, 1, 2, 0, 1, 1, 2, 1, 3, 3, 1, 66, 4, 15, 6, 2, 0, 24, 4, 7, 6, 2, 0, 48, 2, 1, 139, 1, 2, 5, 2, 1, 0, 0, 1]), (22, [6, 5], []), (20, [2, 5, 0, 1], [50, 2, 2, 2139, 2005, 2062, 2002, 4, 6, 1, 2, 1, 0, 0, 0, 1, 2, 1, 1, 3, 2, 62, 4, 7, 6, 2, 0, 24, 2, 2, 139, 3, 2, 2, 4, 7, 4, 3, 2, 2, 5, 0, 267, 1, 3]), (20, [2, 0, 1, 5], [50, 2, 3, 1139, 1005, 1064, 1062, 1002, 4, 22, 1, 2, 1, 0, 4, 14, 3, 1, 64, 4, 7, 6, 2, 0, 48, 2, 1, 139, 1, 2, 0, 1, 1, 2, 1, 3, 3, 1, 62, 4, 7, 6, 2, 0, 24, 2, 1, 139, 3, 1, 2, 4, 7, 4, 3, 2, 1, 5, 0, 315, 1, 2]), (20, [2, 0, 1, 5], [50, 1, 2, 1139, 1064, 1065, 3, 6, 1, 2, 1, 0, 0, 0, 3, 22, 1, 2, 1, 0, 4, 14, 3, 1, 64, 4, 7, 6, 2, 0, 48, 2, 1, 139, 1, 2, 0, 1, 1, 2, 1, 3, 3, 1, 65, 4, 15, 6, 2, 0, 24, 4, 7, 6, 2, 0, 48, 2, 1, 139, 1, 2, 5, 2, 1, 0, 0, 1]), (20, [2, 0, 1], [50, 1, 1, 1139, 1064, 0, 2, 1, 0, 4, 14, 3, 1, 64, 4, 7, 6, 2, 0, 48, 2, 1, 139, 1, 2, 0, 1]), (20, [2, 0, 1], [50, 1, 1, 1139, 1064, 0, 2, 1, 0, 3, 1, 64, 4, 7, 6, 2, 0, 48, 2, 1, 139, 1, 2]), (20, [4, 0, 3], [50, 1, 1, 1139, 1064, 0, 2, 1, 0, 3, 1, 64, 4, 7, 6, 2, 0, 48, 2, 1, 139, 1, 2])], [], [], [(20, [14, 0, 1], [50, 1, 1, 1139, 1064, 0, 2, 1, 0, 4, 14, 3, 1, 64, 4, 7, 6, 2, 0, 48, 2, 1, 139, 1, 2, 0, 1])], [], [(14, 2, 1, 1), (10, 2, 1, 1)])
theorem oo_Mo_meets_2 {kA : Nat → ClassId} : or_ok PRD kA GG o_Mo_meets_2 := by
  refine or_mk fun A ta ws vs hD hth hl => ?_
  intro t0 r0 t1 k1 t2 k2 t3 k3 t4 k4 t5 k5 t6 k6 t7 k7 t8 k8 t9 k9 t10 k10 t11 k11 t12 k12 t13 k13 t14 k14 d0 d1 f0 f1 f2 f3 f4 f5 f6 f7 f8 f9 f10 f11 f12 f13 f14 f15 f16 f17
  have cr_0_62 := fdq_172 hD hth r0
  have cr_0_63 := fdq_173 hD hth r0
  have cr_0_64 := fdq_170 hD hth r0
  have cr_0_65 := fdq_286 hD hth r0
  have cr_0_66 := fdq_287 hD hth r0
  have hK_0_62 := elq_99 hD hth cr_0_62
  have hK_0_63 := elq_100 hD hth cr_0_63
  have hK_0_64 := elq_98 hD hth cr_0_64
  have hK_0_65 := elq_182 hD hth cr_0_65
  have hK_0_66 := elq_183 hD hth cr_0_66
  have kz_0_139 := fdq_171 hD hth r0
  have nf0 : fc_1 PRD (20, [14, 0, 1], [50, 1, 1, 1139, 1064, 0, 2, 1, 0, 4, 14, 3, 1, 64, 4, 7, 6, 2, 0, 48, 2, 1, 139, 1, 2, 0, 1]) ws (vs) := ⟨nf_in hl rfl, sgq_1385 (vc_Mo_meets_2_0 (v_iv (n_v vs 1)) (v_iv (n_v vs 2)) (v_iv (n_v vs 3)) (v_iv (n_v vs 4)) (v_iv (n_v vs 5)) (v_iv (n_v vs 6)) (v_iv (n_v vs 7)) (v_iv (n_v vs 8)) (v_iv (n_v vs 9)) (v_iv (n_v vs 10)) (v_iv (n_v vs 11)) (v_iv (n_v vs 12)) (v_iv (n_v vs 13)) (v_iv (n_v vs 14)) (w_ei ws (w_ar ws (n_v vs 0) 62)) (w_ei ws (w_ar ws (n_v vs 0) 2)) (w_fi ws (n_v vs 0) 139) (w_fi ws (n_v vs 0) 5) (w_ei ws (w_ar ws (n_v vs 0) 64)) (w_ei ws (w_ar ws (n_v vs 0) 65)) (w_ei ws (w_ar ws (n_v vs 0) 63)) (w_ei ws (w_ar ws (n_v vs 0) 66)) k1 k2 k3 k4 k5 k6 k7 k8 k9 k10 k11 k12 k13 k14 d0 d1 (shm_12 f0) (shm_47 f1) (shm_1387 f2) (shm_1388 f3) (shm_1389 f4) (shm_1385 f5) (shm_12 f6) (shm_47 f7) (shm_1391 f8) (shm_1392 f9) (shm_1393 f10) (shm_47 f11) (shm_1387 f12) (shm_1388 f13) (shm_1389 f14) (shm_1385 f15) (shm_1882 f16) (shm_1882 f17) hK_0_62 hK_0_63 hK_0_64 hK_0_65 hK_0_66 kz_0_139)⟩
  refine ⟨(fun _ h => (by cases h)), [], trivial, ?_, (fun _ h => (by cases h))⟩
  rw [List.append_nil]
  exact List.forall_mem_cons.mpr ⟨⟨show (20 : Nat) < 100 from by decide, nf0⟩, (fun _ h => (by cases h))⟩
set_option maxHeartbeats 4000000 in
theorem vc_Mo_meets_3_0 (x1 : Int) (x2 : Int) (x3 : Int) (x4 : Int) (x5 : Int) (x6 : Int) (x7 : Int) (x8 : Int) (x9 : Int) (x10 : Int) (x11 : Int) (x12 : Int) (x13 : Int) (x14 : Int) (x15 : Int) (x16 : Int) (nodeY_0 : Int → Int) (all_0 : Int → Int) (g0_0 : Int) (r_0 : Int) (bendMany_0 : Int → Int) (bendY_0 : Int → Int) (nodeX_0 : Int → Int) (bendX_0 : Int → Int) (k1 : 0 ≤ x1 ∧ x1 ≤ 47) (k2 : 0 ≤ x2 ∧ x2 ≤ 24) (k3 : 0 ≤ x3 ∧ x3 ≤ 47) (k4 : 0 ≤ x4 ∧ x4 ≤ 24) (k5 : (-300000011) ≤ x5 ∧ x5 ≤ 300000000) (k6 : (-300000011) ≤ x6 ∧ x6 ≤ 300000000) (k7 : (-900000000) ≤ x7 ∧ x7 ≤ 900000000) (k8 : (-900000000) ≤ x8 ∧ x8 ≤ 900000000) (k9 : 1 ≤ x9 ∧ x9 ≤ 1) (k10 : 1 ≤ x10 ∧ x10 ≤ 25) (k11 : (-300000011) ≤ x11 ∧ x11 ≤ 300000000) (k12 : (-300000011) ≤ x12 ∧ x12 ≤ 300000000) (k13 : 1 ≤ x13 ∧ x13 ≤ 1) (k14 : 1 ≤ x14 ∧ x14 ≤ 25) (k15 : (-900000000) ≤ x15 ∧ x15 ≤ 900000000) (k16 : (-900000000) ≤ x16 ∧ x16 ≤ 900000000) (d0 : x2 + 1 ≤ x14 ∧ x14 ≤ x2 + 1) (d1 : x2 + 1 ≤ x10 ∧ x10 ≤ x2 + 1) (f0 : x16 = x15) (f1 : (x14 = 0) → (x15 = nodeY_0 (((24 * g0_0) + all_0 (((r_0 + 267) + x1)))))) (f2 : (x14 = (bendMany_0 (((48 * g0_0) + x1)) + 1)) → (x15 = nodeY_0 (((24 * g0_0) + all_0 (((r_0 + 315) + x1)))))) (f3 : (x14 = 0) ∨ ((x14 = (bendMany_0 (((48 * g0_0) + x1)) + 1)) ∨ (x15 = bendY_0 (((24 * ((48 * g0_0) + x1)) + (x14 - 1)))))) (f4 : x14 ≤ (bendMany_0 (((48 * g0_0) + x1)) + 1)) (f5 : x14 = x2 + x13) (f6 : x12 = x11) (f7 : (x10 = 0) → (x11 = nodeX_0 (((24 * g0_0) + all_0 (((r_0 + 267) + x1)))))) (f8 : (x10 = (bendMany_0 (((48 * g0_0) + x1)) + 1)) → (x11 = nodeX_0 (((24 * g0_0) + all_0 (((r_0 + 315) + x1)))))) (f9 : (x10 = 0) ∨ ((x10 = (bendMany_0 (((48 * g0_0) + x1)) + 1)) ∨ (x11 = bendX_0 (((24 * ((48 * g0_0) + x1)) + (x10 - 1)))))) (f10 : x10 ≤ (bendMany_0 (((48 * g0_0) + x1)) + 1)) (f11 : x10 = x2 + x9) (f12 : x8 = x7) (f13 : (x2 = 0) → (x7 = nodeY_0 (((24 * g0_0) + all_0 (((r_0 + 267) + x1)))))) (f14 : (x2 = (bendMany_0 (((48 * g0_0) + x1)) + 1)) → (x7 = nodeY_0 (((24 * g0_0) + all_0 (((r_0 + 315) + x1)))))) (f15 : (x2 = 0) ∨ ((x2 = (bendMany_0 (((48 * g0_0) + x1)) + 1)) ∨ (x7 = bendY_0 (((24 * ((48 * g0_0) + x1)) + (x2 - 1)))))) (f16 : x6 = x5) (f17 : (x2 = 0) → (x5 = nodeX_0 (((24 * g0_0) + all_0 (((r_0 + 267) + x1)))))) (f18 : (x2 = (bendMany_0 (((48 * g0_0) + x1)) + 1)) → (x5 = nodeX_0 (((24 * g0_0) + all_0 (((r_0 + 315) + x1)))))) (f19 : (x2 = 0) ∨ ((x2 = (bendMany_0 (((48 * g0_0) + x1)) + 1)) ∨ (x5 = bendX_0 (((24 * ((48 * g0_0) + x1)) + (x2 - 1)))))) (f20 : x2 ≤ (bendMany_0 (((48 * g0_0) + x1)) + 1)) (f21 : x2 ≤ bendMany_0 (((48 * g0_0) + x1))) (f22 : x4 ≤ bendMany_0 (((48 * g0_0) + x3))) (hK_0_62 : ∀ j : Int, 0 ≤ j → j < 96 → (-300000000) ≤ nodeX_0 j ∧ nodeX_0 j ≤ 300000000) (hK_0_63 : ∀ j : Int, 0 ≤ j → j < 96 → (-300000000) ≤ nodeY_0 j ∧ nodeY_0 j ≤ 300000000) (hK_0_64 : ∀ j : Int, 0 ≤ j → j < 192 → 0 ≤ bendMany_0 j ∧ bendMany_0 j ≤ 24) (hK_0_65 : ∀ j : Int, 0 ≤ j → j < 4608 → (-300000011) ≤ bendX_0 j ∧ bendX_0 j ≤ 221100000) (hK_0_66 : ∀ j : Int, 0 ≤ j → j < 4608 → (-900000000) ≤ bendY_0 j ∧ bendY_0 j ≤ 900000000) (kz_0_139 : 0 ≤ g0_0 ∧ g0_0 ≤ 3) : x4 ≤ (bendMany_0 (((48 * g0_0) + x3)) + 1) := by
  first | assumption | (clear f1 f2 f3 f7 f8 f9 f13 f14 f15 f17 f18 f19 hK_0_62 hK_0_63 hK_0_64 hK_0_65 hK_0_66; omega) | (clear hK_0_62 hK_0_63 hK_0_64 hK_0_65 hK_0_66; grind) | omega | grind
def o_Mo_meets_3 : or_T := (44, 17, [(0, (2, 0, 0, [165])), (1, (0, 0, 47, [])), (2, (0, 0, 24, [])), (3, (0, 0, 47, [])), (4, (0, 0, 24, [])), (5, (0, -300000011, 300000000, [])), (6, (1, -300000011, 300000000, [])), (7, (0, -900000000, 900000000, [])), (8, (1, -900000000, 900000000, [])), (9, (0, 1, 1, [])), (10, (0, 1, 25, [])), (11, (0, -300000011, 300000000, [])), (12, (1, -300000011, 300000000, [])), (13, (0, 1, 1, [])), (14, (0, 1, 25, [])), (15, (0, -900000000, 900000000, [])), (16, (1, -900000000, 900000000, []))], [(22, [16, 15], []), (20, [14, 15, 0, 1], [50, 2, 2, 2139, 2005, 2063, 2002, 4, 6, 1, 2, 1, 0, 0, 0, 1, 2, 1, 1, 3, 2, 63, 4, 7, 6, 2, 0, 24, 2, 2, 139, 3, 2, 2, 4, 7, 4, 3, 2, 2, 5, 0, 267, 1, 3]), (20, [14, 0, 1, 15], [50, 2, 3, 1139, 1005, 1064, 1063, 1002, 4, 22, 1, 2, 1, 0, 4, 14, 3, 1, 64, 4, 7, 6, 2, 0, 48, 2, 1, 139, 1, 2, 0, 1, 1, 2, 1, 3, 3, 1, 63, 4, 7, 6, 2, 0, 24, 2, 1, 139, 3, 1, 2, 4, 7, 4, 3, 2, 1, 5, 0, 315, 1, 2]), (20, [14, 0, 1, 15], [50, 1, 2, 1139, 1064, 1066, 3, 6, 1, 2, 1, 0, 0, 0, 3, 22, 1, 2, 1, 0, 4, 14, 3, 1, 64, 4, 7, 6, 2, 0, 48, 2, 1, 139, 1, 2, 0, 1, 1, 2, 1, 3, 3, 1, 66, 4, 15, 6, 2, 0, 24, 4, 7, 6, 2, 0, 48, 2, 1, 139, 1, 2, 5, 2, 1, 0, 0, 1]), (20, [14, 0, 1], [50, 1, 1, 1139, 1064, 0, 2, 1, 0, 4, 14, 3, 1, 64, 4, 7, 6, 2, 0, 48, 2, 1, 139, 1, 2, 0, 1]), (1, [14, 2, 13], []), (22, [12, 11], []), (20, [10, 11, 0, 1], [50, 2, 2, 2139, 2005, 2062, 2002, 4, 6, 1, 2, 1, 0, 0, 0, 1, 2, 1, 1, 3, 2, 62, 4, 7, 6, 2, 0, 24, 2, 2, 139, 3, 2, 2, 4, 7, 4, 3, 2, 2, 5, 0, 267, 1, 3]), (20, [10, 0, 1, 11], [50, 2, 3, 1139, 1005, 1064, 1062, 1002, 4, 22, 1, 2, 1, 0, 4, 14, 3, 1, 64, 4, 7, 6, 2, 0, 48, 2, 1, 139, 1, 2, 0, 1, 1, 2, 1, 3, 3, 1, 62, 4, 7, 6, 2, 0, 24, 2, 1, 139, 3, 1, 2, 4, 7, 4, 3, 2, 1, 5, 0, 315, 1, 2]), (20, [10, 0, 1, 11], [50, 1, 2, 1139, 1064, 1065, 3, 6, 1, 2, 1, 0, 0, 0, 3, 22, 1, 2, 1, 0, 4, 14, 3, 1, 64, 4, 7, 6, 2, 0, 48, 2, 1, 139, 1, 2, 0, 1, 1, 2, 1, 3, 3, 1, 65, 4, 15, 6, 2, 0, 24, 4, 7, 6, 2, 0, 48, 2, 1, 139, 1, 2, 5, 2, 1, 0, 0, 1]), (20, [10, 0, 1], [50, 1, 1, 1139, 1064, 0, 2, 1, 0, 4, 14, 3, 1, 64, 4, 7, 6, 2, 0, 48, 2, 1, 139, 1, 2, 0, 1]), (1, [10, 2, 9], []), (22, [8, 7], []), (20, [2, 7, 0, 1], [50, 2, 2, 2139, 2005, 2063, 2002, 4, 6, 1, 2, 1, 0, 0, 0, 1, 2, 1, 1, 3, 2, 63, 4, 7, 6, 2, 0, 24, 2, 2, 139, 3, 2, 2, 4, 7, 4, 3, 2, 2, 5, 0, 267, 1, 3]), (20, [2, 0, 1, 7], [50, 2, 3, 1139, 1005, 1064, 1063, 1002, 4, 22, 1, 2, 1, 0, 4, 14, 3, 1, 64, 4, 7, 6, 2, 0, 48, 2, 1, 139, 1, 2, 0, 1, 1, 2, 1, 3, 3, 1, 63, 4, 7, 6, 2, 0, 24, 2, 1, 139, 3, 1, 2, 4, 7, 4, 3, 2, 1, 5, 0, 315, 1, 2]), (20, [2, 0, 1, 7], [50, 1, 2, 1139, 1064, 1066, 3, 6, 1, 2, 1, 0, 0, 0, 3, 22, 1, 2, 1, 0, 4, 14, 3, 1, 64, 4, 7, 6, 2, 0, 48, 2, 1, 139, 1, 2, 0, 1, 1, 2, 1, 3, 3, 1, 66, 4, 15, 6, 2, 0, 24, 4, 7, 6, 2, 0, 48, 2, 1, 139, 1, 2, 5, 2, 1, 0, 0, 1]), (22, [6, 5], []), (20, [2, 5, 0, 1], [50, 2, 2, 2139, 2005, 2062, 2002, 4, 6, 1, 2, 1, 0, 0, 0, 1, 2, 1, 1, 3, 2, 62, 4, 7, 6, 2, 0, 24, 2, 2, 139, 3, 2, 2, 4, 7, 4, 3, 2, 2, 5, 0, 267, 1, 3]), (20, [2, 0, 1, 5], [50, 2, 3, 1139, 1005, 1064, 1062, 1002, 4, 22, 1, 2, 1, 0, 4, 14, 3, 1, 64, 4, 7, 6, 2, 0, 48, 2, 1, 139, 1, 2, 0, 1, 1, 2, 1, 3, 3, 1, 62, 4, 7, 6, 2, 0, 24, 2, 1, 139, 3, 1, 2, 4, 7, 4, 3, 2, 1, 5, 0, 315, 1, 2]), (20, [2, 0, 1, 5], [50, 1, 2, 1139, 1064, 1065, 3, 6, 1, 2, 1, 0, 0, 0, 3, 22, 1, 2, 1, 0, 4, 14, 3, 1, 64, 4, 7, 6, 2, 0, 48, 2, 1, 139, 1, 2, 0, 1, 1, 2, 1, 3, 3, 1, 65, 4, 15, 6, 2, 0, 24, 4, 7, 6, 2, 0, 48, 2, 1, 139, 1, 2, 5, 2, 1, 0, 0, 1]), (20, [2, 0, 1], [50, 1, 1, 1139, 1064, 0, 2, 1, 0, 4, 14, 3, 1, 64, 4, 7, 6, 2, 0, 48, 2, 1, 139, 1, 2, 0, 1]), (20, [2, 0, 1], [50, 1, 1, 1139, 1064, 0, 2, 1, 0, 3, 1, 64, 4, 7, 6, 2, 0, 48, 2, 1, 139, 1, 2]), (20, [4, 0, 3], [50, 1, 1, 1139, 1064, 0, 2, 1, 0, 3, 1, 64, 4, 7, 6, 2, 0, 48, 2, 1, 139, 1, 2])], [], [], [(20, [4, 0, 3], [50, 1, 1, 1139, 1064, 0, 2, 1, 0, 4, 14, 3, 1, 64, 4, 7, 6, 2, 0, 48, 2, 1, 139, 1, 2, 0, 1])], [], [(14, 2, 1, 1), (10, 2, 1, 1)])
theorem oo_Mo_meets_3 {kA : Nat → ClassId} : or_ok PRD kA GG o_Mo_meets_3 := by
  refine or_mk fun A ta ws vs hD hth hl => ?_
  intro t0 r0 t1 k1 t2 k2 t3 k3 t4 k4 t5 k5 t6 k6 t7 k7 t8 k8 t9 k9 t10 k10 t11 k11 t12 k12 t13 k13 t14 k14 t15 k15 t16 k16 d0 d1 f0 f1 f2 f3 f4 f5 f6 f7 f8 f9 f10 f11 f12 f13 f14 f15 f16 f17 f18 f19 f20 f21 f22
  have cr_0_62 := fdq_172 hD hth r0
  have cr_0_63 := fdq_173 hD hth r0
  have cr_0_64 := fdq_170 hD hth r0
  have cr_0_65 := fdq_286 hD hth r0
  have cr_0_66 := fdq_287 hD hth r0
  have hK_0_62 := elq_99 hD hth cr_0_62
  have hK_0_63 := elq_100 hD hth cr_0_63
  have hK_0_64 := elq_98 hD hth cr_0_64
  have hK_0_65 := elq_182 hD hth cr_0_65
  have hK_0_66 := elq_183 hD hth cr_0_66
  have kz_0_139 := fdq_171 hD hth r0
  have nf0 : fc_1 PRD (20, [4, 0, 3], [50, 1, 1, 1139, 1064, 0, 2, 1, 0, 4, 14, 3, 1, 64, 4, 7, 6, 2, 0, 48, 2, 1, 139, 1, 2, 0, 1]) ws (vs) := ⟨nf_in hl rfl, sgq_1385 (vc_Mo_meets_3_0 (v_iv (n_v vs 1)) (v_iv (n_v vs 2)) (v_iv (n_v vs 3)) (v_iv (n_v vs 4)) (v_iv (n_v vs 5)) (v_iv (n_v vs 6)) (v_iv (n_v vs 7)) (v_iv (n_v vs 8)) (v_iv (n_v vs 9)) (v_iv (n_v vs 10)) (v_iv (n_v vs 11)) (v_iv (n_v vs 12)) (v_iv (n_v vs 13)) (v_iv (n_v vs 14)) (v_iv (n_v vs 15)) (v_iv (n_v vs 16)) (w_ei ws (w_ar ws (n_v vs 0) 63)) (w_ei ws (w_ar ws (n_v vs 0) 2)) (w_fi ws (n_v vs 0) 139) (w_fi ws (n_v vs 0) 5) (w_ei ws (w_ar ws (n_v vs 0) 64)) (w_ei ws (w_ar ws (n_v vs 0) 66)) (w_ei ws (w_ar ws (n_v vs 0) 62)) (w_ei ws (w_ar ws (n_v vs 0) 65)) k1 k2 k3 k4 k5 k6 k7 k8 k9 k10 k11 k12 k13 k14 k15 k16 d0 d1 (shm_47 f0) (shm_1391 f1) (shm_1392 f2) (shm_1393 f3) (shm_1385 f4) (shm_12 f5) (shm_47 f6) (shm_1387 f7) (shm_1388 f8) (shm_1389 f9) (shm_1385 f10) (shm_12 f11) (shm_47 f12) (shm_1391 f13) (shm_1392 f14) (shm_1393 f15) (shm_47 f16) (shm_1387 f17) (shm_1388 f18) (shm_1389 f19) (shm_1385 f20) (shm_1882 f21) (shm_1882 f22) hK_0_62 hK_0_63 hK_0_64 hK_0_65 hK_0_66 kz_0_139)⟩
  refine ⟨(fun _ h => (by cases h)), [], trivial, ?_, (fun _ h => (by cases h))⟩
  rw [List.append_nil]
  exact List.forall_mem_cons.mpr ⟨⟨show (20 : Nat) < 100 from by decide, nf0⟩, (fun _ h => (by cases h))⟩
set_option maxHeartbeats 4000000 in
theorem vc_Mo_meets_4_0 (x1 : Int) (x2 : Int) (x3 : Int) (x4 : Int) (x5 : Int) (x6 : Int) (x7 : Int) (x8 : Int) (x9 : Int) (x10 : Int) (x11 : Int) (x12 : Int) (x13 : Int) (x14 : Int) (x15 : Int) (x16 : Int) (x17 : Int) (x18 : Int) (x19 : Int) (x20 : Int) (x21 : Int) (x22 : Int) (nodeY_0 : Int → Int) (all_0 : Int → Int) (g0_0 : Int) (r_0 : Int) (bendMany_0 : Int → Int) (bendY_0 : Int → Int) (nodeX_0 : Int → Int) (bendX_0 : Int → Int) (k1 : 0 ≤ x1 ∧ x1 ≤ 47) (k2 : 0 ≤ x2 ∧ x2 ≤ 24) (k3 : 0 ≤ x3 ∧ x3 ≤ 47) (k4 : 0 ≤ x4 ∧ x4 ≤ 24) (k5 : (-300000011) ≤ x5 ∧ x5 ≤ 300000000) (k6 : (-300000011) ≤ x6 ∧ x6 ≤ 300000000) (k7 : (-900000000) ≤ x7 ∧ x7 ≤ 900000000) (k8 : (-900000000) ≤ x8 ∧ x8 ≤ 900000000) (k9 : 1 ≤ x9 ∧ x9 ≤ 1) (k10 : 1 ≤ x10 ∧ x10 ≤ 25) (k11 : (-300000011) ≤ x11 ∧ x11 ≤ 300000000) (k12 : (-300000011) ≤ x12 ∧ x12 ≤ 300000000) (k13 : 1 ≤ x13 ∧ x13 ≤ 1) (k14 : 1 ≤ x14 ∧ x14 ≤ 25) (k15 : (-900000000) ≤ x15 ∧ x15 ≤ 900000000) (k16 : (-900000000) ≤ x16 ∧ x16 ≤ 900000000) (k17 : (-300000011) ≤ x17 ∧ x17 ≤ 300000000) (k18 : (-300000011) ≤ x18 ∧ x18 ≤ 300000000) (k19 : (-900000000) ≤ x19 ∧ x19 ≤ 900000000) (k20 : (-900000000) ≤ x20 ∧ x20 ≤ 900000000) (k21 : 1 ≤ x21 ∧ x21 ≤ 1) (k22 : 1 ≤ x22 ∧ x22 ≤ 25) (d0 : x4 + 1 ≤ x22 ∧ x22 ≤ x4 + 1) (d1 : x2 + 1 ≤ x14 ∧ x14 ≤ x2 + 1) (d2 : x2 + 1 ≤ x10 ∧ x10 ≤ x2 + 1) (f0 : x22 = x4 + x21) (f1 : x20 = x19) (f2 : (x4 = 0) → (x19 = nodeY_0 (((24 * g0_0) + all_0 (((r_0 + 267) + x3)))))) (f3 : (x4 = (bendMany_0 (((48 * g0_0) + x3)) + 1)) → (x19 = nodeY_0 (((24 * g0_0) + all_0 (((r_0 + 315) + x3)))))) (f4 : (x4 = 0) ∨ ((x4 = (bendMany_0 (((48 * g0_0) + x3)) + 1)) ∨ (x19 = bendY_0 (((24 * ((48 * g0_0) + x3)) + (x4 - 1)))))) (f5 : x18 = x17) (f6 : (x4 = 0) → (x17 = nodeX_0 (((24 * g0_0) + all_0 (((r_0 + 267) + x3)))))) (f7 : (x4 = (bendMany_0 (((48 * g0_0) + x3)) + 1)) → (x17 = nodeX_0 (((24 * g0_0) + all_0 (((r_0 + 315) + x3)))))) (f8 : (x4 = 0) ∨ ((x4 = (bendMany_0 (((48 * g0_0) + x3)) + 1)) ∨ (x17 = bendX_0 (((24 * ((48 * g0_0) + x3)) + (x4 - 1)))))) (f9 : x4 ≤ (bendMany_0 (((48 * g0_0) + x3)) + 1)) (f10 : x16 = x15) (f11 : (x14 = 0) → (x15 = nodeY_0 (((24 * g0_0) + all_0 (((r_0 + 267) + x1)))))) (f12 : (x14 = (bendMany_0 (((48 * g0_0) + x1)) + 1)) → (x15 = nodeY_0 (((24 * g0_0) + all_0 (((r_0 + 315) + x1)))))) (f13 : (x14 = 0) ∨ ((x14 = (bendMany_0 (((48 * g0_0) + x1)) + 1)) ∨ (x15 = bendY_0 (((24 * ((48 * g0_0) + x1)) + (x14 - 1)))))) (f14 : x14 ≤ (bendMany_0 (((48 * g0_0) + x1)) + 1)) (f15 : x14 = x2 + x13) (f16 : x12 = x11) (f17 : (x10 = 0) → (x11 = nodeX_0 (((24 * g0_0) + all_0 (((r_0 + 267) + x1)))))) (f18 : (x10 = (bendMany_0 (((48 * g0_0) + x1)) + 1)) → (x11 = nodeX_0 (((24 * g0_0) + all_0 (((r_0 + 315) + x1)))))) (f19 : (x10 = 0) ∨ ((x10 = (bendMany_0 (((48 * g0_0) + x1)) + 1)) ∨ (x11 = bendX_0 (((24 * ((48 * g0_0) + x1)) + (x10 - 1)))))) (f20 : x10 ≤ (bendMany_0 (((48 * g0_0) + x1)) + 1)) (f21 : x10 = x2 + x9) (f22 : x8 = x7) (f23 : (x2 = 0) → (x7 = nodeY_0 (((24 * g0_0) + all_0 (((r_0 + 267) + x1)))))) (f24 : (x2 = (bendMany_0 (((48 * g0_0) + x1)) + 1)) → (x7 = nodeY_0 (((24 * g0_0) + all_0 (((r_0 + 315) + x1)))))) (f25 : (x2 = 0) ∨ ((x2 = (bendMany_0 (((48 * g0_0) + x1)) + 1)) ∨ (x7 = bendY_0 (((24 * ((48 * g0_0) + x1)) + (x2 - 1)))))) (f26 : x6 = x5) (f27 : (x2 = 0) → (x5 = nodeX_0 (((24 * g0_0) + all_0 (((r_0 + 267) + x1)))))) (f28 : (x2 = (bendMany_0 (((48 * g0_0) + x1)) + 1)) → (x5 = nodeX_0 (((24 * g0_0) + all_0 (((r_0 + 315) + x1)))))) (f29 : (x2 = 0) ∨ ((x2 = (bendMany_0 (((48 * g0_0) + x1)) + 1)) ∨ (x5 = bendX_0 (((24 * ((48 * g0_0) + x1)) + (x2 - 1)))))) (f30 : x2 ≤ (bendMany_0 (((48 * g0_0) + x1)) + 1)) (f31 : x2 ≤ bendMany_0 (((48 * g0_0) + x1))) (f32 : x4 ≤ bendMany_0 (((48 * g0_0) + x3))) (hK_0_62 : ∀ j : Int, 0 ≤ j → j < 96 → (-300000000) ≤ nodeX_0 j ∧ nodeX_0 j ≤ 300000000) (hK_0_63 : ∀ j : Int, 0 ≤ j → j < 96 → (-300000000) ≤ nodeY_0 j ∧ nodeY_0 j ≤ 300000000) (hK_0_64 : ∀ j : Int, 0 ≤ j → j < 192 → 0 ≤ bendMany_0 j ∧ bendMany_0 j ≤ 24) (hK_0_65 : ∀ j : Int, 0 ≤ j → j < 4608 → (-300000011) ≤ bendX_0 j ∧ bendX_0 j ≤ 221100000) (hK_0_66 : ∀ j : Int, 0 ≤ j → j < 4608 → (-900000000) ≤ bendY_0 j ∧ bendY_0 j ≤ 900000000) (kz_0_139 : 0 ≤ g0_0 ∧ g0_0 ≤ 3) : x22 ≤ (bendMany_0 (((48 * g0_0) + x3)) + 1) := by
  first | assumption | (clear f2 f3 f4 f6 f7 f8 f11 f12 f13 f17 f18 f19 f23 f24 f25 f27 f28 f29 hK_0_62 hK_0_63 hK_0_64 hK_0_65 hK_0_66; omega) | (clear hK_0_62 hK_0_63 hK_0_64 hK_0_65 hK_0_66; grind) | omega | grind
def o_Mo_meets_4 : or_T := (66, 23, [(0, (2, 0, 0, [165])), (1, (0, 0, 47, [])), (2, (0, 0, 24, [])), (3, (0, 0, 47, [])), (4, (0, 0, 24, [])), (5, (0, -300000011, 300000000, [])), (6, (1, -300000011, 300000000, [])), (7, (0, -900000000, 900000000, [])), (8, (1, -900000000, 900000000, [])), (9, (0, 1, 1, [])), (10, (0, 1, 25, [])), (11, (0, -300000011, 300000000, [])), (12, (1, -300000011, 300000000, [])), (13, (0, 1, 1, [])), (14, (0, 1, 25, [])), (15, (0, -900000000, 900000000, [])), (16, (1, -900000000, 900000000, [])), (17, (0, -300000011, 300000000, [])), (18, (1, -300000011, 300000000, [])), (19, (0, -900000000, 900000000, [])), (20, (1, -900000000, 900000000, [])), (21, (0, 1, 1, [])), (22, (0, 1, 25, []))], [(1, [22, 4, 21], []), (22, [20, 19], []), (20, [4, 19, 0, 3], [50, 2, 2, 2139, 2005, 2063, 2002, 4, 6, 1, 2, 1, 0, 0, 0, 1, 2, 1, 1, 3, 2, 63, 4, 7, 6, 2, 0, 24, 2, 2, 139, 3, 2, 2, 4, 7, 4, 3, 2, 2, 5, 0, 267, 1, 3]), (20, [4, 0, 3, 19], [50, 2, 3, 1139, 1005, 1064, 1063, 1002, 4, 22, 1, 2, 1, 0, 4, 14, 3, 1, 64, 4, 7, 6, 2, 0, 48, 2, 1, 139, 1, 2, 0, 1, 1, 2, 1, 3, 3, 1, 63, 4, 7, 6, 2, 0, 24, 2, 1, 139, 3, 1, 2, 4, 7, 4, 3, 2, 1, 5, 0, 315, 1, 2]), (20, [4, 0, 3, 19], [50, 1, 2, 1139, 1064, 1066, 3, 6, 1, 2, 1, 0, 0, 0, 3, 22, 1, 2, 1, 0, 4, 14, 3, 1, 64, 4, 7, 6, 2, 0, 48, 2, 1, 139, 1, 2, 0, 1, 1, 2, 1, 3, 3, 1, 66, 4, 15, 6, 2, 0, 24, 4, 7, 6, 2, 0, 48, 2, 1, 139, 1, 2, 5, 2, 1, 0, 0, 1]), (22, [18, 17], []), (20, [4, 17, 0, 3], [50, 2, 2, 2139, 2005, 2062, 2002, 4, 6, 1, 2, 1, 0, 0, 0, 1, 2, 1, 1, 3, 2, 62, 4, 7, 6, 2, 0, 24, 2, 2, 139, 3, 2, 2, 4, 7, 4, 3, 2, 2, 5, 0, 267, 1, 3]), (20, [4, 0, 3, 17], [50, 2, 3, 1139, 1005, 1064, 1062, 1002, 4, 22, 1, 2, 1, 0, 4, 14, 3, 1, 64, 4, 7, 6, 2, 0, 48, 2, 1, 139, 1, 2, 0, 1, 1, 2, 1, 3, 3, 1, 62, 4, 7, 6, 2, 0, 24, 2, 1, 139, 3, 1, 2, 4, 7, 4, 3, 2, 1, 5, 0, 315, 1, 2]), (20, [4, 0, 3, 17], [50, 1, 2, 1139, 1064, 1065, 3, 6, 1, 2, 1, 0, 0, 0, 3, 22, 1, 2, 1, 0, 4, 14, 3, 1, 64, 4, 7, 6, 2, 0, 48, 2, 1, 139, 1, 2, 0, 1, 1, 2, 1, 3, 3, 1, 65, 4, 15, 6, 2, 0, 24, 4, 7, 6, 2, 0, 48, 2, 1, 139, 1, 2, 5, 2, 1, 0, 0, 1]), (20, [4, 0, 3], [50, 1, 1, 1139, 1064, 0, 2, 1, 0, 4, 14, 3, 1, 64, 4, 7, 6, 2, 0, 48, 2, 1, 139, 1, 2, 0, 1]), (22, [16, 15], []), (20, [14, 15, 0, 1], [50, 2, 2, 2139, 2005, 2063, 2002, 4, 6, 1, 2, 1, 0, 0, 0, 1, 2, 1, 1, 3, 2, 63, 4, 7, 6, 2, 0, 24, 2, 2, 139, 3, 2, 2, 4, 7, 4, 3, 2, 2, 5, 0, 267, 1, 3]), (20, [14, 0, 1, 15], [50, 2, 3, 1139, 1005, 1064, 1063, 1002, 4, 22, 1, 2, 1, 0, 4, 14, 3, 1, 64, 4, 7, 6, 2, 0, 48, 2, 1, 139, 1, 2, 0, 1, 1, 2, 1, 3, 3, 1, 63, 4, 7, 6, 2, 0, 24, 2, 1, 139, 3, 1, 2, 4, 7, 4, 3, 2, 1, 5, 0, 315, 1, 2]), (20, [14, 0, 1, 15], [50, 1, 2, 1139, 1064, 1066, 3, 6, 1, 2, 1, 0, 0, 0, 3, 22, 1, 2, 1, 0, 4, 14, 3, 1, 64, 4, 7, 6, 2, 0, 48, 2, 1, 139, 1, 2, 0, 1, 1, 2, 1, 3, 3, 1, 66, 4, 15, 6, 2, 0, 24, 4, 7, 6, 2, 0, 48, 2, 1, 139, 1, 2, 5, 2, 1, 0, 0, 1]), (20, [14, 0, 1], [50, 1, 1, 1139, 1064, 0, 2, 1, 0, 4, 14, 3, 1, 64, 4, 7, 6, 2, 0, 48, 2, 1, 139, 1, 2, 0, 1]), (1, [14, 2, 13], []), (22, [12, 11], []), (20, [10, 11, 0, 1], [50, 2, 2, 2139, 2005, 2062, 2002, 4, 6, 1, 2, 1, 0, 0, 0, 1, 2, 1, 1, 3, 2, 62, 4, 7, 6, 2, 0, 24, 2, 2, 139, 3, 2, 2, 4, 7, 4, 3, 2, 2, 5, 0, 267, 1, 3]), (20, [10, 0, 1, 11], [50, 2, 3, 1139, 1005, 1064, 1062, 1002, 4, 22, 1, 2, 1, 0, 4, 14, 3, 1, 64, 4, 7, 6, 2, 0, 48, 2, 1, 139, 1, 2, 0, 1, 1, 2, 1, 3, 3, 1, 62, 4, 7, 6, 2, 0, 24, 2, 1, 139, 3, 1, 2, 4, 7, 4, 3, 2, 1, 5, 0, 315, 1, 2]), (20, [10, 0, 1, 11], [50, 1, 2, 1139, 1064, 1065, 3, 6, 1, 2, 1, 0, 0, 0, 3, 22, 1, 2, 1, 0, 4, 14, 3, 1, 64, 4, 7, 6, 2, 0, 48, 2, 1, 139, 1, 2, 0, 1, 1, 2, 1, 3, 3, 1, 65, 4, 15, 6, 2, 0, 24, 4, 7, 6, 2, 0, 48, 2, 1, 139, 1, 2, 5, 2, 1, 0, 0, 1]), (20, [10, 0, 1], [50, 1, 1, 1139, 1064, 0, 2, 1, 0, 4, 14, 3, 1, 64, 4, 7, 6, 2, 0, 48, 2, 1, 139, 1, 2, 0, 1]), (1, [10, 2, 9], []), (22, [8, 7], []), (20, [2, 7, 0, 1], [50, 2, 2, 2139, 2005, 2063, 2002, 4, 6, 1, 2, 1, 0, 0, 0, 1, 2, 1, 1, 3, 2, 63, 4, 7, 6, 2, 0, 24, 2, 2, 139, 3, 2, 2, 4, 7, 4, 3, 2, 2, 5, 0, 267, 1, 3]), (20, [2, 0, 1, 7], [50, 2, 3, 1139, 1005, 1064, 1063, 1002, 4, 22, 1, 2, 1, 0, 4, 14, 3, 1, 64, 4, 7, 6, 2, 0, 48, 2, 1, 139, 1, 2, 0, 1, 1, 2, 1, 3, 3, 1, 63, 4, 7, 6, 2, 0, 24, 2, 1, 139, 3, 1, 2, 4, 7, 4, 3, 2, 1, 5, 0, 315, 1, 2]), (20, [2, 0, 1, 7], [50, 1, 2, 1139, 1064, 1066, 3, 6, 1, 2, 1, 0, 0, 0, 3, 22, 1, 2, 1, 0, 4, 14, 3, 1, 64, 4, 7, 6, 2, 0, 48, 2, 1, 139, 1, 2, 0, 1, 1, 2, 1, 3, 3, 1, 66, 4, 15, 6, 2, 0, 24, 4, 7, 6, 2, 0, 48, 2, 1, 139, 1, 2, 5, 2, 1, 0, 0, 1]), (22, [6, 5], []), (20, [2, 5, 0, 1], [50, 2, 2, 2139, 2005, 2062, 2002, 4, 6, 1, 2, 1, 0, 0, 0, 1, 2, 1, 1, 3, 2, 62, 4, 7, 6, 2, 0, 24, 2, 2, 139, 3, 2, 2, 4, 7, 4, 3, 2, 2, 5, 0, 267, 1, 3]), (20, [2, 0, 1, 5], [50, 2, 3, 1139, 1005, 1064, 1062, 1002, 4, 22, 1, 2, 1, 0, 4, 14, 3, 1, 64, 4, 7, 6, 2, 0, 48, 2, 1, 139, 1, 2, 0, 1, 1, 2, 1, 3, 3, 1, 62, 4, 7, 6, 2, 0, 24, 2, 1, 139, 3, 1, 2, 4, 7, 4, 3, 2, 1, 5, 0, 315, 1, 2]), (20, [2, 0, 1, 5], [50, 1, 2, 1139, 1064, 1065, 3, 6, 1, 2, 1, 0, 0, 0, 3, 22, 1, 2, 1, 0, 4, 14, 3, 1, 64, 4, 7, 6, 2, 0, 48, 2, 1, 139, 1, 2, 0, 1, 1, 2, 1, 3, 3, 1, 65, 4, 15, 6, 2, 0, 24, 4, 7, 6, 2, 0, 48, 2, 1, 139, 1, 2, 5, 2, 1, 0, 0, 1]), (20, [2, 0, 1], [50, 1, 1, 1139, 1064, 0, 2, 1, 0, 4, 14, 3, 1, 64, 4, 7, 6, 2, 0, 48, 2, 1, 139, 1, 2, 0, 1]), (20, [2, 0, 1], [50, 1, 1, 1139, 1064, 0, 2, 1, 0, 3, 1, 64, 4, 7, 6, 2, 0, 48, 2, 1, 139, 1, 2]), (20, [4, 0, 3], [50, 1, 1, 1139, 1064, 0, 2, 1, 0, 3, 1, 64, 4, 7, 6, 2, 0, 48, 2, 1, 139, 1, 2])], [], [], [(20, [22, 0, 3], [50, 1, 1, 1139, 1064, 0, 2, 1, 0, 4, 14, 3, 1, 64, 4, 7, 6, 2, 0, 48, 2, 1, 139, 1, 2, 0, 1])], [], [(22, 4, 1, 1), (14, 2, 1, 1), (10, 2, 1, 1)])
theorem oo_Mo_meets_4 {kA : Nat → ClassId} : or_ok PRD kA GG o_Mo_meets_4 := by
  refine or_mk fun A ta ws vs hD hth hl => ?_
  intro t0 r0 t1 k1 t2 k2 t3 k3 t4 k4 t5 k5 t6 k6 t7 k7 t8 k8 t9 k9 t10 k10 t11 k11 t12 k12 t13 k13 t14 k14 t15 k15 t16 k16 t17 k17 t18 k18 t19 k19 t20 k20 t21 k21 t22 k22 d0 d1 d2 f0 f1 f2 f3 f4 f5 f6 f7 f8 f9 f10 f11 f12 f13 f14 f15 f16 f17 f18 f19 f20 f21 f22 f23 f24 f25 f26 f27 f28 f29 f30 f31 f32
  have cr_0_62 := fdq_172 hD hth r0
  have cr_0_63 := fdq_173 hD hth r0
  have cr_0_64 := fdq_170 hD hth r0
  have cr_0_65 := fdq_286 hD hth r0
  have cr_0_66 := fdq_287 hD hth r0
  have hK_0_62 := elq_99 hD hth cr_0_62
  have hK_0_63 := elq_100 hD hth cr_0_63
  have hK_0_64 := elq_98 hD hth cr_0_64
  have hK_0_65 := elq_182 hD hth cr_0_65
  have hK_0_66 := elq_183 hD hth cr_0_66
  have kz_0_139 := fdq_171 hD hth r0
  have nf0 : fc_1 PRD (20, [22, 0, 3], [50, 1, 1, 1139, 1064, 0, 2, 1, 0, 4, 14, 3, 1, 64, 4, 7, 6, 2, 0, 48, 2, 1, 139, 1, 2, 0, 1]) ws (vs) := ⟨nf_in hl rfl, sgq_1385 (vc_Mo_meets_4_0 (v_iv (n_v vs 1)) (v_iv (n_v vs 2)) (v_iv (n_v vs 3)) (v_iv (n_v vs 4)) (v_iv (n_v vs 5)) (v_iv (n_v vs 6)) (v_iv (n_v vs 7)) (v_iv (n_v vs 8)) (v_iv (n_v vs 9)) (v_iv (n_v vs 10)) (v_iv (n_v vs 11)) (v_iv (n_v vs 12)) (v_iv (n_v vs 13)) (v_iv (n_v vs 14)) (v_iv (n_v vs 15)) (v_iv (n_v vs 16)) (v_iv (n_v vs 17)) (v_iv (n_v vs 18)) (v_iv (n_v vs 19)) (v_iv (n_v vs 20)) (v_iv (n_v vs 21)) (v_iv (n_v vs 22)) (w_ei ws (w_ar ws (n_v vs 0) 63)) (w_ei ws (w_ar ws (n_v vs 0) 2)) (w_fi ws (n_v vs 0) 139) (w_fi ws (n_v vs 0) 5) (w_ei ws (w_ar ws (n_v vs 0) 64)) (w_ei ws (w_ar ws (n_v vs 0) 66)) (w_ei ws (w_ar ws (n_v vs 0) 62)) (w_ei ws (w_ar ws (n_v vs 0) 65)) k1 k2 k3 k4 k5 k6 k7 k8 k9 k10 k11 k12 k13 k14 k15 k16 k17 k18 k19 k20 k21 k22 d0 d1 d2 (shm_12 f0) (shm_47 f1) (shm_1391 f2) (shm_1392 f3) (shm_1393 f4) (shm_47 f5) (shm_1387 f6) (shm_1388 f7) (shm_1389 f8) (shm_1385 f9) (shm_47 f10) (shm_1391 f11) (shm_1392 f12) (shm_1393 f13) (shm_1385 f14) (shm_12 f15) (shm_47 f16) (shm_1387 f17) (shm_1388 f18) (shm_1389 f19) (shm_1385 f20) (shm_12 f21) (shm_47 f22) (shm_1391 f23) (shm_1392 f24) (shm_1393 f25) (shm_47 f26) (shm_1387 f27) (shm_1388 f28) (shm_1389 f29) (shm_1385 f30) (shm_1882 f31) (shm_1882 f32) hK_0_62 hK_0_63 hK_0_64 hK_0_65 hK_0_66 kz_0_139)⟩
  refine ⟨(fun _ h => (by cases h)), [], trivial, ?_, (fun _ h => (by cases h))⟩
  rw [List.append_nil]
  exact List.forall_mem_cons.mpr ⟨⟨show (20 : Nat) < 100 from by decide, nf0⟩, (fun _ h => (by cases h))⟩
set_option maxHeartbeats 4000000 in
theorem vc_Mo_meets_5_0 (x1 : Int) (x2 : Int) (x3 : Int) (x4 : Int) (x5 : Int) (x6 : Int) (x7 : Int) (x8 : Int) (x9 : Int) (x10 : Int) (x11 : Int) (x12 : Int) (x13 : Int) (x14 : Int) (x15 : Int) (x16 : Int) (x17 : Int) (x18 : Int) (x19 : Int) (x20 : Int) (x21 : Int) (x22 : Int) (x23 : Int) (x24 : Int) (x25 : Int) (x26 : Int) (nodeX_0 : Int → Int) (all_0 : Int → Int) (g0_0 : Int) (r_0 : Int) (bendMany_0 : Int → Int) (bendX_0 : Int → Int) (nodeY_0 : Int → Int) (bendY_0 : Int → Int) (k1 : 0 ≤ x1 ∧ x1 ≤ 47) (k2 : 0 ≤ x2 ∧ x2 ≤ 24) (k3 : 0 ≤ x3 ∧ x3 ≤ 47) (k4 : 0 ≤ x4 ∧ x4 ≤ 24) (k5 : (-300000011) ≤ x5 ∧ x5 ≤ 300000000) (k6 : (-300000011) ≤ x6 ∧ x6 ≤ 300000000) (k7 : (-900000000) ≤ x7 ∧ x7 ≤ 900000000) (k8 : (-900000000) ≤ x8 ∧ x8 ≤ 900000000) (k9 : 1 ≤ x9 ∧ x9 ≤ 1) (k10 : 1 ≤ x10 ∧ x10 ≤ 25) (k11 : (-300000011) ≤ x11 ∧ x11 ≤ 300000000) (k12 : (-300000011) ≤ x12 ∧ x12 ≤ 300000000) (k13 : 1 ≤ x13 ∧ x13 ≤ 1) (k14 : 1 ≤ x14 ∧ x14 ≤ 25) (k15 : (-900000000) ≤ x15 ∧ x15 ≤ 900000000) (k16 : (-900000000) ≤ x16 ∧ x16 ≤ 900000000) (k17 : (-300000011) ≤ x17 ∧ x17 ≤ 300000000) (k18 : (-300000011) ≤ x18 ∧ x18 ≤ 300000000) (k19 : (-900000000) ≤ x19 ∧ x19 ≤ 900000000) (k20 : (-900000000) ≤ x20 ∧ x20 ≤ 900000000) (k21 : 1 ≤ x21 ∧ x21 ≤ 1) (k22 : 1 ≤ x22 ∧ x22 ≤ 25) (k23 : (-300000011) ≤ x23 ∧ x23 ≤ 300000000) (k24 : (-300000011) ≤ x24 ∧ x24 ≤ 300000000) (k25 : 1 ≤ x25 ∧ x25 ≤ 1) (k26 : 1 ≤ x26 ∧ x26 ≤ 25) (d0 : x4 + 1 ≤ x26 ∧ x26 ≤ x4 + 1) (d1 : x4 + 1 ≤ x22 ∧ x22 ≤ x4 + 1) (d2 : x2 + 1 ≤ x14 ∧ x14 ≤ x2 + 1) (d3 : x2 + 1 ≤ x10 ∧ x10 ≤ x2 + 1) (f0 : x26 = x4 + x25) (f1 : x24 = x23) (f2 : (x22 = 0) → (x23 = nodeX_0 (((24 * g0_0) + all_0 (((r_0 + 267) + x3)))))) (f3 : (x22 = (bendMany_0 (((48 * g0_0) + x3)) + 1)) → (x23 = nodeX_0 (((24 * g0_0) + all_0 (((r_0 + 315) + x3)))))) (f4 : (x22 = 0) ∨ ((x22 = (bendMany_0 (((48 * g0_0) + x3)) + 1)) ∨ (x23 = bendX_0 (((24 * ((48 * g0_0) + x3)) + (x22 - 1)))))) (f5 : x22 ≤ (bendMany_0 (((48 * g0_0) + x3)) + 1)) (f6 : x22 = x4 + x21) (f7 : x20 = x19) (f8 : (x4 = 0) → (x19 = nodeY_0 (((24 * g0_0) + all_0 (((r_0 + 267) + x3)))))) (f9 : (x4 = (bendMany_0 (((48 * g0_0) + x3)) + 1)) → (x19 = nodeY_0 (((24 * g0_0) + all_0 (((r_0 + 315) + x3)))))) (f10 : (x4 = 0) ∨ ((x4 = (bendMany_0 (((48 * g0_0) + x3)) + 1)) ∨ (x19 = bendY_0 (((24 * ((48 * g0_0) + x3)) + (x4 - 1)))))) (f11 : x18 = x17) (f12 : (x4 = 0) → (x17 = nodeX_0 (((24 * g0_0) + all_0 (((r_0 + 267) + x3)))))) (f13 : (x4 = (bendMany_0 (((48 * g0_0) + x3)) + 1)) → (x17 = nodeX_0 (((24 * g0_0) + all_0 (((r_0 + 315) + x3)))))) (f14 : (x4 = 0) ∨ ((x4 = (bendMany_0 (((48 * g0_0) + x3)) + 1)) ∨ (x17 = bendX_0 (((24 * ((48 * g0_0) + x3)) + (x4 - 1)))))) (f15 : x4 ≤ (bendMany_0 (((48 * g0_0) + x3)) + 1)) (f16 : x16 = x15) (f17 : (x14 = 0) → (x15 = nodeY_0 (((24 * g0_0) + all_0 (((r_0 + 267) + x1)))))) (f18 : (x14 = (bendMany_0 (((48 * g0_0) + x1)) + 1)) → (x15 = nodeY_0 (((24 * g0_0) + all_0 (((r_0 + 315) + x1)))))) (f19 : (x14 = 0) ∨ ((x14 = (bendMany_0 (((48 * g0_0) + x1)) + 1)) ∨ (x15 = bendY_0 (((24 * ((48 * g0_0) + x1)) + (x14 - 1)))))) (f20 : x14 ≤ (bendMany_0 (((48 * g0_0) + x1)) + 1)) (f21 : x14 = x2 + x13) (f22 : x12 = x11) (f23 : (x10 = 0) → (x11 = nodeX_0 (((24 * g0_0) + all_0 (((r_0 + 267) + x1)))))) (f24 : (x10 = (bendMany_0 (((48 * g0_0) + x1)) + 1)) → (x11 = nodeX_0 (((24 * g0_0) + all_0 (((r_0 + 315) + x1)))))) (f25 : (x10 = 0) ∨ ((x10 = (bendMany_0 (((48 * g0_0) + x1)) + 1)) ∨ (x11 = bendX_0 (((24 * ((48 * g0_0) + x1)) + (x10 - 1)))))) (f26 : x10 ≤ (bendMany_0 (((48 * g0_0) + x1)) + 1)) (f27 : x10 = x2 + x9) (f28 : x8 = x7) (f29 : (x2 = 0) → (x7 = nodeY_0 (((24 * g0_0) + all_0 (((r_0 + 267) + x1)))))) (f30 : (x2 = (bendMany_0 (((48 * g0_0) + x1)) + 1)) → (x7 = nodeY_0 (((24 * g0_0) + all_0 (((r_0 + 315) + x1)))))) (f31 : (x2 = 0) ∨ ((x2 = (bendMany_0 (((48 * g0_0) + x1)) + 1)) ∨ (x7 = bendY_0 (((24 * ((48 * g0_0) + x1)) + (x2 - 1)))))) (f32 : x6 = x5) (f33 : (x2 = 0) → (x5 = nodeX_0 (((24 * g0_0) + all_0 (((r_0 + 267) + x1)))))) (f34 : (x2 = (bendMany_0 (((48 * g0_0) + x1)) + 1)) → (x5 = nodeX_0 (((24 * g0_0) + all_0 (((r_0 + 315) + x1)))))) (f35 : (x2 = 0) ∨ ((x2 = (bendMany_0 (((48 * g0_0) + x1)) + 1)) ∨ (x5 = bendX_0 (((24 * ((48 * g0_0) + x1)) + (x2 - 1)))))) (f36 : x2 ≤ (bendMany_0 (((48 * g0_0) + x1)) + 1)) (f37 : x2 ≤ bendMany_0 (((48 * g0_0) + x1))) (f38 : x4 ≤ bendMany_0 (((48 * g0_0) + x3))) (hK_0_62 : ∀ j : Int, 0 ≤ j → j < 96 → (-300000000) ≤ nodeX_0 j ∧ nodeX_0 j ≤ 300000000) (hK_0_63 : ∀ j : Int, 0 ≤ j → j < 96 → (-300000000) ≤ nodeY_0 j ∧ nodeY_0 j ≤ 300000000) (hK_0_64 : ∀ j : Int, 0 ≤ j → j < 192 → 0 ≤ bendMany_0 j ∧ bendMany_0 j ≤ 24) (hK_0_65 : ∀ j : Int, 0 ≤ j → j < 4608 → (-300000011) ≤ bendX_0 j ∧ bendX_0 j ≤ 221100000) (hK_0_66 : ∀ j : Int, 0 ≤ j → j < 4608 → (-900000000) ≤ bendY_0 j ∧ bendY_0 j ≤ 900000000) (kz_0_139 : 0 ≤ g0_0 ∧ g0_0 ≤ 3) : x26 ≤ (bendMany_0 (((48 * g0_0) + x3)) + 1) := by
  first | assumption | (clear f2 f3 f4 f8 f9 f10 f12 f13 f14 f17 f18 f19 f23 f24 f25 f29 f30 f31 f33 f34 f35 hK_0_62 hK_0_63 hK_0_64 hK_0_65 hK_0_66; omega) | (clear hK_0_62 hK_0_63 hK_0_64 hK_0_65 hK_0_66; grind) | omega | grind
def o_Mo_meets_5 : or_T := (78, 27, [(0, (2, 0, 0, [165])), (1, (0, 0, 47, [])), (2, (0, 0, 24, [])), (3, (0, 0, 47, [])), (4, (0, 0, 24, [])), (5, (0, -300000011, 300000000, [])), (6, (1, -300000011, 300000000, [])), (7, (0, -900000000, 900000000, [])), (8, (1, -900000000, 900000000, [])), (9, (0, 1, 1, [])), (10, (0, 1, 25, [])), (11, (0, -300000011, 300000000, [])), (12, (1, -300000011, 300000000, [])), (13, (0, 1, 1, [])), (14, (0, 1, 25, [])), (15, (0, -900000000, 900000000, [])), (16, (1, -900000000, 900000000, [])), (17, (0, -300000011, 300000000, [])), (18, (1, -300000011, 300000000, [])), (19, (0, -900000000, 900000000, [])), (20, (1, -900000000, 900000000, [])), (21, (0, 1, 1, [])), (22, (0, 1, 25, [])), (23, (0, -300000011, 300000000, [])), (24, (1, -300000011, 300000000, [])), (25, (0, 1, 1, [])), (26, (0, 1, 25, []))], [(1, [26, 4, 25], []), (22, [24, 23], []), (20, [22, 23, 0, 3], [50, 2, 2, 2139, 2005, 2062, 2002, 4, 6, 1, 2, 1, 0, 0, 0, 1, 2, 1, 1, 3, 2, 62, 4, 7, 6, 2, 0, 24, 2, 2, 139, 3, 2, 2, 4, 7, 4, 3, 2, 2, 5, 0, 267, 1, 3]), (20, [22, 0, 3, 23], [50, 2, 3, 1139, 1005, 1064, 1062, 1002, 4, 22, 1, 2, 1, 0, 4, 14, 3, 1, 64, 4, 7, 6, 2, 0, 48, 2, 1, 139, 1, 2, 0, 1, 1, 2, 1, 3, 3, 1, 62, 4, 7, 6, 2, 0, 24, 2, 1, 139, 3, 1, 2, 4, 7, 4, 3, 2, 1, 5, 0, 315, 1, 2]), (20, [22, 0, 3, 23], [50, 1, 2, 1139, 1064, 1065, 3, 6, 1, 2, 1, 0, 0, 0, 3, 22, 1, 2, 1, 0, 4, 14, 3, 1, 64, 4, 7, 6, 2, 0, 48, 2, 1, 139, 1, 2, 0, 1, 1, 2, 1, 3, 3, 1, 65, 4, 15, 6, 2, 0, 24, 4, 7, 6, 2, 0, 48, 2, 1, 139, 1, 2, 5, 2, 1, 0, 0, 1]), (20, [22, 0, 3], [50, 1, 1, 1139, 1064, 0, 2, 1, 0, 4, 14, 3, 1, 64, 4, 7, 6, 2, 0, 48, 2, 1, 139, 1, 2, 0, 1]), (1, [22, 4, 21], []), (22, [20, 19], []), (20, [4, 19, 0, 3], [50, 2, 2, 2139, 2005, 2063, 2002, 4, 6, 1, 2, 1, 0, 0, 0, 1, 2, 1, 1, 3, 2, 63, 4, 7, 6, 2, 0, 24, 2, 2, 139, 3, 2, 2, 4, 7, 4, 3, 2, 2, 5, 0, 267, 1, 3]), (20, [4, 0, 3, 19], [50, 2, 3, 1139, 1005, 1064, 1063, 1002, 4, 22, 1, 2, 1, 0, 4, 14, 3, 1, 64, 4, 7, 6, 2, 0, 48, 2, 1, 139, 1, 2, 0, 1, 1, 2, 1, 3, 3, 1, 63, 4, 7, 6, 2, 0, 24, 2, 1, 139, 3, 1, 2, 4, 7, 4, 3, 2, 1, 5, 0, 315, 1, 2]), (20, [4, 0, 3, 19], [50, 1, 2, 1139, 1064, 1066, 3, 6, 1, 2, 1, 0, 0, 0, 3, 22, 1, 2, 1, 0, 4, 14, 3, 1, 64, 4, 7, 6, 2, 0, 48, 2, 1, 139, 1, 2, 0, 1, 1, 2, 1, 3, 3, 1, 66, 4, 15, 6, 2, 0, 24, 4, 7, 6, 2, 0, 48, 2, 1, 139, 1, 2, 5, 2, 1, 0, 0, 1]), (22, [18, 17], []), (20, [4, 17, 0, 3], [50, 2, 2, 2139, 2005, 2062, 2002, 4, 6, 1, 2, 1, 0, 0, 0, 1, 2, 1, 1, 3, 2, 62, 4, 7, 6, 2, 0, 24, 2, 2, 139, 3, 2, 2, 4, 7, 4, 3, 2, 2, 5, 0, 267, 1, 3]), (20, [4, 0, 3, 17], [50, 2, 3, 1139, 1005, 1064, 1062, 1002, 4, 22, 1, 2, 1, 0, 4, 14, 3, 1, 64, 4, 7, 6, 2, 0, 48, 2, 1, 139, 1, 2, 0, 1, 1, 2, 1, 3, 3, 1, 62, 4, 7, 6, 2, 0, 24, 2, 1, 139, 3, 1, 2, 4, 7, 4, 3, 2, 1, 5, 0, 315, 1, 2]), (20, [4, 0, 3, 17], [50, 1, 2, 1139, 1064, 1065, 3, 6, 1, 2, 1, 0, 0, 0, 3, 22, 1, 2, 1, 0, 4, 14, 3, 1, 64, 4, 7, 6, 2, 0, 48, 2, 1, 139, 1, 2, 0, 1, 1, 2, 1, 3, 3, 1, 65, 4, 15, 6, 2, 0, 24, 4, 7, 6, 2, 0, 48, 2, 1, 139, 1, 2, 5, 2, 1, 0, 0, 1]), (20, [4, 0, 3], [50, 1, 1, 1139, 1064, 0, 2, 1, 0, 4, 14, 3, 1, 64, 4, 7, 6, 2, 0, 48, 2, 1, 139, 1, 2, 0, 1]), (22, [16, 15], []), (20, [14, 15, 0, 1], [50, 2, 2, 2139, 2005, 2063, 2002, 4, 6, 1, 2, 1, 0, 0, 0, 1, 2, 1, 1, 3, 2, 63, 4, 7, 6, 2, 0, 24, 2, 2, 139, 3, 2, 2, 4, 7, 4, 3, 2, 2, 5, 0, 267, 1, 3]), (20, [14, 0, 1, 15], [50, 2, 3, 1139, 1005, 1064, 1063, 1002, 4, 22, 1, 2, 1, 0, 4, 14, 3, 1, 64, 4, 7, 6, 2, 0, 48, 2, 1, 139, 1, 2, 0, 1, 1, 2, 1, 3, 3, 1, 63, 4, 7, 6, 2, 0, 24, 2, 1, 139, 3, 1, 2, 4, 7, 4, 3, 2, 1, 5, 0, 315, 1, 2]), (20, [14, 0, 1, 15], [50, 1, 2, 1139, 1064, 1066, 3, 6, 1, 2, 1, 0, 0, 0, 3, 22, 1, 2, 1, 0, 4, 14, 3, 1, 64, 4, 7, 6, 2, 0, 48, 2, 1, 139, 1, 2, 0, 1, 1, 2, 1, 3, 3, 1, 66, 4, 15, 6, 2, 0, 24, 4, 7, 6, 2, 0, 48, 2, 1, 139, 1, 2, 5, 2, 1, 0, 0, 1]), (20, [14, 0, 1], [50, 1, 1, 1139, 1064, 0, 2, 1, 0, 4, 14, 3, 1, 64, 4, 7, 6, 2, 0, 48, 2, 1, 139, 1, 2, 0, 1]), (1, [14, 2, 13], []), (22, [12, 11], []), (20, [10, 11, 0, 1], [50, 2, 2, 2139, 2005, 2062, 2002, 4, 6, 1, 2, 1, 0, 0, 0, 1, 2, 1, 1, 3, 2, 62, 4, 7, 6, 2, 0, 24, 2, 2, 139, 3, 2, 2, 4, 7, 4, 3, 2, 2, 5, 0, 267, 1, 3]), (20, [10, 0, 1, 11], [50, 2, 3, 1139, 1005, 1064, 1062, 1002, 4, 22, 1, 2, 1, 0, 4, 14, 3, 1, 64, 4, 7, 6, 2, 0, 48, 2, 1, 139, 1, 2, 0, 1, 1, 2, 1, 3, 3, 1, 62, 4, 7, 6, 2, 0, 24, 2, 1, 139, 3, 1, 2, 4, 7, 4, 3, 2, 1, 5, 0, 315, 1, 2]), (20, [10, 0, 1, 11], [50, 1, 2, 1139, 1064, 1065, 3, 6, 1, 2, 1, 0, 0, 0, 3, 22, 1, 2, 1, 0, 4, 14, 3, 1, 64, 4, 7, 6, 2, 0, 48, 2, 1, 139, 1, 2, 0, 1, 1, 2, 1, 3, 3, 1, 65, 4, 15, 6, 2, 0, 24, 4, 7, 6, 2, 0, 48, 2, 1, 139, 1, 2, 5, 2, 1, 0, 0, 1]), (20, [10, 0, 1], [50, 1, 1, 1139, 1064, 0, 2, 1, 0, 4, 14, 3, 1, 64, 4, 7, 6, 2, 0, 48, 2, 1, 139, 1, 2, 0, 1]), (1, [10, 2, 9], []), (22, [8, 7], []), (20, [2, 7, 0, 1], [50, 2, 2, 2139, 2005, 2063, 2002, 4, 6, 1, 2, 1, 0, 0, 0, 1, 2, 1, 1, 3, 2, 63, 4, 7, 6, 2, 0, 24, 2, 2, 139, 3, 2, 2, 4, 7, 4, 3, 2, 2, 5, 0, 267, 1, 3]), (20, [2, 0, 1, 7], [50, 2, 3, 1139, 1005, 1064, 1063, 1002, 4, 22, 1, 2, 1, 0, 4, 14, 3, 1, 64, 4, 7, 6, 2, 0, 48, 2, 1, 139, 1, 2, 0, 1, 1, 2, 1, 3, 3, 1, 63, 4, 7, 6, 2, 0, 24, 2, 1, 139, 3, 1, 2, 4, 7, 4, 3, 2, 1, 5, 0, 315, 1, 2]), (20, [2, 0, 1, 7], [50, 1, 2, 1139, 1064, 1066, 3, 6, 1, 2, 1, 0, 0, 0, 3, 22, 1, 2, 1, 0, 4, 14, 3, 1, 64, 4, 7, 6, 2, 0, 48, 2, 1, 139, 1, 2, 0, 1, 1, 2, 1, 3, 3, 1, 66, 4, 15, 6, 2, 0, 24, 4, 7, 6, 2, 0, 48, 2, 1, 139, 1, 2, 5, 2, 1, 0, 0, 1]), (22, [6, 5], []), (20, [2, 5, 0, 1], [50, 2, 2, 2139, 2005, 2062, 2002, 4, 6, 1, 2, 1, 0, 0, 0, 1, 2, 1, 1, 3, 2, 62, 4, 7, 6, 2, 0, 24, 2, 2, 139, 3, 2, 2, 4, 7, 4, 3, 2, 2, 5, 0, 267, 1, 3]), (20, [2, 0, 1, 5], [50, 2, 3, 1139, 1005, 1064, 1062, 1002, 4, 22, 1, 2, 1, 0, 4, 14, 3, 1, 64, 4, 7, 6, 2, 0, 48, 2, 1, 139, 1, 2, 0, 1, 1, 2, 1, 3, 3, 1, 62, 4, 7, 6, 2, 0, 24, 2, 1, 139, 3, 1, 2, 4, 7, 4, 3, 2, 1, 5, 0, 315, 1, 2]), (20, [2, 0, 1, 5], [50, 1, 2, 1139, 1064, 1065, 3, 6, 1, 2, 1, 0, 0, 0, 3, 22, 1, 2, 1, 0, 4, 14, 3, 1, 64, 4, 7, 6, 2, 0, 48, 2, 1, 139, 1, 2, 0, 1, 1, 2, 1, 3, 3, 1, 65, 4, 15, 6, 2, 0, 24, 4, 7, 6, 2, 0, 48, 2, 1, 139, 1, 2, 5, 2, 1, 0, 0, 1]), (20, [2, 0, 1], [50, 1, 1, 1139, 1064, 0, 2, 1, 0, 4, 14, 3, 1, 64, 4, 7, 6, 2, 0, 48, 2, 1, 139, 1, 2, 0, 1]), (20, [2, 0, 1], [50, 1, 1, 1139, 1064, 0, 2, 1, 0, 3, 1, 64, 4, 7, 6, 2, 0, 48, 2, 1, 139, 1, 2]), (20, [4, 0, 3], [50, 1, 1, 1139, 1064, 0, 2, 1, 0, 3, 1, 64, 4, 7, 6, 2, 0, 48, 2, 1, 139, 1, 2])], [], [], [(20, [26, 0, 3], [50, 1, 1, 1139, 1064, 0, 2, 1, 0, 4, 14, 3, 1, 64, 4, 7, 6, 2, 0, 48, 2, 1, 139, 1, 2, 0, 1])], [], [(26, 4, 1, 1), (22, 4, 1, 1), (14, 2, 1, 1), (10, 2, 1, 1)])
theorem oo_Mo_meets_5 {kA : Nat → ClassId} : or_ok PRD kA GG o_Mo_meets_5 := by
  refine or_mk fun A ta ws vs hD hth hl => ?_
  intro t0 r0 t1 k1 t2 k2 t3 k3 t4 k4 t5 k5 t6 k6 t7 k7 t8 k8 t9 k9 t10 k10 t11 k11 t12 k12 t13 k13 t14 k14 t15 k15 t16 k16 t17 k17 t18 k18 t19 k19 t20 k20 t21 k21 t22 k22 t23 k23 t24 k24 t25 k25 t26 k26 d0 d1 d2 d3 f0 f1 f2 f3 f4 f5 f6 f7 f8 f9 f10 f11 f12 f13 f14 f15 f16 f17 f18 f19 f20 f21 f22 f23 f24 f25 f26 f27 f28 f29 f30 f31 f32 f33 f34 f35 f36 f37 f38
  have cr_0_62 := fdq_172 hD hth r0
  have cr_0_63 := fdq_173 hD hth r0
  have cr_0_64 := fdq_170 hD hth r0
  have cr_0_65 := fdq_286 hD hth r0
  have cr_0_66 := fdq_287 hD hth r0
  have hK_0_62 := elq_99 hD hth cr_0_62
  have hK_0_63 := elq_100 hD hth cr_0_63
  have hK_0_64 := elq_98 hD hth cr_0_64
  have hK_0_65 := elq_182 hD hth cr_0_65
  have hK_0_66 := elq_183 hD hth cr_0_66
  have kz_0_139 := fdq_171 hD hth r0
  have nf0 : fc_1 PRD (20, [26, 0, 3], [50, 1, 1, 1139, 1064, 0, 2, 1, 0, 4, 14, 3, 1, 64, 4, 7, 6, 2, 0, 48, 2, 1, 139, 1, 2, 0, 1]) ws (vs) := ⟨nf_in hl rfl, sgq_1385 (vc_Mo_meets_5_0 (v_iv (n_v vs 1)) (v_iv (n_v vs 2)) (v_iv (n_v vs 3)) (v_iv (n_v vs 4)) (v_iv (n_v vs 5)) (v_iv (n_v vs 6)) (v_iv (n_v vs 7)) (v_iv (n_v vs 8)) (v_iv (n_v vs 9)) (v_iv (n_v vs 10)) (v_iv (n_v vs 11)) (v_iv (n_v vs 12)) (v_iv (n_v vs 13)) (v_iv (n_v vs 14)) (v_iv (n_v vs 15)) (v_iv (n_v vs 16)) (v_iv (n_v vs 17)) (v_iv (n_v vs 18)) (v_iv (n_v vs 19)) (v_iv (n_v vs 20)) (v_iv (n_v vs 21)) (v_iv (n_v vs 22)) (v_iv (n_v vs 23)) (v_iv (n_v vs 24)) (v_iv (n_v vs 25)) (v_iv (n_v vs 26)) (w_ei ws (w_ar ws (n_v vs 0) 62)) (w_ei ws (w_ar ws (n_v vs 0) 2)) (w_fi ws (n_v vs 0) 139) (w_fi ws (n_v vs 0) 5) (w_ei ws (w_ar ws (n_v vs 0) 64)) (w_ei ws (w_ar ws (n_v vs 0) 65)) (w_ei ws (w_ar ws (n_v vs 0) 63)) (w_ei ws (w_ar ws (n_v vs 0) 66)) k1 k2 k3 k4 k5 k6 k7 k8 k9 k10 k11 k12 k13 k14 k15 k16 k17 k18 k19 k20 k21 k22 k23 k24 k25 k26 d0 d1 d2 d3 (shm_12 f0) (shm_47 f1) (shm_1387 f2) (shm_1388 f3) (shm_1389 f4) (shm_1385 f5) (shm_12 f6) (shm_47 f7) (shm_1391 f8) (shm_1392 f9) (shm_1393 f10) (shm_47 f11) (shm_1387 f12) (shm_1388 f13) (shm_1389 f14) (shm_1385 f15) (shm_47 f16) (shm_1391 f17) (shm_1392 f18) (shm_1393 f19) (shm_1385 f20) (shm_12 f21) (shm_47 f22) (shm_1387 f23) (shm_1388 f24) (shm_1389 f25) (shm_1385 f26) (shm_12 f27) (shm_47 f28) (shm_1391 f29) (shm_1392 f30) (shm_1393 f31) (shm_47 f32) (shm_1387 f33) (shm_1388 f34) (shm_1389 f35) (shm_1385 f36) (shm_1882 f37) (shm_1882 f38) hK_0_62 hK_0_63 hK_0_64 hK_0_65 hK_0_66 kz_0_139)⟩
  refine ⟨(fun _ h => (by cases h)), [], trivial, ?_, (fun _ h => (by cases h))⟩
  rw [List.append_nil]
  exact List.forall_mem_cons.mpr ⟨⟨show (20 : Nat) < 100 from by decide, nf0⟩, (fun _ h => (by cases h))⟩
def n_Mo_meets_an : List an_T := [(210, [(0, (2, 0, 0, [165])), (1, (0, 0, 47, [])), (2, (0, 0, 24, [])), (3, (0, 0, 47, [])), (4, (0, 0, 24, [])), (5, (1, (Int.negSucc 300000010), 300000000, [])), (7, (1, (Int.negSucc 899999999), 900000000, [])), (9, (1, (Int.negSucc 300000010), 300000000, [])), (11, (1, (Int.negSucc 899999999), 900000000, [])), (13, (1, (Int.negSucc 300000010), 300000000, [])), (15, (1, (Int.negSucc 899999999), 900000000, [])), (17, (1, (Int.negSucc 300000010), 300000000, [])), (19, (1, (Int.negSucc 899999999), 900000000, [])), (21, (0, (Int.negSucc 0), 1, [])), (22, (0, (Int.negSucc 0), 1, [])), (23, (0, (Int.negSucc 0), 1, [])), (24, (0, (Int.negSucc 0), 1, []))], [(0, 0, 1, [])], (0, 0), [(0, 0, 99790)], [], [], [], 0, [], []), (211, [(0, (2, 0, 0, [165])), (1, (0, 0, 47, [])), (2, (0, 0, 24, [])), (3, (0, 0, 47, [])), (4, (0, 0, 24, [])), (5, (1, (Int.negSucc 300000010), 300000000, [])), (7, (1, (Int.negSucc 899999999), 900000000, [])), (9, (1, (Int.negSucc 300000010), 300000000, [])), (11, (1, (Int.negSucc 899999999), 900000000, [])), (13, (1, (Int.negSucc 300000010), 300000000, [])), (15, (1, (Int.negSucc 899999999), 900000000, [])), (17, (1, (Int.negSucc 300000010), 300000000, [])), (19, (1, (Int.negSucc 899999999), 900000000, [])), (21, (0, (Int.negSucc 0), 1, [])), (22, (0, (Int.negSucc 0), 1, [])), (23, (0, (Int.negSucc 0), 1, [])), (24, (0, (Int.negSucc 0), 1, []))], [], (0, 0), [(0, 0, 99789)], [], [], [], 0, [], []), (246, [(0, (2, 0, 0, [165])), (1, (0, 0, 47, [])), (2, (0, 0, 24, [])), (3, (0, 0, 47, [])), (4, (0, 0, 24, [])), (5, (1, (Int.negSucc 300000010), 300000000, [])), (7, (1, (Int.negSucc 899999999), 900000000, [])), (9, (1, (Int.negSucc 300000010), 300000000, [])), (11, (1, (Int.negSucc 899999999), 900000000, [])), (13, (1, (Int.negSucc 300000010), 300000000, [])), (15, (1, (Int.negSucc 899999999), 900000000, [])), (17, (1, (Int.negSucc 300000010), 300000000, [])), (19, (1, (Int.negSucc 899999999), 900000000, [])), (21, (0, (Int.negSucc 0), 1, [])), (22, (0, (Int.negSucc 0), 1, [])), (23, (0, (Int.negSucc 0), 1, [])), (24, (0, (Int.negSucc 0), 1, []))], [], (0, 0), [(0, 0, 99754)], [], [], [], 0, [], []), (247, [(0, (2, 0, 0, [165])), (1, (0, 0, 47, [])), (2, (0, 0, 24, [])), (3, (0, 0, 47, [])), (4, (0, 0, 24, [])), (5, (1, (Int.negSucc 300000010), 300000000, [])), (7, (1, (Int.negSucc 899999999), 900000000, [])), (9, (1, (Int.negSucc 300000010), 300000000, [])), (11, (1, (Int.negSucc 899999999), 900000000, [])), (13, (1, (Int.negSucc 300000010), 300000000, [])), (15, (1, (Int.negSucc 899999999), 900000000, [])), (17, (1, (Int.negSucc 300000010), 300000000, [])), (19, (1, (Int.negSucc 899999999), 900000000, [])), (21, (0, (Int.negSucc 0), 1, [])), (22, (0, (Int.negSucc 0), 1, [])), (23, (0, (Int.negSucc 0), 1, [])), (24, (0, (Int.negSucc 0), 1, []))], [(0, 0, 1, [])], (0, 0), [(0, 0, 99753)], [], [], [], 0, [], []), (284, [(0, (2, 0, 0, [165])), (1, (0, 0, 47, [])), (2, (0, 0, 24, [])), (3, (0, 0, 47, [])), (4, (0, 0, 24, [])), (5, (1, (Int.negSucc 300000010), 300000000, [])), (7, (1, (Int.negSucc 899999999), 900000000, [])), (9, (1, (Int.negSucc 300000010), 300000000, [])), (11, (1, (Int.negSucc 899999999), 900000000, [])), (13, (1, (Int.negSucc 300000010), 300000000, [])), (15, (1, (Int.negSucc 899999999), 900000000, [])), (17, (1, (Int.negSucc 300000010), 300000000, [])), (19, (1, (Int.negSucc 899999999), 900000000, [])), (21, (0, (Int.negSucc 0), 1, [])), (22, (0, (Int.negSucc 0), 1, [])), (23, (0, (Int.negSucc 0), 1, [])), (24, (0, (Int.negSucc 0), 1, [])), (25, (0, 0, 1, []))], [], (0, 0), [(0, 0, 99716)], [], [], [], 0, [], []), (285, [(0, (2, 0, 0, [165])), (1, (0, 0, 47, [])), (2, (0, 0, 24, [])), (3, (0, 0, 47, [])), (4, (0, 0, 24, [])), (5, (1, (Int.negSucc 300000010), 300000000, [])), (7, (1, (Int.negSucc 899999999), 900000000, [])), (9, (1, (Int.negSucc 300000010), 300000000, [])), (11, (1, (Int.negSucc 899999999), 900000000, [])), (13, (1, (Int.negSucc 300000010), 300000000, [])), (15, (1, (Int.negSucc 899999999), 900000000, [])), (17, (1, (Int.negSucc 300000010), 300000000, [])), (19, (1, (Int.negSucc 899999999), 900000000, [])), (21, (0, (Int.negSucc 0), 1, [])), (22, (0, (Int.negSucc 0), 1, [])), (23, (0, (Int.negSucc 0), 1, [])), (24, (0, (Int.negSucc 0), 1, [])), (25, (0, 0, 1, []))], [(0, 0, 1, [])], (0, 0), [(0, 0, 99715)], [], [], [], 0, [], []), (322, [(0, (2, 0, 0, [165])), (1, (0, 0, 47, [])), (2, (0, 0, 24, [])), (3, (0, 0, 47, [])), (4, (0, 0, 24, [])), (5, (1, (Int.negSucc 300000010), 300000000, [])), (7, (1, (Int.negSucc 899999999), 900000000, [])), (9, (1, (Int.negSucc 300000010), 300000000, [])), (11, (1, (Int.negSucc 899999999), 900000000, [])), (13, (1, (Int.negSucc 300000010), 300000000, [])), (15, (1, (Int.negSucc 899999999), 900000000, [])), (17, (1, (Int.negSucc 300000010), 300000000, [])), (19, (1, (Int.negSucc 899999999), 900000000, [])), (21, (0, (Int.negSucc 0), 1, [])), (22, (0, (Int.negSucc 0), 1, [])), (23, (0, (Int.negSucc 0), 1, [])), (24, (0, (Int.negSucc 0), 1, [])), (25, (0, 0, 1, [])), (26, (0, 0, 1, []))], [], (0, 0), [(0, 0, 99678)], [], [], [], 0, [], []), (323, [(0, (2, 0, 0, [165])), (1, (0, 0, 47, [])), (2, (0, 0, 24, [])), (3, (0, 0, 47, [])), (4, (0, 0, 24, [])), (5, (1, (Int.negSucc 300000010), 300000000, [])), (7, (1, (Int.negSucc 899999999), 900000000, [])), (9, (1, (Int.negSucc 300000010), 300000000, [])), (11, (1, (Int.negSucc 899999999), 900000000, [])), (13, (1, (Int.negSucc 300000010), 300000000, [])), (15, (1, (Int.negSucc 899999999), 900000000, [])), (17, (1, (Int.negSucc 300000010), 300000000, [])), (19, (1, (Int.negSucc 899999999), 900000000, [])), (21, (0, (Int.negSucc 0), 1, [])), (22, (0, (Int.negSucc 0), 1, [])), (23, (0, (Int.negSucc 0), 1, [])), (24, (0, (Int.negSucc 0), 1, [])), (25, (0, 0, 1, [])), (26, (0, 0, 1, []))], [(0, 0, 1, [])], (0, 0), [(0, 0, 99677)], [], [], [], 0, [], []), (360, [(0, (2, 0, 0, [165])), (1, (0, 0, 47, [])), (2, (0, 0, 24, [])), (3, (0, 0, 47, [])), (4, (0, 0, 24, [])), (5, (1, (Int.negSucc 300000010), 300000000, [])), (7, (1, (Int.negSucc 899999999), 900000000, [])), (9, (1, (Int.negSucc 300000010), 300000000, [])), (11, (1, (Int.negSucc 899999999), 900000000, [])), (13, (1, (Int.negSucc 300000010), 300000000, [])), (15, (1, (Int.negSucc 899999999), 900000000, [])), (17, (1, (Int.negSucc 300000010), 300000000, [])), (19, (1, (Int.negSucc 899999999), 900000000, [])), (21, (0, (Int.negSucc 0), 1, [])), (22, (0, (Int.negSucc 0), 1, [])), (23, (0, (Int.negSucc 0), 1, [])), (24, (0, (Int.negSucc 0), 1, [])), (25, (0, 0, 1, [])), (26, (0, 0, 1, [])), (27, (0, 0, 1, []))], [], (0, 0), [(0, 0, 99640)], [], [], [], 0, [], []), (361, [(0, (2, 0, 0, [165])), (1, (0, 0, 47, [])), (2, (0, 0, 24, [])), (3, (0, 0, 47, [])), (4, (0, 0, 24, [])), (5, (1, (Int.negSucc 300000010), 300000000, [])), (7, (1, (Int.negSucc 899999999), 900000000, [])), (9, (1, (Int.negSucc 300000010), 300000000, [])), (11, (1, (Int.negSucc 899999999), 900000000, [])), (13, (1, (Int.negSucc 300000010), 300000000, [])), (15, (1, (Int.negSucc 899999999), 900000000, [])), (17, (1, (Int.negSucc 300000010), 300000000, [])), (19, (1, (Int.negSucc 899999999), 900000000, [])), (21, (0, (Int.negSucc 0), 1, [])), (22, (0, (Int.negSucc 0), 1, [])), (23, (0, (Int.negSucc 0), 1, [])), (24, (0, (Int.negSucc 0), 1, [])), (25, (0, 0, 1, [])), (26, (0, 0, 1, [])), (27, (0, 0, 1, []))], [(0, 0, 1, [])], (0, 0), [(0, 0, 99639)], [], [], [], 0, [], []), (383, [(0, (2, 0, 0, [165])), (1, (0, 0, 47, [])), (2, (0, 0, 24, [])), (3, (0, 0, 47, [])), (4, (0, 0, 24, [])), (5, (1, (Int.negSucc 300000010), 300000000, [])), (7, (1, (Int.negSucc 899999999), 900000000, [])), (9, (1, (Int.negSucc 300000010), 300000000, [])), (11, (1, (Int.negSucc 899999999), 900000000, [])), (13, (1, (Int.negSucc 300000010), 300000000, [])), (15, (1, (Int.negSucc 899999999), 900000000, [])), (17, (1, (Int.negSucc 300000010), 300000000, [])), (19, (1, (Int.negSucc 899999999), 900000000, [])), (21, (0, (Int.negSucc 0), 1, [])), (22, (0, (Int.negSucc 0), 1, [])), (23, (0, (Int.negSucc 0), 1, [])), (24, (0, (Int.negSucc 0), 1, [])), (25, (0, 0, 1, [])), (26, (0, 0, 1, [])), (27, (0, 0, 1, [])), (28, (0, 0, 1, []))], [], (0, 0), [(0, 0, 99617)], [], [], [], 0, [], [])]
def t_Mo_meets_ct : ct_L := [(0, 1115, e_Mo_isLonger), (1, 1103, e_Mo_crossAtShared), (1, 1111, e_Mo_isShared), (13, 1085, e_Mo_ex_np), (40, 1088, e_Mo_ey_np), (73, 1085, e_Mo_ex_np), (106, 1088, e_Mo_ey_np), (136, 1085, e_Mo_ex_np), (166, 1088, e_Mo_ey_np), (202, 1085, e_Mo_ex_np), (238, 1088, e_Mo_ey_np), (291, 1091, e_Mo_turnOf_np), (300, 1099, e_Mo_signOf_np), (351, 1091, e_Mo_turnOf_np), (360, 1099, e_Mo_signOf_np), (411, 1091, e_Mo_turnOf_np), (420, 1099, e_Mo_signOf_np), (471, 1091, e_Mo_turnOf_np), (480, 1099, e_Mo_signOf_np), (672, 1107, e_Mo_isOn_np), (786, 1107, e_Mo_isOn_np), (900, 1107, e_Mo_isOn_np), (1014, 1107, e_Mo_isOn_np)]
set_option maxRecDepth 100000 in
theorem c_Mo_meets {l : Launch} {D : va_G} {kA : Nat → ClassId} (h_Mo_crossAtShared : ct_ok PRD l D kA GG y_Mo_crossAtShared z_Mo_crossAtShared e_Mo_crossAtShared) (h_Mo_ex : ct_ok PRD l D kA GG y_Mo_ex z_Mo_ex e_Mo_ex) (h_Mo_ey : ct_ok PRD l D kA GG y_Mo_ey z_Mo_ey e_Mo_ey) (h_Mo_isLonger : ct_ok PRD l D kA GG y_Mo_isLonger z_Mo_isLonger e_Mo_isLonger) (h_Mo_isOn : ct_ok PRD l D kA GG y_Mo_isOn z_Mo_isOn e_Mo_isOn) (h_Mo_isShared : ct_ok PRD l D kA GG y_Mo_isShared z_Mo_isShared e_Mo_isShared) (h_Mo_signOf : ct_ok PRD l D kA GG y_Mo_signOf z_Mo_signOf e_Mo_signOf) (h_Mo_turnOf : ct_ok PRD l D kA GG y_Mo_turnOf z_Mo_turnOf e_Mo_turnOf) : ct_ok PRD l D kA GG y_Mo_meets z_Mo_meets e_Mo_meets := chk_all_ok (FT := []) (PT := []) (CT := t_Mo_meets_ct) (KT := []) (NT := []) (AN := n_Mo_meets_an) (OT := [o_Mo_meets_0, o_Mo_meets_1, o_Mo_meets_2, o_Mo_meets_3, o_Mo_meets_4, o_Mo_meets_5]) 1 852 (List.forall_mem_cons.mpr ⟨oo_Mo_meets_0, List.forall_mem_cons.mpr ⟨oo_Mo_meets_1, List.forall_mem_cons.mpr ⟨oo_Mo_meets_2, List.forall_mem_cons.mpr ⟨oo_Mo_meets_3, List.forall_mem_cons.mpr ⟨oo_Mo_meets_4, List.forall_mem_cons.mpr ⟨oo_Mo_meets_5, List.forall_mem_nil _⟩⟩⟩⟩⟩⟩) (by decide +kernel) ⟨List.forall_mem_nil _, List.forall_mem_nil _, List.forall_mem_cons.mpr ⟨cl_static (y := y_Mo_isLonger) h_Mo_isLonger wm_3764 wm_9 wm_3762 wm_3763 ⟨by decide, by decide, by decide +kernel⟩ (by decide), List.forall_mem_cons.mpr ⟨cl_virtual (y := y_Mo_crossAtShared) (ci := 13) rfl rfl ⟨_, _, rfl⟩ (by decide +kernel) h_Mo_crossAtShared wm_3752 wm_9 wm_3749 wm_3751 wv_22_12 ⟨by decide, by decide, by decide +kernel⟩ (by decide), List.forall_mem_cons.mpr ⟨cl_virtual (y := y_Mo_isShared) (ci := 13) rfl rfl ⟨_, _, rfl⟩ (by decide +kernel) h_Mo_isShared wm_3761 wm_9 wm_3758 wm_3760 wv_22_13 ⟨by decide, by decide, by decide +kernel⟩ (by decide), List.forall_mem_cons.mpr ⟨cl_nopa (cl_virtual (y := y_Mo_ex) (ci := 13) rfl rfl ⟨_, _, rfl⟩ (by decide +kernel) h_Mo_ex wm_3730 wm_9 wm_3727 wm_3729 wv_22_9 ⟨by decide, by decide, by decide +kernel⟩ (by decide)), List.forall_mem_cons.mpr ⟨cl_nopa (cl_virtual (y := y_Mo_ey) (ci := 13) rfl rfl ⟨_, _, rfl⟩ (by decide +kernel) h_Mo_ey wm_3734 wm_9 wm_3731 wm_3733 wv_22_10 ⟨by decide, by decide, by decide +kernel⟩ (by decide)), List.forall_mem_cons.mpr ⟨cl_nopa (cl_virtual (y := y_Mo_ex) (ci := 13) rfl rfl ⟨_, _, rfl⟩ (by decide +kernel) h_Mo_ex wm_3730 wm_9 wm_3727 wm_3729 wv_22_9 ⟨by decide, by decide, by decide +kernel⟩ (by decide)), List.forall_mem_cons.mpr ⟨cl_nopa (cl_virtual (y := y_Mo_ey) (ci := 13) rfl rfl ⟨_, _, rfl⟩ (by decide +kernel) h_Mo_ey wm_3734 wm_9 wm_3731 wm_3733 wv_22_10 ⟨by decide, by decide, by decide +kernel⟩ (by decide)), List.forall_mem_cons.mpr ⟨cl_nopa (cl_virtual (y := y_Mo_ex) (ci := 13) rfl rfl ⟨_, _, rfl⟩ (by decide +kernel) h_Mo_ex wm_3730 wm_9 wm_3727 wm_3729 wv_22_9 ⟨by decide, by decide, by decide +kernel⟩ (by decide)), List.forall_mem_cons.mpr ⟨cl_nopa (cl_virtual (y := y_Mo_ey) (ci := 13) rfl rfl ⟨_, _, rfl⟩ (by decide +kernel) h_Mo_ey wm_3734 wm_9 wm_3731 wm_3733 wv_22_10 ⟨by decide, by decide, by decide +kernel⟩ (by decide)), List.forall_mem_cons.mpr ⟨cl_nopa (cl_virtual (y := y_Mo_ex) (ci := 13) rfl rfl ⟨_, _, rfl⟩ (by decide +kernel) h_Mo_ex wm_3730 wm_9 wm_3727 wm_3729 wv_22_9 ⟨by decide, by decide, by decide +kernel⟩ (by decide)), List.forall_mem_cons.mpr ⟨cl_nopa (cl_virtual (y := y_Mo_ey) (ci := 13) rfl rfl ⟨_, _, rfl⟩ (by decide +kernel) h_Mo_ey wm_3734 wm_9 wm_3731 wm_3733 wv_22_10 ⟨by decide, by decide, by decide +kernel⟩ (by decide)), List.forall_mem_cons.mpr ⟨cl_nopa (cl_static (y := y_Mo_turnOf) h_Mo_turnOf wm_3745 wm_9 wm_3743 wm_3744 ⟨by decide, by decide, by decide +kernel⟩ (by decide)), List.forall_mem_cons.mpr ⟨cl_nopa (cl_static (y := y_Mo_signOf) h_Mo_signOf wm_3748 wm_9 wm_3746 wm_3747 ⟨by decide, by decide, by decide +kernel⟩ (by decide)), List.forall_mem_cons.mpr ⟨cl_nopa (cl_static (y := y_Mo_turnOf) h_Mo_turnOf wm_3745 wm_9 wm_3743 wm_3744 ⟨by decide, by decide, by decide +kernel⟩ (by decide)), List.forall_mem_cons.mpr ⟨cl_nopa (cl_static (y := y_Mo_signOf) h_Mo_signOf wm_3748 wm_9 wm_3746 wm_3747 ⟨by decide, by decide, by decide +kernel⟩ (by decide)), List.forall_mem_cons.mpr ⟨cl_nopa (cl_static (y := y_Mo_turnOf) h_Mo_turnOf wm_3745 wm_9 wm_3743 wm_3744 ⟨by decide, by decide, by decide +kernel⟩ (by decide)), List.forall_mem_cons.mpr ⟨cl_nopa (cl_static (y := y_Mo_signOf) h_Mo_signOf wm_3748 wm_9 wm_3746 wm_3747 ⟨by decide, by decide, by decide +kernel⟩ (by decide)), List.forall_mem_cons.mpr ⟨cl_nopa (cl_static (y := y_Mo_turnOf) h_Mo_turnOf wm_3745 wm_9 wm_3743 wm_3744 ⟨by decide, by decide, by decide +kernel⟩ (by decide)), List.forall_mem_cons.mpr ⟨cl_nopa (cl_static (y := y_Mo_signOf) h_Mo_signOf wm_3748 wm_9 wm_3746 wm_3747 ⟨by decide, by decide, by decide +kernel⟩ (by decide)), List.forall_mem_cons.mpr ⟨cl_nopa (cl_static (y := y_Mo_isOn) h_Mo_isOn wm_3755 wm_9 wm_3753 wm_3754 ⟨by decide, by decide, by decide +kernel⟩ (by decide)), List.forall_mem_cons.mpr ⟨cl_nopa (cl_static (y := y_Mo_isOn) h_Mo_isOn wm_3755 wm_9 wm_3753 wm_3754 ⟨by decide, by decide, by decide +kernel⟩ (by decide)), List.forall_mem_cons.mpr ⟨cl_nopa (cl_static (y := y_Mo_isOn) h_Mo_isOn wm_3755 wm_9 wm_3753 wm_3754 ⟨by decide, by decide, by decide +kernel⟩ (by decide)), List.forall_mem_cons.mpr ⟨cl_nopa (cl_static (y := y_Mo_isOn) h_Mo_isOn wm_3755 wm_9 wm_3753 wm_3754 ⟨by decide, by decide, by decide +kernel⟩ (by decide)), List.forall_mem_nil _⟩⟩⟩⟩⟩⟩⟩⟩⟩⟩⟩⟩⟩⟩⟩⟩⟩⟩⟩⟩⟩⟩⟩, List.forall_mem_nil _, List.forall_mem_nil _, GG_pl⟩ (by decide +kernel)
set_option maxHeartbeats 4000000 in
theorem vc_Mo_edge_0_0 (x1 : Int) (all_0 : Int → Int) (r_0 : Int) (now_0 : Int → Int) (latest_0 : Int → Int) (k1 : 0 ≤ x1 ∧ x1 ≤ 3) (f3 : ROWS (all_0) (now_0) (latest_0)) (f4 : r_0 = ((16709 * x1) + (539 * now_0 (x1)))) : SGR (r_0) (all_0) := by
  exact rows_at (g := x1) ‹ROWS _ _ _› (by omega) (by omega) (by omega)
def o_Mo_edge_0 : or_T := (74, 13, [(1, (0, 0, 3, []))], [(20, [0], [60, 0, 3, 198, 2, 3, 4]), (20, [0, 1], [50, 1, 1, 5, 3, 1, 3, 2, 0, 5, 4, 6, 6, 2, 0, 16709, 1, 1, 6, 2, 0, 539, 3, 0, 3, 1, 1])], [], [], [(20, [0], [60, 1, 1, 197, 5, 2])], [], [])
theorem oo_Mo_edge_0 {kA : Nat → ClassId} : or_ok PRD kA GG o_Mo_edge_0 := by
  refine or_mk fun A ta ws vs hD hth hl => ?_
  intro t1 k1 f3 f4
  have nf0 : fc_1 PRD (20, [0], [60, 1, 1, 197, 5, 2]) ws (vs) := ⟨nf_in hl rfl, sgq_1403 (vc_Mo_edge_0_0 (v_iv (n_v vs 1)) (w_ei ws (w_ar ws (n_v vs 0) 2)) (w_fi ws (n_v vs 0) 5) (w_ei ws (w_ar ws (n_v vs 0) 3)) (w_ei ws (w_ar ws (n_v vs 0) 4)) k1 (shm_1199 f3) (shm_1007 f4))⟩
  refine ⟨(fun _ h => (by cases h)), [], trivial, ?_, (fun _ h => (by cases h))⟩
  rw [List.append_nil]
  exact List.forall_mem_cons.mpr ⟨⟨show (20 : Nat) < 100 from by decide, nf0⟩, (fun _ h => (by cases h))⟩
def n_Mo_edge_an : List an_T := []
def t_Mo_edge_ct : ct_L := [(0, 387, e_Mo_in), (0, 521, e_Mo_isPlace), (1, 394, e_Mo_tail), (1, 398, e_Mo_head), (1, 401, e_Mo_edges), (1, 527, e_Mo_take), (1, 553, e_Mo_one), (1, 668, e_Mo_blocks), (1, 689, e_Mo_plane), (1, 737, e_Mo_weight), (1, 739, e_Mo_isBridge)]
set_option maxRecDepth 100000 in
theorem c_Mo_edge {l : Launch} {D : va_G} {kA : Nat → ClassId} (h_Mo_blocks : ct_ok PRD l D kA GG y_Mo_blocks z_Mo_blocks e_Mo_blocks) (h_Mo_edges : ct_ok PRD l D kA GG y_Mo_edges z_Mo_edges e_Mo_edges) (h_Mo_head : ct_ok PRD l D kA GG y_Mo_head z_Mo_head e_Mo_head) (h_Mo_in : ct_ok PRD l D kA GG y_Mo_in z_Mo_in e_Mo_in) (h_Mo_isBridge : ct_ok PRD l D kA GG y_Mo_isBridge z_Mo_isBridge e_Mo_isBridge) (h_Mo_isPlace : ct_ok PRD l D kA GG y_Mo_isPlace z_Mo_isPlace e_Mo_isPlace) (h_Mo_one : ct_ok PRD l D kA GG y_Mo_one z_Mo_one e_Mo_one) (h_Mo_plane : ct_ok PRD l D kA GG y_Mo_plane z_Mo_plane e_Mo_plane) (h_Mo_tail : ct_ok PRD l D kA GG y_Mo_tail z_Mo_tail e_Mo_tail) (h_Mo_take : ct_ok PRD l D kA GG y_Mo_take z_Mo_take e_Mo_take) (h_Mo_weight : ct_ok PRD l D kA GG y_Mo_weight z_Mo_weight e_Mo_weight) : ct_ok PRD l D kA GG y_Mo_edge z_Mo_edge e_Mo_edge := chk_all_ok (FT := [(32, 13, 17)]) (PT := []) (CT := t_Mo_edge_ct) (KT := []) (NT := []) (AN := n_Mo_edge_an) (OT := [o_Mo_edge_0]) 0 328 (List.forall_mem_cons.mpr ⟨oo_Mo_edge_0, List.forall_mem_nil _⟩) (by decide +kernel) ⟨List.forall_mem_cons.mpr ⟨gf_Mo_32, List.forall_mem_nil _⟩, List.forall_mem_nil _, List.forall_mem_cons.mpr ⟨cl_static (y := y_Mo_in) h_Mo_in wm_2971 wm_9 wm_2969 wm_2970 ⟨by decide, by decide, by decide +kernel⟩ (by decide), List.forall_mem_cons.mpr ⟨cl_static (y := y_Mo_isPlace) h_Mo_isPlace wm_2978 wm_9 wm_2976 wm_2977 ⟨by decide, by decide, by decide +kernel⟩ (by decide), List.forall_mem_cons.mpr ⟨cl_virtual (y := y_Mo_tail) (ci := 13) rfl rfl ⟨_, _, rfl⟩ (by decide +kernel) h_Mo_tail wm_3045 wm_9 wm_3042 wm_3044 wv_13_8 ⟨by decide, by decide, by decide +kernel⟩ (by decide), List.forall_mem_cons.mpr ⟨cl_virtual (y := y_Mo_head) (ci := 13) rfl rfl ⟨_, _, rfl⟩ (by decide +kernel) h_Mo_head wm_3049 wm_9 wm_3046 wm_3048 wv_13_9 ⟨by decide, by decide, by decide +kernel⟩ (by decide), List.forall_mem_cons.mpr ⟨cl_virtual (y := y_Mo_edges) (ci := 13) rfl rfl ⟨_, _, rfl⟩ (by decide +kernel) h_Mo_edges wm_3037 wm_9 wm_3034 wm_3036 wv_13_6 ⟨by decide, by decide, by decide +kernel⟩ (by decide), List.forall_mem_cons.mpr ⟨cl_virtual (y := y_Mo_take) (ci := 13) rfl rfl ⟨_, _, rfl⟩ (by decide +kernel) h_Mo_take wm_3091 wm_9 wm_3088 wm_3090 wv_14_2 ⟨by decide, by decide, by decide +kernel⟩ (by decide), List.forall_mem_cons.mpr ⟨cl_virtual (y := y_Mo_one) (ci := 13) rfl rfl ⟨_, _, rfl⟩ (by decide +kernel) h_Mo_one wm_3299 wm_9 wm_3296 wm_3298 wv_16_15 ⟨by decide, by decide, by decide +kernel⟩ (by decide), List.forall_mem_cons.mpr ⟨cl_virtual (y := y_Mo_blocks) (ci := 13) rfl rfl ⟨_, _, rfl⟩ (by decide +kernel) h_Mo_blocks wm_3155 wm_9 wm_3152 wm_3154 wv_14_14 ⟨by decide, by decide, by decide +kernel⟩ (by decide), List.forall_mem_cons.mpr ⟨cl_virtual (y := y_Mo_plane) (ci := 13) rfl rfl ⟨_, _, rfl⟩ (by decide +kernel) h_Mo_plane wm_3147 wm_9 wm_3144 wm_3146 wv_14_12 ⟨by decide, by decide, by decide +kernel⟩ (by decide), List.forall_mem_cons.mpr ⟨cl_virtual (y := y_Mo_weight) (ci := 13) rfl rfl ⟨_, _, rfl⟩ (by decide +kernel) h_Mo_weight wm_3339 wm_9 wm_3336 wm_3338 wv_17_7 ⟨by decide, by decide, by decide +kernel⟩ (by decide), List.forall_mem_cons.mpr ⟨cl_virtual (y := y_Mo_isBridge) (ci := 13) rfl rfl ⟨_, _, rfl⟩ (by decide +kernel) h_Mo_isBridge wm_3343 wm_9 wm_3340 wm_3342 wv_17_8 ⟨by decide, by decide, by decide +kernel⟩ (by decide), List.forall_mem_nil _⟩⟩⟩⟩⟩⟩⟩⟩⟩⟩⟩, List.forall_mem_nil _, List.forall_mem_nil _, GG_pl⟩ (by decide +kernel)
def o_Pn_layBars_0 : or_T := (8, 7, [], [], [], [], [(24, [0, 0], [])], [], [])
theorem oo_Pn_layBars_0 {kA : Nat → ClassId} : or_ok PRD kA GG o_Pn_layBars_0 := by
  refine or_mk fun A ta ws vs hD hth hl => ?_
  have nf0 : fc_1 PRD (24, [0, 0], []) ws (vs) := by
    refine ⟨nf_in hl rfl, sgq_1 ?_⟩
    · show n_v vs 0 = n_v vs 0
      first | rfl | simp only [true_and]
  refine ⟨(fun _ h => (by cases h)), [], trivial, ?_, (fun _ h => (by cases h))⟩
  rw [List.append_nil]
  exact List.forall_mem_cons.mpr ⟨⟨show (24 : Nat) < 100 from by decide, nf0⟩, (fun _ h => (by cases h))⟩
set_option maxHeartbeats 4000000 in
theorem vc_Pn_layBars_1_1 (x5 : Int) (x10 : Int) (gy : Int) (k5 : 0 ≤ x5 ∧ x5 ≤ 3072) (ey2 : gy = x5) : 1 * gy + ((-1) * x5 + 0) ≤ 0 := by
  first
    | omega
    | (have q := fge_lfa ‹FGE _ _› ‹LFA _ _ _› (by omega) (by omega); omega)
    | (have q := bny_at ‹BNY _ _› (by omega) (by omega); omega)
    | (have q := (‹BY5 _ _ _›).2 x10 (by omega) (by omega); omega)
  
set_option maxHeartbeats 4000000 in
theorem vc_Pn_layBars_1_2 (x5 : Int) (x10 : Int) (gy : Int) (k5 : 0 ≤ x5 ∧ x5 ≤ 3072) (ey2 : gy = x5) : (-1) * gy + (1 * x5 + 0) ≤ 0 := by
  first
    | omega
    | (have q := fge_lfa ‹FGE _ _› ‹LFA _ _ _› (by omega) (by omega); omega)
    | (have q := bny_at ‹BNY _ _› (by omega) (by omega); omega)
    | (have q := (‹BY5 _ _ _›).2 x10 (by omega) (by omega); omega)
  
set_option maxHeartbeats 4000000 in
theorem vc_Pn_layBars_1_4 (nodes_0o7 : Int) (line_0 : Int → Int) (f4 : LCV (nodes_0o7) (line_0)) (kz_7_0 : 0 ≤ nodes_0o7 ∧ nodes_0o7 ≤ 24) : LCV (nodes_0o7) (line_0) := by
  first
    | assumption
  
def o_Pn_layBars_1 : or_T := (40, 12, [(0, (2, 0, 0, [7])), (4, (2, 0, 0, [12])), (5, (0, 0, 3072, [])), (6, (2, 0, 0, [7])), (7, (2, 0, 0, [3])), (8, (2, 0, 0, [5])), (10, (0, 0, 24, [])), (11, (0, 0, 24, []))], [(7, [10, 11], [3]), (9, [11, 7], [0]), (20, [8, 7], [60, 1, 1, 639, 1001, 16]), (20, [4, 5], [62, 2000000]), (20, [6, 7], [60, 1, 1, 911, 1000, 2]), (24, [0, 6], [])], [], [(2, 0, 0, [12]), (0, 0, 3072, [])], [(24, [4, 12], []), (23, [13, 5], [0, 1, -1]), (23, [13, 5], [0, -1, 1]), (20, [12, 13], [62, 2000000]), (20, [6, 7], [60, 1, 1, 911, 1000, 2])], [], [(10, 11, 0, 4294967296)])
theorem oo_Pn_layBars_1 {kA : Nat → ClassId} : or_ok PRD kA GG o_Pn_layBars_1 := by
  refine or_mk fun A ta ws vs hD hth hl => ?_
  intro t0 r0 t4 r4 t5 k5 t6 r6 t7 r7 t8 r8 t10 k10 t11 k11 d0 f0 f1 f2 f3 f4 f5
  replace f0 := shm_2 f0
  replace f1 := shm_175 f1
  replace f2 := shm_1185 f2
  replace f3 := shm_173 f3
  replace f4 := shm_866 f4
  replace f5 := shm_5 f5
  have q6 : n_v vs 6 = n_v vs 0 := f5.symm
  simp only [q6] at f4
  have cr_0_2 := fdq_222 hD hth r0
  have cr_8_16 := fdq_95 hD hth r8
  have g1 : v_iv (n_v vs 11) = w_fi ws (n_v vs 7) 0 := congrArg v_iv f1
  have hK_0_2 := elq_138 hD hth cr_0_2
  have hK_8_16 := elq_44 hD hth cr_8_16
  have kz_7_0 := fdq_23 hD hth r7
  have kz_7_1 := fdq_38 hD hth r7
  obtain ⟨y, ey, hy⟩ := iv_ex (ta := ta) (lo := 0) (hi := 3072) (z := v_iv (n_v vs 5)) (by omega) (by omega) (by omega) (by omega)
  have ey2 : v_iv (Value.int y) = v_iv (n_v vs 5) := ey
  have ey3 : 0 ≤ v_iv (Value.int y) ∧ v_iv (Value.int y) ≤ 3072 := tv_rng hy
  have e_4 : n_v (vs ++ [n_v vs 4, Value.int y]) 4 = n_v vs 4 := n_v_old (by rw [hl]; decide)
  have e_5 : n_v (vs ++ [n_v vs 4, Value.int y]) 5 = n_v vs 5 := n_v_old (by rw [hl]; decide)
  have e_6 : n_v (vs ++ [n_v vs 4, Value.int y]) 6 = n_v vs 6 := n_v_old (by rw [hl]; decide)
  have e_7 : n_v (vs ++ [n_v vs 4, Value.int y]) 7 = n_v vs 7 := n_v_old (by rw [hl]; decide)
  have e_12 : n_v (vs ++ [n_v vs 4, Value.int y]) 12 = n_v vs 4 := n_v_new0 hl
  have e_13 : n_v (vs ++ [n_v vs 4, Value.int y]) 13 = Value.int y := n_v_new1 hl
  have nf0 : fc_1 PRD (24, [4, 12], []) ws (vs ++ [n_v vs 4, Value.int y]) := by
    refine ⟨nf_inA hl rfl, sgq_5 ?_⟩
    · show n_v (vs ++ [n_v vs 4, Value.int y]) 4 = n_v (vs ++ [n_v vs 4, Value.int y]) 12
      first | rfl | simp only [e_4, e_12, q6]
  have nf1 : fc_1 PRD (23, [13, 5], [0, 1, -1]) ws (vs ++ [n_v vs 4, Value.int y]) := by
    refine ⟨nf_inA hl rfl, sgq_7 ?_⟩
    · show 1 * v_iv (n_v (vs ++ [n_v vs 4, Value.int y]) 13) + ((-1) * v_iv (n_v (vs ++ [n_v vs 4, Value.int y]) 5) + 0) ≤ 0
      simp only [e_5, e_13]
      exact vc_Pn_layBars_1_1 (v_iv (n_v vs 5)) (v_iv (n_v vs 10)) (v_iv (Value.int y)) k5 ey2
  have nf2 : fc_1 PRD (23, [13, 5], [0, -1, 1]) ws (vs ++ [n_v vs 4, Value.int y]) := by
    refine ⟨nf_inA hl rfl, sgq_22 ?_⟩
    · show (-1) * v_iv (n_v (vs ++ [n_v vs 4, Value.int y]) 13) + (1 * v_iv (n_v (vs ++ [n_v vs 4, Value.int y]) 5) + 0) ≤ 0
      simp only [e_5, e_13]
      exact vc_Pn_layBars_1_2 (v_iv (n_v vs 5)) (v_iv (n_v vs 10)) (v_iv (Value.int y)) k5 ey2
  have nf3 : fc_1 PRD (20, [12, 13], [62, 2000000]) ws (vs ++ [n_v vs 4, Value.int y]) := by
    refine ⟨nf_inA hl rfl, sgq_173 ?_⟩
    · show HY ws (n_v (vs ++ [n_v vs 4, Value.int y]) 12) (v_iv (n_v (vs ++ [n_v vs 4, Value.int y]) 13) + (((2000000 : Nat) : Int) - 2000000))
      simp only [e_12, e_13]
      exact hy_le f3 (by omega)
  have nf4 : fc_1 PRD (20, [6, 7], [60, 1, 1, 911, 1000, 2]) ws (vs ++ [n_v vs 4, Value.int y]) := by
    refine ⟨nf_inA hl rfl, sgq_866 ?_⟩
    · show LCV (w_fi ws (n_v (vs ++ [n_v vs 4, Value.int y]) 7) 0) (w_ei ws (w_ar ws (n_v (vs ++ [n_v vs 4, Value.int y]) 6) 2))
      simp only [e_6, e_7, q6]
      exact vc_Pn_layBars_1_4 (w_fi ws (n_v vs 7) 0) (w_ei ws (w_ar ws (n_v vs 0) 2)) f4 kz_7_0
  exact ⟨(fun _ h => (by cases h)), [n_v vs 4, Value.int y], ag_two t4 hy, List.forall_mem_cons.mpr ⟨⟨show (24 : Nat) < 100 from by decide, nf0⟩, List.forall_mem_cons.mpr ⟨⟨show (23 : Nat) < 100 from by decide, nf1⟩, List.forall_mem_cons.mpr ⟨⟨show (23 : Nat) < 100 from by decide, nf2⟩, List.forall_mem_cons.mpr ⟨⟨show (20 : Nat) < 100 from by decide, nf3⟩, List.forall_mem_cons.mpr ⟨⟨show (20 : Nat) < 100 from by decide, nf4⟩, (fun _ h => (by cases h))⟩⟩⟩⟩⟩, (fun _ h => (by cases h))⟩
set_option maxHeartbeats 4000000 in
theorem vc_Pn_layBars_2_0 (x10 : Int) (x18 : Int) (nodes_0o7 : Int) (line_0 : Int → Int) (y_0o9 : Int → Int) (faceOf_0o8 : Int → Int) (edges_0o7 : Int) (line_1 : Int → Int) (nodes_1o7 : Int) (y_1o9 : Int → Int) (faceOf_1o8 : Int → Int) (edges_1o7 : Int) (k18 : 1 ≤ x18 ∧ x18 ≤ 1) (fe_7_0_1 : nodes_0o7 = nodes_1o7) (fe_7_1_1 : edges_0o7 = edges_1o7) (hE_0_2_1 : ∀ j : Int, line_0 j = line_1 j) (hE_8_16_1 : ∀ j : Int, faceOf_0o8 j = faceOf_1o8 j) (hE_9_3_1 : ∀ j : Int, y_0o9 j = y_1o9 j) (kz_7_0 : 0 ≤ nodes_0o7 ∧ nodes_0o7 ≤ 24) (kz_7_1 : 0 ≤ edges_0o7 ∧ edges_0o7 ≤ 48) : 1 ≤ x18 := by
  subst fe_7_0_1
  subst fe_7_1_1
  have e_hE_0_2_1 := funext hE_0_2_1; subst e_hE_0_2_1
  have e_hE_8_16_1 := funext hE_8_16_1; subst e_hE_8_16_1
  have e_hE_9_3_1 := funext hE_9_3_1; subst e_hE_9_3_1
  first
    | omega
    | (have q := fge_lfa ‹FGE _ _› ‹LFA _ _ _› (by omega) (by omega); omega)
    | (have q := bny_at ‹BNY _ _› (by omega) (by omega); omega)
    | (have q := (‹BY5 _ _ _›).2 x10 (by omega) (by omega); omega)
  
def o_Pn_layBars_2 : or_T := (63, 19, [(0, (2, 0, 0, [7])), (4, (2, 0, 0, [12])), (5, (0, 0, 3072, [])), (6, (2, 0, 0, [7])), (7, (2, 0, 0, [3])), (8, (2, 0, 0, [5])), (9, (2, 0, 0, [0])), (10, (0, 0, 24, [])), (11, (0, 0, 24, [])), (12, (2, 0, 0, [12])), (13, (0, 0, 3072, [])), (15, (2, 0, 0, [108])), (16, (0, 0, 0, [])), (18, (0, 1, 1, []))], [(9, [15, 6], [8]), (9, [11, 7], [0]), (24, [4, 12], []), (23, [13, 5], [0, 1, -1]), (23, [13, 5], [0, -1, 1]), (20, [6, 7], [60, 1, 1, 911, 1000, 2]), (20, [6, 7], [60, 1, 1, 911, 1000, 2]), (24, [0, 6], []), (20, [12, 13], [62, 2000000]), (20, [7, 9], [60, 1, 1, 912, 0, 1003]), (20, [8, 7], [60, 1, 1, 639, 1001, 16]), (100, [15, 16, 17], []), (23, [13, 5], [0, 1, -1]), (23, [13, 5], [0, -1, 1]), (20, [6, 7], [60, 1, 1, 911, 1000, 2]), (20, [6, 7], [60, 1, 1, 911, 1000, 2]), (20, [7, 9], [60, 1, 1, 912, 0, 1003]), (20, [8, 7], [60, 1, 1, 639, 1001, 16]), (102, [14], [162259276829213363391578010288128]), (23, [13, 5], [0, 1, -1]), (23, [13, 5], [0, -1, 1]), (102, [13], [32768]), (23, [13, 5], [0, 1, -1]), (23, [13, 5], [0, -1, 1]), (7, [10, 11], [3])], [], [], [(20, [18], [50, 0, 0, 0, 2, 0, 1, 1, 0]), (20, [4, 5], [62, 2000000])], [], [(10, 11, 0, 4294967296)])
theorem oo_Pn_layBars_2 {kA : Nat → ClassId} : or_ok PRD kA GG o_Pn_layBars_2 := by
  refine or_mk fun A ta ws vs hD hth hl => ?_
  intro t0 r0 t4 r4 t5 k5 t6 r6 t7 r7 t8 r8 t9 r9 t10 k10 t11 k11 t12 r12 t13 k13 t15 r15 t16 k16 t18 k18 d0 f0 f1 f2 f3 f4 f5 f6 f7 f8 f9 f10 ta1 w1 le1 s1 f12 f13 f14 f15 f16 f17 ta2 w2 le2 s2 f19 f20 ta3 w3 le3 s3 f22 f23 f24
  replace f0 := shm_143 f0
  replace f1 := shm_175 f1
  replace f2 := shm_5 f2
  replace f3 := shm_7 f3
  replace f4 := shm_22 f4
  replace f5 := shm_866 f5
  replace f6 := shm_866 f6
  replace f7 := shm_5 f7
  replace f8 := shm_173 f8
  replace f9 := shm_868 f9
  replace f10 := shm_1185 f10
  have s1 : (∀ b j, w_el ws b j = if b = v_ad (n_v vs 15) ∧ j = (v_iv (n_v vs 16)).toNat then v_iv (n_v vs 17) else w_el w1 b j) ∧ ∀ b k, w_fd ws b k = w_fd w1 b k := s1.2
  replace f12 := shm_7 f12
  replace f13 := shm_22 f13
  replace f14 := shm_866 f14
  replace f15 := shm_866 f15
  replace f16 := shm_868 f16
  replace f17 := shm_1185 f17
  replace f19 := shm_7 f19
  replace f20 := shm_22 f20
  replace f22 := shm_7 f22
  replace f23 := shm_22 f23
  replace f24 := shm_2 f24
  have q12 : n_v vs 12 = n_v vs 4 := f2.symm
  have q6 : n_v vs 6 = n_v vs 0 := f7.symm
  simp only [q6, q12] at f0 f5 f6 f8 f14 f15
  have ar_0_2_1 : w_ar w1 (n_v vs 0) 2 = w_ar ws (n_v vs 0) 2 := congrArg v_ad (s1.2 _ _).symm
  have cr_0_2 := fdq_222 hD hth r0
  have ar_0_8_1 : w_ar w1 (n_v vs 0) 8 = w_ar ws (n_v vs 0) 8 := congrArg v_ad (s1.2 _ _).symm
  have cr_0_8 := fdq_310 hD hth r0
  have ar_8_16_1 : w_ar w1 (n_v vs 8) 16 = w_ar ws (n_v vs 8) 16 := congrArg v_ad (s1.2 _ _).symm
  have cr_8_16 := fdq_95 hD hth r8
  have ar_9_3_1 : w_ar w1 (n_v vs 9) 3 = w_ar ws (n_v vs 9) 3 := congrArg v_ad (s1.2 _ _).symm
  have cr_9_3 := fdq_54 hD hth r9
  have ad_15 : v_ad (n_v vs 15) = w_ar ws (n_v vs 0) 8 := congrArg v_ad f0
  have g1 : v_iv (n_v vs 11) = w_fi ws (n_v vs 7) 0 := congrArg v_iv f1
  simp only [ar_0_2_1, ar_9_3_1, ar_8_16_1] at f14 f15 f16 f17
  have fe_7_0_1 : w_fi ws (n_v vs 7) 0 = w_fi w1 (n_v vs 7) 0 := congrArg v_iv (s1.2 _ _)
  have fe_7_1_1 : w_fi ws (n_v vs 7) 1 = w_fi w1 (n_v vs 7) 1 := congrArg v_iv (s1.2 _ _)
  have hE_0_2_1 : ∀ j : Int, w_ei ws (w_ar ws (n_v vs 0) 2) j = w_ei w1 (w_ar ws (n_v vs 0) 2) j := el_kp s1.1 r15 cr_0_2 (by decide)
  have hK_0_2 := elq_138 hD hth cr_0_2
  have hE_0_8_1 : ∀ j : Int, 0 ≤ j → (j = v_iv (n_v vs 16) → w_ei ws (w_ar ws (n_v vs 0) 8) j = v_iv (n_v vs 17)) ∧ (j ≠ v_iv (n_v vs 16) → w_ei ws (w_ar ws (n_v vs 0) 8) j = w_ei w1 (w_ar ws (n_v vs 0) 8) j) := fun j hj => ⟨fun h => by unfold w_ei; rw [s1.1, if_pos ⟨ad_15.symm, by rw [h]⟩], fun h => by unfold w_ei; rw [s1.1, if_neg (fun e => h (by have := e.2; omega))]⟩
  have hK_0_8 := elq_193 hD hth cr_0_8
  have hE_8_16_1 : ∀ j : Int, w_ei ws (w_ar ws (n_v vs 8) 16) j = w_ei w1 (w_ar ws (n_v vs 8) 16) j := el_kp s1.1 r15 cr_8_16 (by decide)
  have hK_8_16 := elq_44 hD hth cr_8_16
  have hE_9_3_1 : ∀ j : Int, w_ei ws (w_ar ws (n_v vs 9) 3) j = w_ei w1 (w_ar ws (n_v vs 9) 3) j := el_kp s1.1 r15 cr_9_3 (by decide)
  have hK_9_3 := elq_12 hD hth cr_9_3
  have kz_7_0 := fdq_23 hD hth r7
  have kz_7_1 := fdq_38 hD hth r7
  have nf0 : fc_1 PRD (20, [18], [50, 0, 0, 0, 2, 0, 1, 1, 0]) ws (vs) := ⟨nf_in hl rfl, sgq_697 (vc_Pn_layBars_2_0 (v_iv (n_v vs 10)) (v_iv (n_v vs 18)) (w_fi ws (n_v vs 7) 0) (w_ei ws (w_ar ws (n_v vs 0) 2)) (w_ei ws (w_ar ws (n_v vs 9) 3)) (w_ei ws (w_ar ws (n_v vs 8) 16)) (w_fi ws (n_v vs 7) 1) (w_ei w1 (w_ar ws (n_v vs 0) 2)) (w_fi w1 (n_v vs 7) 0) (w_ei w1 (w_ar ws (n_v vs 9) 3)) (w_ei w1 (w_ar ws (n_v vs 8) 16)) (w_fi w1 (n_v vs 7) 1) k18 fe_7_0_1 fe_7_1_1 hE_0_2_1 hE_8_16_1 hE_9_3_1 kz_7_0 kz_7_1)⟩
  have nf1 : fc_1 PRD (20, [4, 5], [62, 2000000]) ws (vs) := by
    refine ⟨nf_in hl rfl, sgq_173 ?_⟩
    · show HY ws (n_v vs 4) (v_iv (n_v vs 5) + (((2000000 : Nat) : Int) - 2000000))
      exact hy_le f8 (by omega)
  refine ⟨(fun _ h => (by cases h)), [], trivial, ?_, (fun _ h => (by cases h))⟩
  rw [List.append_nil]
  exact List.forall_mem_cons.mpr ⟨⟨show (20 : Nat) < 100 from by decide, nf0⟩, List.forall_mem_cons.mpr ⟨⟨show (20 : Nat) < 100 from by decide, nf1⟩, (fun _ h => (by cases h))⟩⟩
set_option maxHeartbeats 4000000 in
theorem vc_Pn_layBars_3_0 (x12 : Int) (y_0o9 : Int → Int) (nodes_0o7 : Int) (k12 : 0 ≤ x12 ∧ x12 ≤ 0) (f3 : RY4 (nodes_0o7) (y_0o9)) (kz_7_0 : 0 ≤ nodes_0o7 ∧ nodes_0o7 ≤ 24) : BY5 (nodes_0o7) (y_0o9) (x12) := by
  first
    | exact by5_start ‹RY4 _ _› (by omega)
    | exact by5_step ‹BY5 _ _ _› (by assumption) rfl (by omega)
  
def o_Pn_layBars_3 : or_T := (107, 13, [(7, (2, 0, 0, [3])), (12, (0, 0, 0, []))], [(20, [7, 9], [60, 1, 1, 912, 0, 1003])], [], [], [(20, [7, 9, 12], [60, 1, 1, 913, 0, 1003])], [], [])
theorem oo_Pn_layBars_3 {kA : Nat → ClassId} : or_ok PRD kA GG o_Pn_layBars_3 := by
  refine or_mk fun A ta ws vs hD hth hl => ?_
  intro t7 r7 t12 k12 f3
  have kz_7_0 := fdq_23 hD hth r7
  have nf0 : fc_1 PRD (20, [7, 9, 12], [60, 1, 1, 913, 0, 1003]) ws (vs) := ⟨nf_in hl rfl, sgq_1883 (vc_Pn_layBars_3_0 (v_iv (n_v vs 12)) (w_ei ws (w_ar ws (n_v vs 9) 3)) (w_fi ws (n_v vs 7) 0) k12 (shm_868 f3) kz_7_0)⟩
  refine ⟨(fun _ h => (by cases h)), [], trivial, ?_, (fun _ h => (by cases h))⟩
  rw [List.append_nil]
  exact List.forall_mem_cons.mpr ⟨⟨show (20 : Nat) < 100 from by decide, nf0⟩, (fun _ h => (by cases h))⟩
set_option maxHeartbeats 4000000 in
theorem vc_Pn_layBars_4_0 (x10 : Int) (x11 : Int) (edges_0o7 : Int) (k10 : 1 ≤ x10 ∧ x10 ≤ 47) (k11 : 2 ≤ x11 ∧ x11 ≤ 48) (d0 : x11 + (-4294967296) ≤ x10 ∧ x10 ≤ x11 + (-1)) (g1 : x11 = edges_0o7) (kz_7_1 : 0 ≤ edges_0o7 ∧ edges_0o7 ≤ 48) : (x10 + 1) ≤ edges_0o7 := by
  first
    | omega
    | (have q := fge_lfa ‹FGE _ _› ‹LFA _ _ _› (by omega) (by omega); omega)
    | (have q := bny_at ‹BNY _ _› (by omega) (by omega); omega)
    | (have q := (‹BY5 _ _ _›).2 x10 (by omega) (by omega); omega)
  
def o_Pn_layBars_4 : or_T := (72, 12, [(7, (2, 0, 0, [3])), (10, (0, 1, 47, [])), (11, (0, 2, 48, []))], [(9, [11, 7], [1])], [], [], [(20, [10, 7], [50, 1, 0, 1001, 0, 6, 4, 2, 1, 0, 0, 1, 2, 1, 1])], [], [(10, 11, -4294967296, -1)])
theorem oo_Pn_layBars_4 {kA : Nat → ClassId} : or_ok PRD kA GG o_Pn_layBars_4 := by
  refine or_mk fun A ta ws vs hD hth hl => ?_
  intro t7 r7 t10 k10 t11 k11 d0 f1
  replace f1 := shm_127 f1
  have g1 : v_iv (n_v vs 11) = w_fi ws (n_v vs 7) 1 := congrArg v_iv f1
  have kz_7_1 := fdq_38 hD hth r7
  have nf0 : fc_1 PRD (20, [10, 7], [50, 1, 0, 1001, 0, 6, 4, 2, 1, 0, 0, 1, 2, 1, 1]) ws (vs) := ⟨nf_in hl rfl, sgq_1188 (vc_Pn_layBars_4_0 (v_iv (n_v vs 10)) (v_iv (n_v vs 11)) (w_fi ws (n_v vs 7) 1) k10 k11 d0 g1 kz_7_1)⟩
  refine ⟨(fun _ h => (by cases h)), [], trivial, ?_, (fun _ h => (by cases h))⟩
  rw [List.append_nil]
  exact List.forall_mem_cons.mpr ⟨⟨show (20 : Nat) < 100 from by decide, nf0⟩, (fun _ h => (by cases h))⟩
set_option maxHeartbeats 4000000 in
theorem vc_Pn_layBars_5_r0 (x10 : Int) (x11 : Int) (x15 : Int) (faceOf_0o8 : Int → Int) (edges_0o7 : Int) (k10 : 1 ≤ x10 ∧ x10 ≤ 47) (k11 : 2 ≤ x11 ∧ x11 ≤ 48) (k15 : (-1) ≤ x15 ∧ x15 ≤ 143) (d0 : x11 + (-4294967296) ≤ x10 ∧ x10 ≤ x11 + (-1)) (f0 : LFA (faceOf_0o8) (x10) (x15)) (g3 : x11 = edges_0o7) (f4 : FGE (edges_0o7) (faceOf_0o8)) (kz_7_1 : 0 ≤ edges_0o7 ∧ edges_0o7 ≤ 48) : 0 ≤ x15 ∧ x15 ≤ 143 := by
  first
    | omega
    | (have q := fge_lfa ‹FGE _ _› ‹LFA _ _ _› (by omega) (by omega); omega)
    | (have q := bny_at ‹BNY _ _› (by omega) (by omega); omega)
    | (have q := (‹BY5 _ _ _›).2 x10 (by omega) (by omega); omega)
  
def o_Pn_layBars_5 : or_T := (92, 16, [(0, (2, 0, 0, [7])), (6, (2, 0, 0, [7])), (7, (2, 0, 0, [3])), (8, (2, 0, 0, [5])), (9, (2, 0, 0, [0])), (10, (0, 1, 47, [])), (11, (0, 2, 48, [])), (15, (0, -1, 143, []))], [(20, [8, 10, 15], [60, 0, 1, 640, 16]), (20, [10, 7], [50, 1, 0, 1001, 0, 6, 4, 2, 1, 0, 0, 1, 2, 1, 1]), (7, [10, 11], [2]), (9, [11, 7], [1]), (20, [8, 7], [60, 1, 1, 639, 1001, 16]), (20, [10], [50, 0, 0, 0, 2, 0, 1, 1, 0]), (20, [7, 9], [60, 1, 1, 912, 0, 1003]), (24, [0, 6], [])], [(15, (0, 0, 143, []))], [], [], [], [(10, 11, -4294967296, -1)])
theorem oo_Pn_layBars_5 {kA : Nat → ClassId} : or_ok PRD kA GG o_Pn_layBars_5 := by
  refine or_mk fun A ta ws vs hD hth hl => ?_
  intro t0 r0 t6 r6 t7 r7 t8 r8 t9 r9 t10 k10 t11 k11 t15 k15 d0 f0 f1 f2 f3 f4 f5 f6 f7
  replace f3 := shm_127 f3
  have g3 : v_iv (n_v vs 11) = w_fi ws (n_v vs 7) 1 := congrArg v_iv f3
  have kz_7_1 := fdq_38 hD hth r7
  have hrf0 : 0 ≤ v_iv (n_v vs 15) ∧ v_iv (n_v vs 15) ≤ 143 := vc_Pn_layBars_5_r0 (v_iv (n_v vs 10)) (v_iv (n_v vs 11)) (v_iv (n_v vs 15)) (w_ei ws (w_ar ws (n_v vs 8) 16)) (w_fi ws (n_v vs 7) 1) k10 k11 k15 d0 (shm_443 f0) g3 (shm_1185 f4) kz_7_1
  have rf15 : tv_ok ta (0, 0, 143, []) (n_v vs 15) := tv_in t15 (by first | omega | grind) (by first | omega | grind)
  refine ⟨List.forall_mem_cons.mpr ⟨rf15, (fun _ h => (by cases h))⟩, [], trivial, ?_, (fun _ h => (by cases h))⟩
  rw [List.append_nil]
  exact (fun _ h => (by cases h))
set_option maxHeartbeats 4000000 in
theorem vc_Pn_layBars_6_0 (x10 : Int) (x17 : Int) (edges_0o7 : Int) (faceOf_0o8 : Int → Int) (y_0o9 : Int → Int) (nodes_0o7 : Int) (faceOf_1o8 : Int → Int) (edges_1o7 : Int) (y_1o9 : Int → Int) (nodes_1o7 : Int) (k10 : 1 ≤ x10 ∧ x10 ≤ 47) (k17 : 2 ≤ x17 ∧ x17 ≤ 48) (d0 : x10 + 1 ≤ x17 ∧ x17 ≤ x10 + 1) (fe_7_0_1 : nodes_0o7 = nodes_1o7) (fe_7_1_1 : edges_0o7 = edges_1o7) (hE_8_16_1 : ∀ j : Int, faceOf_0o8 j = faceOf_1o8 j) (hE_9_3_1 : ∀ j : Int, y_0o9 j = y_1o9 j) (kz_7_0 : 0 ≤ nodes_0o7 ∧ nodes_0o7 ≤ 24) (kz_7_1 : 0 ≤ edges_0o7 ∧ edges_0o7 ≤ 48) : 1 ≤ x17 := by
  subst fe_7_0_1
  subst fe_7_1_1
  have e_hE_8_16_1 := funext hE_8_16_1; subst e_hE_8_16_1
  have e_hE_9_3_1 := funext hE_9_3_1; subst e_hE_9_3_1
  first
    | omega
    | (have q := fge_lfa ‹FGE _ _› ‹LFA _ _ _› (by omega) (by omega); omega)
    | (have q := bny_at ‹BNY _ _› (by omega) (by omega); omega)
    | (have q := (‹BY5 _ _ _›).2 x10 (by omega) (by omega); omega)
  
def o_Pn_layBars_6 : or_T := (63, 18, [(7, (2, 0, 0, [3])), (8, (2, 0, 0, [5])), (9, (2, 0, 0, [0])), (10, (0, 1, 47, [])), (12, (2, 0, 0, [108])), (17, (0, 2, 48, []))], [(100, [12, 10, 16], [])], [], [], [(20, [17], [50, 0, 0, 0, 2, 0, 1, 1, 0])], [], [(17, 10, 1, 1)])
theorem oo_Pn_layBars_6 {kA : Nat → ClassId} : or_ok PRD kA GG o_Pn_layBars_6 := by
  refine or_mk fun A ta ws vs hD hth hl => ?_
  intro t7 r7 t8 r8 t9 r9 t10 k10 t12 r12 t17 k17 d0 ta1 w1 le1 s1
  have s1 : (∀ b j, w_el ws b j = if b = v_ad (n_v vs 12) ∧ j = (v_iv (n_v vs 10)).toNat then v_iv (n_v vs 16) else w_el w1 b j) ∧ ∀ b k, w_fd ws b k = w_fd w1 b k := s1.2
  have cr_8_16 := fdq_95 hD hth r8
  have cr_9_3 := fdq_54 hD hth r9
  have fe_7_0_1 : w_fi ws (n_v vs 7) 0 = w_fi w1 (n_v vs 7) 0 := congrArg v_iv (s1.2 _ _)
  have fe_7_1_1 : w_fi ws (n_v vs 7) 1 = w_fi w1 (n_v vs 7) 1 := congrArg v_iv (s1.2 _ _)
  have hE_8_16_1 : ∀ j : Int, w_ei ws (w_ar ws (n_v vs 8) 16) j = w_ei w1 (w_ar ws (n_v vs 8) 16) j := el_kp s1.1 r12 cr_8_16 (by decide)
  have hE_9_3_1 : ∀ j : Int, w_ei ws (w_ar ws (n_v vs 9) 3) j = w_ei w1 (w_ar ws (n_v vs 9) 3) j := el_kp s1.1 r12 cr_9_3 (by decide)
  have kz_7_0 := fdq_23 hD hth r7
  have kz_7_1 := fdq_38 hD hth r7
  have nf0 : fc_1 PRD (20, [17], [50, 0, 0, 0, 2, 0, 1, 1, 0]) ws (vs) := ⟨nf_in hl rfl, sgq_697 (vc_Pn_layBars_6_0 (v_iv (n_v vs 10)) (v_iv (n_v vs 17)) (w_fi ws (n_v vs 7) 1) (w_ei ws (w_ar ws (n_v vs 8) 16)) (w_ei ws (w_ar ws (n_v vs 9) 3)) (w_fi ws (n_v vs 7) 0) (w_ei w1 (w_ar ws (n_v vs 8) 16)) (w_fi w1 (n_v vs 7) 1) (w_ei w1 (w_ar ws (n_v vs 9) 3)) (w_fi w1 (n_v vs 7) 0) k10 k17 d0 fe_7_0_1 fe_7_1_1 hE_8_16_1 hE_9_3_1 kz_7_0 kz_7_1)⟩
  refine ⟨(fun _ h => (by cases h)), [], trivial, ?_, (fun _ h => (by cases h))⟩
  rw [List.append_nil]
  exact List.forall_mem_cons.mpr ⟨⟨show (20 : Nat) < 100 from by decide, nf0⟩, (fun _ h => (by cases h))⟩
set_option maxHeartbeats 4000000 in
theorem vc_Pn_layBars_7_0 (x12 : Int) (bends_0o9 : Int → Int) (k12 : 0 ≤ x12 ∧ x12 ≤ 0) (f2 : BN0 (bends_0o9)) : BNY (bends_0o9) (x12) := by
  first
    | exact bny_0 ‹BN0 _›
    | exact bnz_y ‹BNZ _ _› (by omega)
  
def o_Pn_layBars_7 : or_T := (150, 13, [(12, (0, 0, 0, []))], [(20, [9], [60, 0, 1, 641, 4])], [], [], [(20, [9, 12], [60, 0, 1, 642, 4])], [], [])
theorem oo_Pn_layBars_7 {kA : Nat → ClassId} : or_ok PRD kA GG o_Pn_layBars_7 := by
  refine or_mk fun A ta ws vs hD hth hl => ?_
  intro t12 k12 f2
  have nf0 : fc_1 PRD (20, [9, 12], [60, 0, 1, 642, 4]) ws (vs) := ⟨nf_in hl rfl, sgq_1545 (vc_Pn_layBars_7_0 (v_iv (n_v vs 12)) (w_ei ws (w_ar ws (n_v vs 9) 4)) k12 (shm_780 f2))⟩
  refine ⟨(fun _ h => (by cases h)), [], trivial, ?_, (fun _ h => (by cases h))⟩
  rw [List.append_nil]
  exact List.forall_mem_cons.mpr ⟨⟨show (20 : Nat) < 100 from by decide, nf0⟩, (fun _ h => (by cases h))⟩
set_option maxHeartbeats 4000000 in
theorem vc_Pn_layBars_8_r0 (x10 : Int) (x11 : Int) (x15 : Int) (x17 : Int) (nodes_0o7 : Int) (y_0o9 : Int → Int) (bends_0o9 : Int → Int) (bends_1o9 : Int → Int) (y_1o9 : Int → Int) (nodes_1o7 : Int) (k10 : 0 ≤ x10 ∧ x10 ≤ 23) (k11 : 1 ≤ x11 ∧ x11 ≤ 24) (k15 : (-40000000) ≤ x15 ∧ x15 ≤ 690000000) (k17 : (-120000000) ≤ x17 ∧ x17 ≤ 2070000000) (d0 : x11 + (-4294967296) ≤ x10 ∧ x10 ≤ x11 + (-1)) (g1 : x11 = nodes_0o7) (f2 : x17 = x15 * 3) (h3 : x15 = y_0o9 (x10)) (f11 : BY5 (nodes_1o7) (y_1o9) (x10)) (fe_7_0_1 : nodes_0o7 = nodes_1o7) (hE_9_3_1 : ∀ j : Int, y_0o9 j = y_1o9 j) (hE_9_4_1 : ∀ j : Int, bends_0o9 j = bends_1o9 j) (kz_7_0 : 0 ≤ nodes_0o7 ∧ nodes_0o7 ≤ 24) : 0 ≤ x17 ∧ x17 ≤ 1800 := by
  subst fe_7_0_1
  have e_hE_9_3_1 := funext hE_9_3_1; subst e_hE_9_3_1
  have e_hE_9_4_1 := funext hE_9_4_1; subst e_hE_9_4_1
  first
    | omega
    | (have q := fge_lfa ‹FGE _ _› ‹LFA _ _ _› (by omega) (by omega); omega)
    | (have q := bny_at ‹BNY _ _› (by omega) (by omega); omega)
    | (have q := (‹BY5 _ _ _›).2 x10 (by omega) (by omega); omega)
  
def o_Pn_layBars_8 : or_T := (140, 18, [(0, (2, 0, 0, [7])), (6, (2, 0, 0, [7])), (7, (2, 0, 0, [3])), (9, (2, 0, 0, [0])), (10, (0, 0, 23, [])), (11, (0, 1, 24, [])), (12, (2, 0, 0, [14])), (14, (2, 0, 0, [15])), (15, (0, -40000000, 690000000, [])), (16, (0, 3, 3, [])), (17, (0, -120000000, 2070000000, []))], [(9, [12, 9], [2]), (9, [11, 7], [0]), (3, [17, 15, 16], []), (10, [15, 14, 10], []), (9, [14, 9], [3]), (20, [9], [60, 0, 1, 641, 4]), (20, [7, 9, 10], [60, 1, 1, 913, 0, 1003]), (24, [0, 6], []), (100, [12, 10, 13], []), (7, [10, 11], [2]), (20, [9], [60, 0, 1, 641, 4]), (20, [7, 9, 10], [60, 1, 1, 913, 0, 1003])], [(17, (0, 0, 1800, []))], [], [], [], [(10, 11, -4294967296, -1)])
theorem oo_Pn_layBars_8 {kA : Nat → ClassId} : or_ok PRD kA GG o_Pn_layBars_8 := by
  refine or_mk fun A ta ws vs hD hth hl => ?_
  intro t0 r0 t6 r6 t7 r7 t9 r9 t10 k10 t11 k11 t12 r12 t14 r14 t15 k15 t16 k16 t17 k17 d0 f0 f1 f2 f3 f4 f5 f6 f7 ta1 w1 le1 s1 f9 f10 f11
  replace f1 := shm_175 f1
  replace f2 := shm_38 f2
  rw [show v_iv (n_v vs 16) = 3 from by omega] at f2
  replace f3 := shm_106 f3
  replace f4 := shm_149 f4
  have s1 : (∀ b j, w_el ws b j = if b = v_ad (n_v vs 12) ∧ j = (v_iv (n_v vs 10)).toNat then v_iv (n_v vs 13) else w_el w1 b j) ∧ ∀ b k, w_fd ws b k = w_fd w1 b k := s1.2
  replace f11 := shm_1883 f11
  have ar_9_3_1 : w_ar w1 (n_v vs 9) 3 = w_ar ws (n_v vs 9) 3 := congrArg v_ad (s1.2 _ _).symm
  have cr_9_3 := fdq_54 hD hth r9
  have ar_9_4_1 : w_ar w1 (n_v vs 9) 4 = w_ar ws (n_v vs 9) 4 := congrArg v_ad (s1.2 _ _).symm
  have cr_9_4 := fdq_1 hD hth r9
  have ad_14 : v_ad (n_v vs 14) = w_ar ws (n_v vs 9) 3 := congrArg v_ad f4
  have g1 : v_iv (n_v vs 11) = w_fi ws (n_v vs 7) 0 := congrArg v_iv f1
  simp only [ad_14] at f3
  have h3 : v_iv (n_v vs 15) = w_ei ws (w_ar ws (n_v vs 9) 3) (v_iv (n_v vs 10)) := f3
  simp only [ar_9_4_1, ar_9_3_1] at f11
  have fe_7_0_1 : w_fi ws (n_v vs 7) 0 = w_fi w1 (n_v vs 7) 0 := congrArg v_iv (s1.2 _ _)
  have hE_9_3_1 : ∀ j : Int, w_ei ws (w_ar ws (n_v vs 9) 3) j = w_ei w1 (w_ar ws (n_v vs 9) 3) j := el_kp s1.1 r12 cr_9_3 (by decide)
  have hE_9_4_1 : ∀ j : Int, w_ei ws (w_ar ws (n_v vs 9) 4) j = w_ei w1 (w_ar ws (n_v vs 9) 4) j := el_kp s1.1 r12 cr_9_4 (by decide)
  have kz_7_0 := fdq_23 hD hth r7
  have hrf0 : 0 ≤ v_iv (n_v vs 17) ∧ v_iv (n_v vs 17) ≤ 1800 := vc_Pn_layBars_8_r0 (v_iv (n_v vs 10)) (v_iv (n_v vs 11)) (v_iv (n_v vs 15)) (v_iv (n_v vs 17)) (w_fi ws (n_v vs 7) 0) (w_ei ws (w_ar ws (n_v vs 9) 3)) (w_ei ws (w_ar ws (n_v vs 9) 4)) (w_ei w1 (w_ar ws (n_v vs 9) 4)) (w_ei w1 (w_ar ws (n_v vs 9) 3)) (w_fi w1 (n_v vs 7) 0) k10 k11 k15 k17 d0 g1 f2 h3 f11 fe_7_0_1 hE_9_3_1 hE_9_4_1 kz_7_0
  have rf17 : tv_ok ta (0, 0, 1800, []) (n_v vs 17) := tv_in t17 (by first | omega | grind) (by first | omega | grind)
  refine ⟨List.forall_mem_cons.mpr ⟨rf17, (fun _ h => (by cases h))⟩, [], trivial, ?_, (fun _ h => (by cases h))⟩
  rw [List.append_nil]
  exact (fun _ h => (by cases h))
def o_Pn_layBars_9 : or_T := (141, 18, [(4, (2, 0, 0, [12])), (5, (0, 0, 3072, [])), (10, (0, 0, 23, [])), (14, (2, 0, 0, [15])), (17, (0, 0, 1800, []))], [(100, [14, 10, 17], []), (20, [4, 5], [62, 2000000])], [], [], [(20, [4, 5], [62, 2000000])], [], [])
theorem oo_Pn_layBars_9 {kA : Nat → ClassId} : or_ok PRD kA GG o_Pn_layBars_9 := by
  refine or_mk fun A ta ws vs hD hth hl => ?_
  intro t4 r4 t5 k5 t10 k10 t14 r14 t17 k17 ta1 w1 le1 s1 f1
  have s1 : (∀ b j, w_el ws b j = if b = v_ad (n_v vs 14) ∧ j = (v_iv (n_v vs 10)).toNat then v_iv (n_v vs 17) else w_el w1 b j) ∧ ∀ b k, w_fd ws b k = w_fd w1 b k := s1.2
  replace f1 := shm_173 f1
  have nf0 : fc_1 PRD (20, [4, 5], [62, 2000000]) ws (vs) := by
    refine ⟨nf_in hl rfl, sgq_173 ?_⟩
    · show HY ws (n_v vs 4) (v_iv (n_v vs 5) + (((2000000 : Nat) : Int) - 2000000))
      have hn := hy_ne (k := 3) (g := GG_12) hD hth r4 rfl (by decide) rfl rfl r14 (by decide) s1.2
      have hn0 := hy_ne (k := 0) (g := GG_12) hD hth r4 rfl (by decide) rfl rfl r14 (by decide) s1.2
      exact hy_st (hy_le f1 (by omega)) s1 hn hn0 (by omega) (by omega)
  refine ⟨(fun _ h => (by cases h)), [], trivial, ?_, (fun _ h => (by cases h))⟩
  rw [List.append_nil]
  exact List.forall_mem_cons.mpr ⟨⟨show (20 : Nat) < 100 from by decide, nf0⟩, (fun _ h => (by cases h))⟩
set_option maxHeartbeats 4000000 in
theorem vc_Pn_layBars_10_0 (x10 : Int) (x17 : Int) (x18 : Int) (nodes_0o7 : Int) (bends_0o9 : Int → Int) (y_1o9 : Int → Int) (bends_1o9 : Int → Int) (nodes_1o7 : Int) (bends_2o9 : Int → Int) (y_2o9 : Int → Int) (nodes_2o7 : Int) (x_0o9 : Int → Int) (x_1o9 : Int → Int) (y_0o9 : Int → Int) (k10 : 0 ≤ x10 ∧ x10 ≤ 23) (k17 : 0 ≤ x17 ∧ x17 ≤ 1800) (k18 : 1 ≤ x18 ∧ x18 ≤ 24) (f3 : x18 = x10 + 1) (f14 : BY5 (nodes_2o7) (y_2o9) (x10)) (fe_7_0_1 : nodes_0o7 = nodes_1o7) (fe_7_0_2 : nodes_1o7 = nodes_2o7) (hE_9_2_1 : ∀ j : Int, x_0o9 j = x_1o9 j) (hE_9_3_1 : ∀ j : Int, 0 ≤ j → (j = x10 → y_0o9 j = x17) ∧ (j ≠ x10 → y_0o9 j = y_1o9 j)) (hE_9_3_2 : ∀ j : Int, y_1o9 j = y_2o9 j) (hE_9_4_1 : ∀ j : Int, bends_0o9 j = bends_1o9 j) (hE_9_4_2 : ∀ j : Int, bends_1o9 j = bends_2o9 j) (kz_7_0 : 0 ≤ nodes_0o7 ∧ nodes_0o7 ≤ 24) : BY5 (nodes_0o7) (y_0o9) (x18) := by
  subst fe_7_0_1
  subst fe_7_0_2
  have e_hE_9_2_1 := funext hE_9_2_1; subst e_hE_9_2_1
  have e_hE_9_3_2 := funext hE_9_3_2; subst e_hE_9_3_2
  have e_hE_9_4_1 := funext hE_9_4_1; subst e_hE_9_4_1
  have e_hE_9_4_2 := funext hE_9_4_2; subst e_hE_9_4_2
  first
    | exact by5_start ‹RY4 _ _› (by omega)
    | exact by5_step ‹BY5 _ _ _› (by assumption) rfl (by omega)
  
def o_Pn_layBars_10 : or_T := (107, 19, [(7, (2, 0, 0, [3])), (9, (2, 0, 0, [0])), (10, (0, 0, 23, [])), (12, (2, 0, 0, [14])), (14, (2, 0, 0, [15])), (17, (0, 0, 1800, [])), (18, (0, 1, 24, []))], [(9, [14, 9], [3]), (6, [18, 10], [1]), (100, [14, 10, 17], []), (100, [12, 10, 13], []), (20, [7, 9, 10], [60, 1, 1, 913, 0, 1003])], [], [], [(20, [7, 9, 18], [60, 1, 1, 913, 0, 1003])], [], [(18, 10, 1, 1), (10, 11, -4294967296, -1)])
theorem oo_Pn_layBars_10 {kA : Nat → ClassId} : or_ok PRD kA GG o_Pn_layBars_10 := by
  refine or_mk fun A ta ws vs hD hth hl => ?_
  intro t7 r7 t9 r9 t10 k10 t12 r12 t14 r14 t17 k17 t18 k18 d0 d2 f0 f3 ta1 w1 le1 s1 ta2 w2 le2 s2 f14
  replace f0 := shm_149 f0
  have s1 : (∀ b j, w_el ws b j = if b = v_ad (n_v vs 14) ∧ j = (v_iv (n_v vs 10)).toNat then v_iv (n_v vs 17) else w_el w1 b j) ∧ ∀ b k, w_fd ws b k = w_fd w1 b k := s1.2
  have s2 : (∀ b j, w_el w1 b j = if b = v_ad (n_v vs 12) ∧ j = (v_iv (n_v vs 10)).toNat then v_iv (n_v vs 13) else w_el w2 b j) ∧ ∀ b k, w_fd w1 b k = w_fd w2 b k := s2.2
  replace f14 := shm_1883 f14
  have cr_9_2 := fdq_51 hD hth r9
  have ar_9_3_1 : w_ar w1 (n_v vs 9) 3 = w_ar ws (n_v vs 9) 3 := congrArg v_ad (s1.2 _ _).symm
  have ar_9_3_2 : w_ar w2 (n_v vs 9) 3 = w_ar ws (n_v vs 9) 3 := by rw [← ar_9_3_1]; show v_ad (w_fd w2 _ _) = v_ad (w_fd w1 _ _); rw [s2.2]
  have cr_9_3 := fdq_54 hD hth r9
  have ar_9_4_1 : w_ar w1 (n_v vs 9) 4 = w_ar ws (n_v vs 9) 4 := congrArg v_ad (s1.2 _ _).symm
  have ar_9_4_2 : w_ar w2 (n_v vs 9) 4 = w_ar ws (n_v vs 9) 4 := by rw [← ar_9_4_1]; show v_ad (w_fd w2 _ _) = v_ad (w_fd w1 _ _); rw [s2.2]
  have cr_9_4 := fdq_1 hD hth r9
  have ad_14 : v_ad (n_v vs 14) = w_ar ws (n_v vs 9) 3 := congrArg v_ad f0
  simp only [ar_9_4_1, ar_9_3_1, ar_9_4_2, ar_9_3_2] at f14
  have fe_7_0_1 : w_fi ws (n_v vs 7) 0 = w_fi w1 (n_v vs 7) 0 := congrArg v_iv (s1.2 _ _)
  have fe_7_0_2 : w_fi w1 (n_v vs 7) 0 = w_fi w2 (n_v vs 7) 0 := congrArg v_iv (s2.2 _ _)
  have hE_9_2_1 : ∀ j : Int, w_ei ws (w_ar ws (n_v vs 9) 2) j = w_ei w1 (w_ar ws (n_v vs 9) 2) j := el_kp s1.1 r14 cr_9_2 (by decide)
  have hE_9_3_1 : ∀ j : Int, 0 ≤ j → (j = v_iv (n_v vs 10) → w_ei ws (w_ar ws (n_v vs 9) 3) j = v_iv (n_v vs 17)) ∧ (j ≠ v_iv (n_v vs 10) → w_ei ws (w_ar ws (n_v vs 9) 3) j = w_ei w1 (w_ar ws (n_v vs 9) 3) j) := fun j hj => ⟨fun h => by unfold w_ei; rw [s1.1, if_pos ⟨ad_14.symm, by rw [h]⟩], fun h => by unfold w_ei; rw [s1.1, if_neg (fun e => h (by have := e.2; omega))]⟩
  have hE_9_3_2 : ∀ j : Int, w_ei w1 (w_ar ws (n_v vs 9) 3) j = w_ei w2 (w_ar ws (n_v vs 9) 3) j := el_kp s2.1 r12 cr_9_3 (by decide)
  have hE_9_4_1 : ∀ j : Int, w_ei ws (w_ar ws (n_v vs 9) 4) j = w_ei w1 (w_ar ws (n_v vs 9) 4) j := el_kp s1.1 r14 cr_9_4 (by decide)
  have hE_9_4_2 : ∀ j : Int, w_ei w1 (w_ar ws (n_v vs 9) 4) j = w_ei w2 (w_ar ws (n_v vs 9) 4) j := el_kp s2.1 r12 cr_9_4 (by decide)
  have kz_7_0 := fdq_23 hD hth r7
  have nf0 : fc_1 PRD (20, [7, 9, 18], [60, 1, 1, 913, 0, 1003]) ws (vs) := ⟨nf_in hl rfl, sgq_1883 (vc_Pn_layBars_10_0 (v_iv (n_v vs 10)) (v_iv (n_v vs 17)) (v_iv (n_v vs 18)) (w_fi ws (n_v vs 7) 0) (w_ei ws (w_ar ws (n_v vs 9) 4)) (w_ei w1 (w_ar ws (n_v vs 9) 3)) (w_ei w1 (w_ar ws (n_v vs 9) 4)) (w_fi w1 (n_v vs 7) 0) (w_ei w2 (w_ar ws (n_v vs 9) 4)) (w_ei w2 (w_ar ws (n_v vs 9) 3)) (w_fi w2 (n_v vs 7) 0) (w_ei ws (w_ar ws (n_v vs 9) 2)) (w_ei w1 (w_ar ws (n_v vs 9) 2)) (w_ei ws (w_ar ws (n_v vs 9) 3)) k10 k17 k18 (shm_4 f3) f14 fe_7_0_1 fe_7_0_2 hE_9_2_1 hE_9_3_1 hE_9_3_2 hE_9_4_1 hE_9_4_2 kz_7_0)⟩
  refine ⟨(fun _ h => (by cases h)), [], trivial, ?_, (fun _ h => (by cases h))⟩
  rw [List.append_nil]
  exact List.forall_mem_cons.mpr ⟨⟨show (20 : Nat) < 100 from by decide, nf0⟩, (fun _ h => (by cases h))⟩
set_option maxHeartbeats 4000000 in
theorem vc_Pn_layBars_11_0 (x10 : Int) (bends_0o9 : Int → Int) (k10 : 0 ≤ x10 ∧ x10 ≤ 47) (f2 : BNY (bends_0o9) (x10)) : bends_0o9 (x10) ≤ 0 := by
  first
    | omega
    | (have q := fge_lfa ‹FGE _ _› ‹LFA _ _ _› (by omega) (by omega); omega)
    | (have q := bny_at ‹BNY _ _› (by omega) (by omega); omega)
    | (have q := (‹BY5 _ _ _›).2 x10 (by omega) (by omega); omega)
  
def o_Pn_layBars_11 : or_T := (159, 12, [(10, (0, 0, 47, []))], [(20, [9, 10], [60, 0, 1, 642, 4])], [], [], [(20, [9, 10], [50, 0, 1, 4, 0, 5, 3, 0, 4, 1, 1, 0, 0])], [], [])
theorem oo_Pn_layBars_11 {kA : Nat → ClassId} : or_ok PRD kA GG o_Pn_layBars_11 := by
  refine or_mk fun A ta ws vs hD hth hl => ?_
  intro t10 k10 f2
  have nf0 : fc_1 PRD (20, [9, 10], [50, 0, 1, 4, 0, 5, 3, 0, 4, 1, 1, 0, 0]) ws (vs) := ⟨nf_in hl rfl, sgq_1884 (vc_Pn_layBars_11_0 (v_iv (n_v vs 10)) (w_ei ws (w_ar ws (n_v vs 9) 4)) k10 (shm_1545 f2))⟩
  refine ⟨(fun _ h => (by cases h)), [], trivial, ?_, (fun _ h => (by cases h))⟩
  rw [List.append_nil]
  exact List.forall_mem_cons.mpr ⟨⟨show (20 : Nat) < 100 from by decide, nf0⟩, (fun _ h => (by cases h))⟩
set_option maxHeartbeats 4000000 in
theorem vc_Pn_layBars_12_0 (x10 : Int) (bends_0o9 : Int → Int) (gx : Int) (k10 : 0 ≤ x10 ∧ x10 ≤ 47) (ex2 : gx = bends_0o9 (x10)) : 1 * bends_0o9 (x10) + ((-1) * gx + 0) ≤ 0 := by
  first
    | omega
    | (have q := fge_lfa ‹FGE _ _› ‹LFA _ _ _› (by omega) (by omega); omega)
    | (have q := bny_at ‹BNY _ _› (by omega) (by omega); omega)
    | (have q := (‹BY5 _ _ _›).2 x10 (by omega) (by omega); omega)
  
set_option maxHeartbeats 4000000 in
theorem vc_Pn_layBars_12_1 (x10 : Int) (bends_0o9 : Int → Int) (k10 : 0 ≤ x10 ∧ x10 ≤ 47) (f3 : BNY (bends_0o9) (x10)) : BNZ (bends_0o9) (x10) := by
  first
    | assumption
    | exact bny_z ‹BNY _ _›
  
set_option maxHeartbeats 4000000 in
theorem vc_Pn_layBars_12_2 (x10 : Int) (bends_0o9 : Int → Int) (gx : Int) (k10 : 0 ≤ x10 ∧ x10 ≤ 47) (f0 : bends_0o9 (x10) ≤ 0) (ex2 : gx = bends_0o9 (x10)) (ex3 : 0 ≤ gx ∧ gx ≤ 23) : 1 * gx + 0 ≤ 0 := by
  first
    | omega
    | (have q := fge_lfa ‹FGE _ _› ‹LFA _ _ _› (by omega) (by omega); omega)
    | (have q := bny_at ‹BNY _ _› (by omega) (by omega); omega)
    | (have q := (‹BY5 _ _ _›).2 x10 (by omega) (by omega); omega)
  
def o_Pn_layBars_12 : or_T := (181, 18, [(0, (2, 0, 0, [7])), (6, (2, 0, 0, [7])), (7, (2, 0, 0, [3])), (9, (2, 0, 0, [0])), (10, (0, 0, 47, [])), (11, (0, 1, 48, []))], [(20, [9, 10], [50, 0, 1, 4, 0, 5, 3, 0, 4, 1, 1, 0, 0]), (7, [10, 11], [2]), (9, [11, 7], [1]), (20, [9, 10], [60, 0, 1, 642, 4]), (24, [0, 6], [])], [], [(0, 0, 23, [])], [(20, [9, 10, 18], [30, 0, 1, 2, 4, -1, 0, 0]), (20, [9, 10], [60, 0, 1, 643, 4]), (23, [18], [0, 1])], [], [(10, 11, -4294967296, -1)])
theorem oo_Pn_layBars_12 {kA : Nat → ClassId} : or_ok PRD kA GG o_Pn_layBars_12 := by
  refine or_mk fun A ta ws vs hD hth hl => ?_
  intro t0 r0 t6 r6 t7 r7 t9 r9 t10 k10 t11 k11 d0 f0 f1 f2 f3 f4
  replace f0 := shm_1884 f0
  replace f1 := shm_6 f1
  replace f2 := shm_127 f2
  replace f3 := shm_1545 f3
  replace f4 := shm_5 f4
  have q6 : n_v vs 6 = n_v vs 0 := f4.symm
  have cr_9_4 := fdq_1 hD hth r9
  have g2 : v_iv (n_v vs 11) = w_fi ws (n_v vs 7) 1 := congrArg v_iv f2
  have hK_9_4 := elq_0 hD hth cr_9_4
  have kz_7_1 := fdq_38 hD hth r7
  have kv0 := th_el hD hth cr_9_4 (kd := 0) (n := 48) (m := 48) (lo := 0) (hi := 24) (rs := []) (L := []) rfl (by decide) (j := (v_iv (n_v vs 10)).toNat) (by omega)
  have kw0 : w_el ws (w_ar ws (n_v vs 9) 4) (v_iv (n_v vs 10)).toNat = w_ei ws (w_ar ws (n_v vs 9) 4) (v_iv (n_v vs 10)) := rfl
  obtain ⟨x, ex, hx⟩ := iv_ex (ta := ta) (lo := 0) (hi := 23) (z := w_el ws (w_ar ws (n_v vs 9) 4) (v_iv (n_v vs 10)).toNat) (by omega) (by omega) (by omega) (by omega)
  have ex2 : v_iv (Value.int x) = w_el ws (w_ar ws (n_v vs 9) 4) (v_iv (n_v vs 10)).toNat := ex
  have ex3 : 0 ≤ v_iv (Value.int x) ∧ v_iv (Value.int x) ≤ 23 := tv_rng hx
  have e_9 : n_v (vs ++ [Value.int x]) 9 = n_v vs 9 := n_v_old (by rw [hl]; decide)
  have e_10 : n_v (vs ++ [Value.int x]) 10 = n_v vs 10 := n_v_old (by rw [hl]; decide)
  have e_18 : n_v (vs ++ [Value.int x]) 18 = Value.int x := n_v_new hl
  have nf0 : fc_1 PRD (20, [9, 10, 18], [30, 0, 1, 2, 4, -1, 0, 0]) ws (vs ++ [Value.int x]) := by
    refine ⟨nf_inA hl rfl, sgq_108 ?_⟩
    · show 1 * w_el ws (w_ar ws (n_v (vs ++ [Value.int x]) 9) 4) (v_iv (n_v (vs ++ [Value.int x]) 10)).toNat + ((-1) * v_iv (n_v (vs ++ [Value.int x]) 18) + 0) ≤ 0
      simp only [e_9, e_10, e_18]
      exact vc_Pn_layBars_12_0 (v_iv (n_v vs 10)) (w_ei ws (w_ar ws (n_v vs 9) 4)) (v_iv (Value.int x)) k10 ex2
  have nf1 : fc_1 PRD (20, [9, 10], [60, 0, 1, 643, 4]) ws (vs ++ [Value.int x]) := by
    refine ⟨nf_inA hl rfl, sgq_360 ?_⟩
    · show BNZ (w_ei ws (w_ar ws (n_v (vs ++ [Value.int x]) 9) 4)) (v_iv (n_v (vs ++ [Value.int x]) 10))
      simp only [e_9, e_10]
      exact vc_Pn_layBars_12_1 (v_iv (n_v vs 10)) (w_ei ws (w_ar ws (n_v vs 9) 4)) k10 f3
  have nf2 : fc_1 PRD (23, [18], [0, 1]) ws (vs ++ [Value.int x]) := by
    refine ⟨nf_inA hl rfl, sgq_1477 ?_⟩
    · show 1 * v_iv (n_v (vs ++ [Value.int x]) 18) + 0 ≤ 0
      rw [e_18]
      exact vc_Pn_layBars_12_2 (v_iv (n_v vs 10)) (w_ei ws (w_ar ws (n_v vs 9) 4)) (v_iv (Value.int x)) k10 f0 ex2 ex3
  exact ⟨(fun _ h => (by cases h)), [Value.int x], ag_one hx, List.forall_mem_cons.mpr ⟨⟨show (20 : Nat) < 100 from by decide, nf0⟩, List.forall_mem_cons.mpr ⟨⟨show (20 : Nat) < 100 from by decide, nf1⟩, List.forall_mem_cons.mpr ⟨⟨show (23 : Nat) < 100 from by decide, nf2⟩, (fun _ h => (by cases h))⟩⟩⟩, (fun _ h => (by cases h))⟩
set_option maxHeartbeats 4000000 in
theorem vc_Pn_layBars_13_0 (x10 : Int) (bends_0o9 : Int → Int) (gx : Int) (k10 : 0 ≤ x10 ∧ x10 ≤ 47) (ex2 : gx = bends_0o9 (x10)) : 1 * bends_0o9 (x10) + ((-1) * gx + 0) ≤ 0 := by
  first
    | omega
    | (have q := fge_lfa ‹FGE _ _› ‹LFA _ _ _› (by omega) (by omega); omega)
    | (have q := bny_at ‹BNY _ _› (by omega) (by omega); omega)
    | (have q := (‹BY5 _ _ _›).2 x10 (by omega) (by omega); omega)
  
set_option maxHeartbeats 4000000 in
theorem vc_Pn_layBars_13_1 (x10 : Int) (bends_0o9 : Int → Int) (k10 : 0 ≤ x10 ∧ x10 ≤ 47) (f4 : BNZ (bends_0o9) (x10)) : BNZ (bends_0o9) (x10) := by
  first
    | assumption
    | exact bny_z ‹BNY _ _›
  
set_option maxHeartbeats 4000000 in
theorem vc_Pn_layBars_13_2 (x10 : Int) (x18 : Int) (bends_0o9 : Int → Int) (gx : Int) (k10 : 0 ≤ x10 ∧ x10 ≤ 47) (k18 : 0 ≤ x18 ∧ x18 ≤ 23) (f1 : 1 * x18 + 0 ≤ 0) (f3 : 1 * bends_0o9 (x10) + ((-1) * x18 + 0) ≤ 1) (ex2 : gx = bends_0o9 (x10)) (ex3 : 0 ≤ gx ∧ gx ≤ 23) : 1 * gx + 0 ≤ 1 := by
  first
    | omega
    | (have q := fge_lfa ‹FGE _ _› ‹LFA _ _ _› (by omega) (by omega); omega)
    | (have q := bny_at ‹BNY _ _› (by omega) (by omega); omega)
    | (have q := (‹BY5 _ _ _›).2 x10 (by omega) (by omega); omega)
  
def o_Pn_layBars_13 : or_T := (206, 23, [(0, (2, 0, 0, [7])), (6, (2, 0, 0, [7])), (7, (2, 0, 0, [3])), (9, (2, 0, 0, [0])), (10, (0, 0, 47, [])), (11, (0, 1, 48, [])), (18, (0, 0, 23, []))], [(9, [11, 7], [1]), (23, [18], [0, 1]), (24, [0, 6], []), (20, [9, 10, 18], [30, 1, 1, 2, 4, -1, 0, 0]), (20, [9, 10], [60, 0, 1, 643, 4]), (102, [18], [458752]), (23, [18], [0, 1]), (7, [10, 11], [2])], [], [(0, 0, 23, [])], [(20, [9, 10, 23], [30, 0, 1, 2, 4, -1, 0, 0]), (20, [9, 10], [60, 0, 1, 643, 4]), (23, [23], [1, 1])], [], [(10, 11, -4294967296, -1)])
theorem oo_Pn_layBars_13 {kA : Nat → ClassId} : or_ok PRD kA GG o_Pn_layBars_13 := by
  refine or_mk fun A ta ws vs hD hth hl => ?_
  intro t0 r0 t6 r6 t7 r7 t9 r9 t10 k10 t11 k11 t18 k18 d0 f0 f1 f2 f3 f4 ta1 w1 le1 s1 f6 f7
  replace f0 := shm_127 f0
  replace f1 := shm_1477 f1
  replace f2 := shm_5 f2
  replace f3 := shm_111 f3
  replace f4 := shm_360 f4
  replace f6 := shm_1477 f6
  replace f7 := shm_6 f7
  have q6 : n_v vs 6 = n_v vs 0 := f2.symm
  have cr_9_4 := fdq_1 hD hth r9
  have g0 : v_iv (n_v vs 11) = w_fi ws (n_v vs 7) 1 := congrArg v_iv f0
  have hK_9_4 := elq_0 hD hth cr_9_4
  have kz_7_1 := fdq_38 hD hth r7
  have kv0 := th_el hD hth cr_9_4 (kd := 0) (n := 48) (m := 48) (lo := 0) (hi := 24) (rs := []) (L := []) rfl (by decide) (j := (v_iv (n_v vs 10)).toNat) (by omega)
  have kw0 : w_el ws (w_ar ws (n_v vs 9) 4) (v_iv (n_v vs 10)).toNat = w_ei ws (w_ar ws (n_v vs 9) 4) (v_iv (n_v vs 10)) := rfl
  obtain ⟨x, ex, hx⟩ := iv_ex (ta := ta) (lo := 0) (hi := 23) (z := w_el ws (w_ar ws (n_v vs 9) 4) (v_iv (n_v vs 10)).toNat) (by omega) (by omega) (by omega) (by omega)
  have ex2 : v_iv (Value.int x) = w_el ws (w_ar ws (n_v vs 9) 4) (v_iv (n_v vs 10)).toNat := ex
  have ex3 : 0 ≤ v_iv (Value.int x) ∧ v_iv (Value.int x) ≤ 23 := tv_rng hx
  have e_9 : n_v (vs ++ [Value.int x]) 9 = n_v vs 9 := n_v_old (by rw [hl]; decide)
  have e_10 : n_v (vs ++ [Value.int x]) 10 = n_v vs 10 := n_v_old (by rw [hl]; decide)
  have e_23 : n_v (vs ++ [Value.int x]) 23 = Value.int x := n_v_new hl
  have nf0 : fc_1 PRD (20, [9, 10, 23], [30, 0, 1, 2, 4, -1, 0, 0]) ws (vs ++ [Value.int x]) := by
    refine ⟨nf_inA hl rfl, sgq_108 ?_⟩
    · show 1 * w_el ws (w_ar ws (n_v (vs ++ [Value.int x]) 9) 4) (v_iv (n_v (vs ++ [Value.int x]) 10)).toNat + ((-1) * v_iv (n_v (vs ++ [Value.int x]) 23) + 0) ≤ 0
      simp only [e_9, e_10, e_23]
      exact vc_Pn_layBars_13_0 (v_iv (n_v vs 10)) (w_ei ws (w_ar ws (n_v vs 9) 4)) (v_iv (Value.int x)) k10 ex2
  have nf1 : fc_1 PRD (20, [9, 10], [60, 0, 1, 643, 4]) ws (vs ++ [Value.int x]) := by
    refine ⟨nf_inA hl rfl, sgq_360 ?_⟩
    · show BNZ (w_ei ws (w_ar ws (n_v (vs ++ [Value.int x]) 9) 4)) (v_iv (n_v (vs ++ [Value.int x]) 10))
      simp only [e_9, e_10]
      exact vc_Pn_layBars_13_1 (v_iv (n_v vs 10)) (w_ei ws (w_ar ws (n_v vs 9) 4)) k10 f4
  have nf2 : fc_1 PRD (23, [23], [1, 1]) ws (vs ++ [Value.int x]) := by
    refine ⟨nf_inA hl rfl, sgq_1885 ?_⟩
    · show 1 * v_iv (n_v (vs ++ [Value.int x]) 23) + 0 ≤ 1
      rw [e_23]
      exact vc_Pn_layBars_13_2 (v_iv (n_v vs 10)) (v_iv (n_v vs 18)) (w_ei ws (w_ar ws (n_v vs 9) 4)) (v_iv (Value.int x)) k10 k18 f1 f3 ex2 ex3
  exact ⟨(fun _ h => (by cases h)), [Value.int x], ag_one hx, List.forall_mem_cons.mpr ⟨⟨show (20 : Nat) < 100 from by decide, nf0⟩, List.forall_mem_cons.mpr ⟨⟨show (20 : Nat) < 100 from by decide, nf1⟩, List.forall_mem_cons.mpr ⟨⟨show (23 : Nat) < 100 from by decide, nf2⟩, (fun _ h => (by cases h))⟩⟩⟩, (fun _ h => (by cases h))⟩
set_option maxHeartbeats 4000000 in
theorem vc_Pn_layBars_14_0 (x10 : Int) (x24 : Int) (bends_0o9 : Int → Int) (k10 : 0 ≤ x10 ∧ x10 ≤ 47) (k24 : 1 ≤ x24 ∧ x24 ≤ 48) (f1 : x24 = x10 + 1) (f5 : BNZ (bends_0o9) (x10)) : BNY (bends_0o9) (x24) := by
  first
    | exact bny_0 ‹BN0 _›
    | exact bnz_y ‹BNZ _ _› (by omega)
  
def o_Pn_layBars_14 : or_T := (150, 25, [(10, (0, 0, 47, [])), (24, (0, 1, 48, []))], [(6, [24, 10], [1]), (20, [9, 10], [60, 0, 1, 643, 4])], [], [], [(20, [9, 24], [60, 0, 1, 642, 4])], [], [])
theorem oo_Pn_layBars_14 {kA : Nat → ClassId} : or_ok PRD kA GG o_Pn_layBars_14 := by
  refine or_mk fun A ta ws vs hD hth hl => ?_
  intro t10 k10 t24 k24 f1 f5
  have nf0 : fc_1 PRD (20, [9, 24], [60, 0, 1, 642, 4]) ws (vs) := ⟨nf_in hl rfl, sgq_1545 (vc_Pn_layBars_14_0 (v_iv (n_v vs 10)) (v_iv (n_v vs 24)) (w_ei ws (w_ar ws (n_v vs 9) 4)) k10 k24 (shm_4 f1) (shm_360 f5))⟩
  refine ⟨(fun _ h => (by cases h)), [], trivial, ?_, (fun _ h => (by cases h))⟩
  rw [List.append_nil]
  exact List.forall_mem_cons.mpr ⟨⟨show (20 : Nat) < 100 from by decide, nf0⟩, (fun _ h => (by cases h))⟩
def n_Pn_layBars_an : List an_T := [(8, [(0, (2, 0, 0, [7])), (1, (2, 0, 0, [3])), (2, (2, 0, 0, [5])), (3, (2, 0, 0, [0])), (4, (0, 0, 24, []))], [], (0, 0), [(0, 0, 99992), (1, 10, 24), (0, 0, 100000)], [], [], [(2, 0, 0, [7]), (2, 0, 0, [3]), (2, 0, 0, [5]), (2, 0, 0, [0]), (2, 0, 0, [12]), (0, 0, 3072, [])], 0, [], [(20, [8, 7], [60, 1, 1, 639, 1001, 16]), (20, [4, 5], [62, 2000000]), (20, [6, 7], [60, 1, 1, 911, 1000, 2]), (24, [0, 6], [])]), (63, [(0, (2, 0, 0, [7])), (1, (2, 0, 0, [3])), (2, (2, 0, 0, [5])), (3, (2, 0, 0, [0])), (4, (0, 1, 48, []))], [], (0, 0), [(0, 0, 99937), (1, 10, 48), (0, 0, 100000)], [], [], [(2, 0, 0, [7]), (2, 0, 0, [3]), (2, 0, 0, [5]), (2, 0, 0, [0]), (2, 0, 0, [12]), (0, 0, 3072, [])], 0, [], [(20, [8, 7], [60, 1, 1, 639, 1001, 16]), (20, [10], [50, 0, 0, 0, 2, 0, 1, 1, 0]), (20, [4, 5], [62, 2000000]), (20, [7, 9], [60, 1, 1, 912, 0, 1003]), (24, [0, 6], [])]), (107, [(0, (2, 0, 0, [7])), (1, (2, 0, 0, [3])), (2, (2, 0, 0, [5])), (3, (2, 0, 0, [0])), (4, (0, 0, 24, []))], [], (0, 0), [(0, 0, 99893), (1, 10, 24), (0, 0, 100000)], [], [], [(2, 0, 0, [7]), (2, 0, 0, [3]), (2, 0, 0, [5]), (2, 0, 0, [0]), (2, 0, 0, [12]), (0, 0, 3072, [])], 0, [], [(20, [9], [60, 0, 1, 641, 4]), (20, [4, 5], [62, 2000000]), (20, [7, 9, 10], [60, 1, 1, 913, 0, 1003]), (24, [0, 6], [])]), (150, [(0, (2, 0, 0, [7])), (1, (2, 0, 0, [3])), (2, (2, 0, 0, [5])), (3, (2, 0, 0, [0])), (4, (0, 0, 48, []))], [], (0, 0), [(0, 0, 99850), (1, 10, 48), (0, 0, 100000)], [], [], [(2, 0, 0, [7]), (2, 0, 0, [3]), (2, 0, 0, [5]), (2, 0, 0, [0]), (2, 0, 0, [12]), (0, 0, 3072, [])], 0, [], [(20, [9, 10], [60, 0, 1, 642, 4]), (20, [4, 5], [62, 2000000]), (24, [0, 6], [])])]
def t_Pn_layBars_ct : ct_L := [(0, 206, e_Pn_leftFace), (1, 98, e_Dr_dropBends), (1, 188, e_Pn_orderFromTo), (1, 195, e_Pn_raiseNodes), (1, 199, e_Pn_moveFaces), (1, 210, e_Pn_middleOfEdges), (547, 215, e_Dr_addBend_at_gb), (622, 215, e_Dr_addBend_at_gb)]
set_option maxRecDepth 100000 in
theorem c_Pn_layBars {l : Launch} {D : va_G} {kA : Nat → ClassId} (h_Dr_addBend_at_gb : ct_ok PRD l D kA GG y_Dr_addBend_at_gb z_Dr_addBend_at_gb e_Dr_addBend_at_gb) (h_Dr_dropBends : ct_ok PRD l D kA GG y_Dr_dropBends z_Dr_dropBends e_Dr_dropBends) (h_Pn_leftFace : ct_ok PRD l D kA GG y_Pn_leftFace z_Pn_leftFace e_Pn_leftFace) (h_Pn_middleOfEdges : ct_ok PRD l D kA GG y_Pn_middleOfEdges z_Pn_middleOfEdges e_Pn_middleOfEdges) (h_Pn_moveFaces : ct_ok PRD l D kA GG y_Pn_moveFaces z_Pn_moveFaces e_Pn_moveFaces) (h_Pn_orderFromTo : ct_ok PRD l D kA GG y_Pn_orderFromTo z_Pn_orderFromTo e_Pn_orderFromTo) (h_Pn_raiseNodes : ct_ok PRD l D kA GG y_Pn_raiseNodes z_Pn_raiseNodes e_Pn_raiseNodes) : ct_ok PRD l D kA GG y_Pn_layBars z_Pn_layBars e_Pn_layBars := chk_all_ok (FT := [(22, 7, 2), (38, 7, 7), (41, 7, 8), (47, 3, 0), (87, 0, 3), (177, 0, 2), (192, 0, 12), (203, 3, 1), (214, 3, 7), (218, 3, 8)]) (PT := []) (CT := t_Pn_layBars_ct) (KT := []) (NT := []) (AN := n_Pn_layBars_an) (OT := [o_Pn_layBars_0, o_Pn_layBars_1, o_Pn_layBars_2, o_Pn_layBars_3, o_Pn_layBars_4, o_Pn_layBars_5, o_Pn_layBars_6, o_Pn_layBars_7, o_Pn_layBars_8, o_Pn_layBars_9, o_Pn_layBars_10, o_Pn_layBars_11, o_Pn_layBars_12, o_Pn_layBars_13, o_Pn_layBars_14]) 3 468 (List.forall_mem_cons.mpr ⟨oo_Pn_layBars_0, List.forall_mem_cons.mpr ⟨oo_Pn_layBars_1, List.forall_mem_cons.mpr ⟨oo_Pn_layBars_2, List.forall_mem_cons.mpr ⟨oo_Pn_layBars_3, List.forall_mem_cons.mpr ⟨oo_Pn_layBars_4, List.forall_mem_cons.mpr ⟨oo_Pn_layBars_5, List.forall_mem_cons.mpr ⟨oo_Pn_layBars_6, List.forall_mem_cons.mpr ⟨oo_Pn_layBars_7, List.forall_mem_cons.mpr ⟨oo_Pn_layBars_8, List.forall_mem_cons.mpr ⟨oo_Pn_layBars_9, List.forall_mem_cons.mpr ⟨oo_Pn_layBars_10, List.forall_mem_cons.mpr ⟨oo_Pn_layBars_11, List.forall_mem_cons.mpr ⟨oo_Pn_layBars_12, List.forall_mem_cons.mpr ⟨oo_Pn_layBars_13, List.forall_mem_cons.mpr ⟨oo_Pn_layBars_14, List.forall_mem_nil _⟩⟩⟩⟩⟩⟩⟩⟩⟩⟩⟩⟩⟩⟩⟩) (by decide +kernel) ⟨List.forall_mem_cons.mpr ⟨gf_Pn_22, List.forall_mem_cons.mpr ⟨gf_Pn_38, List.forall_mem_cons.mpr ⟨gf_Pn_41, List.forall_mem_cons.mpr ⟨gf_Pn_47, List.forall_mem_cons.mpr ⟨gf_Pn_87, List.forall_mem_cons.mpr ⟨gf_Pn_177, List.forall_mem_cons.mpr ⟨gf_Pn_192, List.forall_mem_cons.mpr ⟨gf_Pn_203, List.forall_mem_cons.mpr ⟨gf_Pn_214, List.forall_mem_cons.mpr ⟨gf_Pn_218, List.forall_mem_nil _⟩⟩⟩⟩⟩⟩⟩⟩⟩⟩, List.forall_mem_nil _, List.forall_mem_cons.mpr ⟨cl_static (y := y_Pn_leftFace) h_Pn_leftFace wm_1607 wm_20 wm_1605 wm_1606 ⟨by decide, by decide, by decide +kernel⟩ (by decide), List.forall_mem_cons.mpr ⟨cl_virtual (y := y_Dr_dropBends) (ci := 0) rfl rfl ⟨_, _, rfl⟩ (by decide +kernel) h_Dr_dropBends wm_1460 wm_8 wm_1579 wm_1458 wm_1459 ⟨by decide, by decide, by decide +kernel⟩ (by decide), List.forall_mem_cons.mpr ⟨cl_virtual (y := y_Pn_orderFromTo) (ci := 7) rfl rfl ⟨_, _, rfl⟩ (by decide +kernel) h_Pn_orderFromTo wm_1587 wm_20 wm_1584 wm_1586 wv_7_1 ⟨by decide, by decide, by decide +kernel⟩ (by decide), List.forall_mem_cons.mpr ⟨cl_virtual (y := y_Pn_raiseNodes) (ci := 7) rfl rfl ⟨_, _, rfl⟩ (by decide +kernel) h_Pn_raiseNodes wm_1596 wm_20 wm_1593 wm_1595 wv_7_3 ⟨by decide, by decide, by decide +kernel⟩ (by decide), List.forall_mem_cons.mpr ⟨cl_virtual (y := y_Pn_moveFaces) (ci := 7) rfl rfl ⟨_, _, rfl⟩ (by decide +kernel) h_Pn_moveFaces wm_1600 wm_20 wm_1597 wm_1599 wv_7_4 ⟨by decide, by decide, by decide +kernel⟩ (by decide), List.forall_mem_cons.mpr ⟨cl_virtual (y := y_Pn_middleOfEdges) (ci := 7) rfl rfl ⟨_, _, rfl⟩ (by decide +kernel) h_Pn_middleOfEdges wm_1611 wm_20 wm_1608 wm_1610 wv_7_5 ⟨by decide, by decide, by decide +kernel⟩ (by decide), List.forall_mem_cons.mpr ⟨cl_virtual (y := y_Dr_addBend_at_gb) (ci := 0) rfl rfl ⟨_, _, rfl⟩ (by decide +kernel) h_Dr_addBend_at_gb wm_1464 wm_8 wm_1618 wm_1462 wm_1463 ⟨by decide, by decide, by decide +kernel⟩ (by decide), List.forall_mem_cons.mpr ⟨cl_virtual (y := y_Dr_addBend_at_gb) (ci := 0) rfl rfl ⟨_, _, rfl⟩ (by decide +kernel) h_Dr_addBend_at_gb wm_1464 wm_8 wm_1618 wm_1462 wm_1463 ⟨by decide, by decide, by decide +kernel⟩ (by decide), List.forall_mem_nil _⟩⟩⟩⟩⟩⟩⟩⟩, List.forall_mem_nil _, List.forall_mem_nil _, GG_pl⟩ (by decide +kernel)

set_option maxHeartbeats 4000000 in
theorem vc_Mo_change_0_0 (x1 : Int) (all_0 : Int → Int) (now_0 : Int → Int) (latest_0 : Int → Int) (r_0 : Int) (k1 : 0 ≤ x1 ∧ x1 ≤ 3) (f0 : ROWS (all_0) (now_0) (latest_0)) (f1 : r_0 = ((16709 * x1) + (539 * now_0 (x1)))) : RWS (r_0) (all_0) (now_0) (latest_0) := by
  first
    | assumption
    | exact rws_now (g := x1) ‹ROWS _ _ _› (by omega) (by omega) (by omega)
def o_Mo_change_0 : or_T := (63, 6, [(1, (0, 0, 3, []))], [(20, [0], [60, 0, 3, 198, 2, 3, 4]), (20, [0, 1], [50, 1, 1, 5, 3, 1, 3, 2, 0, 5, 4, 6, 6, 2, 0, 16709, 1, 1, 6, 2, 0, 539, 3, 0, 3, 1, 1])], [], [], [(20, [0], [60, 1, 3, 199, 5, 2, 3, 4])], [], [])
theorem oo_Mo_change_0 {kA : Nat → ClassId} : or_ok PRD kA GG o_Mo_change_0 := by
  refine or_mk fun A ta ws vs hD hth hl => ?_
  intro t1 k1 f0 f1
  have nf0 : fc_1 PRD (20, [0], [60, 1, 3, 199, 5, 2, 3, 4]) ws (vs) := ⟨nf_in hl rfl, sgq_952 (vc_Mo_change_0_0 (v_iv (n_v vs 1)) (w_ei ws (w_ar ws (n_v vs 0) 2)) (w_ei ws (w_ar ws (n_v vs 0) 3)) (w_ei ws (w_ar ws (n_v vs 0) 4)) (w_fi ws (n_v vs 0) 5) k1 (shm_1199 f0) (shm_1007 f1))⟩
  refine ⟨(fun _ h => (by cases h)), [], trivial, ?_, (fun _ h => (by cases h))⟩
  rw [List.append_nil]
  exact List.forall_mem_cons.mpr ⟨⟨show (20 : Nat) < 100 from by decide, nf0⟩, (fun _ h => (by cases h))⟩
set_option maxHeartbeats 4000000 in
theorem vc_Mo_change_1_0 (x3 : Int) (gx : Int) (k3 : 0 ≤ x3 ∧ x3 ≤ 23) (ex2 : gx = x3) : 1 * gx + ((-1) * x3 + 0) ≤ 0 := by
  first
    | omega
    | (have h := (‹CPe _ _ _ _›.2.1 rfl).2.2.2.2.2.1
       omega)
    | (have h := ‹CPd _ _ _ _›.2.2.1 rfl
       omega)
    | (have h := ‹CPv _ _ _ _›.2.2.2 rfl
       simp only [Int.add_zero] at *
       omega)
set_option maxHeartbeats 4000000 in
theorem vc_Mo_change_1_1 (x3 : Int) (gx : Int) (k3 : 0 ≤ x3 ∧ x3 ≤ 23) (ex2 : gx = x3) : (-1) * gx + (1 * x3 + 0) ≤ 0 := by
  first
    | omega
    | (have h := (‹CPe _ _ _ _›.2.1 rfl).2.2.2.2.2.1
       omega)
    | (have h := ‹CPd _ _ _ _›.2.2.1 rfl
       omega)
    | (have h := ‹CPv _ _ _ _›.2.2.2 rfl
       simp only [Int.add_zero] at *
       omega)
set_option maxHeartbeats 4000000 in
theorem vc_Mo_change_1_2 (x4 : Int) (gy : Int) (k4 : 0 ≤ x4 ∧ x4 ≤ 23) (ey2 : gy = x4) : 1 * gy + ((-1) * x4 + 0) ≤ 0 := by
  first
    | omega
    | (have h := (‹CPe _ _ _ _›.2.1 rfl).2.2.2.2.2.1
       omega)
    | (have h := ‹CPd _ _ _ _›.2.2.1 rfl
       omega)
    | (have h := ‹CPv _ _ _ _›.2.2.2 rfl
       simp only [Int.add_zero] at *
       omega)
set_option maxHeartbeats 4000000 in
theorem vc_Mo_change_1_3 (x4 : Int) (gy : Int) (k4 : 0 ≤ x4 ∧ x4 ≤ 23) (ey2 : gy = x4) : (-1) * gy + (1 * x4 + 0) ≤ 0 := by
  first
    | omega
    | (have h := (‹CPe _ _ _ _›.2.1 rfl).2.2.2.2.2.1
       omega)
    | (have h := ‹CPd _ _ _ _›.2.2.1 rfl
       omega)
    | (have h := ‹CPv _ _ _ _›.2.2.2 rfl
       simp only [Int.add_zero] at *
       omega)
set_option maxHeartbeats 4000000 in
theorem vc_Mo_change_1_4 (x1 : Int) (all_0 : Int → Int) (r_0 : Int) (now_0 : Int → Int) (latest_0 : Int → Int) (k1 : 0 ≤ x1 ∧ x1 ≤ 3) (f12 : ROWS (all_0) (now_0) (latest_0)) (f13 : r_0 = ((16709 * x1) + (539 * now_0 (x1)))) : RWS (r_0) (all_0) (now_0) (latest_0) := by
  first
    | assumption
    | exact rws_now (g := x1) ‹ROWS _ _ _› (by omega) (by omega) (by omega)
set_option maxHeartbeats 4000000 in
theorem vc_Mo_change_1_5 (x1 : Int) (r_0 : Int) (now_0 : Int → Int) (k1 : 0 ≤ x1 ∧ x1 ≤ 3) (f13 : r_0 = ((16709 * x1) + (539 * now_0 (x1)))) : r_0 = ((16709 * x1) + (539 * now_0 (x1))) := by
  first
    | omega
    | (have h := (‹CPe _ _ _ _›.2.1 rfl).2.2.2.2.2.1
       omega)
    | (have h := ‹CPd _ _ _ _›.2.2.1 rfl
       omega)
    | (have h := ‹CPv _ _ _ _›.2.2.2 rfl
       simp only [Int.add_zero] at *
       omega)
set_option maxHeartbeats 4000000 in
theorem vc_Mo_change_1_6 (x3 : Int) (x4 : Int) (x7 : Int) (x9 : Int) (x12 : Int) (x14 : Int) (x16 : Int) (x18 : Int) (all_0 : Int → Int) (r_0 : Int) (gx : Int) (gy : Int) (k3 : 0 ≤ x3 ∧ x3 ≤ 23) (k4 : 0 ≤ x4 ∧ x4 ≤ 23) (k7 : 0 ≤ x7 ∧ x7 ≤ 24) (k9 : 0 ≤ x9 ∧ x9 ≤ 23) (k12 : 0 ≤ x12 ∧ x12 ≤ 24) (k14 : 0 ≤ x14 ∧ x14 ≤ 23) (k16 : 0 ≤ x16 ∧ x16 ≤ 47) (k18 : (-1) ≤ x18 ∧ x18 ≤ (-1)) (d0 : x14 + (-4294967296) ≤ x4 ∧ x4 ≤ x14 + 0) (d1 : x12 + (-1) ≤ x14 ∧ x14 ≤ x12 + (-1)) (d2 : x9 + (-4294967296) ≤ x3 ∧ x3 ≤ x9 + 0) (d3 : x7 + (-1) ≤ x9 ∧ x9 ≤ x7 + (-1)) (f0 : x18 < 0) (f1 : BTP (r_0) (all_0) (x3) (x4) (x18)) (f3 : 1 * x16 + ((-1) * all_0 (r_0 + 1) + 0) ≤ 0) (f4 : (-1) * x16 + (1 * all_0 (r_0 + 1) + 0) ≤ 0) (f5 : x3 ≠ x4) (f7 : 1 * x12 + ((-1) * all_0 (r_0 + 0) + 0) ≤ 0) (f8 : (-1) * x12 + (1 * all_0 (r_0 + 0) + 0) ≤ 0) (f10 : 1 * x7 + ((-1) * all_0 (r_0 + 0) + 0) ≤ 0) (f11 : (-1) * x7 + (1 * all_0 (r_0 + 0) + 0) ≤ 0) (ex2 : gx = x3) (ex3 : 0 ≤ gx ∧ gx ≤ 48) (ey2 : gy = x4) (ey3 : 0 ≤ gy ∧ gy ≤ 48) : CPe (r_0) (all_0) (gx) (gy) := by
  subst ex2; subst ey2
  try simp only [Int.add_zero] at *
  have hb := ‹BTP _ _ _ _ _› (by omega)
  refine ⟨fun q => by omega, fun _ => ⟨by omega, by omega, by omega, by omega, by omega, by omega, fun e a b w => hb e a b ?_⟩, fun q => by omega, fun q => by omega⟩
  rcases w with ⟨w1, w2⟩ | ⟨w1, w2⟩
  · exact ⟨Or.inl w1, Or.inr w2, by omega⟩
  · exact ⟨Or.inr w2, Or.inl w1, by omega⟩
def o_Mo_change_1 : or_T := (125, 19, [(1, (0, 0, 3, [])), (3, (0, 0, 23, [])), (4, (0, 0, 23, [])), (7, (0, 0, 24, [])), (9, (0, 0, 23, [])), (12, (0, 0, 24, [])), (14, (0, 0, 23, [])), (16, (0, 0, 47, [])), (18, (0, -1, -1, []))], [(8, [18], [2]), (20, [0, 3, 4, 18], [60, 1, 1, 206, 5, 2]), (20, [16, 0], [30, 0, 1, 0, 0, -1, 3, 2005001]), (20, [16, 0], [30, 0, -1, 0, 0, 1, 3, 2005001]), (7, [3, 4], [1]), (20, [12, 0], [30, 0, 1, 0, 0, -1, 3, 2005000]), (20, [12, 0], [30, 0, -1, 0, 0, 1, 3, 2005000]), (20, [7, 0], [30, 0, 1, 0, 0, -1, 3, 2005000]), (20, [7, 0], [30, 0, -1, 0, 0, 1, 3, 2005000]), (20, [0], [60, 0, 3, 198, 2, 3, 4]), (20, [0, 1], [50, 1, 1, 5, 3, 1, 3, 2, 0, 5, 4, 6, 6, 2, 0, 16709, 1, 1, 6, 2, 0, 539, 3, 0, 3, 1, 1])], [], [(0, 0, 48, []), (0, 0, 48, [])], [(23, [19, 3], [0, 1, -1]), (23, [19, 3], [0, -1, 1]), (23, [20, 4], [0, 1, -1]), (23, [20, 4], [0, -1, 1]), (20, [0], [60, 1, 3, 199, 5, 2, 3, 4]), (20, [0, 1], [50, 1, 1, 5, 3, 1, 3, 2, 0, 5, 4, 6, 6, 2, 0, 16709, 1, 1, 6, 2, 0, 539, 3, 0, 3, 1, 1]), (20, [0, 19, 20], [60, 1, 1, 220, 5, 2])], [], [(4, 14, -4294967296, 0), (14, 12, -1, -1), (3, 9, -4294967296, 0), (9, 7, -1, -1)])
theorem oo_Mo_change_1 {kA : Nat → ClassId} : or_ok PRD kA GG o_Mo_change_1 := by
  refine or_mk fun A ta ws vs hD hth hl => ?_
  intro t1 k1 t3 k3 t4 k4 t7 k7 t9 k9 t12 k12 t14 k14 t16 k16 t18 k18 d0 d1 d2 d3 f0 f1 f3 f4 f5 f7 f8 f10 f11 f12 f13
  replace f0 := shm_39 f0
  replace f1 := shm_1384 f1
  replace f3 := shm_130 f3
  replace f4 := shm_131 f4
  replace f5 := shm_40 f5
  replace f7 := shm_135 f7
  replace f8 := shm_136 f8
  replace f10 := shm_135 f10
  replace f11 := shm_136 f11
  replace f12 := shm_1199 f12
  replace f13 := shm_1007 f13
  obtain ⟨x, ex, hx⟩ := iv_ex (ta := ta) (lo := 0) (hi := 48) (z := v_iv (n_v vs 3)) (by omega) (by omega) (by omega) (by omega)
  have ex2 : v_iv (Value.int x) = v_iv (n_v vs 3) := ex
  have ex3 : 0 ≤ v_iv (Value.int x) ∧ v_iv (Value.int x) ≤ 48 := tv_rng hx
  obtain ⟨y, ey, hy⟩ := iv_ex (ta := ta) (lo := 0) (hi := 48) (z := v_iv (n_v vs 4)) (by omega) (by omega) (by omega) (by omega)
  have ey2 : v_iv (Value.int y) = v_iv (n_v vs 4) := ey
  have ey3 : 0 ≤ v_iv (Value.int y) ∧ v_iv (Value.int y) ≤ 48 := tv_rng hy
  have e_0 : n_v (vs ++ [Value.int x, Value.int y]) 0 = n_v vs 0 := n_v_old (by rw [hl]; decide)
  have e_1 : n_v (vs ++ [Value.int x, Value.int y]) 1 = n_v vs 1 := n_v_old (by rw [hl]; decide)
  have e_3 : n_v (vs ++ [Value.int x, Value.int y]) 3 = n_v vs 3 := n_v_old (by rw [hl]; decide)
  have e_4 : n_v (vs ++ [Value.int x, Value.int y]) 4 = n_v vs 4 := n_v_old (by rw [hl]; decide)
  have e_19 : n_v (vs ++ [Value.int x, Value.int y]) 19 = Value.int x := n_v_new0 hl
  have e_20 : n_v (vs ++ [Value.int x, Value.int y]) 20 = Value.int y := n_v_new1 hl
  have nf0 : fc_1 PRD (23, [19, 3], [0, 1, -1]) ws (vs ++ [Value.int x, Value.int y]) := by
    refine ⟨nf_inA hl rfl, sgq_7 ?_⟩
    · show 1 * v_iv (n_v (vs ++ [Value.int x, Value.int y]) 19) + ((-1) * v_iv (n_v (vs ++ [Value.int x, Value.int y]) 3) + 0) ≤ 0
      simp only [e_3, e_19]
      exact vc_Mo_change_1_0 (v_iv (n_v vs 3)) (v_iv (Value.int x)) k3 ex2
  have nf1 : fc_1 PRD (23, [19, 3], [0, -1, 1]) ws (vs ++ [Value.int x, Value.int y]) := by
    refine ⟨nf_inA hl rfl, sgq_22 ?_⟩
    · show (-1) * v_iv (n_v (vs ++ [Value.int x, Value.int y]) 19) + (1 * v_iv (n_v (vs ++ [Value.int x, Value.int y]) 3) + 0) ≤ 0
      simp only [e_3, e_19]
      exact vc_Mo_change_1_1 (v_iv (n_v vs 3)) (v_iv (Value.int x)) k3 ex2
  have nf2 : fc_1 PRD (23, [20, 4], [0, 1, -1]) ws (vs ++ [Value.int x, Value.int y]) := by
    refine ⟨nf_inA hl rfl, sgq_7 ?_⟩
    · show 1 * v_iv (n_v (vs ++ [Value.int x, Value.int y]) 20) + ((-1) * v_iv (n_v (vs ++ [Value.int x, Value.int y]) 4) + 0) ≤ 0
      simp only [e_4, e_20]
      exact vc_Mo_change_1_2 (v_iv (n_v vs 4)) (v_iv (Value.int y)) k4 ey2
  have nf3 : fc_1 PRD (23, [20, 4], [0, -1, 1]) ws (vs ++ [Value.int x, Value.int y]) := by
    refine ⟨nf_inA hl rfl, sgq_22 ?_⟩
    · show (-1) * v_iv (n_v (vs ++ [Value.int x, Value.int y]) 20) + (1 * v_iv (n_v (vs ++ [Value.int x, Value.int y]) 4) + 0) ≤ 0
      simp only [e_4, e_20]
      exact vc_Mo_change_1_3 (v_iv (n_v vs 4)) (v_iv (Value.int y)) k4 ey2
  have nf4 : fc_1 PRD (20, [0], [60, 1, 3, 199, 5, 2, 3, 4]) ws (vs ++ [Value.int x, Value.int y]) := by
    refine ⟨nf_inA hl rfl, sgq_952 ?_⟩
    · show RWS (w_fi ws (n_v (vs ++ [Value.int x, Value.int y]) 0) 5) (w_ei ws (w_ar ws (n_v (vs ++ [Value.int x, Value.int y]) 0) 2)) (w_ei ws (w_ar ws (n_v (vs ++ [Value.int x, Value.int y]) 0) 3)) (w_ei ws (w_ar ws (n_v (vs ++ [Value.int x, Value.int y]) 0) 4))
      rw [e_0]
      exact vc_Mo_change_1_4 (v_iv (n_v vs 1)) (w_ei ws (w_ar ws (n_v vs 0) 2)) (w_fi ws (n_v vs 0) 5) (w_ei ws (w_ar ws (n_v vs 0) 3)) (w_ei ws (w_ar ws (n_v vs 0) 4)) k1 f12 f13
  have nf5 : fc_1 PRD (20, [0, 1], [50, 1, 1, 5, 3, 1, 3, 2, 0, 5, 4, 6, 6, 2, 0, 16709, 1, 1, 6, 2, 0, 539, 3, 0, 3, 1, 1]) ws (vs ++ [Value.int x, Value.int y]) := by
    refine ⟨nf_inA hl rfl, sgq_1007 ?_⟩
    · show w_fi ws (n_v (vs ++ [Value.int x, Value.int y]) 0) 5 = ((16709 * v_iv (n_v (vs ++ [Value.int x, Value.int y]) 1)) + (539 * w_ei ws (w_ar ws (n_v (vs ++ [Value.int x, Value.int y]) 0) 3) (v_iv (n_v (vs ++ [Value.int x, Value.int y]) 1))))
      simp only [e_0, e_1]
      exact vc_Mo_change_1_5 (v_iv (n_v vs 1)) (w_fi ws (n_v vs 0) 5) (w_ei ws (w_ar ws (n_v vs 0) 3)) k1 f13
  have nf6 : fc_1 PRD (20, [0, 19, 20], [60, 1, 1, 220, 5, 2]) ws (vs ++ [Value.int x, Value.int y]) := by
    refine ⟨nf_inA hl rfl, sgq_1270 ?_⟩
    · show CPe (w_fi ws (n_v (vs ++ [Value.int x, Value.int y]) 0) 5) (w_ei ws (w_ar ws (n_v (vs ++ [Value.int x, Value.int y]) 0) 2)) (v_iv (n_v (vs ++ [Value.int x, Value.int y]) 19)) (v_iv (n_v (vs ++ [Value.int x, Value.int y]) 20))
      simp only [e_0, e_19, e_20]
      exact vc_Mo_change_1_6 (v_iv (n_v vs 3)) (v_iv (n_v vs 4)) (v_iv (n_v vs 7)) (v_iv (n_v vs 9)) (v_iv (n_v vs 12)) (v_iv (n_v vs 14)) (v_iv (n_v vs 16)) (v_iv (n_v vs 18)) (w_ei ws (w_ar ws (n_v vs 0) 2)) (w_fi ws (n_v vs 0) 5) (v_iv (Value.int x)) (v_iv (Value.int y)) k3 k4 k7 k9 k12 k14 k16 k18 d0 d1 d2 d3 f0 f1 f3 f4 f5 f7 f8 f10 f11 ex2 ex3 ey2 ey3
  exact ⟨(fun _ h => (by cases h)), [Value.int x, Value.int y], ag_two hx hy, List.forall_mem_cons.mpr ⟨⟨show (23 : Nat) < 100 from by decide, nf0⟩, List.forall_mem_cons.mpr ⟨⟨show (23 : Nat) < 100 from by decide, nf1⟩, List.forall_mem_cons.mpr ⟨⟨show (23 : Nat) < 100 from by decide, nf2⟩, List.forall_mem_cons.mpr ⟨⟨show (23 : Nat) < 100 from by decide, nf3⟩, List.forall_mem_cons.mpr ⟨⟨show (20 : Nat) < 100 from by decide, nf4⟩, List.forall_mem_cons.mpr ⟨⟨show (20 : Nat) < 100 from by decide, nf5⟩, List.forall_mem_cons.mpr ⟨⟨show (20 : Nat) < 100 from by decide, nf6⟩, (fun _ h => (by cases h))⟩⟩⟩⟩⟩⟩⟩, (fun _ h => (by cases h))⟩
set_option maxHeartbeats 4000000 in
theorem vc_Mo_change_2_0 (x19 : Int) (x20 : Int) (all_0 : Int → Int) (r_0 : Int) (k19 : 0 ≤ x19 ∧ x19 ≤ 48) (k20 : 0 ≤ x20 ∧ x20 ≤ 48) (f6 : CPe (r_0) (all_0) (x19) (x20)) : 1 * all_0 (r_0 + 1) + 0 ≤ 47 := by
  first
    | omega
    | (have h := (‹CPe _ _ _ _›.2.1 rfl).2.2.2.2.2.1
       omega)
    | (have h := ‹CPd _ _ _ _›.2.2.1 rfl
       omega)
    | (have h := ‹CPv _ _ _ _›.2.2.2 rfl
       simp only [Int.add_zero] at *
       omega)
set_option maxHeartbeats 4000000 in
theorem vc_Mo_change_2_1 (x3 : Int) (x4 : Int) (x19 : Int) (x20 : Int) (all_0 : Int → Int) (r_0 : Int) (k3 : 0 ≤ x3 ∧ x3 ≤ 23) (k4 : 0 ≤ x4 ∧ x4 ≤ 23) (k19 : 0 ≤ x19 ∧ x19 ≤ 48) (k20 : 0 ≤ x20 ∧ x20 ≤ 48) (f0 : 1 * x19 + ((-1) * x3 + 0) ≤ 0) (f1 : (-1) * x19 + (1 * x3 + 0) ≤ 0) (f2 : 1 * x20 + ((-1) * x4 + 0) ≤ 0) (f3 : (-1) * x20 + (1 * x4 + 0) ≤ 0) (f6 : CPe (r_0) (all_0) (x19) (x20)) : NWE (r_0) (all_0) (x3) (x4) := by
  have h := ‹CPe _ _ _ _›.2.1 rfl
  rw [show x3 = x19 by omega, show x4 = x20 by omega]; exact h
def o_Mo_change_2 : or_T := (133, 22, [(3, (0, 0, 23, [])), (4, (0, 0, 23, [])), (19, (0, 0, 48, [])), (20, (0, 0, 48, []))], [(23, [19, 3], [0, 1, -1]), (23, [19, 3], [0, -1, 1]), (23, [20, 4], [0, 1, -1]), (23, [20, 4], [0, -1, 1]), (20, [0, 19, 20], [60, 1, 1, 220, 5, 2])], [], [], [(20, [0], [30, 47, 1, 3, 2005001]), (20, [0, 3, 4], [60, 1, 1, 203, 5, 2])], [], [])
theorem oo_Mo_change_2 {kA : Nat → ClassId} : or_ok PRD kA GG o_Mo_change_2 := by
  refine or_mk fun A ta ws vs hD hth hl => ?_
  intro t3 k3 t4 k4 t19 k19 t20 k20 f0 f1 f2 f3 f6
  have nf0 : fc_1 PRD (20, [0], [30, 47, 1, 3, 2005001]) ws (vs) := ⟨nf_in hl rfl, sgq_979 (vc_Mo_change_2_0 (v_iv (n_v vs 19)) (v_iv (n_v vs 20)) (w_ei ws (w_ar ws (n_v vs 0) 2)) (w_fi ws (n_v vs 0) 5) k19 k20 (shm_1270 f6))⟩
  have nf1 : fc_1 PRD (20, [0, 3, 4], [60, 1, 1, 203, 5, 2]) ws (vs) := ⟨nf_in hl rfl, sgq_980 (vc_Mo_change_2_1 (v_iv (n_v vs 3)) (v_iv (n_v vs 4)) (v_iv (n_v vs 19)) (v_iv (n_v vs 20)) (w_ei ws (w_ar ws (n_v vs 0) 2)) (w_fi ws (n_v vs 0) 5) k3 k4 k19 k20 (shm_7 f0) (shm_22 f1) (shm_7 f2) (shm_22 f3) (shm_1270 f6))⟩
  refine ⟨(fun _ h => (by cases h)), [], trivial, ?_, (fun _ h => (by cases h))⟩
  rw [List.append_nil]
  exact List.forall_mem_cons.mpr ⟨⟨show (20 : Nat) < 100 from by decide, nf0⟩, List.forall_mem_cons.mpr ⟨⟨show (20 : Nat) < 100 from by decide, nf1⟩, (fun _ h => (by cases h))⟩⟩
set_option maxHeartbeats 4000000 in
theorem vc_Mo_change_3_0 (all_0 : Int → Int) (r_0 : Int) (now_0 : Int → Int) (latest_0 : Int → Int) (f8 : RWS (r_0) (all_0) (now_0) (latest_0)) : ROWS (all_0) (now_0) (latest_0) := by
  first
    | assumption
    | exact ‹RWS _ _ _ _›.1
def o_Mo_change_3 : or_T := (142, 25, [], [(20, [0], [60, 1, 3, 199, 5, 2, 3, 4])], [], [], [(20, [0], [60, 0, 3, 198, 2, 3, 4])], [], [])
theorem oo_Mo_change_3 {kA : Nat → ClassId} : or_ok PRD kA GG o_Mo_change_3 := by
  refine or_mk fun A ta ws vs hD hth hl => ?_
  intro f8
  have nf0 : fc_1 PRD (20, [0], [60, 0, 3, 198, 2, 3, 4]) ws (vs) := ⟨nf_in hl rfl, sgq_1199 (vc_Mo_change_3_0 (w_ei ws (w_ar ws (n_v vs 0) 2)) (w_fi ws (n_v vs 0) 5) (w_ei ws (w_ar ws (n_v vs 0) 3)) (w_ei ws (w_ar ws (n_v vs 0) 4)) (shm_952 f8))⟩
  refine ⟨(fun _ h => (by cases h)), [], trivial, ?_, (fun _ h => (by cases h))⟩
  rw [List.append_nil]
  exact List.forall_mem_cons.mpr ⟨⟨show (20 : Nat) < 100 from by decide, nf0⟩, (fun _ h => (by cases h))⟩
set_option maxHeartbeats 4000000 in
theorem vc_Mo_change_4_0 (x3 : Int) (gx : Int) (k3 : 0 ≤ x3 ∧ x3 ≤ 47) (ex2 : gx = x3) : 1 * gx + ((-1) * x3 + 0) ≤ 0 := by
  first
    | omega
    | (have h := (‹CPe _ _ _ _›.2.1 rfl).2.2.2.2.2.1
       omega)
    | (have h := ‹CPd _ _ _ _›.2.2.1 rfl
       omega)
    | (have h := ‹CPv _ _ _ _›.2.2.2 rfl
       simp only [Int.add_zero] at *
       omega)
set_option maxHeartbeats 4000000 in
theorem vc_Mo_change_4_1 (x3 : Int) (gx : Int) (k3 : 0 ≤ x3 ∧ x3 ≤ 47) (ex2 : gx = x3) : (-1) * gx + (1 * x3 + 0) ≤ 0 := by
  first
    | omega
    | (have h := (‹CPe _ _ _ _›.2.1 rfl).2.2.2.2.2.1
       omega)
    | (have h := ‹CPd _ _ _ _›.2.2.1 rfl
       omega)
    | (have h := ‹CPv _ _ _ _›.2.2.2 rfl
       simp only [Int.add_zero] at *
       omega)
set_option maxHeartbeats 4000000 in
theorem vc_Mo_change_4_2 (x3 : Int) (gx : Int) (gy : Int) (k3 : 0 ≤ x3 ∧ x3 ≤ 47) (ex2 : gx = x3) (ey2 : gy = x3) : 1 * gy + ((-1) * x3 + 0) ≤ 0 := by
  first
    | omega
    | (have h := (‹CPe _ _ _ _›.2.1 rfl).2.2.2.2.2.1
       omega)
    | (have h := ‹CPd _ _ _ _›.2.2.1 rfl
       omega)
    | (have h := ‹CPv _ _ _ _›.2.2.2 rfl
       simp only [Int.add_zero] at *
       omega)
set_option maxHeartbeats 4000000 in
theorem vc_Mo_change_4_3 (x3 : Int) (gx : Int) (gy : Int) (k3 : 0 ≤ x3 ∧ x3 ≤ 47) (ex2 : gx = x3) (ey2 : gy = x3) : (-1) * gy + (1 * x3 + 0) ≤ 0 := by
  first
    | omega
    | (have h := (‹CPe _ _ _ _›.2.1 rfl).2.2.2.2.2.1
       omega)
    | (have h := ‹CPd _ _ _ _›.2.2.1 rfl
       omega)
    | (have h := ‹CPv _ _ _ _›.2.2.2 rfl
       simp only [Int.add_zero] at *
       omega)
set_option maxHeartbeats 4000000 in
theorem vc_Mo_change_4_4 (x1 : Int) (all_0 : Int → Int) (r_0 : Int) (now_0 : Int → Int) (latest_0 : Int → Int) (k1 : 0 ≤ x1 ∧ x1 ≤ 3) (f3 : ROWS (all_0) (now_0) (latest_0)) (f4 : r_0 = ((16709 * x1) + (539 * now_0 (x1)))) : RWS (r_0) (all_0) (now_0) (latest_0) := by
  first
    | assumption
    | exact rws_now (g := x1) ‹ROWS _ _ _› (by omega) (by omega) (by omega)
set_option maxHeartbeats 4000000 in
theorem vc_Mo_change_4_5 (x1 : Int) (r_0 : Int) (now_0 : Int → Int) (k1 : 0 ≤ x1 ∧ x1 ≤ 3) (f4 : r_0 = ((16709 * x1) + (539 * now_0 (x1)))) : r_0 = ((16709 * x1) + (539 * now_0 (x1))) := by
  first
    | omega
    | (have h := (‹CPe _ _ _ _›.2.1 rfl).2.2.2.2.2.1
       omega)
    | (have h := ‹CPd _ _ _ _›.2.2.1 rfl
       omega)
    | (have h := ‹CPv _ _ _ _›.2.2.2 rfl
       simp only [Int.add_zero] at *
       omega)
set_option maxHeartbeats 4000000 in
theorem vc_Mo_change_4_6 (x3 : Int) (x7 : Int) (x9 : Int) (all_0 : Int → Int) (r_0 : Int) (gx : Int) (gy : Int) (k3 : 0 ≤ x3 ∧ x3 ≤ 47) (k7 : 0 ≤ x7 ∧ x7 ≤ 48) (k9 : (-1) ≤ x9 ∧ x9 ≤ 47) (d0 : x9 + (-4294967296) ≤ x3 ∧ x3 ≤ x9 + 0) (d1 : x7 + (-1) ≤ x9 ∧ x9 ≤ x7 + (-1)) (f1 : 1 * x7 + ((-1) * all_0 (r_0 + 1) + 0) ≤ 0) (f2 : (-1) * x7 + (1 * all_0 (r_0 + 1) + 0) ≤ 0) (ex2 : gx = x3) (ey2 : gy = x3) (ey3 : 0 ≤ gy ∧ gy ≤ 48) : CPd (r_0) (all_0) (gx) (gy) := by
  subst ex2; subst ey2
  exact ⟨fun q => by omega, fun q => by omega, fun _ => ⟨by omega, by omega⟩, fun q => by omega⟩
def o_Mo_change_4 : or_T := (161, 11, [(1, (0, 0, 3, [])), (3, (0, 0, 47, [])), (7, (0, 0, 48, [])), (9, (0, -1, 47, []))], [(20, [7, 0], [30, 0, 1, 0, 0, -1, 3, 2005001]), (20, [7, 0], [30, 0, -1, 0, 0, 1, 3, 2005001]), (20, [0], [60, 0, 3, 198, 2, 3, 4]), (20, [0, 1], [50, 1, 1, 5, 3, 1, 3, 2, 0, 5, 4, 6, 6, 2, 0, 16709, 1, 1, 6, 2, 0, 539, 3, 0, 3, 1, 1])], [], [(0, 0, 48, []), (0, 0, 48, [])], [(23, [11, 3], [0, 1, -1]), (23, [11, 3], [0, -1, 1]), (23, [12, 3], [0, 1, -1]), (23, [12, 3], [0, -1, 1]), (20, [0], [60, 1, 3, 199, 5, 2, 3, 4]), (20, [0, 1], [50, 1, 1, 5, 3, 1, 3, 2, 0, 5, 4, 6, 6, 2, 0, 16709, 1, 1, 6, 2, 0, 539, 3, 0, 3, 1, 1]), (20, [0, 11, 12], [60, 1, 1, 224, 5, 2])], [], [(3, 9, -4294967296, 0), (9, 7, -1, -1)])
theorem oo_Mo_change_4 {kA : Nat → ClassId} : or_ok PRD kA GG o_Mo_change_4 := by
  refine or_mk fun A ta ws vs hD hth hl => ?_
  intro t1 k1 t3 k3 t7 k7 t9 k9 d0 d1 f1 f2 f3 f4
  replace f1 := shm_130 f1
  replace f2 := shm_131 f2
  replace f3 := shm_1199 f3
  replace f4 := shm_1007 f4
  obtain ⟨x, ex, hx⟩ := iv_ex (ta := ta) (lo := 0) (hi := 48) (z := v_iv (n_v vs 3)) (by omega) (by omega) (by omega) (by omega)
  have ex2 : v_iv (Value.int x) = v_iv (n_v vs 3) := ex
  have ex3 : 0 ≤ v_iv (Value.int x) ∧ v_iv (Value.int x) ≤ 48 := tv_rng hx
  obtain ⟨y, ey, hy⟩ := iv_ex (ta := ta) (lo := 0) (hi := 48) (z := v_iv (n_v vs 3)) (by omega) (by omega) (by omega) (by omega)
  have ey2 : v_iv (Value.int y) = v_iv (n_v vs 3) := ey
  have ey3 : 0 ≤ v_iv (Value.int y) ∧ v_iv (Value.int y) ≤ 48 := tv_rng hy
  have e_0 : n_v (vs ++ [Value.int x, Value.int y]) 0 = n_v vs 0 := n_v_old (by rw [hl]; decide)
  have e_1 : n_v (vs ++ [Value.int x, Value.int y]) 1 = n_v vs 1 := n_v_old (by rw [hl]; decide)
  have e_3 : n_v (vs ++ [Value.int x, Value.int y]) 3 = n_v vs 3 := n_v_old (by rw [hl]; decide)
  have e_11 : n_v (vs ++ [Value.int x, Value.int y]) 11 = Value.int x := n_v_new0 hl
  have e_12 : n_v (vs ++ [Value.int x, Value.int y]) 12 = Value.int y := n_v_new1 hl
  have nf0 : fc_1 PRD (23, [11, 3], [0, 1, -1]) ws (vs ++ [Value.int x, Value.int y]) := by
    refine ⟨nf_inA hl rfl, sgq_7 ?_⟩
    · show 1 * v_iv (n_v (vs ++ [Value.int x, Value.int y]) 11) + ((-1) * v_iv (n_v (vs ++ [Value.int x, Value.int y]) 3) + 0) ≤ 0
      simp only [e_3, e_11]
      exact vc_Mo_change_4_0 (v_iv (n_v vs 3)) (v_iv (Value.int x)) k3 ex2
  have nf1 : fc_1 PRD (23, [11, 3], [0, -1, 1]) ws (vs ++ [Value.int x, Value.int y]) := by
    refine ⟨nf_inA hl rfl, sgq_22 ?_⟩
    · show (-1) * v_iv (n_v (vs ++ [Value.int x, Value.int y]) 11) + (1 * v_iv (n_v (vs ++ [Value.int x, Value.int y]) 3) + 0) ≤ 0
      simp only [e_3, e_11]
      exact vc_Mo_change_4_1 (v_iv (n_v vs 3)) (v_iv (Value.int x)) k3 ex2
  have nf2 : fc_1 PRD (23, [12, 3], [0, 1, -1]) ws (vs ++ [Value.int x, Value.int y]) := by
    refine ⟨nf_inA hl rfl, sgq_7 ?_⟩
    · show 1 * v_iv (n_v (vs ++ [Value.int x, Value.int y]) 12) + ((-1) * v_iv (n_v (vs ++ [Value.int x, Value.int y]) 3) + 0) ≤ 0
      simp only [e_3, e_12]
      exact vc_Mo_change_4_2 (v_iv (n_v vs 3)) (v_iv (Value.int x)) (v_iv (Value.int y)) k3 ex2 ey2
  have nf3 : fc_1 PRD (23, [12, 3], [0, -1, 1]) ws (vs ++ [Value.int x, Value.int y]) := by
    refine ⟨nf_inA hl rfl, sgq_22 ?_⟩
    · show (-1) * v_iv (n_v (vs ++ [Value.int x, Value.int y]) 12) + (1 * v_iv (n_v (vs ++ [Value.int x, Value.int y]) 3) + 0) ≤ 0
      simp only [e_3, e_12]
      exact vc_Mo_change_4_3 (v_iv (n_v vs 3)) (v_iv (Value.int x)) (v_iv (Value.int y)) k3 ex2 ey2
  have nf4 : fc_1 PRD (20, [0], [60, 1, 3, 199, 5, 2, 3, 4]) ws (vs ++ [Value.int x, Value.int y]) := by
    refine ⟨nf_inA hl rfl, sgq_952 ?_⟩
    · show RWS (w_fi ws (n_v (vs ++ [Value.int x, Value.int y]) 0) 5) (w_ei ws (w_ar ws (n_v (vs ++ [Value.int x, Value.int y]) 0) 2)) (w_ei ws (w_ar ws (n_v (vs ++ [Value.int x, Value.int y]) 0) 3)) (w_ei ws (w_ar ws (n_v (vs ++ [Value.int x, Value.int y]) 0) 4))
      rw [e_0]
      exact vc_Mo_change_4_4 (v_iv (n_v vs 1)) (w_ei ws (w_ar ws (n_v vs 0) 2)) (w_fi ws (n_v vs 0) 5) (w_ei ws (w_ar ws (n_v vs 0) 3)) (w_ei ws (w_ar ws (n_v vs 0) 4)) k1 f3 f4
  have nf5 : fc_1 PRD (20, [0, 1], [50, 1, 1, 5, 3, 1, 3, 2, 0, 5, 4, 6, 6, 2, 0, 16709, 1, 1, 6, 2, 0, 539, 3, 0, 3, 1, 1]) ws (vs ++ [Value.int x, Value.int y]) := by
    refine ⟨nf_inA hl rfl, sgq_1007 ?_⟩
    · show w_fi ws (n_v (vs ++ [Value.int x, Value.int y]) 0) 5 = ((16709 * v_iv (n_v (vs ++ [Value.int x, Value.int y]) 1)) + (539 * w_ei ws (w_ar ws (n_v (vs ++ [Value.int x, Value.int y]) 0) 3) (v_iv (n_v (vs ++ [Value.int x, Value.int y]) 1))))
      simp only [e_0, e_1]
      exact vc_Mo_change_4_5 (v_iv (n_v vs 1)) (w_fi ws (n_v vs 0) 5) (w_ei ws (w_ar ws (n_v vs 0) 3)) k1 f4
  have nf6 : fc_1 PRD (20, [0, 11, 12], [60, 1, 1, 224, 5, 2]) ws (vs ++ [Value.int x, Value.int y]) := by
    refine ⟨nf_inA hl rfl, sgq_1261 ?_⟩
    · show CPd (w_fi ws (n_v (vs ++ [Value.int x, Value.int y]) 0) 5) (w_ei ws (w_ar ws (n_v (vs ++ [Value.int x, Value.int y]) 0) 2)) (v_iv (n_v (vs ++ [Value.int x, Value.int y]) 11)) (v_iv (n_v (vs ++ [Value.int x, Value.int y]) 12))
      simp only [e_0, e_11, e_12]
      exact vc_Mo_change_4_6 (v_iv (n_v vs 3)) (v_iv (n_v vs 7)) (v_iv (n_v vs 9)) (w_ei ws (w_ar ws (n_v vs 0) 2)) (w_fi ws (n_v vs 0) 5) (v_iv (Value.int x)) (v_iv (Value.int y)) k3 k7 k9 d0 d1 f1 f2 ex2 ey2 ey3
  exact ⟨(fun _ h => (by cases h)), [Value.int x, Value.int y], ag_two hx hy, List.forall_mem_cons.mpr ⟨⟨show (23 : Nat) < 100 from by decide, nf0⟩, List.forall_mem_cons.mpr ⟨⟨show (23 : Nat) < 100 from by decide, nf1⟩, List.forall_mem_cons.mpr ⟨⟨show (23 : Nat) < 100 from by decide, nf2⟩, List.forall_mem_cons.mpr ⟨⟨show (23 : Nat) < 100 from by decide, nf3⟩, List.forall_mem_cons.mpr ⟨⟨show (20 : Nat) < 100 from by decide, nf4⟩, List.forall_mem_cons.mpr ⟨⟨show (20 : Nat) < 100 from by decide, nf5⟩, List.forall_mem_cons.mpr ⟨⟨show (20 : Nat) < 100 from by decide, nf6⟩, (fun _ h => (by cases h))⟩⟩⟩⟩⟩⟩⟩, (fun _ h => (by cases h))⟩
set_option maxHeartbeats 4000000 in
theorem vc_Mo_change_5_0 (x3 : Int) (x11 : Int) (x12 : Int) (all_0 : Int → Int) (r_0 : Int) (k3 : 0 ≤ x3 ∧ x3 ≤ 47) (k11 : 0 ≤ x11 ∧ x11 ≤ 48) (k12 : 0 ≤ x12 ∧ x12 ≤ 48) (f0 : 1 * x11 + ((-1) * x3 + 0) ≤ 0) (f1 : (-1) * x11 + (1 * x3 + 0) ≤ 0) (f2 : 1 * x12 + ((-1) * x3 + 0) ≤ 0) (f3 : (-1) * x12 + (1 * x3 + 0) ≤ 0) (f6 : CPd (r_0) (all_0) (x11) (x12)) : 1 * x3 + ((-1) * all_0 (r_0 + 1) + 0) ≤ (-1) := by
  first
    | omega
    | (have h := (‹CPe _ _ _ _›.2.1 rfl).2.2.2.2.2.1
       omega)
    | (have h := ‹CPd _ _ _ _›.2.2.1 rfl
       omega)
    | (have h := ‹CPv _ _ _ _›.2.2.2 rfl
       simp only [Int.add_zero] at *
       omega)
set_option maxHeartbeats 4000000 in
theorem vc_Mo_change_5_1 (x3 : Int) (x11 : Int) (x12 : Int) (all_0 : Int → Int) (r_0 : Int) (k3 : 0 ≤ x3 ∧ x3 ≤ 47) (k11 : 0 ≤ x11 ∧ x11 ≤ 48) (k12 : 0 ≤ x12 ∧ x12 ≤ 48) (f0 : 1 * x11 + ((-1) * x3 + 0) ≤ 0) (f1 : (-1) * x11 + (1 * x3 + 0) ≤ 0) (f2 : 1 * x12 + ((-1) * x3 + 0) ≤ 0) (f3 : (-1) * x12 + (1 * x3 + 0) ≤ 0) (f6 : CPd (r_0) (all_0) (x11) (x12)) : EDA (r_0) (all_0) (x3) := by
  have h := ‹CPd _ _ _ _›.2.2.1 rfl
  exact ⟨by omega, by omega⟩
def o_Mo_change_5 : or_T := (166, 13, [(3, (0, 0, 47, [])), (11, (0, 0, 48, [])), (12, (0, 0, 48, []))], [(23, [11, 3], [0, 1, -1]), (23, [11, 3], [0, -1, 1]), (23, [12, 3], [0, 1, -1]), (23, [12, 3], [0, -1, 1]), (20, [0, 11, 12], [60, 1, 1, 224, 5, 2])], [], [], [(20, [3, 0], [30, -1, 1, 0, 0, -1, 3, 2005001]), (20, [0, 3], [60, 1, 1, 209, 5, 2])], [], [])
theorem oo_Mo_change_5 {kA : Nat → ClassId} : or_ok PRD kA GG o_Mo_change_5 := by
  refine or_mk fun A ta ws vs hD hth hl => ?_
  intro t3 k3 t11 k11 t12 k12 f0 f1 f2 f3 f6
  have nf0 : fc_1 PRD (20, [3, 0], [30, -1, 1, 0, 0, -1, 3, 2005001]) ws (vs) := ⟨nf_in hl rfl, sgq_951 (vc_Mo_change_5_0 (v_iv (n_v vs 3)) (v_iv (n_v vs 11)) (v_iv (n_v vs 12)) (w_ei ws (w_ar ws (n_v vs 0) 2)) (w_fi ws (n_v vs 0) 5) k3 k11 k12 (shm_7 f0) (shm_22 f1) (shm_7 f2) (shm_22 f3) (shm_1261 f6))⟩
  have nf1 : fc_1 PRD (20, [0, 3], [60, 1, 1, 209, 5, 2]) ws (vs) := ⟨nf_in hl rfl, sgq_953 (vc_Mo_change_5_1 (v_iv (n_v vs 3)) (v_iv (n_v vs 11)) (v_iv (n_v vs 12)) (w_ei ws (w_ar ws (n_v vs 0) 2)) (w_fi ws (n_v vs 0) 5) k3 k11 k12 (shm_7 f0) (shm_22 f1) (shm_7 f2) (shm_22 f3) (shm_1261 f6))⟩
  refine ⟨(fun _ h => (by cases h)), [], trivial, ?_, (fun _ h => (by cases h))⟩
  rw [List.append_nil]
  exact List.forall_mem_cons.mpr ⟨⟨show (20 : Nat) < 100 from by decide, nf0⟩, List.forall_mem_cons.mpr ⟨⟨show (20 : Nat) < 100 from by decide, nf1⟩, (fun _ h => (by cases h))⟩⟩
set_option maxHeartbeats 4000000 in
theorem vc_Mo_change_6_0 (now_0 : Int → Int) (r_0 : Int) (all_0 : Int → Int) (latest_0 : Int → Int) (f6 : RWS (r_0) (all_0) (now_0) (latest_0)) : ROWS (all_0) (now_0) (latest_0) := by
  first
    | assumption
    | exact ‹RWS _ _ _ _›.1
def o_Mo_change_6 : or_T := (170, 14, [], [(20, [0], [60, 1, 3, 199, 5, 2, 3, 4])], [], [], [(20, [0], [60, 0, 3, 198, 2, 3, 4])], [], [])
theorem oo_Mo_change_6 {kA : Nat → ClassId} : or_ok PRD kA GG o_Mo_change_6 := by
  refine or_mk fun A ta ws vs hD hth hl => ?_
  intro f6
  have nf0 : fc_1 PRD (20, [0], [60, 0, 3, 198, 2, 3, 4]) ws (vs) := ⟨nf_in hl rfl, sgq_1199 (vc_Mo_change_6_0 (w_ei ws (w_ar ws (n_v vs 0) 3)) (w_fi ws (n_v vs 0) 5) (w_ei ws (w_ar ws (n_v vs 0) 2)) (w_ei ws (w_ar ws (n_v vs 0) 4)) (shm_952 f6))⟩
  refine ⟨(fun _ h => (by cases h)), [], trivial, ?_, (fun _ h => (by cases h))⟩
  rw [List.append_nil]
  exact List.forall_mem_cons.mpr ⟨⟨show (20 : Nat) < 100 from by decide, nf0⟩, (fun _ h => (by cases h))⟩
set_option maxHeartbeats 4000000 in
theorem vc_Mo_change_7_0 (x3 : Int) (gx : Int) (k3 : 0 ≤ x3 ∧ x3 ≤ 23) (ex2 : gx = x3) : 1 * gx + ((-1) * x3 + 0) ≤ 0 := by
  first
    | omega
    | (have h := (‹CPe _ _ _ _›.2.1 rfl).2.2.2.2.2.1
       omega)
    | (have h := ‹CPd _ _ _ _›.2.2.1 rfl
       omega)
    | (have h := ‹CPv _ _ _ _›.2.2.2 rfl
       simp only [Int.add_zero] at *
       omega)
set_option maxHeartbeats 4000000 in
theorem vc_Mo_change_7_1 (x3 : Int) (gx : Int) (k3 : 0 ≤ x3 ∧ x3 ≤ 23) (ex2 : gx = x3) : (-1) * gx + (1 * x3 + 0) ≤ 0 := by
  first
    | omega
    | (have h := (‹CPe _ _ _ _›.2.1 rfl).2.2.2.2.2.1
       omega)
    | (have h := ‹CPd _ _ _ _›.2.2.1 rfl
       omega)
    | (have h := ‹CPv _ _ _ _›.2.2.2 rfl
       simp only [Int.add_zero] at *
       omega)
set_option maxHeartbeats 4000000 in
theorem vc_Mo_change_7_2 (x3 : Int) (gx : Int) (gy : Int) (k3 : 0 ≤ x3 ∧ x3 ≤ 23) (ex2 : gx = x3) (ey2 : gy = x3) : 1 * gy + ((-1) * x3 + 0) ≤ 0 := by
  first
    | omega
    | (have h := (‹CPe _ _ _ _›.2.1 rfl).2.2.2.2.2.1
       omega)
    | (have h := ‹CPd _ _ _ _›.2.2.1 rfl
       omega)
    | (have h := ‹CPv _ _ _ _›.2.2.2 rfl
       simp only [Int.add_zero] at *
       omega)
set_option maxHeartbeats 4000000 in
theorem vc_Mo_change_7_3 (x3 : Int) (gx : Int) (gy : Int) (k3 : 0 ≤ x3 ∧ x3 ≤ 23) (ex2 : gx = x3) (ey2 : gy = x3) : (-1) * gy + (1 * x3 + 0) ≤ 0 := by
  first
    | omega
    | (have h := (‹CPe _ _ _ _›.2.1 rfl).2.2.2.2.2.1
       omega)
    | (have h := ‹CPd _ _ _ _›.2.2.1 rfl
       omega)
    | (have h := ‹CPv _ _ _ _›.2.2.2 rfl
       simp only [Int.add_zero] at *
       omega)
set_option maxHeartbeats 4000000 in
theorem vc_Mo_change_7_4 (x1 : Int) (all_0 : Int → Int) (r_0 : Int) (now_0 : Int → Int) (latest_0 : Int → Int) (k1 : 0 ≤ x1 ∧ x1 ≤ 3) (f3 : ROWS (all_0) (now_0) (latest_0)) (f4 : r_0 = ((16709 * x1) + (539 * now_0 (x1)))) : RWS (r_0) (all_0) (now_0) (latest_0) := by
  first
    | assumption
    | exact rws_now (g := x1) ‹ROWS _ _ _› (by omega) (by omega) (by omega)
set_option maxHeartbeats 4000000 in
theorem vc_Mo_change_7_5 (x1 : Int) (r_0 : Int) (now_0 : Int → Int) (k1 : 0 ≤ x1 ∧ x1 ≤ 3) (f4 : r_0 = ((16709 * x1) + (539 * now_0 (x1)))) : r_0 = ((16709 * x1) + (539 * now_0 (x1))) := by
  first
    | omega
    | (have h := (‹CPe _ _ _ _›.2.1 rfl).2.2.2.2.2.1
       omega)
    | (have h := ‹CPd _ _ _ _›.2.2.1 rfl
       omega)
    | (have h := ‹CPv _ _ _ _›.2.2.2 rfl
       simp only [Int.add_zero] at *
       omega)
set_option maxHeartbeats 4000000 in
theorem vc_Mo_change_7_6 (x3 : Int) (x7 : Int) (x9 : Int) (all_0 : Int → Int) (r_0 : Int) (gx : Int) (gy : Int) (k3 : 0 ≤ x3 ∧ x3 ≤ 23) (k7 : 0 ≤ x7 ∧ x7 ≤ 24) (k9 : (-1) ≤ x9 ∧ x9 ≤ 23) (d0 : x9 + (-4294967296) ≤ x3 ∧ x3 ≤ x9 + 0) (d1 : x7 + (-1) ≤ x9 ∧ x9 ≤ x7 + (-1)) (f1 : 1 * x7 + ((-1) * all_0 (r_0 + 0) + 0) ≤ 0) (f2 : (-1) * x7 + (1 * all_0 (r_0 + 0) + 0) ≤ 0) (ex2 : gx = x3) (ey2 : gy = x3) (ey3 : 0 ≤ gy ∧ gy ≤ 48) : CPv (r_0) (all_0) (gx) (gy) := by
  subst ex2; subst ey2
  try simp only [Int.add_zero] at *
  exact ⟨fun q => by omega, fun q => by omega, fun q => by omega, fun _ => ⟨by omega, by omega⟩⟩
def o_Mo_change_7 : or_T := (189, 11, [(1, (0, 0, 3, [])), (3, (0, 0, 23, [])), (7, (0, 0, 24, [])), (9, (0, -1, 23, []))], [(20, [7, 0], [30, 0, 1, 0, 0, -1, 3, 2005000]), (20, [7, 0], [30, 0, -1, 0, 0, 1, 3, 2005000]), (20, [0], [60, 0, 3, 198, 2, 3, 4]), (20, [0, 1], [50, 1, 1, 5, 3, 1, 3, 2, 0, 5, 4, 6, 6, 2, 0, 16709, 1, 1, 6, 2, 0, 539, 3, 0, 3, 1, 1])], [], [(0, 0, 48, []), (0, 0, 48, [])], [(23, [11, 3], [0, 1, -1]), (23, [11, 3], [0, -1, 1]), (23, [12, 3], [0, 1, -1]), (23, [12, 3], [0, -1, 1]), (20, [0], [60, 1, 3, 199, 5, 2, 3, 4]), (20, [0, 1], [50, 1, 1, 5, 3, 1, 3, 2, 0, 5, 4, 6, 6, 2, 0, 16709, 1, 1, 6, 2, 0, 539, 3, 0, 3, 1, 1]), (20, [0, 11, 12], [60, 1, 1, 228, 5, 2])], [], [(3, 9, -4294967296, 0), (9, 7, -1, -1)])
theorem oo_Mo_change_7 {kA : Nat → ClassId} : or_ok PRD kA GG o_Mo_change_7 := by
  refine or_mk fun A ta ws vs hD hth hl => ?_
  intro t1 k1 t3 k3 t7 k7 t9 k9 d0 d1 f1 f2 f3 f4
  replace f1 := shm_135 f1
  replace f2 := shm_136 f2
  replace f3 := shm_1199 f3
  replace f4 := shm_1007 f4
  obtain ⟨x, ex, hx⟩ := iv_ex (ta := ta) (lo := 0) (hi := 48) (z := v_iv (n_v vs 3)) (by omega) (by omega) (by omega) (by omega)
  have ex2 : v_iv (Value.int x) = v_iv (n_v vs 3) := ex
  have ex3 : 0 ≤ v_iv (Value.int x) ∧ v_iv (Value.int x) ≤ 48 := tv_rng hx
  obtain ⟨y, ey, hy⟩ := iv_ex (ta := ta) (lo := 0) (hi := 48) (z := v_iv (n_v vs 3)) (by omega) (by omega) (by omega) (by omega)
  have ey2 : v_iv (Value.int y) = v_iv (n_v vs 3) := ey
  have ey3 : 0 ≤ v_iv (Value.int y) ∧ v_iv (Value.int y) ≤ 48 := tv_rng hy
  have e_0 : n_v (vs ++ [Value.int x, Value.int y]) 0 = n_v vs 0 := n_v_old (by rw [hl]; decide)
  have e_1 : n_v (vs ++ [Value.int x, Value.int y]) 1 = n_v vs 1 := n_v_old (by rw [hl]; decide)
  have e_3 : n_v (vs ++ [Value.int x, Value.int y]) 3 = n_v vs 3 := n_v_old (by rw [hl]; decide)
  have e_11 : n_v (vs ++ [Value.int x, Value.int y]) 11 = Value.int x := n_v_new0 hl
  have e_12 : n_v (vs ++ [Value.int x, Value.int y]) 12 = Value.int y := n_v_new1 hl
  have nf0 : fc_1 PRD (23, [11, 3], [0, 1, -1]) ws (vs ++ [Value.int x, Value.int y]) := by
    refine ⟨nf_inA hl rfl, sgq_7 ?_⟩
    · show 1 * v_iv (n_v (vs ++ [Value.int x, Value.int y]) 11) + ((-1) * v_iv (n_v (vs ++ [Value.int x, Value.int y]) 3) + 0) ≤ 0
      simp only [e_3, e_11]
      exact vc_Mo_change_7_0 (v_iv (n_v vs 3)) (v_iv (Value.int x)) k3 ex2
  have nf1 : fc_1 PRD (23, [11, 3], [0, -1, 1]) ws (vs ++ [Value.int x, Value.int y]) := by
    refine ⟨nf_inA hl rfl, sgq_22 ?_⟩
    · show (-1) * v_iv (n_v (vs ++ [Value.int x, Value.int y]) 11) + (1 * v_iv (n_v (vs ++ [Value.int x, Value.int y]) 3) + 0) ≤ 0
      simp only [e_3, e_11]
      exact vc_Mo_change_7_1 (v_iv (n_v vs 3)) (v_iv (Value.int x)) k3 ex2
  have nf2 : fc_1 PRD (23, [12, 3], [0, 1, -1]) ws (vs ++ [Value.int x, Value.int y]) := by
    refine ⟨nf_inA hl rfl, sgq_7 ?_⟩
    · show 1 * v_iv (n_v (vs ++ [Value.int x, Value.int y]) 12) + ((-1) * v_iv (n_v (vs ++ [Value.int x, Value.int y]) 3) + 0) ≤ 0
      simp only [e_3, e_12]
      exact vc_Mo_change_7_2 (v_iv (n_v vs 3)) (v_iv (Value.int x)) (v_iv (Value.int y)) k3 ex2 ey2
  have nf3 : fc_1 PRD (23, [12, 3], [0, -1, 1]) ws (vs ++ [Value.int x, Value.int y]) := by
    refine ⟨nf_inA hl rfl, sgq_22 ?_⟩
    · show (-1) * v_iv (n_v (vs ++ [Value.int x, Value.int y]) 12) + (1 * v_iv (n_v (vs ++ [Value.int x, Value.int y]) 3) + 0) ≤ 0
      simp only [e_3, e_12]
      exact vc_Mo_change_7_3 (v_iv (n_v vs 3)) (v_iv (Value.int x)) (v_iv (Value.int y)) k3 ex2 ey2
  have nf4 : fc_1 PRD (20, [0], [60, 1, 3, 199, 5, 2, 3, 4]) ws (vs ++ [Value.int x, Value.int y]) := by
    refine ⟨nf_inA hl rfl, sgq_952 ?_⟩
    · show RWS (w_fi ws (n_v (vs ++ [Value.int x, Value.int y]) 0) 5) (w_ei ws (w_ar ws (n_v (vs ++ [Value.int x, Value.int y]) 0) 2)) (w_ei ws (w_ar ws (n_v (vs ++ [Value.int x, Value.int y]) 0) 3)) (w_ei ws (w_ar ws (n_v (vs ++ [Value.int x, Value.int y]) 0) 4))
      rw [e_0]
      exact vc_Mo_change_7_4 (v_iv (n_v vs 1)) (w_ei ws (w_ar ws (n_v vs 0) 2)) (w_fi ws (n_v vs 0) 5) (w_ei ws (w_ar ws (n_v vs 0) 3)) (w_ei ws (w_ar ws (n_v vs 0) 4)) k1 f3 f4
  have nf5 : fc_1 PRD (20, [0, 1], [50, 1, 1, 5, 3, 1, 3, 2, 0, 5, 4, 6, 6, 2, 0, 16709, 1, 1, 6, 2, 0, 539, 3, 0, 3, 1, 1]) ws (vs ++ [Value.int x, Value.int y]) := by
    refine ⟨nf_inA hl rfl, sgq_1007 ?_⟩
    · show w_fi ws (n_v (vs ++ [Value.int x, Value.int y]) 0) 5 = ((16709 * v_iv (n_v (vs ++ [Value.int x, Value.int y]) 1)) + (539 * w_ei ws (w_ar ws (n_v (vs ++ [Value.int x, Value.int y]) 0) 3) (v_iv (n_v (vs ++ [Value.int x, Value.int y]) 1))))
      simp only [e_0, e_1]
      exact vc_Mo_change_7_5 (v_iv (n_v vs 1)) (w_fi ws (n_v vs 0) 5) (w_ei ws (w_ar ws (n_v vs 0) 3)) k1 f4
  have nf6 : fc_1 PRD (20, [0, 11, 12], [60, 1, 1, 228, 5, 2]) ws (vs ++ [Value.int x, Value.int y]) := by
    refine ⟨nf_inA hl rfl, sgq_1278 ?_⟩
    · show CPv (w_fi ws (n_v (vs ++ [Value.int x, Value.int y]) 0) 5) (w_ei ws (w_ar ws (n_v (vs ++ [Value.int x, Value.int y]) 0) 2)) (v_iv (n_v (vs ++ [Value.int x, Value.int y]) 11)) (v_iv (n_v (vs ++ [Value.int x, Value.int y]) 12))
      simp only [e_0, e_11, e_12]
      exact vc_Mo_change_7_6 (v_iv (n_v vs 3)) (v_iv (n_v vs 7)) (v_iv (n_v vs 9)) (w_ei ws (w_ar ws (n_v vs 0) 2)) (w_fi ws (n_v vs 0) 5) (v_iv (Value.int x)) (v_iv (Value.int y)) k3 k7 k9 d0 d1 f1 f2 ex2 ey2 ey3
  exact ⟨(fun _ h => (by cases h)), [Value.int x, Value.int y], ag_two hx hy, List.forall_mem_cons.mpr ⟨⟨show (23 : Nat) < 100 from by decide, nf0⟩, List.forall_mem_cons.mpr ⟨⟨show (23 : Nat) < 100 from by decide, nf1⟩, List.forall_mem_cons.mpr ⟨⟨show (23 : Nat) < 100 from by decide, nf2⟩, List.forall_mem_cons.mpr ⟨⟨show (23 : Nat) < 100 from by decide, nf3⟩, List.forall_mem_cons.mpr ⟨⟨show (20 : Nat) < 100 from by decide, nf4⟩, List.forall_mem_cons.mpr ⟨⟨show (20 : Nat) < 100 from by decide, nf5⟩, List.forall_mem_cons.mpr ⟨⟨show (20 : Nat) < 100 from by decide, nf6⟩, (fun _ h => (by cases h))⟩⟩⟩⟩⟩⟩⟩, (fun _ h => (by cases h))⟩
set_option maxHeartbeats 4000000 in
theorem vc_Mo_change_8_0 (x3 : Int) (x11 : Int) (x12 : Int) (all_0 : Int → Int) (r_0 : Int) (k3 : 0 ≤ x3 ∧ x3 ≤ 23) (k11 : 0 ≤ x11 ∧ x11 ≤ 48) (k12 : 0 ≤ x12 ∧ x12 ≤ 48) (f0 : 1 * x11 + ((-1) * x3 + 0) ≤ 0) (f1 : (-1) * x11 + (1 * x3 + 0) ≤ 0) (f2 : 1 * x12 + ((-1) * x3 + 0) ≤ 0) (f3 : (-1) * x12 + (1 * x3 + 0) ≤ 0) (f6 : CPv (r_0) (all_0) (x11) (x12)) : 1 * x3 + ((-1) * all_0 (r_0 + 0) + 0) ≤ (-1) := by
  first
    | omega
    | (have h := (‹CPe _ _ _ _›.2.1 rfl).2.2.2.2.2.1
       omega)
    | (have h := ‹CPd _ _ _ _›.2.2.1 rfl
       omega)
    | (have h := ‹CPv _ _ _ _›.2.2.2 rfl
       simp only [Int.add_zero] at *
       omega)
set_option maxHeartbeats 4000000 in
theorem vc_Mo_change_8_1 (x3 : Int) (x11 : Int) (x12 : Int) (all_0 : Int → Int) (r_0 : Int) (k3 : 0 ≤ x3 ∧ x3 ≤ 23) (k11 : 0 ≤ x11 ∧ x11 ≤ 48) (k12 : 0 ≤ x12 ∧ x12 ≤ 48) (f0 : 1 * x11 + ((-1) * x3 + 0) ≤ 0) (f1 : (-1) * x11 + (1 * x3 + 0) ≤ 0) (f2 : 1 * x12 + ((-1) * x3 + 0) ≤ 0) (f3 : (-1) * x12 + (1 * x3 + 0) ≤ 0) (f6 : CPv (r_0) (all_0) (x11) (x12)) : NDA (r_0) (all_0) (x3) := by
  have h := ‹CPv _ _ _ _›.2.2.2 rfl
  exact ⟨by omega, by omega⟩
def o_Mo_change_8 : or_T := (194, 13, [(3, (0, 0, 23, [])), (11, (0, 0, 48, [])), (12, (0, 0, 48, []))], [(23, [11, 3], [0, 1, -1]), (23, [11, 3], [0, -1, 1]), (23, [12, 3], [0, 1, -1]), (23, [12, 3], [0, -1, 1]), (20, [0, 11, 12], [60, 1, 1, 228, 5, 2])], [], [], [(20, [3, 0], [30, -1, 1, 0, 0, -1, 3, 2005000]), (20, [0, 3], [60, 1, 1, 208, 5, 2])], [], [])
theorem oo_Mo_change_8 {kA : Nat → ClassId} : or_ok PRD kA GG o_Mo_change_8 := by
  refine or_mk fun A ta ws vs hD hth hl => ?_
  intro t3 k3 t11 k11 t12 k12 f0 f1 f2 f3 f6
  have nf0 : fc_1 PRD (20, [3, 0], [30, -1, 1, 0, 0, -1, 3, 2005000]) ws (vs) := ⟨nf_in hl rfl, sgq_294 (vc_Mo_change_8_0 (v_iv (n_v vs 3)) (v_iv (n_v vs 11)) (v_iv (n_v vs 12)) (w_ei ws (w_ar ws (n_v vs 0) 2)) (w_fi ws (n_v vs 0) 5) k3 k11 k12 (shm_7 f0) (shm_22 f1) (shm_7 f2) (shm_22 f3) (shm_1278 f6))⟩
  have nf1 : fc_1 PRD (20, [0, 3], [60, 1, 1, 208, 5, 2]) ws (vs) := ⟨nf_in hl rfl, sgq_955 (vc_Mo_change_8_1 (v_iv (n_v vs 3)) (v_iv (n_v vs 11)) (v_iv (n_v vs 12)) (w_ei ws (w_ar ws (n_v vs 0) 2)) (w_fi ws (n_v vs 0) 5) k3 k11 k12 (shm_7 f0) (shm_22 f1) (shm_7 f2) (shm_22 f3) (shm_1278 f6))⟩
  refine ⟨(fun _ h => (by cases h)), [], trivial, ?_, (fun _ h => (by cases h))⟩
  rw [List.append_nil]
  exact List.forall_mem_cons.mpr ⟨⟨show (20 : Nat) < 100 from by decide, nf0⟩, List.forall_mem_cons.mpr ⟨⟨show (20 : Nat) < 100 from by decide, nf1⟩, (fun _ h => (by cases h))⟩⟩
set_option maxHeartbeats 4000000 in
theorem vc_Mo_change_9_0 (now_0 : Int → Int) (r_0 : Int) (all_0 : Int → Int) (latest_0 : Int → Int) (f1 : RWS (r_0) (all_0) (now_0) (latest_0)) : ROWS (all_0) (now_0) (latest_0) := by
  first
    | assumption
    | exact ‹RWS _ _ _ _›.1
def o_Mo_change_9 : or_T := (198, 14, [], [(20, [0], [60, 1, 3, 199, 5, 2, 3, 4])], [], [], [(20, [0], [60, 0, 3, 198, 2, 3, 4])], [], [])
theorem oo_Mo_change_9 {kA : Nat → ClassId} : or_ok PRD kA GG o_Mo_change_9 := by
  refine or_mk fun A ta ws vs hD hth hl => ?_
  intro f1
  have nf0 : fc_1 PRD (20, [0], [60, 0, 3, 198, 2, 3, 4]) ws (vs) := ⟨nf_in hl rfl, sgq_1199 (vc_Mo_change_9_0 (w_ei ws (w_ar ws (n_v vs 0) 3)) (w_fi ws (n_v vs 0) 5) (w_ei ws (w_ar ws (n_v vs 0) 2)) (w_ei ws (w_ar ws (n_v vs 0) 4)) (shm_952 f1))⟩
  refine ⟨(fun _ h => (by cases h)), [], trivial, ?_, (fun _ h => (by cases h))⟩
  rw [List.append_nil]
  exact List.forall_mem_cons.mpr ⟨⟨show (20 : Nat) < 100 from by decide, nf0⟩, (fun _ h => (by cases h))⟩
set_option maxHeartbeats 4000000 in
theorem vc_Mo_change_10_0 (x1 : Int) (all_0 : Int → Int) (r_0 : Int) (now_0 : Int → Int) (latest_0 : Int → Int) (k1 : 0 ≤ x1 ∧ x1 ≤ 3) (f3 : ROWS (all_0) (now_0) (latest_0)) (f4 : r_0 = ((16709 * x1) + (539 * now_0 (x1)))) : RWS (r_0) (all_0) (now_0) (latest_0) := by
  first
    | assumption
    | exact rws_now (g := x1) ‹ROWS _ _ _› (by omega) (by omega) (by omega)
def o_Mo_change_10 : or_T := (237, 13, [(1, (0, 0, 3, []))], [(20, [0], [60, 0, 3, 198, 2, 3, 4]), (20, [0, 1], [50, 1, 1, 5, 3, 1, 3, 2, 0, 5, 4, 6, 6, 2, 0, 16709, 1, 1, 6, 2, 0, 539, 3, 0, 3, 1, 1])], [], [], [(20, [0], [60, 1, 3, 199, 5, 2, 3, 4])], [], [])
theorem oo_Mo_change_10 {kA : Nat → ClassId} : or_ok PRD kA GG o_Mo_change_10 := by
  refine or_mk fun A ta ws vs hD hth hl => ?_
  intro t1 k1 f3 f4
  have nf0 : fc_1 PRD (20, [0], [60, 1, 3, 199, 5, 2, 3, 4]) ws (vs) := ⟨nf_in hl rfl, sgq_952 (vc_Mo_change_10_0 (v_iv (n_v vs 1)) (w_ei ws (w_ar ws (n_v vs 0) 2)) (w_fi ws (n_v vs 0) 5) (w_ei ws (w_ar ws (n_v vs 0) 3)) (w_ei ws (w_ar ws (n_v vs 0) 4)) k1 (shm_1199 f3) (shm_1007 f4))⟩
  refine ⟨(fun _ h => (by cases h)), [], trivial, ?_, (fun _ h => (by cases h))⟩
  rw [List.append_nil]
  exact List.forall_mem_cons.mpr ⟨⟨show (20 : Nat) < 100 from by decide, nf0⟩, (fun _ h => (by cases h))⟩
set_option maxHeartbeats 4000000 in
theorem vc_Mo_change_11_0 (x1 : Int) (all_0 : Int → Int) (r_0 : Int) (now_0 : Int → Int) (latest_0 : Int → Int) (k1 : 0 ≤ x1 ∧ x1 ≤ 3) (f3 : ROWS (all_0) (now_0) (latest_0)) (f4 : r_0 = ((16709 * x1) + (539 * now_0 (x1)))) : RWS (r_0) (all_0) (now_0) (latest_0) := by
  first
    | assumption
    | exact rws_now (g := x1) ‹ROWS _ _ _› (by omega) (by omega) (by omega)
def o_Mo_change_11 : or_T := (237, 16, [(1, (0, 0, 3, []))], [(20, [0], [60, 0, 3, 198, 2, 3, 4]), (20, [0, 1], [50, 1, 1, 5, 3, 1, 3, 2, 0, 5, 4, 6, 6, 2, 0, 16709, 1, 1, 6, 2, 0, 539, 3, 0, 3, 1, 1])], [], [], [(20, [0], [60, 1, 3, 199, 5, 2, 3, 4])], [], [])
theorem oo_Mo_change_11 {kA : Nat → ClassId} : or_ok PRD kA GG o_Mo_change_11 := by
  refine or_mk fun A ta ws vs hD hth hl => ?_
  intro t1 k1 f3 f4
  have nf0 : fc_1 PRD (20, [0], [60, 1, 3, 199, 5, 2, 3, 4]) ws (vs) := ⟨nf_in hl rfl, sgq_952 (vc_Mo_change_11_0 (v_iv (n_v vs 1)) (w_ei ws (w_ar ws (n_v vs 0) 2)) (w_fi ws (n_v vs 0) 5) (w_ei ws (w_ar ws (n_v vs 0) 3)) (w_ei ws (w_ar ws (n_v vs 0) 4)) k1 (shm_1199 f3) (shm_1007 f4))⟩
  refine ⟨(fun _ h => (by cases h)), [], trivial, ?_, (fun _ h => (by cases h))⟩
  rw [List.append_nil]
  exact List.forall_mem_cons.mpr ⟨⟨show (20 : Nat) < 100 from by decide, nf0⟩, (fun _ h => (by cases h))⟩
set_option maxHeartbeats 4000000 in
theorem vc_Mo_change_12_0 (x1 : Int) (all_0 : Int → Int) (r_0 : Int) (now_0 : Int → Int) (latest_0 : Int → Int) (k1 : 0 ≤ x1 ∧ x1 ≤ 3) (f3 : ROWS (all_0) (now_0) (latest_0)) (f4 : r_0 = ((16709 * x1) + (539 * now_0 (x1)))) : RWS (r_0) (all_0) (now_0) (latest_0) := by
  first
    | assumption
    | exact rws_now (g := x1) ‹ROWS _ _ _› (by omega) (by omega) (by omega)
def o_Mo_change_12 : or_T := (279, 13, [(1, (0, 0, 3, []))], [(20, [0], [60, 0, 3, 198, 2, 3, 4]), (20, [0, 1], [50, 1, 1, 5, 3, 1, 3, 2, 0, 5, 4, 6, 6, 2, 0, 16709, 1, 1, 6, 2, 0, 539, 3, 0, 3, 1, 1])], [], [], [(20, [0], [60, 1, 3, 199, 5, 2, 3, 4])], [], [])
theorem oo_Mo_change_12 {kA : Nat → ClassId} : or_ok PRD kA GG o_Mo_change_12 := by
  refine or_mk fun A ta ws vs hD hth hl => ?_
  intro t1 k1 f3 f4
  have nf0 : fc_1 PRD (20, [0], [60, 1, 3, 199, 5, 2, 3, 4]) ws (vs) := ⟨nf_in hl rfl, sgq_952 (vc_Mo_change_12_0 (v_iv (n_v vs 1)) (w_ei ws (w_ar ws (n_v vs 0) 2)) (w_fi ws (n_v vs 0) 5) (w_ei ws (w_ar ws (n_v vs 0) 3)) (w_ei ws (w_ar ws (n_v vs 0) 4)) k1 (shm_1199 f3) (shm_1007 f4))⟩
  refine ⟨(fun _ h => (by cases h)), [], trivial, ?_, (fun _ h => (by cases h))⟩
  rw [List.append_nil]
  exact List.forall_mem_cons.mpr ⟨⟨show (20 : Nat) < 100 from by decide, nf0⟩, (fun _ h => (by cases h))⟩
set_option maxHeartbeats 4000000 in
theorem vc_Mo_change_13_0 (x1 : Int) (all_0 : Int → Int) (r_0 : Int) (now_0 : Int → Int) (latest_0 : Int → Int) (k1 : 0 ≤ x1 ∧ x1 ≤ 3) (f3 : ROWS (all_0) (now_0) (latest_0)) (f4 : r_0 = ((16709 * x1) + (539 * now_0 (x1)))) : RWS (r_0) (all_0) (now_0) (latest_0) := by
  first
    | assumption
    | exact rws_now (g := x1) ‹ROWS _ _ _› (by omega) (by omega) (by omega)
def o_Mo_change_13 : or_T := (279, 16, [(1, (0, 0, 3, []))], [(20, [0], [60, 0, 3, 198, 2, 3, 4]), (20, [0, 1], [50, 1, 1, 5, 3, 1, 3, 2, 0, 5, 4, 6, 6, 2, 0, 16709, 1, 1, 6, 2, 0, 539, 3, 0, 3, 1, 1])], [], [], [(20, [0], [60, 1, 3, 199, 5, 2, 3, 4])], [], [])
theorem oo_Mo_change_13 {kA : Nat → ClassId} : or_ok PRD kA GG o_Mo_change_13 := by
  refine or_mk fun A ta ws vs hD hth hl => ?_
  intro t1 k1 f3 f4
  have nf0 : fc_1 PRD (20, [0], [60, 1, 3, 199, 5, 2, 3, 4]) ws (vs) := ⟨nf_in hl rfl, sgq_952 (vc_Mo_change_13_0 (v_iv (n_v vs 1)) (w_ei ws (w_ar ws (n_v vs 0) 2)) (w_fi ws (n_v vs 0) 5) (w_ei ws (w_ar ws (n_v vs 0) 3)) (w_ei ws (w_ar ws (n_v vs 0) 4)) k1 (shm_1199 f3) (shm_1007 f4))⟩
  refine ⟨(fun _ h => (by cases h)), [], trivial, ?_, (fun _ h => (by cases h))⟩
  rw [List.append_nil]
  exact List.forall_mem_cons.mpr ⟨⟨show (20 : Nat) < 100 from by decide, nf0⟩, (fun _ h => (by cases h))⟩
set_option maxHeartbeats 4000000 in
theorem vc_Mo_change_14_0 (x1 : Int) (all_0 : Int → Int) (r_0 : Int) (now_0 : Int → Int) (latest_0 : Int → Int) (k1 : 0 ≤ x1 ∧ x1 ≤ 3) (f3 : ROWS (all_0) (now_0) (latest_0)) (f4 : r_0 = ((16709 * x1) + (539 * now_0 (x1)))) : RWS (r_0) (all_0) (now_0) (latest_0) := by
  first
    | assumption
    | exact rws_now (g := x1) ‹ROWS _ _ _› (by omega) (by omega) (by omega)
def o_Mo_change_14 : or_T := (325, 13, [(1, (0, 0, 3, []))], [(20, [0], [60, 0, 3, 198, 2, 3, 4]), (20, [0, 1], [50, 1, 1, 5, 3, 1, 3, 2, 0, 5, 4, 6, 6, 2, 0, 16709, 1, 1, 6, 2, 0, 539, 3, 0, 3, 1, 1])], [], [], [(20, [0], [60, 1, 3, 199, 5, 2, 3, 4])], [], [])
theorem oo_Mo_change_14 {kA : Nat → ClassId} : or_ok PRD kA GG o_Mo_change_14 := by
  refine or_mk fun A ta ws vs hD hth hl => ?_
  intro t1 k1 f3 f4
  have nf0 : fc_1 PRD (20, [0], [60, 1, 3, 199, 5, 2, 3, 4]) ws (vs) := ⟨nf_in hl rfl, sgq_952 (vc_Mo_change_14_0 (v_iv (n_v vs 1)) (w_ei ws (w_ar ws (n_v vs 0) 2)) (w_fi ws (n_v vs 0) 5) (w_ei ws (w_ar ws (n_v vs 0) 3)) (w_ei ws (w_ar ws (n_v vs 0) 4)) k1 (shm_1199 f3) (shm_1007 f4))⟩
  refine ⟨(fun _ h => (by cases h)), [], trivial, ?_, (fun _ h => (by cases h))⟩
  rw [List.append_nil]
  exact List.forall_mem_cons.mpr ⟨⟨show (20 : Nat) < 100 from by decide, nf0⟩, (fun _ h => (by cases h))⟩
set_option maxHeartbeats 4000000 in
theorem vc_Mo_change_15_0 (x1 : Int) (all_0 : Int → Int) (r_0 : Int) (now_0 : Int → Int) (latest_0 : Int → Int) (k1 : 0 ≤ x1 ∧ x1 ≤ 3) (f6 : ROWS (all_0) (now_0) (latest_0)) (f7 : r_0 = ((16709 * x1) + (539 * now_0 (x1)))) : RWS (r_0) (all_0) (now_0) (latest_0) := by
  first
    | assumption
    | exact rws_now (g := x1) ‹ROWS _ _ _› (by omega) (by omega) (by omega)
def o_Mo_change_15 : or_T := (325, 18, [(1, (0, 0, 3, []))], [(20, [0], [60, 0, 3, 198, 2, 3, 4]), (20, [0, 1], [50, 1, 1, 5, 3, 1, 3, 2, 0, 5, 4, 6, 6, 2, 0, 16709, 1, 1, 6, 2, 0, 539, 3, 0, 3, 1, 1])], [], [], [(20, [0], [60, 1, 3, 199, 5, 2, 3, 4])], [], [])
theorem oo_Mo_change_15 {kA : Nat → ClassId} : or_ok PRD kA GG o_Mo_change_15 := by
  refine or_mk fun A ta ws vs hD hth hl => ?_
  intro t1 k1 f6 f7
  have nf0 : fc_1 PRD (20, [0], [60, 1, 3, 199, 5, 2, 3, 4]) ws (vs) := ⟨nf_in hl rfl, sgq_952 (vc_Mo_change_15_0 (v_iv (n_v vs 1)) (w_ei ws (w_ar ws (n_v vs 0) 2)) (w_fi ws (n_v vs 0) 5) (w_ei ws (w_ar ws (n_v vs 0) 3)) (w_ei ws (w_ar ws (n_v vs 0) 4)) k1 (shm_1199 f6) (shm_1007 f7))⟩
  refine ⟨(fun _ h => (by cases h)), [], trivial, ?_, (fun _ h => (by cases h))⟩
  rw [List.append_nil]
  exact List.forall_mem_cons.mpr ⟨⟨show (20 : Nat) < 100 from by decide, nf0⟩, (fun _ h => (by cases h))⟩
set_option maxHeartbeats 4000000 in
theorem vc_Mo_change_16_0 (x1 : Int) (all_0 : Int → Int) (r_0 : Int) (now_0 : Int → Int) (latest_0 : Int → Int) (k1 : 0 ≤ x1 ∧ x1 ≤ 3) (f3 : ROWS (all_0) (now_0) (latest_0)) (f4 : r_0 = ((16709 * x1) + (539 * now_0 (x1)))) : RWS (r_0) (all_0) (now_0) (latest_0) := by
  first
    | assumption
    | exact rws_now (g := x1) ‹ROWS _ _ _› (by omega) (by omega) (by omega)
def o_Mo_change_16 : or_T := (366, 13, [(1, (0, 0, 3, []))], [(20, [0], [60, 0, 3, 198, 2, 3, 4]), (20, [0, 1], [50, 1, 1, 5, 3, 1, 3, 2, 0, 5, 4, 6, 6, 2, 0, 16709, 1, 1, 6, 2, 0, 539, 3, 0, 3, 1, 1])], [], [], [(20, [0], [60, 1, 3, 199, 5, 2, 3, 4])], [], [])
theorem oo_Mo_change_16 {kA : Nat → ClassId} : or_ok PRD kA GG o_Mo_change_16 := by
  refine or_mk fun A ta ws vs hD hth hl => ?_
  intro t1 k1 f3 f4
  have nf0 : fc_1 PRD (20, [0], [60, 1, 3, 199, 5, 2, 3, 4]) ws (vs) := ⟨nf_in hl rfl, sgq_952 (vc_Mo_change_16_0 (v_iv (n_v vs 1)) (w_ei ws (w_ar ws (n_v vs 0) 2)) (w_fi ws (n_v vs 0) 5) (w_ei ws (w_ar ws (n_v vs 0) 3)) (w_ei ws (w_ar ws (n_v vs 0) 4)) k1 (shm_1199 f3) (shm_1007 f4))⟩
  refine ⟨(fun _ h => (by cases h)), [], trivial, ?_, (fun _ h => (by cases h))⟩
  rw [List.append_nil]
  exact List.forall_mem_cons.mpr ⟨⟨show (20 : Nat) < 100 from by decide, nf0⟩, (fun _ h => (by cases h))⟩
set_option maxHeartbeats 4000000 in
theorem vc_Mo_change_17_0 (x1 : Int) (all_0 : Int → Int) (r_0 : Int) (now_0 : Int → Int) (latest_0 : Int → Int) (k1 : 0 ≤ x1 ∧ x1 ≤ 3) (f3 : ROWS (all_0) (now_0) (latest_0)) (f4 : r_0 = ((16709 * x1) + (539 * now_0 (x1)))) : RWS (r_0) (all_0) (now_0) (latest_0) := by
  first
    | assumption
    | exact rws_now (g := x1) ‹ROWS _ _ _› (by omega) (by omega) (by omega)
def o_Mo_change_17 : or_T := (366, 16, [(1, (0, 0, 3, []))], [(20, [0], [60, 0, 3, 198, 2, 3, 4]), (20, [0, 1], [50, 1, 1, 5, 3, 1, 3, 2, 0, 5, 4, 6, 6, 2, 0, 16709, 1, 1, 6, 2, 0, 539, 3, 0, 3, 1, 1])], [], [], [(20, [0], [60, 1, 3, 199, 5, 2, 3, 4])], [], [])
theorem oo_Mo_change_17 {kA : Nat → ClassId} : or_ok PRD kA GG o_Mo_change_17 := by
  refine or_mk fun A ta ws vs hD hth hl => ?_
  intro t1 k1 f3 f4
  have nf0 : fc_1 PRD (20, [0], [60, 1, 3, 199, 5, 2, 3, 4]) ws (vs) := ⟨nf_in hl rfl, sgq_952 (vc_Mo_change_17_0 (v_iv (n_v vs 1)) (w_ei ws (w_ar ws (n_v vs 0) 2)) (w_fi ws (n_v vs 0) 5) (w_ei ws (w_ar ws (n_v vs 0) 3)) (w_ei ws (w_ar ws (n_v vs 0) 4)) k1 (shm_1199 f3) (shm_1007 f4))⟩
  refine ⟨(fun _ h => (by cases h)), [], trivial, ?_, (fun _ h => (by cases h))⟩
  rw [List.append_nil]
  exact List.forall_mem_cons.mpr ⟨⟨show (20 : Nat) < 100 from by decide, nf0⟩, (fun _ h => (by cases h))⟩
def n_Mo_change_an : List an_T := []
def t_Mo_change_ct : ct_L := [(0, 387, e_Mo_in), (0, 521, e_Mo_isPlace), (1, 401, e_Mo_edges), (1, 475, e_Mo_nodes), (1, 488, e_Mo_between), (1, 509, e_Mo_groups), (1, 527, e_Mo_take), (1, 530, e_Mo_newNode), (1, 539, e_Mo_dropNode), (379, 533, e_Mo_step_at_ge), (403, 515, e_Mo_newEdge_at_gx), (487, 533, e_Mo_step_at_gd), (502, 536, e_Mo_dropEdge_at_gx), (571, 533, e_Mo_step_at_gv), (715, 542, e_Mo_becomes_at_k219_k1), (715, 542, e_Mo_becomes_at_k219_k0), (841, 542, e_Mo_becomes_at_k363_k0), (841, 542, e_Mo_becomes_at_k363_k1), (979, 542, e_Mo_becomes_at_k243_k0), (979, 542, e_Mo_becomes_at_k243_k1), (1102, 542, e_Mo_becomes_at_k411_k0), (1102, 542, e_Mo_becomes_at_k411_k1)]
set_option maxRecDepth 100000 in
theorem c_Mo_change {l : Launch} {D : va_G} {kA : Nat → ClassId} (h_Mo_becomes_at_k219_k0 : ct_ok PRD l D kA GG y_Mo_becomes_at_k219_k0 z_Mo_becomes_at_k219_k0 e_Mo_becomes_at_k219_k0) (h_Mo_becomes_at_k219_k1 : ct_ok PRD l D kA GG y_Mo_becomes_at_k219_k1 z_Mo_becomes_at_k219_k1 e_Mo_becomes_at_k219_k1) (h_Mo_becomes_at_k243_k0 : ct_ok PRD l D kA GG y_Mo_becomes_at_k243_k0 z_Mo_becomes_at_k243_k0 e_Mo_becomes_at_k243_k0) (h_Mo_becomes_at_k243_k1 : ct_ok PRD l D kA GG y_Mo_becomes_at_k243_k1 z_Mo_becomes_at_k243_k1 e_Mo_becomes_at_k243_k1) (h_Mo_becomes_at_k363_k0 : ct_ok PRD l D kA GG y_Mo_becomes_at_k363_k0 z_Mo_becomes_at_k363_k0 e_Mo_becomes_at_k363_k0) (h_Mo_becomes_at_k363_k1 : ct_ok PRD l D kA GG y_Mo_becomes_at_k363_k1 z_Mo_becomes_at_k363_k1 e_Mo_becomes_at_k363_k1) (h_Mo_becomes_at_k411_k0 : ct_ok PRD l D kA GG y_Mo_becomes_at_k411_k0 z_Mo_becomes_at_k411_k0 e_Mo_becomes_at_k411_k0) (h_Mo_becomes_at_k411_k1 : ct_ok PRD l D kA GG y_Mo_becomes_at_k411_k1 z_Mo_becomes_at_k411_k1 e_Mo_becomes_at_k411_k1) (h_Mo_between : ct_ok PRD l D kA GG y_Mo_between z_Mo_between e_Mo_between) (h_Mo_dropEdge_at_gx : ct_ok PRD l D kA GG y_Mo_dropEdge_at_gx z_Mo_dropEdge_at_gx e_Mo_dropEdge_at_gx) (h_Mo_dropNode : ct_ok PRD l D kA GG y_Mo_dropNode z_Mo_dropNode e_Mo_dropNode) (h_Mo_edges : ct_ok PRD l D kA GG y_Mo_edges z_Mo_edges e_Mo_edges) (h_Mo_groups : ct_ok PRD l D kA GG y_Mo_groups z_Mo_groups e_Mo_groups) (h_Mo_in : ct_ok PRD l D kA GG y_Mo_in z_Mo_in e_Mo_in) (h_Mo_isPlace : ct_ok PRD l D kA GG y_Mo_isPlace z_Mo_isPlace e_Mo_isPlace) (h_Mo_newEdge_at_gx : ct_ok PRD l D kA GG y_Mo_newEdge_at_gx z_Mo_newEdge_at_gx e_Mo_newEdge_at_gx) (h_Mo_newNode : ct_ok PRD l D kA GG y_Mo_newNode z_Mo_newNode e_Mo_newNode) (h_Mo_nodes : ct_ok PRD l D kA GG y_Mo_nodes z_Mo_nodes e_Mo_nodes) (h_Mo_step_at_gd : ct_ok PRD l D kA GG y_Mo_step_at_gd z_Mo_step_at_gd e_Mo_step_at_gd) (h_Mo_step_at_ge : ct_ok PRD l D kA GG y_Mo_step_at_ge z_Mo_step_at_ge e_Mo_step_at_ge) (h_Mo_step_at_gv : ct_ok PRD l D kA GG y_Mo_step_at_gv z_Mo_step_at_gv e_Mo_step_at_gv) (h_Mo_take : ct_ok PRD l D kA GG y_Mo_take z_Mo_take e_Mo_take) : ct_ok PRD l D kA GG y_Mo_change z_Mo_change e_Mo_change := chk_all_ok (FT := []) (PT := []) (CT := t_Mo_change_ct) (KT := []) (NT := []) (AN := n_Mo_change_an) (OT := [o_Mo_change_0, o_Mo_change_1, o_Mo_change_2, o_Mo_change_3, o_Mo_change_4, o_Mo_change_5, o_Mo_change_6, o_Mo_change_7, o_Mo_change_8, o_Mo_change_9, o_Mo_change_10, o_Mo_change_11, o_Mo_change_12, o_Mo_change_13, o_Mo_change_14, o_Mo_change_15, o_Mo_change_16, o_Mo_change_17]) 0 1244 (List.forall_mem_cons.mpr ⟨oo_Mo_change_0, List.forall_mem_cons.mpr ⟨oo_Mo_change_1, List.forall_mem_cons.mpr ⟨oo_Mo_change_2, List.forall_mem_cons.mpr ⟨oo_Mo_change_3, List.forall_mem_cons.mpr ⟨oo_Mo_change_4, List.forall_mem_cons.mpr ⟨oo_Mo_change_5, List.forall_mem_cons.mpr ⟨oo_Mo_change_6, List.forall_mem_cons.mpr ⟨oo_Mo_change_7, List.forall_mem_cons.mpr ⟨oo_Mo_change_8, List.forall_mem_cons.mpr ⟨oo_Mo_change_9, List.forall_mem_cons.mpr ⟨oo_Mo_change_10, List.forall_mem_cons.mpr ⟨oo_Mo_change_11, List.forall_mem_cons.mpr ⟨oo_Mo_change_12, List.forall_mem_cons.mpr ⟨oo_Mo_change_13, List.forall_mem_cons.mpr ⟨oo_Mo_change_14, List.forall_mem_cons.mpr ⟨oo_Mo_change_15, List.forall_mem_cons.mpr ⟨oo_Mo_change_16, List.forall_mem_cons.mpr ⟨oo_Mo_change_17, List.forall_mem_nil _⟩⟩⟩⟩⟩⟩⟩⟩⟩⟩⟩⟩⟩⟩⟩⟩⟩⟩) (by decide +kernel) ⟨List.forall_mem_nil _, List.forall_mem_nil _, List.forall_mem_cons.mpr ⟨cl_static (y := y_Mo_in) h_Mo_in wm_2971 wm_9 wm_2969 wm_2970 ⟨by decide, by decide, by decide +kernel⟩ (by decide), List.forall_mem_cons.mpr ⟨cl_static (y := y_Mo_isPlace) h_Mo_isPlace wm_2978 wm_9 wm_2976 wm_2977 ⟨by decide, by decide, by decide +kernel⟩ (by decide), List.forall_mem_cons.mpr ⟨cl_virtual (y := y_Mo_edges) (ci := 13) rfl rfl ⟨_, _, rfl⟩ (by decide +kernel) h_Mo_edges wm_3037 wm_9 wm_3034 wm_3036 wv_13_6 ⟨by decide, by decide, by decide +kernel⟩ (by decide), List.forall_mem_cons.mpr ⟨cl_virtual (y := y_Mo_nodes) (ci := 13) rfl rfl ⟨_, _, rfl⟩ (by decide +kernel) h_Mo_nodes wm_3025 wm_9 wm_3022 wm_3024 wv_13_3 ⟨by decide, by decide, by decide +kernel⟩ (by decide), List.forall_mem_cons.mpr ⟨cl_virtual (y := y_Mo_between) (ci := 13) rfl rfl ⟨_, _, rfl⟩ (by decide +kernel) h_Mo_between wm_3033 wm_9 wm_3030 wm_3032 wv_13_5 ⟨by decide, by decide, by decide +kernel⟩ (by decide), List.forall_mem_cons.mpr ⟨cl_virtual (y := y_Mo_groups) (ci := 13) rfl rfl ⟨_, _, rfl⟩ (by decide +kernel) h_Mo_groups wm_3070 wm_9 wm_3067 wm_3069 wv_13_14 ⟨by decide, by decide, by decide +kernel⟩ (by decide), List.forall_mem_cons.mpr ⟨cl_virtual (y := y_Mo_take) (ci := 13) rfl rfl ⟨_, _, rfl⟩ (by decide +kernel) h_Mo_take wm_3091 wm_9 wm_3088 wm_3090 wv_14_2 ⟨by decide, by decide, by decide +kernel⟩ (by decide), List.forall_mem_cons.mpr ⟨cl_virtual (y := y_Mo_newNode) (ci := 13) rfl rfl ⟨_, _, rfl⟩ (by decide +kernel) h_Mo_newNode wm_3095 wm_9 wm_3092 wm_3094 wv_14_3 ⟨by decide, by decide, by decide +kernel⟩ (by decide), List.forall_mem_cons.mpr ⟨cl_virtual (y := y_Mo_dropNode) (ci := 13) rfl rfl ⟨_, _, rfl⟩ (by decide +kernel) h_Mo_dropNode wm_3107 wm_9 wm_3104 wm_3106 wv_14_6 ⟨by decide, by decide, by decide +kernel⟩ (by decide), List.forall_mem_cons.mpr ⟨cl_virtual (y := y_Mo_step_at_ge) (ci := 13) rfl rfl ⟨_, _, rfl⟩ (by decide +kernel) h_Mo_step_at_ge wm_3099 wm_9 wm_3096 wm_3098 wv_14_4 ⟨by decide, by decide, by decide +kernel⟩ (by decide), List.forall_mem_cons.mpr ⟨cl_virtual (y := y_Mo_newEdge_at_gx) (ci := 13) rfl rfl ⟨_, _, rfl⟩ (by decide +kernel) h_Mo_newEdge_at_gx wm_3078 wm_9 wm_3075 wm_3077 wv_14_0 ⟨by decide, by decide, by decide +kernel⟩ (by decide), List.forall_mem_cons.mpr ⟨cl_virtual (y := y_Mo_step_at_gd) (ci := 13) rfl rfl ⟨_, _, rfl⟩ (by decide +kernel) h_Mo_step_at_gd wm_3099 wm_9 wm_3096 wm_3098 wv_14_4 ⟨by decide, by decide, by decide +kernel⟩ (by decide), List.forall_mem_cons.mpr ⟨cl_virtual (y := y_Mo_dropEdge_at_gx) (ci := 13) rfl rfl ⟨_, _, rfl⟩ (by decide +kernel) h_Mo_dropEdge_at_gx wm_3103 wm_9 wm_3100 wm_3102 wv_14_5 ⟨by decide, by decide, by decide +kernel⟩ (by decide), List.forall_mem_cons.mpr ⟨cl_virtual (y := y_Mo_step_at_gv) (ci := 13) rfl rfl ⟨_, _, rfl⟩ (by decide +kernel) h_Mo_step_at_gv wm_3099 wm_9 wm_3096 wm_3098 wv_14_4 ⟨by decide, by decide, by decide +kernel⟩ (by decide), List.forall_mem_cons.mpr ⟨cl_virtual (y := y_Mo_becomes_at_k219_k1) (ci := 13) rfl rfl ⟨_, _, rfl⟩ (by decide +kernel) h_Mo_becomes_at_k219_k1 wm_3111 wm_9 wm_3108 wm_3110 wv_14_7 ⟨by decide, by decide, by decide +kernel⟩ (by decide), List.forall_mem_cons.mpr ⟨cl_virtual (y := y_Mo_becomes_at_k219_k0) (ci := 13) rfl rfl ⟨_, _, rfl⟩ (by decide +kernel) h_Mo_becomes_at_k219_k0 wm_3111 wm_9 wm_3108 wm_3110 wv_14_7 ⟨by decide, by decide, by decide +kernel⟩ (by decide), List.forall_mem_cons.mpr ⟨cl_virtual (y := y_Mo_becomes_at_k363_k0) (ci := 13) rfl rfl ⟨_, _, rfl⟩ (by decide +kernel) h_Mo_becomes_at_k363_k0 wm_3111 wm_9 wm_3108 wm_3110 wv_14_7 ⟨by decide, by decide, by decide +kernel⟩ (by decide), List.forall_mem_cons.mpr ⟨cl_virtual (y := y_Mo_becomes_at_k363_k1) (ci := 13) rfl rfl ⟨_, _, rfl⟩ (by decide +kernel) h_Mo_becomes_at_k363_k1 wm_3111 wm_9 wm_3108 wm_3110 wv_14_7 ⟨by decide, by decide, by decide +kernel⟩ (by decide), List.forall_mem_cons.mpr ⟨cl_virtual (y := y_Mo_becomes_at_k243_k0) (ci := 13) rfl rfl ⟨_, _, rfl⟩ (by decide +kernel) h_Mo_becomes_at_k243_k0 wm_3111 wm_9 wm_3108 wm_3110 wv_14_7 ⟨by decide, by decide, by decide +kernel⟩ (by decide), List.forall_mem_cons.mpr ⟨cl_virtual (y := y_Mo_becomes_at_k243_k1) (ci := 13) rfl rfl ⟨_, _, rfl⟩ (by decide +kernel) h_Mo_becomes_at_k243_k1 wm_3111 wm_9 wm_3108 wm_3110 wv_14_7 ⟨by decide, by decide, by decide +kernel⟩ (by decide), List.forall_mem_cons.mpr ⟨cl_virtual (y := y_Mo_becomes_at_k411_k0) (ci := 13) rfl rfl ⟨_, _, rfl⟩ (by decide +kernel) h_Mo_becomes_at_k411_k0 wm_3111 wm_9 wm_3108 wm_3110 wv_14_7 ⟨by decide, by decide, by decide +kernel⟩ (by decide), List.forall_mem_cons.mpr ⟨cl_virtual (y := y_Mo_becomes_at_k411_k1) (ci := 13) rfl rfl ⟨_, _, rfl⟩ (by decide +kernel) h_Mo_becomes_at_k411_k1 wm_3111 wm_9 wm_3108 wm_3110 wv_14_7 ⟨by decide, by decide, by decide +kernel⟩ (by decide), List.forall_mem_nil _⟩⟩⟩⟩⟩⟩⟩⟩⟩⟩⟩⟩⟩⟩⟩⟩⟩⟩⟩⟩⟩⟩, List.forall_mem_nil _, List.forall_mem_nil _, GG_pl⟩ (by decide +kernel)
def o_Mo_label_0 : or_T := (52, 17, [(0, (2, 0, 0, [165])), (1, (0, -2147483648, 2147483647, [])), (4, (0, 1, 1, [])), (6, (0, 0, 48, [])), (15, (0, 0, 0, [])), (16, (0, 0, 0, []))], [(20, [6, 0], [30, 0, 1, 0, 0, -1, 3, 2005001]), (20, [6, 0], [30, 0, -1, 0, 0, 1, 3, 2005001]), (20, [4, 1, 0], [50, 1, 1, 2005, 2003, 4, 6, 1, 2, 1, 0, 0, 1, 2, 6, 0, 2, 0, 0, 1, 1, 2, 6, 0, 2, 1, 1, 0, 3, 1, 3, 2, 2, 5, 4, 6, 6, 2, 0, 16709, 1, 1, 6, 2, 0, 539, 3, 2, 3, 1, 1]), (101, [0, 15], [150]), (20, [6, 0], [30, 0, 1, 0, 0, -1, 3, 2005001]), (20, [6, 0], [30, 0, -1, 0, 0, 1, 3, 2005001]), (8, [4], [1]), (20, [4, 1, 0], [50, 1, 1, 2005, 2003, 4, 6, 1, 2, 1, 0, 0, 1, 2, 6, 0, 2, 0, 0, 1, 1, 2, 6, 0, 2, 1, 1, 0, 3, 1, 3, 2, 2, 5, 4, 6, 6, 2, 0, 16709, 1, 1, 6, 2, 0, 539, 3, 2, 3, 1, 1])], [], [], [(20, [0, 16], [30, 0, 1, 1, 150, -1, 0, 0])], [], [])
theorem oo_Mo_label_0 {kA : Nat → ClassId} : or_ok PRD kA GG o_Mo_label_0 := by
  refine or_mk fun A ta ws vs hD hth hl => ?_
  intro t0 r0 t1 k1 t4 k4 t6 k6 t15 k15 t16 k16 f0 f1 f2 ta1 w1 le1 s1 f4 f5 f6 f7
  replace f0 := shm_130 f0
  replace f1 := shm_131 f1
  replace f2 := shm_1394 f2
  have s1 : (∀ b j, w_el ws b j = w_el w1 b j) ∧ ∀ b j, w_fd ws b j = if b = v_ad (n_v vs 0) ∧ j = 150 then n_v vs 15 else w_fd w1 b j := s1.2
  replace f4 := shm_130 f4
  replace f5 := shm_131 f5
  replace f6 := shm_154 f6
  replace f7 := shm_1394 f7
  have ar_0_2_1 : w_ar w1 (n_v vs 0) 2 = w_ar ws (n_v vs 0) 2 := by show v_ad (w_fd w1 _ _) = v_ad (w_fd ws _ _); rw [s1.2, if_neg (fun e => absurd e.2 (by decide))]
  have cr_0_2 := fdq_12 hD hth r0
  have ar_0_3_1 : w_ar w1 (n_v vs 0) 3 = w_ar ws (n_v vs 0) 3 := by show v_ad (w_fd w1 _ _) = v_ad (w_fd ws _ _); rw [s1.2, if_neg (fun e => absurd e.2 (by decide))]
  have cr_0_3 := fdq_141 hD hth r0
  have fi_0_5_1 : w_fi w1 (n_v vs 0) 5 = w_fi ws (n_v vs 0) 5 := by show v_iv (w_fd w1 _ _) = v_iv (w_fd ws _ _); rw [s1.2, if_neg (fun e => absurd e.2 (by decide))]
  simp only [ar_0_2_1, ar_0_3_1] at f4 f5 f7
  simp only [fi_0_5_1] at f4 f5
  have fe_0_5_1 : w_fi ws (n_v vs 0) 5 = w_fi w1 (n_v vs 0) 5 := by show v_iv (w_fd _ _ _) = v_iv (w_fd _ _ _); rw [s1.2, if_neg (fun e => absurd e.2 (by decide))]
  have fe_0_150_1 : w_fi ws (n_v vs 0) 150 = v_iv (n_v vs 15) := by show v_iv (w_fd _ _ _) = _; rw [s1.2, if_pos ⟨rfl, rfl⟩]
  have ee_0_2_F5_1_1 : w_el ws (w_ar ws (n_v vs 0) 2) (w_fi ws (n_v vs 0) 5 + 1).toNat = w_el w1 (w_ar ws (n_v vs 0) 2) (w_fi ws (n_v vs 0) 5 + 1).toNat := s1.1 _ _
  have hE_0_3_1 : ∀ j : Int, w_ei ws (w_ar ws (n_v vs 0) 3) j = w_ei w1 (w_ar ws (n_v vs 0) 3) j := fun j => s1.1 _ _
  have hK_0_3 := elq_77 hD hth cr_0_3
  have kz_0_150 := fdq_307 hD hth r0
  have nf0 : fc_1 PRD (20, [0, 16], [30, 0, 1, 1, 150, -1, 0, 0]) ws (vs) := by
    refine ⟨nf_in hl rfl, sgq_1886 ?_⟩
    · show 1 * w_fi ws (n_v vs 0) 150 + ((-1) * v_iv (n_v vs 16) + 0) ≤ 0
      omega
  refine ⟨(fun _ h => (by cases h)), [], trivial, ?_, (fun _ h => (by cases h))⟩
  rw [List.append_nil]
  exact List.forall_mem_cons.mpr ⟨⟨show (20 : Nat) < 100 from by decide, nf0⟩, (fun _ h => (by cases h))⟩
set_option maxHeartbeats 4000000 in
theorem vc_Mo_label_1_0 (x2 : Int) (x4 : Int) (labels_0 : Int) (k2 : 0 ≤ x2 ∧ x2 ≤ 47) (k4 : 0 ≤ x4 ∧ x4 ≤ 47) (d0 : x2 + 0 ≤ x4 ∧ x4 ≤ x2 + 4294967296) (d1 : x2 + (-4294967296) ≤ x4 ∧ x4 ≤ x2 + 0) (f0 : x2 ≤ x4) (f1 : 1 * labels_0 + ((-1) * x4 + 0) ≤ 0) (kz_0_150 : 0 ≤ labels_0 ∧ labels_0 ≤ 48) : 1 * labels_0 + 0 ≤ 47 := by
  first | assumption | omega | grind
def o_Mo_label_1 : or_T := (95, 6, [(0, (2, 0, 0, [165])), (2, (0, 0, 47, [])), (4, (0, 0, 47, []))], [(7, [4, 2], [3]), (20, [0, 4], [30, 0, 1, 1, 150, -1, 0, 0])], [], [], [(20, [0], [30, 47, 1, 1, 150])], [], [(4, 2, 0, 4294967296), (4, 2, -4294967296, 0)])
theorem oo_Mo_label_1 {kA : Nat → ClassId} : or_ok PRD kA GG o_Mo_label_1 := by
  refine or_mk fun A ta ws vs hD hth hl => ?_
  intro t0 r0 t2 k2 t4 k4 d0 d1 f0 f1
  have kz_0_150 := fdq_307 hD hth r0
  have nf0 : fc_1 PRD (20, [0], [30, 47, 1, 1, 150]) ws (vs) := ⟨nf_in hl rfl, sgq_1755 (vc_Mo_label_1_0 (v_iv (n_v vs 2)) (v_iv (n_v vs 4)) (w_fi ws (n_v vs 0) 150) k2 k4 d0 d1 (shm_2 f0) (shm_1886 f1) kz_0_150)⟩
  refine ⟨(fun _ h => (by cases h)), [], trivial, ?_, (fun _ h => (by cases h))⟩
  rw [List.append_nil]
  exact List.forall_mem_cons.mpr ⟨⟨show (20 : Nat) < 100 from by decide, nf0⟩, (fun _ h => (by cases h))⟩
set_option maxHeartbeats 4000000 in
theorem vc_Mo_label_2_0 (x2 : Int) (x4 : Int) (x8 : Int) (labels_0 : Int) (k2 : 1 ≤ x2 ∧ x2 ≤ 47) (k4 : 0 ≤ x4 ∧ x4 ≤ 46) (k8 : 1 ≤ x8 ∧ x8 ≤ 47) (d0 : x4 + 1 ≤ x8 ∧ x8 ≤ x4 + 1) (d1 : x2 + (-4294967296) ≤ x8 ∧ x8 ≤ x2 + 0) (d2 : x2 + (-4294967296) ≤ x8 ∧ x8 ≤ x2 + 1) (d3 : x2 + (-4294967296) ≤ x4 ∧ x4 ≤ x2 + (-1)) (d4 : x2 + (-4294967296) ≤ x4 ∧ x4 ≤ x2 + 0) (f0 : x8 = x4 + 1) (f1 : x4 < x2) (f2 : 1 * labels_0 + ((-1) * x4 + 0) ≤ 0) (kz_0_150 : 0 ≤ labels_0 ∧ labels_0 ≤ 48) : 1 * labels_0 + ((-1) * x8 + 0) ≤ 0 := by
  first | assumption | omega | grind
def o_Mo_label_2 : or_T := (52, 9, [(0, (2, 0, 0, [165])), (2, (0, 1, 47, [])), (4, (0, 0, 46, [])), (8, (0, 1, 47, []))], [(6, [8, 4], [1]), (7, [4, 2], [2]), (20, [0, 4], [30, 0, 1, 1, 150, -1, 0, 0])], [], [], [(20, [0, 8], [30, 0, 1, 1, 150, -1, 0, 0])], [], [(8, 4, 1, 1), (8, 2, -4294967296, 0), (8, 2, -4294967296, 1), (4, 2, -4294967296, -1), (4, 2, -4294967296, 0)])
theorem oo_Mo_label_2 {kA : Nat → ClassId} : or_ok PRD kA GG o_Mo_label_2 := by
  refine or_mk fun A ta ws vs hD hth hl => ?_
  intro t0 r0 t2 k2 t4 k4 t8 k8 d0 d1 d2 d3 d4 f0 f1 f2
  have kz_0_150 := fdq_307 hD hth r0
  have nf0 : fc_1 PRD (20, [0, 8], [30, 0, 1, 1, 150, -1, 0, 0]) ws (vs) := ⟨nf_in hl rfl, sgq_1886 (vc_Mo_label_2_0 (v_iv (n_v vs 2)) (v_iv (n_v vs 4)) (v_iv (n_v vs 8)) (w_fi ws (n_v vs 0) 150) k2 k4 k8 d0 d1 d2 d3 d4 (shm_4 f0) (shm_6 f1) (shm_1886 f2) kz_0_150)⟩
  refine ⟨(fun _ h => (by cases h)), [], trivial, ?_, (fun _ h => (by cases h))⟩
  rw [List.append_nil]
  exact List.forall_mem_cons.mpr ⟨⟨show (20 : Nat) < 100 from by decide, nf0⟩, (fun _ h => (by cases h))⟩
set_option maxHeartbeats 4000000 in
theorem vc_Mo_label_3_0 (x2 : Int) (x4 : Int) (labels_0 : Int) (k2 : 1 ≤ x2 ∧ x2 ≤ 47) (k4 : 0 ≤ x4 ∧ x4 ≤ 46) (d0 : x2 + (-4294967296) ≤ x4 ∧ x4 ≤ x2 + (-1)) (d1 : x2 + (-4294967296) ≤ x4 ∧ x4 ≤ x2 + 0) (f0 : x4 < x2) (f1 : 1 * labels_0 + ((-1) * x4 + 0) ≤ 0) (kz_0_150 : 0 ≤ labels_0 ∧ labels_0 ≤ 48) : 1 * labels_0 + 0 ≤ 47 := by
  first | assumption | omega | grind
def o_Mo_label_3 : or_T := (71, 8, [(0, (2, 0, 0, [165])), (2, (0, 1, 47, [])), (4, (0, 0, 46, []))], [(7, [4, 2], [2]), (20, [0, 4], [30, 0, 1, 1, 150, -1, 0, 0])], [], [], [(20, [0], [30, 47, 1, 1, 150])], [], [(4, 2, -4294967296, -1), (4, 2, -4294967296, 0)])
theorem oo_Mo_label_3 {kA : Nat → ClassId} : or_ok PRD kA GG o_Mo_label_3 := by
  refine or_mk fun A ta ws vs hD hth hl => ?_
  intro t0 r0 t2 k2 t4 k4 d0 d1 f0 f1
  have kz_0_150 := fdq_307 hD hth r0
  have nf0 : fc_1 PRD (20, [0], [30, 47, 1, 1, 150]) ws (vs) := ⟨nf_in hl rfl, sgq_1755 (vc_Mo_label_3_0 (v_iv (n_v vs 2)) (v_iv (n_v vs 4)) (w_fi ws (n_v vs 0) 150) k2 k4 d0 d1 (shm_6 f0) (shm_1886 f1) kz_0_150)⟩
  refine ⟨(fun _ h => (by cases h)), [], trivial, ?_, (fun _ h => (by cases h))⟩
  rw [List.append_nil]
  exact List.forall_mem_cons.mpr ⟨⟨show (20 : Nat) < 100 from by decide, nf0⟩, (fun _ h => (by cases h))⟩
set_option maxHeartbeats 4000000 in
theorem vc_Mo_label_4_0 (x2 : Int) (x4 : Int) (x9 : Int) (labels_0 : Int) (k2 : 1 ≤ x2 ∧ x2 ≤ 47) (k4 : 0 ≤ x4 ∧ x4 ≤ 46) (k9 : 1 ≤ x9 ∧ x9 ≤ 47) (d0 : x4 + 1 ≤ x9 ∧ x9 ≤ x4 + 1) (d1 : x2 + (-4294967296) ≤ x9 ∧ x9 ≤ x2 + 0) (d2 : x2 + (-4294967296) ≤ x9 ∧ x9 ≤ x2 + 1) (d3 : x2 + (-4294967296) ≤ x4 ∧ x4 ≤ x2 + (-1)) (d4 : x2 + (-4294967296) ≤ x4 ∧ x4 ≤ x2 + 0) (f0 : x9 = x4 + 1) (f1 : 1 * labels_0 + 0 ≤ 47) (f2 : 1 * labels_0 + ((-1) * x4 + 0) ≤ 0) (f4 : x4 < x2) (kz_0_150 : 0 ≤ labels_0 ∧ labels_0 ≤ 48) : 1 * labels_0 + ((-1) * x9 + 0) ≤ 0 := by
  first | assumption | omega | grind
def o_Mo_label_4 : or_T := (52, 10, [(0, (2, 0, 0, [165])), (2, (0, 1, 47, [])), (4, (0, 0, 46, [])), (9, (0, 1, 47, []))], [(6, [9, 4], [1]), (20, [0], [30, 47, 1, 1, 150]), (20, [0, 4], [30, 0, 1, 1, 150, -1, 0, 0]), (102, [7], [22765651080770262549837444220588112187215705145142260014669676676627784592248537088]), (7, [4, 2], [2])], [], [], [(20, [0, 9], [30, 0, 1, 1, 150, -1, 0, 0])], [], [(9, 4, 1, 1), (9, 2, -4294967296, 0), (9, 2, -4294967296, 1), (4, 2, -4294967296, -1), (4, 2, -4294967296, 0)])
theorem oo_Mo_label_4 {kA : Nat → ClassId} : or_ok PRD kA GG o_Mo_label_4 := by
  refine or_mk fun A ta ws vs hD hth hl => ?_
  intro t0 r0 t2 k2 t4 k4 t9 k9 d0 d1 d2 d3 d4 f0 f1 f2 ta1 w1 le1 s1 f4
  have kz_0_150 := fdq_307 hD hth r0
  have nf0 : fc_1 PRD (20, [0, 9], [30, 0, 1, 1, 150, -1, 0, 0]) ws (vs) := ⟨nf_in hl rfl, sgq_1886 (vc_Mo_label_4_0 (v_iv (n_v vs 2)) (v_iv (n_v vs 4)) (v_iv (n_v vs 9)) (w_fi ws (n_v vs 0) 150) k2 k4 k9 d0 d1 d2 d3 d4 (shm_4 f0) (shm_1755 f1) (shm_1886 f2) (shm_6 f4) kz_0_150)⟩
  refine ⟨(fun _ h => (by cases h)), [], trivial, ?_, (fun _ h => (by cases h))⟩
  rw [List.append_nil]
  exact List.forall_mem_cons.mpr ⟨⟨show (20 : Nat) < 100 from by decide, nf0⟩, (fun _ h => (by cases h))⟩
set_option maxHeartbeats 4000000 in
theorem vc_Mo_label_5_0 (x2 : Int) (x4 : Int) (x5 : Int) (x9 : Int) (x10 : Int) (x11 : Int) (labels_1 : Int) (labels_0 : Int) (k2 : 1 ≤ x2 ∧ x2 ≤ 47) (k4 : 0 ≤ x4 ∧ x4 ≤ 46) (k5 : 0 ≤ x5 ∧ x5 ≤ 46) (k9 : 1 ≤ x9 ∧ x9 ≤ 1) (k10 : 1 ≤ x10 ∧ x10 ≤ 47) (k11 : 1 ≤ x11 ∧ x11 ≤ 47) (d0 : x4 + 1 ≤ x11 ∧ x11 ≤ x4 + 1) (d1 : x2 + (-4294967296) ≤ x11 ∧ x11 ≤ x2 + 0) (d2 : x2 + (-4294967296) ≤ x11 ∧ x11 ≤ x2 + 1) (d3 : x5 + 1 ≤ x10 ∧ x10 ≤ x5 + 1) (d4 : x2 + (-4294967296) ≤ x10 ∧ x10 ≤ x2 + 1) (d5 : x4 + (-4294967296) ≤ x10 ∧ x10 ≤ x4 + 1) (d6 : x2 + (-4294967296) ≤ x4 ∧ x4 ≤ x2 + (-1)) (d7 : x2 + (-4294967296) ≤ x4 ∧ x4 ≤ x2 + 0) (d8 : x2 + (-4294967296) ≤ x5 ∧ x5 ≤ x2 + 0) (d9 : x4 + (-4294967296) ≤ x5 ∧ x5 ≤ x4 + 0) (f0 : x11 = x4 + 1) (f2 : x10 = x5 + x9) (g3 : x5 = labels_1) (f4 : 1 * labels_1 + 0 ≤ 47) (f5 : 1 * labels_1 + ((-1) * x4 + 0) ≤ 0) (f7 : x4 < x2) (fe_0_150_1 : labels_0 = x10) (kz_0_150 : 0 ≤ labels_0 ∧ labels_0 ≤ 48) : 1 * labels_0 + ((-1) * x11 + 0) ≤ 0 := by
  first | assumption | omega | grind
def o_Mo_label_5 : or_T := (52, 12, [(0, (2, 0, 0, [165])), (2, (0, 1, 47, [])), (4, (0, 0, 46, [])), (5, (0, 0, 46, [])), (9, (0, 1, 1, [])), (10, (0, 1, 47, [])), (11, (0, 1, 47, []))], [(6, [11, 4], [1]), (101, [0, 10], [150]), (1, [10, 5, 9], []), (9, [5, 0], [150]), (20, [0], [30, 47, 1, 1, 150]), (20, [0, 4], [30, 0, 1, 1, 150, -1, 0, 0]), (102, [7], [22765651080770262549837444220588112187215705145142260014669676676627784592248537088]), (7, [4, 2], [2])], [], [], [(20, [0, 11], [30, 0, 1, 1, 150, -1, 0, 0])], [], [(11, 4, 1, 1), (11, 2, -4294967296, 0), (11, 2, -4294967296, 1), (10, 5, 1, 1), (10, 2, -4294967296, 1), (10, 4, -4294967296, 1), (4, 2, -4294967296, -1), (4, 2, -4294967296, 0), (5, 2, -4294967296, 0), (5, 4, -4294967296, 0)])
theorem oo_Mo_label_5 {kA : Nat → ClassId} : or_ok PRD kA GG o_Mo_label_5 := by
  refine or_mk fun A ta ws vs hD hth hl => ?_
  intro t0 r0 t2 k2 t4 k4 t5 k5 t9 k9 t10 k10 t11 k11 d0 d1 d2 d3 d4 d5 d6 d7 d8 d9 f0 ta1 w1 le1 s1 f2 f3 f4 f5 ta2 w2 le2 s2 f7
  have s1 : (∀ b j, w_el ws b j = w_el w1 b j) ∧ ∀ b j, w_fd ws b j = if b = v_ad (n_v vs 0) ∧ j = 150 then n_v vs 10 else w_fd w1 b j := s1.2
  replace f3 := shm_1756 f3
  have g3 : v_iv (n_v vs 5) = w_fi w1 (n_v vs 0) 150 := congrArg v_iv f3
  have fe_0_150_1 : w_fi ws (n_v vs 0) 150 = v_iv (n_v vs 10) := by show v_iv (w_fd _ _ _) = _; rw [s1.2, if_pos ⟨rfl, rfl⟩]
  have kz_0_150 := fdq_307 hD hth r0
  have nf0 : fc_1 PRD (20, [0, 11], [30, 0, 1, 1, 150, -1, 0, 0]) ws (vs) := ⟨nf_in hl rfl, sgq_1886 (vc_Mo_label_5_0 (v_iv (n_v vs 2)) (v_iv (n_v vs 4)) (v_iv (n_v vs 5)) (v_iv (n_v vs 9)) (v_iv (n_v vs 10)) (v_iv (n_v vs 11)) (w_fi w1 (n_v vs 0) 150) (w_fi ws (n_v vs 0) 150) k2 k4 k5 k9 k10 k11 d0 d1 d2 d3 d4 d5 d6 d7 d8 d9 (shm_4 f0) (shm_12 f2) g3 (shm_1755 f4) (shm_1886 f5) (shm_6 f7) fe_0_150_1 kz_0_150)⟩
  refine ⟨(fun _ h => (by cases h)), [], trivial, ?_, (fun _ h => (by cases h))⟩
  rw [List.append_nil]
  exact List.forall_mem_cons.mpr ⟨⟨show (20 : Nat) < 100 from by decide, nf0⟩, (fun _ h => (by cases h))⟩
def n_Mo_label_an : List an_T := [(52, [(0, (2, 0, 0, [165])), (1, (0, (Int.negSucc 2147483647), 2147483647, [])), (2, (0, 0, 47, [])), (3, (0, 0, 1, [])), (4, (0, 0, 47, []))], [], (0, 0), [(0, 0, 99948), (1, 4, 47), (0, 0, 100000)], [(4, 2, (Int.negSucc 999999999999), 0), (5, 2, (Int.negSucc 999999999999), 0), (5, 4, (Int.negSucc 999999999999), 0)], [((0, 150), (0, 0, 47, []))], [], 0, [], [(20, [0, 4], [30, 0, 1, 1, 150, (Int.negSucc 0), 0, 0])])]
def t_Mo_label_ct : ct_L := [(0, 387, e_Mo_in), (1, 401, e_Mo_edges), (1, 737, e_Mo_weight), (1, 1032, e_Mo_isDrawn), (1, 1082, e_Mo_finds)]
set_option maxRecDepth 100000 in
theorem c_Mo_label {l : Launch} {D : va_G} {kA : Nat → ClassId} (h_Mo_edges : ct_ok PRD l D kA GG y_Mo_edges z_Mo_edges e_Mo_edges) (h_Mo_finds : ct_ok PRD l D kA GG y_Mo_finds z_Mo_finds e_Mo_finds) (h_Mo_in : ct_ok PRD l D kA GG y_Mo_in z_Mo_in e_Mo_in) (h_Mo_isDrawn : ct_ok PRD l D kA GG y_Mo_isDrawn z_Mo_isDrawn e_Mo_isDrawn) (h_Mo_weight : ct_ok PRD l D kA GG y_Mo_weight z_Mo_weight e_Mo_weight) : ct_ok PRD l D kA GG y_Mo_label z_Mo_label e_Mo_label := chk_all_ok (FT := [(336, 13, 151), (339, 13, 152), (1079, 13, 150)]) (PT := [(1079, 13, 150, .int)]) (CT := t_Mo_label_ct) (KT := [(1, 775, .int (Int32.ofInt (-2147483648)), (0, -2147483648, -2147483648, []))]) (NT := []) (AN := n_Mo_label_an) (OT := [o_Mo_label_0, o_Mo_label_1, o_Mo_label_2, o_Mo_label_3, o_Mo_label_4, o_Mo_label_5]) 3 356 (List.forall_mem_cons.mpr ⟨oo_Mo_label_0, List.forall_mem_cons.mpr ⟨oo_Mo_label_1, List.forall_mem_cons.mpr ⟨oo_Mo_label_2, List.forall_mem_cons.mpr ⟨oo_Mo_label_3, List.forall_mem_cons.mpr ⟨oo_Mo_label_4, List.forall_mem_cons.mpr ⟨oo_Mo_label_5, List.forall_mem_nil _⟩⟩⟩⟩⟩⟩) (by decide +kernel) ⟨List.forall_mem_cons.mpr ⟨gf_Mo_336, List.forall_mem_cons.mpr ⟨gf_Mo_339, List.forall_mem_cons.mpr ⟨gf_Mo_1079, List.forall_mem_nil _⟩⟩⟩, List.forall_mem_cons.mpr ⟨pf_Mo_1079, List.forall_mem_nil _⟩, List.forall_mem_cons.mpr ⟨cl_static (y := y_Mo_in) h_Mo_in wm_2971 wm_9 wm_2969 wm_2970 ⟨by decide, by decide, by decide +kernel⟩ (by decide), List.forall_mem_cons.mpr ⟨cl_virtual (y := y_Mo_edges) (ci := 13) rfl rfl ⟨_, _, rfl⟩ (by decide +kernel) h_Mo_edges wm_3037 wm_9 wm_3034 wm_3036 wv_13_6 ⟨by decide, by decide, by decide +kernel⟩ (by decide), List.forall_mem_cons.mpr ⟨cl_virtual (y := y_Mo_weight) (ci := 13) rfl rfl ⟨_, _, rfl⟩ (by decide +kernel) h_Mo_weight wm_3339 wm_9 wm_3336 wm_3338 wv_17_7 ⟨by decide, by decide, by decide +kernel⟩ (by decide), List.forall_mem_cons.mpr ⟨cl_virtual (y := y_Mo_isDrawn) (ci := 13) rfl rfl ⟨_, _, rfl⟩ (by decide +kernel) h_Mo_isDrawn wm_3669 wm_9 wm_3666 wm_3668 wv_21_13 ⟨by decide, by decide, by decide +kernel⟩ (by decide), List.forall_mem_cons.mpr ⟨cl_virtual (y := y_Mo_finds) (ci := 13) rfl rfl ⟨_, _, rfl⟩ (by decide +kernel) h_Mo_finds wm_3722 wm_9 wm_3719 wm_3721 wv_22_7 ⟨by decide, by decide, by decide +kernel⟩ (by decide), List.forall_mem_nil _⟩⟩⟩⟩⟩, List.forall_mem_cons.mpr ⟨kx_Mo_1_775, List.forall_mem_nil _⟩, List.forall_mem_nil _, GG_pl⟩ (by decide +kernel)
def o_Ho_route_0 : or_T := (14, 6, [(0, (2, 0, 0, [12])), (1, (0, 0, 3, [])), (3, (0, 1, 1, [])), (4, (2, 0, 0, [131])), (5, (2, 0, 0, [3]))], [(14, [5, 4, 1], []), (9, [4, 0], [0]), (8, [3], [1]), (20, [3, 1, 0], [51, 0, 0, 1, 4001002003, 4, 6, 1, 2, 1, 0, 0, 1, 2, 6, 0, 2, 0, 0, 1, 1, 2, 6, 0, 2, 1, 1, 0, 3, 7, 6, 14, 2, 3, 4001, 1, 1, 0, -1]), (20, [3, 1, 0], [51, 0, 0, 1, 4001002003, 4, 6, 1, 2, 1, 0, 0, 0, 3, 6, 0, 2, 1, 1, 0, -1, 3, 6, 0, 2, 0, 4, 1, 1, 1, 6, 14, 2, 3, 4001, 1, 1, 0, -1]), (20, [0], [62, 0])], [], [], [(20, [0, 1, 5], [62, 71])], [], [])
theorem oo_Ho_route_0 {kA : Nat → ClassId} : or_ok PRD kA GG o_Ho_route_0 := by
  refine or_mk fun A ta ws vs hD hth hl => ?_
  intro t0 r0 t1 k1 t3 k3 t4 r4 t5 r5 f0 f1 f2 f3 f4 f5
  replace f0 := shm_779 f0
  replace f1 := shm_175 f1
  replace f2 := shm_154 f2
  replace f3 := shm_777 f3
  replace f4 := shm_778 f4
  replace f5 := shm_1145 f5
  have cr_0_0 := fdq_303 hD hth r0
  have ad_4 : v_ad (n_v vs 4) = w_ar ws (n_v vs 0) 0 := congrArg v_ad f1
  have nf0 : fc_1 PRD (20, [0, 1, 5], [62, 71]) ws (vs) := by
    refine ⟨nf_in hl rfl, sgq_1734 ?_⟩
    · show WQF 71 [n_v vs 0, n_v vs 1, n_v vs 5] ws
      have zw := f5
      exact wq_in (zw) (by omega) (by omega) ⟨rfl, rfl⟩ ⟨Or.inr (pO_of f1 f0), trivial⟩
  refine ⟨(fun _ h => (by cases h)), [], trivial, ?_, (fun _ h => (by cases h))⟩
  rw [List.append_nil]
  exact List.forall_mem_cons.mpr ⟨⟨show (20 : Nat) < 100 from by decide, nf0⟩, (fun _ h => (by cases h))⟩
def o_Ho_route_1 : or_T := (51, 10, [(0, (2, 0, 0, [12])), (1, (0, 0, 3, [])), (4, (2, 0, 0, [131])), (5, (2, 0, 0, [3])), (9, (2, 0, 0, [3]))], [(14, [9, 4, 1], []), (9, [4, 0], [0]), (20, [0, 1, 5], [62, 71])], [], [], [(24, [5, 9], [])], [], [])
theorem oo_Ho_route_1 {kA : Nat → ClassId} : or_ok PRD kA GG o_Ho_route_1 := by
  refine or_mk fun A ta ws vs hD hth hl => ?_
  intro t0 r0 t1 k1 t4 r4 t5 r5 t9 r9 f0 f1 f2
  replace f0 := shm_779 f0
  replace f1 := shm_175 f1
  replace f2 := shm_1734 f2
  have nf0 : fc_1 PRD (24, [5, 9], []) ws (vs) := by
    refine ⟨nf_in hl rfl, sgq_5 ?_⟩
    · show n_v vs 5 = n_v vs 9
      exact ref_same t5 t9 rfl rfl ((wl_0 (wq_wl f2) (by decide)).trans (pO_of f1 f0).symm)
  refine ⟨(fun _ h => (by cases h)), [], trivial, ?_, (fun _ h => (by cases h))⟩
  rw [List.append_nil]
  exact List.forall_mem_cons.mpr ⟨⟨show (24 : Nat) < 100 from by decide, nf0⟩, (fun _ h => (by cases h))⟩
def o_Ho_route_2 : or_T := (51, 10, [(0, (2, 0, 0, [12])), (1, (0, 0, 3, [])), (2, (0, 0, 47, [])), (3, (0, 1, 1, [])), (5, (2, 0, 0, [3])), (6, (0, 1, 1, [])), (9, (2, 0, 0, [3]))], [(24, [5, 9], []), (20, [6, 2, 5], [50, 1, 0, 2001, 4, 6, 1, 2, 1, 0, 0, 1, 2, 6, 0, 2, 0, 0, 1, 1, 0, 6, 4, 2, 1, 1, 0, 1, 2, 2, 1]), (20, [6, 2, 5], [50, 1, 0, 2001, 4, 6, 1, 2, 1, 0, 0, 0, 3, 6, 0, 2, 1, 1, 0, -1, 0, 3, 2, 2, 1, 1, 1]), (20, [0, 1, 5], [62, 71]), (20, [3, 1, 0], [51, 0, 0, 1, 4001002003, 4, 6, 1, 2, 1, 0, 0, 1, 2, 6, 0, 2, 0, 0, 1, 1, 2, 6, 0, 2, 1, 1, 0, 3, 7, 6, 14, 2, 3, 4001, 1, 1, 0, -1]), (20, [3, 1, 0], [51, 0, 0, 1, 4001002003, 4, 6, 1, 2, 1, 0, 0, 0, 3, 6, 0, 2, 1, 1, 0, -1, 3, 6, 0, 2, 0, 4, 1, 1, 1, 6, 14, 2, 3, 4001, 1, 1, 0, -1]), (101, [0, 8], [20]), (102, [7], [0, 303000, 303001, 303002, 303003, 303004, 303005, 303006, 303007, 303008, 303009, 303010, 303011, 303012, 303013, 303014, 303015, 303016, 303017]), (8, [6], [1]), (8, [3], [1])], [], [], [(20, [0, 1, 9], [62, 71])], [], [])
theorem oo_Ho_route_2 {kA : Nat → ClassId} : or_ok PRD kA GG o_Ho_route_2 := by
  refine or_mk fun A ta ws vs hD hth hl => ?_
  intro t0 r0 t1 k1 t2 k2 t3 k3 t5 r5 t6 k6 t9 r9 f0 f1 f2 f3 f4 f5 ta1 w1 le1 s1 ta2 w2 le2 s2 f8 f9
  replace f0 := shm_5 f0
  replace f3 := shm_1734 f3
  have q9 : n_v vs 9 = n_v vs 5 := f0.symm
  have nf0 : fc_1 PRD (20, [0, 1, 9], [62, 71]) ws (vs) := by
    refine ⟨nf_in hl rfl, sgq_1734 ?_⟩
    · show WQF 71 [n_v vs 0, n_v vs 1, n_v vs 9] ws
      first | rw [q9] | skip
      have zw := f3
      first | rw [show n_v vs 5 = n_v vs 9 from (by first | exact f0 | exact f0.symm)] at zw | skip
      first | exact zw | ((first | rw [q9] at zw | skip); exact zw)
  refine ⟨(fun _ h => (by cases h)), [], trivial, ?_, (fun _ h => (by cases h))⟩
  rw [List.append_nil]
  exact List.forall_mem_cons.mpr ⟨⟨show (20 : Nat) < 100 from by decide, nf0⟩, (fun _ h => (by cases h))⟩
def o_Ho_route_3 : or_T := (58, 12, [(0, (2, 0, 0, [12])), (1, (0, 0, 3, [])), (4, (2, 0, 0, [131])), (9, (2, 0, 0, [3]))], [(20, [0, 1, 9], [62, 71]), (14, [9, 4, 1], []), (9, [4, 0], [0])], [], [], [(20, [9], [60, 2, 2, 596, 0, 1, 7, 8])], [], [])
theorem oo_Ho_route_3 {kA : Nat → ClassId} : or_ok PRD kA GG o_Ho_route_3 := by
  refine or_mk fun A ta ws vs hD hth hl => ?_
  intro t0 r0 t1 k1 t4 r4 t9 r9 f0 f1 f2
  replace f0 := shm_1734 f0
  replace f1 := shm_779 f1
  replace f2 := shm_175 f2
  have nf0 : fc_1 PRD (20, [9], [60, 2, 2, 596, 0, 1, 7, 8]) ws (vs) := by
    refine ⟨nf_in hl rfl, sgq_401 ?_⟩
    · show GKE (w_fi ws (n_v vs 9) 0) (w_fi ws (n_v vs 9) 1) (w_ei ws (w_ar ws (n_v vs 9) 7)) (w_ei ws (w_ar ws (n_v vs 9) 8))
      exact hg_gke (wq_hg f0 (by decide) (pO_of f2 f1))
  refine ⟨(fun _ h => (by cases h)), [], trivial, ?_, (fun _ h => (by cases h))⟩
  rw [List.append_nil]
  exact List.forall_mem_cons.mpr ⟨⟨show (20 : Nat) < 100 from by decide, nf0⟩, (fun _ h => (by cases h))⟩
set_option maxHeartbeats 4000000 in
theorem vc_Ho_route_4_0 (x2 : Int) (x3 : Int) (x6 : Int) (edges_0o5 : Int) (k2 : 0 ≤ x2 ∧ x2 ≤ 47) (k3 : 1 ≤ x3 ∧ x3 ≤ 1) (k6 : 1 ≤ x6 ∧ x6 ≤ 1) (f2 : (x6 = 1) → ((0 ≤ x2) ∧ ((x2 + 1) ≤ edges_0o5))) (f3 : (x6 = 0) → ((x2 ≤ (-1)) ∨ (edges_0o5 ≤ x2))) (f8 : x6 ≠ 0) (f9 : x3 ≠ 0) (kz_5_1 : 0 ≤ edges_0o5 ∧ edges_0o5 ≤ 48) : (0 ≤ x2) ∧ ((x2 + 1) ≤ edges_0o5) := by
  first | omega
def o_Ho_route_4 : or_T := (58, 12, [(0, (2, 0, 0, [12])), (1, (0, 0, 3, [])), (2, (0, 0, 47, [])), (3, (0, 1, 1, [])), (5, (2, 0, 0, [3])), (6, (0, 1, 1, [])), (9, (2, 0, 0, [3]))], [(20, [9], [60, 2, 2, 596, 0, 1, 7, 8]), (24, [5, 9], []), (20, [6, 2, 5], [50, 1, 0, 2001, 4, 6, 1, 2, 1, 0, 0, 1, 2, 6, 0, 2, 0, 0, 1, 1, 0, 6, 4, 2, 1, 1, 0, 1, 2, 2, 1]), (20, [6, 2, 5], [50, 1, 0, 2001, 4, 6, 1, 2, 1, 0, 0, 0, 3, 6, 0, 2, 1, 1, 0, -1, 0, 3, 2, 2, 1, 1, 1]), (20, [3, 1, 0], [51, 0, 0, 1, 4001002003, 4, 6, 1, 2, 1, 0, 0, 1, 2, 6, 0, 2, 0, 0, 1, 1, 2, 6, 0, 2, 1, 1, 0, 3, 7, 6, 14, 2, 3, 4001, 1, 1, 0, -1]), (20, [3, 1, 0], [51, 0, 0, 1, 4001002003, 4, 6, 1, 2, 1, 0, 0, 0, 3, 6, 0, 2, 1, 1, 0, -1, 3, 6, 0, 2, 0, 4, 1, 1, 1, 6, 14, 2, 3, 4001, 1, 1, 0, -1]), (101, [0, 8], [20]), (102, [7], [0, 303000, 303001, 303002, 303003, 303004, 303005, 303006, 303007, 303008, 303009, 303010, 303011, 303012, 303013, 303014, 303015, 303016, 303017]), (8, [6], [1]), (8, [3], [1])], [], [], [(20, [2, 9], [50, 1, 0, 1001, 2, 6, 0, 2, 0, 0, 1, 0, 0, 6, 4, 2, 1, 0, 0, 1, 2, 1, 1])], [], [])
theorem oo_Ho_route_4 {kA : Nat → ClassId} : or_ok PRD kA GG o_Ho_route_4 := by
  refine or_mk fun A ta ws vs hD hth hl => ?_
  intro t0 r0 t1 k1 t2 k2 t3 k3 t5 r5 t6 k6 t9 r9 f0 f1 f2 f3 f4 f5 ta1 w1 le1 s1 ta2 w2 le2 s2 f8 f9
  replace f1 := shm_5 f1
  replace f2 := shm_396 f2
  replace f3 := shm_397 f3
  replace f8 := shm_154 f8
  replace f9 := shm_154 f9
  have q9 : n_v vs 9 = n_v vs 5 := f1.symm
  have kz_5_1 := fdq_38 hD hth r5
  have nf0 : fc_1 PRD (20, [2, 9], [50, 1, 0, 1001, 2, 6, 0, 2, 0, 0, 1, 0, 0, 6, 4, 2, 1, 0, 0, 1, 2, 1, 1]) ws (vs) := by
    refine ⟨nf_in hl rfl, sgq_402 ?_⟩
    · show (0 ≤ v_iv (n_v vs 2)) ∧ ((v_iv (n_v vs 2) + 1) ≤ w_fi ws (n_v vs 9) 1)
      rw [q9]
      exact vc_Ho_route_4_0 (v_iv (n_v vs 2)) (v_iv (n_v vs 3)) (v_iv (n_v vs 6)) (w_fi ws (n_v vs 5) 1) k2 k3 k6 f2 f3 f8 f9 kz_5_1
  refine ⟨(fun _ h => (by cases h)), [], trivial, ?_, (fun _ h => (by cases h))⟩
  rw [List.append_nil]
  exact List.forall_mem_cons.mpr ⟨⟨show (20 : Nat) < 100 from by decide, nf0⟩, (fun _ h => (by cases h))⟩
def o_Ho_route_5 : or_T := (51, 9, [(0, (2, 0, 0, [12])), (1, (0, 0, 3, [])), (4, (2, 0, 0, [131])), (5, (2, 0, 0, [3])), (8, (2, 0, 0, [3]))], [(14, [8, 4, 1], []), (9, [4, 0], [0]), (20, [0, 1, 5], [62, 71])], [], [], [(24, [5, 8], [])], [], [])
theorem oo_Ho_route_5 {kA : Nat → ClassId} : or_ok PRD kA GG o_Ho_route_5 := by
  refine or_mk fun A ta ws vs hD hth hl => ?_
  intro t0 r0 t1 k1 t4 r4 t5 r5 t8 r8 f0 f1 f2
  replace f0 := shm_779 f0
  replace f1 := shm_175 f1
  replace f2 := shm_1734 f2
  have nf0 : fc_1 PRD (24, [5, 8], []) ws (vs) := by
    refine ⟨nf_in hl rfl, sgq_5 ?_⟩
    · show n_v vs 5 = n_v vs 8
      exact ref_same t5 t8 rfl rfl ((wl_0 (wq_wl f2) (by decide)).trans (pO_of f1 f0).symm)
  refine ⟨(fun _ h => (by cases h)), [], trivial, ?_, (fun _ h => (by cases h))⟩
  rw [List.append_nil]
  exact List.forall_mem_cons.mpr ⟨⟨show (24 : Nat) < 100 from by decide, nf0⟩, (fun _ h => (by cases h))⟩
def o_Ho_route_6 : or_T := (51, 9, [(0, (2, 0, 0, [12])), (1, (0, 0, 3, [])), (2, (0, 0, 47, [])), (3, (0, 1, 1, [])), (5, (2, 0, 0, [3])), (6, (0, 1, 1, [])), (8, (2, 0, 0, [3]))], [(24, [5, 8], []), (8, [6], [1]), (20, [6, 2, 5], [50, 1, 0, 2001, 4, 6, 1, 2, 1, 0, 0, 1, 2, 6, 0, 2, 0, 0, 1, 1, 0, 6, 4, 2, 1, 1, 0, 1, 2, 2, 1]), (20, [6, 2, 5], [50, 1, 0, 2001, 4, 6, 1, 2, 1, 0, 0, 0, 3, 6, 0, 2, 1, 1, 0, -1, 0, 3, 2, 2, 1, 1, 1]), (20, [0, 1, 5], [62, 71]), (8, [3], [1]), (20, [3, 1, 0], [51, 0, 0, 1, 4001002003, 4, 6, 1, 2, 1, 0, 0, 1, 2, 6, 0, 2, 0, 0, 1, 1, 2, 6, 0, 2, 1, 1, 0, 3, 7, 6, 14, 2, 3, 4001, 1, 1, 0, -1]), (20, [3, 1, 0], [51, 0, 0, 1, 4001002003, 4, 6, 1, 2, 1, 0, 0, 0, 3, 6, 0, 2, 1, 1, 0, -1, 3, 6, 0, 2, 0, 4, 1, 1, 1, 6, 14, 2, 3, 4001, 1, 1, 0, -1])], [], [], [(20, [0, 1, 8], [62, 71])], [], [])
theorem oo_Ho_route_6 {kA : Nat → ClassId} : or_ok PRD kA GG o_Ho_route_6 := by
  refine or_mk fun A ta ws vs hD hth hl => ?_
  intro t0 r0 t1 k1 t2 k2 t3 k3 t5 r5 t6 k6 t8 r8 f0 f1 f2 f3 f4 f5 f6 f7
  replace f0 := shm_5 f0
  replace f4 := shm_1734 f4
  have q8 : n_v vs 8 = n_v vs 5 := f0.symm
  have nf0 : fc_1 PRD (20, [0, 1, 8], [62, 71]) ws (vs) := by
    refine ⟨nf_in hl rfl, sgq_1734 ?_⟩
    · show WQF 71 [n_v vs 0, n_v vs 1, n_v vs 8] ws
      first | rw [q8] | skip
      have zw := f4
      first | rw [show n_v vs 5 = n_v vs 8 from (by first | exact f0 | exact f0.symm)] at zw | skip
      first | exact zw | ((first | rw [q8] at zw | skip); exact zw)
  refine ⟨(fun _ h => (by cases h)), [], trivial, ?_, (fun _ h => (by cases h))⟩
  rw [List.append_nil]
  exact List.forall_mem_cons.mpr ⟨⟨show (20 : Nat) < 100 from by decide, nf0⟩, (fun _ h => (by cases h))⟩
def o_Ho_route_7 : or_T := (58, 11, [(0, (2, 0, 0, [12])), (1, (0, 0, 3, [])), (4, (2, 0, 0, [131])), (8, (2, 0, 0, [3]))], [(20, [0, 1, 8], [62, 71]), (14, [8, 4, 1], []), (9, [4, 0], [0])], [], [], [(20, [8], [60, 2, 2, 596, 0, 1, 7, 8])], [], [])
theorem oo_Ho_route_7 {kA : Nat → ClassId} : or_ok PRD kA GG o_Ho_route_7 := by
  refine or_mk fun A ta ws vs hD hth hl => ?_
  intro t0 r0 t1 k1 t4 r4 t8 r8 f0 f1 f2
  replace f0 := shm_1734 f0
  replace f1 := shm_779 f1
  replace f2 := shm_175 f2
  have nf0 : fc_1 PRD (20, [8], [60, 2, 2, 596, 0, 1, 7, 8]) ws (vs) := by
    refine ⟨nf_in hl rfl, sgq_401 ?_⟩
    · show GKE (w_fi ws (n_v vs 8) 0) (w_fi ws (n_v vs 8) 1) (w_ei ws (w_ar ws (n_v vs 8) 7)) (w_ei ws (w_ar ws (n_v vs 8) 8))
      exact hg_gke (wq_hg f0 (by decide) (pO_of f2 f1))
  refine ⟨(fun _ h => (by cases h)), [], trivial, ?_, (fun _ h => (by cases h))⟩
  rw [List.append_nil]
  exact List.forall_mem_cons.mpr ⟨⟨show (20 : Nat) < 100 from by decide, nf0⟩, (fun _ h => (by cases h))⟩
set_option maxHeartbeats 4000000 in
theorem vc_Ho_route_8_0 (x2 : Int) (x3 : Int) (x6 : Int) (edges_0o5 : Int) (k2 : 0 ≤ x2 ∧ x2 ≤ 47) (k3 : 1 ≤ x3 ∧ x3 ≤ 1) (k6 : 1 ≤ x6 ∧ x6 ≤ 1) (f3 : (x6 = 1) → ((0 ≤ x2) ∧ ((x2 + 1) ≤ edges_0o5))) (f4 : (x6 = 0) → ((x2 ≤ (-1)) ∨ (edges_0o5 ≤ x2))) (f5 : x3 ≠ 0) (kz_5_1 : 0 ≤ edges_0o5 ∧ edges_0o5 ≤ 48) : (0 ≤ x2) ∧ ((x2 + 1) ≤ edges_0o5) := by
  first | omega
def o_Ho_route_8 : or_T := (58, 11, [(0, (2, 0, 0, [12])), (1, (0, 0, 3, [])), (2, (0, 0, 47, [])), (3, (0, 1, 1, [])), (5, (2, 0, 0, [3])), (6, (0, 1, 1, [])), (8, (2, 0, 0, [3]))], [(20, [8], [60, 2, 2, 596, 0, 1, 7, 8]), (24, [5, 8], []), (8, [6], [1]), (20, [6, 2, 5], [50, 1, 0, 2001, 4, 6, 1, 2, 1, 0, 0, 1, 2, 6, 0, 2, 0, 0, 1, 1, 0, 6, 4, 2, 1, 1, 0, 1, 2, 2, 1]), (20, [6, 2, 5], [50, 1, 0, 2001, 4, 6, 1, 2, 1, 0, 0, 0, 3, 6, 0, 2, 1, 1, 0, -1, 0, 3, 2, 2, 1, 1, 1]), (8, [3], [1]), (20, [3, 1, 0], [51, 0, 0, 1, 4001002003, 4, 6, 1, 2, 1, 0, 0, 1, 2, 6, 0, 2, 0, 0, 1, 1, 2, 6, 0, 2, 1, 1, 0, 3, 7, 6, 14, 2, 3, 4001, 1, 1, 0, -1]), (20, [3, 1, 0], [51, 0, 0, 1, 4001002003, 4, 6, 1, 2, 1, 0, 0, 0, 3, 6, 0, 2, 1, 1, 0, -1, 3, 6, 0, 2, 0, 4, 1, 1, 1, 6, 14, 2, 3, 4001, 1, 1, 0, -1])], [], [], [(20, [2, 8], [50, 1, 0, 1001, 2, 6, 0, 2, 0, 0, 1, 0, 0, 6, 4, 2, 1, 0, 0, 1, 2, 1, 1])], [], [])
theorem oo_Ho_route_8 {kA : Nat → ClassId} : or_ok PRD kA GG o_Ho_route_8 := by
  refine or_mk fun A ta ws vs hD hth hl => ?_
  intro t0 r0 t1 k1 t2 k2 t3 k3 t5 r5 t6 k6 t8 r8 f0 f1 f2 f3 f4 f5 f6 f7
  replace f1 := shm_5 f1
  replace f3 := shm_396 f3
  replace f4 := shm_397 f4
  replace f5 := shm_154 f5
  have q8 : n_v vs 8 = n_v vs 5 := f1.symm
  have kz_5_1 := fdq_38 hD hth r5
  have nf0 : fc_1 PRD (20, [2, 8], [50, 1, 0, 1001, 2, 6, 0, 2, 0, 0, 1, 0, 0, 6, 4, 2, 1, 0, 0, 1, 2, 1, 1]) ws (vs) := by
    refine ⟨nf_in hl rfl, sgq_402 ?_⟩
    · show (0 ≤ v_iv (n_v vs 2)) ∧ ((v_iv (n_v vs 2) + 1) ≤ w_fi ws (n_v vs 8) 1)
      rw [q8]
      exact vc_Ho_route_8_0 (v_iv (n_v vs 2)) (v_iv (n_v vs 3)) (v_iv (n_v vs 6)) (w_fi ws (n_v vs 5) 1) k2 k3 k6 f3 f4 f5 kz_5_1
  refine ⟨(fun _ h => (by cases h)), [], trivial, ?_, (fun _ h => (by cases h))⟩
  rw [List.append_nil]
  exact List.forall_mem_cons.mpr ⟨⟨show (20 : Nat) < 100 from by decide, nf0⟩, (fun _ h => (by cases h))⟩
def n_Ho_route_an : List an_T := []
def t_Ho_route_ct : ct_L := [(1, 197, e_Gr_hasEdge), (1, 323, e_Ho_hasDrawing), (1, 329, e_Ro_lead), (2000031, 0, e_Ro_init_nw)]
set_option maxRecDepth 100000 in
theorem c_Ho_route {l : Launch} {D : va_G} {kA : Nat → ClassId} (h_Gr_hasEdge : ct_ok PRD l D kA GG y_Gr_hasEdge z_Gr_hasEdge e_Gr_hasEdge) (h_Ho_hasDrawing : ct_ok PRD l D kA GG y_Ho_hasDrawing z_Ho_hasDrawing e_Ho_hasDrawing) (h_Ro_init : ct_ok PRD l D kA GG y_Ro_init z_Ro_init e_Ro_init) (h_Ro_lead : ct_ok PRD l D kA GG y_Ro_lead z_Ro_lead e_Ro_lead) : ct_ok PRD l D kA GG y_Ho_route z_Ho_route e_Ho_route := chk_all_ok (FT := [(13, 12, 0), (31, 12, 3), (98, 12, 20)]) (PT := [(98, 12, 20, .object "DrawingHouse$Router")]) (CT := t_Ho_route_ct) (KT := []) (NT := []) (AN := n_Ho_route_an) (OT := [o_Ho_route_0, o_Ho_route_1, o_Ho_route_2, o_Ho_route_3, o_Ho_route_4, o_Ho_route_5, o_Ho_route_6, o_Ho_route_7, o_Ho_route_8]) 0 232 (List.forall_mem_cons.mpr ⟨oo_Ho_route_0, List.forall_mem_cons.mpr ⟨oo_Ho_route_1, List.forall_mem_cons.mpr ⟨oo_Ho_route_2, List.forall_mem_cons.mpr ⟨oo_Ho_route_3, List.forall_mem_cons.mpr ⟨oo_Ho_route_4, List.forall_mem_cons.mpr ⟨oo_Ho_route_5, List.forall_mem_cons.mpr ⟨oo_Ho_route_6, List.forall_mem_cons.mpr ⟨oo_Ho_route_7, List.forall_mem_cons.mpr ⟨oo_Ho_route_8, List.forall_mem_nil _⟩⟩⟩⟩⟩⟩⟩⟩⟩) (by decide +kernel) ⟨List.forall_mem_cons.mpr ⟨gf_Ho_13, List.forall_mem_cons.mpr ⟨gf_Ho_31, List.forall_mem_cons.mpr ⟨gf_Ho_98, List.forall_mem_nil _⟩⟩⟩, List.forall_mem_cons.mpr ⟨pf_Ho_98, List.forall_mem_nil _⟩, List.forall_mem_cons.mpr ⟨cl_virtual (y := y_Gr_hasEdge) (ci := 3) rfl rfl ⟨_, _, rfl⟩ (by decide +kernel) h_Gr_hasEdge wm_930 wm_3 wm_927 wm_928 wm_929 ⟨by decide, by decide, by decide +kernel⟩ (by decide), List.forall_mem_cons.mpr ⟨cl_virtual (y := y_Ho_hasDrawing) (ci := 12) rfl rfl ⟨_, _, rfl⟩ (by decide +kernel) h_Ho_hasDrawing wm_1859 wm_1 wm_1856 wm_1858 wv_8_15 ⟨by decide, by decide, by decide +kernel⟩ (by decide), List.forall_mem_cons.mpr ⟨cl_virtual (y := y_Ro_lead) (ci := 9) rfl rfl ⟨_, _, rfl⟩ (by decide +kernel) h_Ro_lead wm_1925 wm_22 wm_1922 wm_1923 wm_1924 ⟨by decide, by decide, by decide +kernel⟩ (by decide), List.forall_mem_cons.mpr ⟨cq_new (PQ := PRD) (pc := 31) (idx := 326) (index := 328) (rr := 303) (r := 9) h_Ro_init rfl rfl (by decide +kernel) (by decide +kernel) rfl rfl rfl (ro_none (G := GG) (by decide +kernel)) rfl rfl rfl rfl (by decide +kernel) (by decide +kernel) (by decide +kernel) i_Ro t_Ro t_Ro_ok wm_1860 wm_1861 wm_22 rfl f0Ro_ok wm_1864 wm_22 (Or.inr ⟨_, wn_1862⟩) wm_1863 rfl ⟨by decide, by decide, by decide +kernel⟩ (by decide) (by decide +kernel) (by decide +kernel) (by decide +kernel), List.forall_mem_nil _⟩⟩⟩⟩, List.forall_mem_nil _, List.forall_mem_nil _, GG_pl⟩ (by decide +kernel)
def o_Ho_route_at_b_0 : or_T := (13, 5, [(0, (2, 0, 0, [12])), (1, (0, -2147483648, 2147483647, [])), (2, (0, -2147483648, 2147483647, [])), (3, (0, 1, 1, []))], [(8, [3], [1]), (20, [3, 1, 0], [51, 0, 0, 1, 4001002003, 4, 6, 1, 2, 1, 0, 0, 1, 2, 6, 0, 2, 0, 0, 1, 1, 2, 6, 0, 2, 1, 1, 0, 3, 7, 6, 14, 2, 3, 4001, 1, 1, 0, -1]), (20, [3, 1, 0], [51, 0, 0, 1, 4001002003, 4, 6, 1, 2, 1, 0, 0, 0, 3, 6, 0, 2, 1, 1, 0, -1, 3, 6, 0, 2, 0, 4, 1, 1, 1, 6, 14, 2, 3, 4001, 1, 1, 0, -1]), (20, [1, 0, 2], [51, 0, 0, 2, 4001001003, 4001001000, 3, 6, 0, 2, 1, 0, 0, -1, 3, 6, 0, 2, 0, 4, 1, 0, 3, 10, 1, 6, 14, 1, 3, 4001, 1, 0, 0, -1, 3, 6, 0, 2, 1, 2, 0, -1, 0, 6, 14, 1, 0, 4001, 1, 0, 1, 2])], [(1, (0, 0, 3, []))], [], [], [], [])
theorem oo_Ho_route_at_b_0 {kA : Nat → ClassId} : or_ok PRD kA GG o_Ho_route_at_b_0 := by
  refine or_mk fun A ta ws vs hD hth hl => ?_
  intro t0 r0 t1 k1 t2 k2 t3 k3 f0 f1 f2 f3
  replace f0 := shm_154 f0
  replace f1 := shm_777 f1
  replace f2 := shm_778 f2
  replace f3 := shm_1887 f3
  have rf1 : tv_ok ta (0, 0, 3, []) (n_v vs 1) := tv_in t1 (by first | omega | grind) (by first | omega | grind)
  refine ⟨List.forall_mem_cons.mpr ⟨rf1, (fun _ h => (by cases h))⟩, [], trivial, ?_, (fun _ h => (by cases h))⟩
  rw [List.append_nil]
  exact (fun _ h => (by cases h))
def o_Ho_route_at_b_1 : or_T := (14, 6, [(0, (2, 0, 0, [12])), (1, (0, 0, 3, [])), (2, (0, -2147483648, 2147483647, [])), (3, (0, 1, 1, [])), (4, (2, 0, 0, [131])), (5, (2, 0, 0, [3]))], [(14, [5, 4, 1], []), (9, [4, 0], [0]), (8, [3], [1]), (20, [3, 1, 0], [51, 0, 0, 1, 4001002003, 4, 6, 1, 2, 1, 0, 0, 1, 2, 6, 0, 2, 0, 0, 1, 1, 2, 6, 0, 2, 1, 1, 0, 3, 7, 6, 14, 2, 3, 4001, 1, 1, 0, -1]), (20, [3, 1, 0], [51, 0, 0, 1, 4001002003, 4, 6, 1, 2, 1, 0, 0, 0, 3, 6, 0, 2, 1, 1, 0, -1, 3, 6, 0, 2, 0, 4, 1, 1, 1, 6, 14, 2, 3, 4001, 1, 1, 0, -1]), (20, [0], [62, 0]), (20, [1, 0, 2], [51, 0, 0, 2, 4001001003, 4001001000, 3, 6, 0, 2, 1, 0, 0, -1, 3, 6, 0, 2, 0, 4, 1, 0, 3, 10, 1, 6, 14, 1, 3, 4001, 1, 0, 0, -1, 3, 6, 0, 2, 1, 2, 0, -1, 0, 6, 14, 1, 0, 4001, 1, 0, 1, 2])], [], [], [(20, [0, 1, 5], [62, 71])], [], [])
theorem oo_Ho_route_at_b_1 {kA : Nat → ClassId} : or_ok PRD kA GG o_Ho_route_at_b_1 := by
  refine or_mk fun A ta ws vs hD hth hl => ?_
  intro t0 r0 t1 k1 t2 k2 t3 k3 t4 r4 t5 r5 f0 f1 f2 f3 f4 f5 f6
  replace f0 := shm_779 f0
  replace f1 := shm_175 f1
  replace f2 := shm_154 f2
  replace f3 := shm_777 f3
  replace f4 := shm_778 f4
  replace f5 := shm_1145 f5
  replace f6 := shm_1887 f6
  have cr_0_0 := fdq_303 hD hth r0
  have ad_4 : v_ad (n_v vs 4) = w_ar ws (n_v vs 0) 0 := congrArg v_ad f1
  have nf0 : fc_1 PRD (20, [0, 1, 5], [62, 71]) ws (vs) := by
    refine ⟨nf_in hl rfl, sgq_1734 ?_⟩
    · show WQF 71 [n_v vs 0, n_v vs 1, n_v vs 5] ws
      have zw := f5
      exact wq_in (zw) (by omega) (by omega) ⟨rfl, rfl⟩ ⟨Or.inr (pO_of f1 f0), trivial⟩
  refine ⟨(fun _ h => (by cases h)), [], trivial, ?_, (fun _ h => (by cases h))⟩
  rw [List.append_nil]
  exact List.forall_mem_cons.mpr ⟨⟨show (20 : Nat) < 100 from by decide, nf0⟩, (fun _ h => (by cases h))⟩
def o_Ho_route_at_b_2 : or_T := (18, 7, [(0, (2, 0, 0, [12])), (1, (0, 0, 3, [])), (2, (0, -2147483648, 2147483647, [])), (3, (0, 1, 1, [])), (4, (2, 0, 0, [131])), (5, (2, 0, 0, [3])), (6, (0, 0, 1, []))], [(20, [6, 2, 5], [50, 1, 0, 2001, 4, 6, 1, 2, 1, 0, 0, 1, 2, 6, 0, 2, 0, 0, 1, 1, 0, 6, 4, 2, 1, 1, 0, 1, 2, 2, 1]), (20, [6, 2, 5], [50, 1, 0, 2001, 4, 6, 1, 2, 1, 0, 0, 0, 3, 6, 0, 2, 1, 1, 0, -1, 0, 3, 2, 2, 1, 1, 1]), (14, [5, 4, 1], []), (9, [4, 0], [0]), (8, [3], [1]), (20, [3, 1, 0], [51, 0, 0, 1, 4001002003, 4, 6, 1, 2, 1, 0, 0, 1, 2, 6, 0, 2, 0, 0, 1, 1, 2, 6, 0, 2, 1, 1, 0, 3, 7, 6, 14, 2, 3, 4001, 1, 1, 0, -1]), (20, [3, 1, 0], [51, 0, 0, 1, 4001002003, 4, 6, 1, 2, 1, 0, 0, 0, 3, 6, 0, 2, 1, 1, 0, -1, 3, 6, 0, 2, 0, 4, 1, 1, 1, 6, 14, 2, 3, 4001, 1, 1, 0, -1]), (20, [1, 0, 2], [51, 0, 0, 2, 4001001003, 4001001000, 3, 6, 0, 2, 1, 0, 0, -1, 3, 6, 0, 2, 0, 4, 1, 0, 3, 10, 1, 6, 14, 1, 3, 4001, 1, 0, 0, -1, 3, 6, 0, 2, 1, 2, 0, -1, 0, 6, 14, 1, 0, 4001, 1, 0, 1, 2])], [(6, (0, 0, 0, []))], [], [], [], [])
theorem oo_Ho_route_at_b_2 {kA : Nat → ClassId} : or_ok PRD kA GG o_Ho_route_at_b_2 := by
  refine or_mk fun A ta ws vs hD hth hl => ?_
  intro t0 r0 t1 k1 t2 k2 t3 k3 t4 r4 t5 r5 t6 k6 f0 f1 f2 f3 f4 f5 f6 f7
  replace f0 := shm_396 f0
  replace f1 := shm_397 f1
  replace f2 := shm_779 f2
  replace f3 := shm_175 f3
  replace f4 := shm_154 f4
  replace f5 := shm_777 f5
  replace f6 := shm_778 f6
  replace f7 := shm_1887 f7
  have cr_0_0 := fdq_303 hD hth r0
  have ad_4 : v_ad (n_v vs 4) = w_ar ws (n_v vs 0) 0 := congrArg v_ad f3
  have kz_5_1 := fdq_38 hD hth r5
  first | have gr0 := rfi_nm (kf := 1) (len := 4) (z := v_iv (n_v vs 1)) (v := n_v vs 5) (a := w_ar ws (n_v vs 0) 0) (by first | assumption | omega | (rw [← ad_4]; assumption)) (by omega) (by omega) | skip
  have rf6 : tv_ok ta (0, 0, 0, []) (n_v vs 6) := tv_in t6 (by first | omega | grind) (by first | omega | grind)
  refine ⟨List.forall_mem_cons.mpr ⟨rf6, (fun _ h => (by cases h))⟩, [], trivial, ?_, (fun _ h => (by cases h))⟩
  rw [List.append_nil]
  exact (fun _ h => (by cases h))
def n_Ho_route_at_b_an : List an_T := []
def t_Ho_route_at_b_ct : ct_L := [(10, 323, e_Ho_hasDrawing_np), (49, 197, e_Gr_hasEdge_np)]
set_option maxRecDepth 100000 in
theorem c_Ho_route_at_b {l : Launch} {D : va_G} {kA : Nat → ClassId} (h_Gr_hasEdge : ct_ok PRD l D kA GG y_Gr_hasEdge z_Gr_hasEdge e_Gr_hasEdge) (h_Ho_hasDrawing : ct_ok PRD l D kA GG y_Ho_hasDrawing z_Ho_hasDrawing e_Ho_hasDrawing) : ct_ok PRD l D kA GG y_Ho_route_at_b z_Ho_route_at_b e_Ho_route_at_b := chk_all_ok (FT := [(13, 12, 0), (31, 12, 3), (98, 12, 20)]) (PT := [(98, 12, 20, .object "DrawingHouse$Router")]) (CT := t_Ho_route_at_b_ct) (KT := []) (NT := []) (AN := n_Ho_route_at_b_an) (OT := [o_Ho_route_at_b_0, o_Ho_route_at_b_1, o_Ho_route_at_b_2]) 0 200 (List.forall_mem_cons.mpr ⟨oo_Ho_route_at_b_0, List.forall_mem_cons.mpr ⟨oo_Ho_route_at_b_1, List.forall_mem_cons.mpr ⟨oo_Ho_route_at_b_2, List.forall_mem_nil _⟩⟩⟩) (by decide +kernel) ⟨List.forall_mem_cons.mpr ⟨gf_Ho_13, List.forall_mem_cons.mpr ⟨gf_Ho_31, List.forall_mem_cons.mpr ⟨gf_Ho_98, List.forall_mem_nil _⟩⟩⟩, List.forall_mem_cons.mpr ⟨pf_Ho_98, List.forall_mem_nil _⟩, List.forall_mem_cons.mpr ⟨cl_nopa (cl_virtual (y := y_Ho_hasDrawing) (ci := 12) rfl rfl ⟨_, _, rfl⟩ (by decide +kernel) h_Ho_hasDrawing wm_1859 wm_1 wm_1856 wm_1858 wv_8_15 ⟨by decide, by decide, by decide +kernel⟩ (by decide)), List.forall_mem_cons.mpr ⟨cl_nopa (cl_virtual (y := y_Gr_hasEdge) (ci := 3) rfl rfl ⟨_, _, rfl⟩ (by decide +kernel) h_Gr_hasEdge wm_930 wm_3 wm_927 wm_928 wm_929 ⟨by decide, by decide, by decide +kernel⟩ (by decide)), List.forall_mem_nil _⟩⟩, List.forall_mem_nil _, List.forall_mem_nil _, GG_pl⟩ (by decide +kernel)
def o_Ho_route_at_c_0 : or_T := (14, 7, [(0, (2, 0, 0, [12])), (1, (0, 0, 3, [])), (4, (0, 1, 1, [])), (5, (2, 0, 0, [131])), (6, (2, 0, 0, [3]))], [(14, [6, 5, 1], []), (9, [5, 0], [0]), (8, [4], [1]), (20, [4, 1, 0], [51, 0, 0, 1, 4001002003, 4, 6, 1, 2, 1, 0, 0, 1, 2, 6, 0, 2, 0, 0, 1, 1, 2, 6, 0, 2, 1, 1, 0, 3, 7, 6, 14, 2, 3, 4001, 1, 1, 0, -1]), (20, [4, 1, 0], [51, 0, 0, 1, 4001002003, 4, 6, 1, 2, 1, 0, 0, 0, 3, 6, 0, 2, 1, 1, 0, -1, 3, 6, 0, 2, 0, 4, 1, 1, 1, 6, 14, 2, 3, 4001, 1, 1, 0, -1]), (20, [0], [62, 0])], [], [], [(20, [0, 1, 6], [62, 71])], [], [])
theorem oo_Ho_route_at_c_0 {kA : Nat → ClassId} : or_ok PRD kA GG o_Ho_route_at_c_0 := by
  refine or_mk fun A ta ws vs hD hth hl => ?_
  intro t0 r0 t1 k1 t4 k4 t5 r5 t6 r6 f0 f1 f2 f3 f4 f5
  replace f0 := shm_779 f0
  replace f1 := shm_175 f1
  replace f2 := shm_154 f2
  replace f3 := shm_777 f3
  replace f4 := shm_778 f4
  replace f5 := shm_1145 f5
  have cr_0_0 := fdq_303 hD hth r0
  have ad_5 : v_ad (n_v vs 5) = w_ar ws (n_v vs 0) 0 := congrArg v_ad f1
  have nf0 : fc_1 PRD (20, [0, 1, 6], [62, 71]) ws (vs) := by
    refine ⟨nf_in hl rfl, sgq_1734 ?_⟩
    · show WQF 71 [n_v vs 0, n_v vs 1, n_v vs 6] ws
      have zw := f5
      exact wq_in (zw) (by omega) (by omega) ⟨rfl, rfl⟩ ⟨Or.inr (pO_of f1 f0), trivial⟩
  refine ⟨(fun _ h => (by cases h)), [], trivial, ?_, (fun _ h => (by cases h))⟩
  rw [List.append_nil]
  exact List.forall_mem_cons.mpr ⟨⟨show (20 : Nat) < 100 from by decide, nf0⟩, (fun _ h => (by cases h))⟩
def o_Ho_route_at_c_1 : or_T := (51, 9, [(0, (2, 0, 0, [12])), (1, (0, 0, 3, [])), (5, (2, 0, 0, [131])), (6, (2, 0, 0, [3])), (8, (2, 0, 0, [3]))], [(14, [8, 5, 1], []), (9, [5, 0], [0]), (20, [0, 1, 6], [62, 71])], [], [], [(24, [6, 8], [])], [], [])
theorem oo_Ho_route_at_c_1 {kA : Nat → ClassId} : or_ok PRD kA GG o_Ho_route_at_c_1 := by
  refine or_mk fun A ta ws vs hD hth hl => ?_
  intro t0 r0 t1 k1 t5 r5 t6 r6 t8 r8 f0 f1 f2
  replace f0 := shm_779 f0
  replace f1 := shm_175 f1
  replace f2 := shm_1734 f2
  have nf0 : fc_1 PRD (24, [6, 8], []) ws (vs) := by
    refine ⟨nf_in hl rfl, sgq_5 ?_⟩
    · show n_v vs 6 = n_v vs 8
      exact ref_same t6 t8 rfl rfl ((wl_0 (wq_wl f2) (by decide)).trans (pO_of f1 f0).symm)
  refine ⟨(fun _ h => (by cases h)), [], trivial, ?_, (fun _ h => (by cases h))⟩
  rw [List.append_nil]
  exact List.forall_mem_cons.mpr ⟨⟨show (24 : Nat) < 100 from by decide, nf0⟩, (fun _ h => (by cases h))⟩
def o_Ho_route_at_c_2 : or_T := (51, 9, [(0, (2, 0, 0, [12])), (1, (0, 0, 3, [])), (2, (0, 0, 47, [])), (4, (0, 1, 1, [])), (6, (2, 0, 0, [3])), (7, (0, 1, 1, [])), (8, (2, 0, 0, [3]))], [(24, [6, 8], []), (8, [7], [1]), (20, [7, 2, 6], [50, 1, 0, 2001, 4, 6, 1, 2, 1, 0, 0, 1, 2, 6, 0, 2, 0, 0, 1, 1, 0, 6, 4, 2, 1, 1, 0, 1, 2, 2, 1]), (20, [7, 2, 6], [50, 1, 0, 2001, 4, 6, 1, 2, 1, 0, 0, 0, 3, 6, 0, 2, 1, 1, 0, -1, 0, 3, 2, 2, 1, 1, 1]), (20, [0, 1, 6], [62, 71]), (8, [4], [1]), (20, [4, 1, 0], [51, 0, 0, 1, 4001002003, 4, 6, 1, 2, 1, 0, 0, 1, 2, 6, 0, 2, 0, 0, 1, 1, 2, 6, 0, 2, 1, 1, 0, 3, 7, 6, 14, 2, 3, 4001, 1, 1, 0, -1]), (20, [4, 1, 0], [51, 0, 0, 1, 4001002003, 4, 6, 1, 2, 1, 0, 0, 0, 3, 6, 0, 2, 1, 1, 0, -1, 3, 6, 0, 2, 0, 4, 1, 1, 1, 6, 14, 2, 3, 4001, 1, 1, 0, -1])], [], [], [(20, [0, 1, 8], [62, 71])], [], [])
theorem oo_Ho_route_at_c_2 {kA : Nat → ClassId} : or_ok PRD kA GG o_Ho_route_at_c_2 := by
  refine or_mk fun A ta ws vs hD hth hl => ?_
  intro t0 r0 t1 k1 t2 k2 t4 k4 t6 r6 t7 k7 t8 r8 f0 f1 f2 f3 f4 f5 f6 f7
  replace f0 := shm_5 f0
  replace f4 := shm_1734 f4
  have q8 : n_v vs 8 = n_v vs 6 := f0.symm
  have nf0 : fc_1 PRD (20, [0, 1, 8], [62, 71]) ws (vs) := by
    refine ⟨nf_in hl rfl, sgq_1734 ?_⟩
    · show WQF 71 [n_v vs 0, n_v vs 1, n_v vs 8] ws
      first | rw [q8] | skip
      have zw := f4
      first | rw [show n_v vs 6 = n_v vs 8 from (by first | exact f0 | exact f0.symm)] at zw | skip
      first | exact zw | ((first | rw [q8] at zw | skip); exact zw)
  refine ⟨(fun _ h => (by cases h)), [], trivial, ?_, (fun _ h => (by cases h))⟩
  rw [List.append_nil]
  exact List.forall_mem_cons.mpr ⟨⟨show (20 : Nat) < 100 from by decide, nf0⟩, (fun _ h => (by cases h))⟩
def o_Ho_route_at_c_3 : or_T := (58, 11, [(0, (2, 0, 0, [12])), (1, (0, 0, 3, [])), (5, (2, 0, 0, [131])), (8, (2, 0, 0, [3]))], [(20, [0, 1, 8], [62, 71]), (14, [8, 5, 1], []), (9, [5, 0], [0])], [], [], [(20, [8], [60, 2, 2, 596, 0, 1, 7, 8])], [], [])
theorem oo_Ho_route_at_c_3 {kA : Nat → ClassId} : or_ok PRD kA GG o_Ho_route_at_c_3 := by
  refine or_mk fun A ta ws vs hD hth hl => ?_
  intro t0 r0 t1 k1 t5 r5 t8 r8 f0 f1 f2
  replace f0 := shm_1734 f0
  replace f1 := shm_779 f1
  replace f2 := shm_175 f2
  have nf0 : fc_1 PRD (20, [8], [60, 2, 2, 596, 0, 1, 7, 8]) ws (vs) := by
    refine ⟨nf_in hl rfl, sgq_401 ?_⟩
    · show GKE (w_fi ws (n_v vs 8) 0) (w_fi ws (n_v vs 8) 1) (w_ei ws (w_ar ws (n_v vs 8) 7)) (w_ei ws (w_ar ws (n_v vs 8) 8))
      exact hg_gke (wq_hg f0 (by decide) (pO_of f2 f1))
  refine ⟨(fun _ h => (by cases h)), [], trivial, ?_, (fun _ h => (by cases h))⟩
  rw [List.append_nil]
  exact List.forall_mem_cons.mpr ⟨⟨show (20 : Nat) < 100 from by decide, nf0⟩, (fun _ h => (by cases h))⟩
set_option maxHeartbeats 4000000 in
theorem vc_Ho_route_at_c_4_0 (x2 : Int) (x4 : Int) (x7 : Int) (edges_0o6 : Int) (k2 : 0 ≤ x2 ∧ x2 ≤ 47) (k4 : 1 ≤ x4 ∧ x4 ≤ 1) (k7 : 1 ≤ x7 ∧ x7 ≤ 1) (f3 : (x7 = 1) → ((0 ≤ x2) ∧ ((x2 + 1) ≤ edges_0o6))) (f4 : (x7 = 0) → ((x2 ≤ (-1)) ∨ (edges_0o6 ≤ x2))) (f5 : x4 ≠ 0) (kz_6_1 : 0 ≤ edges_0o6 ∧ edges_0o6 ≤ 48) : (0 ≤ x2) ∧ ((x2 + 1) ≤ edges_0o6) := by
  first | omega
def o_Ho_route_at_c_4 : or_T := (58, 11, [(0, (2, 0, 0, [12])), (1, (0, 0, 3, [])), (2, (0, 0, 47, [])), (4, (0, 1, 1, [])), (6, (2, 0, 0, [3])), (7, (0, 1, 1, [])), (8, (2, 0, 0, [3]))], [(20, [8], [60, 2, 2, 596, 0, 1, 7, 8]), (24, [6, 8], []), (8, [7], [1]), (20, [7, 2, 6], [50, 1, 0, 2001, 4, 6, 1, 2, 1, 0, 0, 1, 2, 6, 0, 2, 0, 0, 1, 1, 0, 6, 4, 2, 1, 1, 0, 1, 2, 2, 1]), (20, [7, 2, 6], [50, 1, 0, 2001, 4, 6, 1, 2, 1, 0, 0, 0, 3, 6, 0, 2, 1, 1, 0, -1, 0, 3, 2, 2, 1, 1, 1]), (8, [4], [1]), (20, [4, 1, 0], [51, 0, 0, 1, 4001002003, 4, 6, 1, 2, 1, 0, 0, 1, 2, 6, 0, 2, 0, 0, 1, 1, 2, 6, 0, 2, 1, 1, 0, 3, 7, 6, 14, 2, 3, 4001, 1, 1, 0, -1]), (20, [4, 1, 0], [51, 0, 0, 1, 4001002003, 4, 6, 1, 2, 1, 0, 0, 0, 3, 6, 0, 2, 1, 1, 0, -1, 3, 6, 0, 2, 0, 4, 1, 1, 1, 6, 14, 2, 3, 4001, 1, 1, 0, -1])], [], [], [(20, [2, 8], [50, 1, 0, 1001, 2, 6, 0, 2, 0, 0, 1, 0, 0, 6, 4, 2, 1, 0, 0, 1, 2, 1, 1])], [], [])
theorem oo_Ho_route_at_c_4 {kA : Nat → ClassId} : or_ok PRD kA GG o_Ho_route_at_c_4 := by
  refine or_mk fun A ta ws vs hD hth hl => ?_
  intro t0 r0 t1 k1 t2 k2 t4 k4 t6 r6 t7 k7 t8 r8 f0 f1 f2 f3 f4 f5 f6 f7
  replace f1 := shm_5 f1
  replace f3 := shm_396 f3
  replace f4 := shm_397 f4
  replace f5 := shm_154 f5
  have q8 : n_v vs 8 = n_v vs 6 := f1.symm
  have kz_6_1 := fdq_38 hD hth r6
  have nf0 : fc_1 PRD (20, [2, 8], [50, 1, 0, 1001, 2, 6, 0, 2, 0, 0, 1, 0, 0, 6, 4, 2, 1, 0, 0, 1, 2, 1, 1]) ws (vs) := by
    refine ⟨nf_in hl rfl, sgq_402 ?_⟩
    · show (0 ≤ v_iv (n_v vs 2)) ∧ ((v_iv (n_v vs 2) + 1) ≤ w_fi ws (n_v vs 8) 1)
      rw [q8]
      exact vc_Ho_route_at_c_4_0 (v_iv (n_v vs 2)) (v_iv (n_v vs 4)) (v_iv (n_v vs 7)) (w_fi ws (n_v vs 6) 1) k2 k4 k7 f3 f4 f5 kz_6_1
  refine ⟨(fun _ h => (by cases h)), [], trivial, ?_, (fun _ h => (by cases h))⟩
  rw [List.append_nil]
  exact List.forall_mem_cons.mpr ⟨⟨show (20 : Nat) < 100 from by decide, nf0⟩, (fun _ h => (by cases h))⟩
def n_Ho_route_at_c_an : List an_T := []
def t_Ho_route_at_c_ct : ct_L := [(1, 197, e_Gr_hasEdge), (1, 323, e_Ho_hasDrawing), (1, 329, e_Ro_lead)]
set_option maxRecDepth 100000 in
theorem c_Ho_route_at_c {l : Launch} {D : va_G} {kA : Nat → ClassId} (h_Gr_hasEdge : ct_ok PRD l D kA GG y_Gr_hasEdge z_Gr_hasEdge e_Gr_hasEdge) (h_Ho_hasDrawing : ct_ok PRD l D kA GG y_Ho_hasDrawing z_Ho_hasDrawing e_Ho_hasDrawing) (h_Ro_lead : ct_ok PRD l D kA GG y_Ro_lead z_Ro_lead e_Ro_lead) : ct_ok PRD l D kA GG y_Ho_route_at_c z_Ho_route_at_c e_Ho_route_at_c := chk_all_ok (FT := [(13, 12, 0), (31, 12, 3), (98, 12, 20)]) (PT := [(98, 12, 20, .object "DrawingHouse$Router")]) (CT := t_Ho_route_at_c_ct) (KT := []) (NT := []) (AN := n_Ho_route_at_c_an) (OT := [o_Ho_route_at_c_0, o_Ho_route_at_c_1, o_Ho_route_at_c_2, o_Ho_route_at_c_3, o_Ho_route_at_c_4]) 0 200 (List.forall_mem_cons.mpr ⟨oo_Ho_route_at_c_0, List.forall_mem_cons.mpr ⟨oo_Ho_route_at_c_1, List.forall_mem_cons.mpr ⟨oo_Ho_route_at_c_2, List.forall_mem_cons.mpr ⟨oo_Ho_route_at_c_3, List.forall_mem_cons.mpr ⟨oo_Ho_route_at_c_4, List.forall_mem_nil _⟩⟩⟩⟩⟩) (by decide +kernel) ⟨List.forall_mem_cons.mpr ⟨gf_Ho_13, List.forall_mem_cons.mpr ⟨gf_Ho_31, List.forall_mem_cons.mpr ⟨gf_Ho_98, List.forall_mem_nil _⟩⟩⟩, List.forall_mem_cons.mpr ⟨pf_Ho_98, List.forall_mem_nil _⟩, List.forall_mem_cons.mpr ⟨cl_virtual (y := y_Gr_hasEdge) (ci := 3) rfl rfl ⟨_, _, rfl⟩ (by decide +kernel) h_Gr_hasEdge wm_930 wm_3 wm_927 wm_928 wm_929 ⟨by decide, by decide, by decide +kernel⟩ (by decide), List.forall_mem_cons.mpr ⟨cl_virtual (y := y_Ho_hasDrawing) (ci := 12) rfl rfl ⟨_, _, rfl⟩ (by decide +kernel) h_Ho_hasDrawing wm_1859 wm_1 wm_1856 wm_1858 wv_8_15 ⟨by decide, by decide, by decide +kernel⟩ (by decide), List.forall_mem_cons.mpr ⟨cl_virtual (y := y_Ro_lead) (ci := 9) rfl rfl ⟨_, _, rfl⟩ (by decide +kernel) h_Ro_lead wm_1925 wm_22 wm_1922 wm_1923 wm_1924 ⟨by decide, by decide, by decide +kernel⟩ (by decide), List.forall_mem_nil _⟩⟩⟩, List.forall_mem_nil _, List.forall_mem_nil _, GG_pl⟩ (by decide +kernel)
def o_Ho_route_at_d_0 : or_T := (5, 5, [(0, (2, 0, 0, [12])), (1, (0, 0, 3, [])), (2, (0, -2147483648, 2147483647, [])), (4, (0, 0, 1, []))], [(20, [4, 1, 0], [51, 0, 0, 1, 4001002003, 4, 6, 1, 2, 1, 0, 0, 1, 2, 6, 0, 2, 0, 0, 1, 1, 2, 6, 0, 2, 1, 1, 0, 3, 7, 6, 14, 2, 3, 4001, 1, 1, 0, -1]), (20, [4, 1, 0], [51, 0, 0, 1, 4001002003, 4, 6, 1, 2, 1, 0, 0, 0, 3, 6, 0, 2, 1, 1, 0, -1, 3, 6, 0, 2, 0, 4, 1, 1, 1, 6, 14, 2, 3, 4001, 1, 1, 0, -1]), (20, [0, 1, 2], [51, 0, 0, 2, 4001000003, 4001000000, 2, 10, 7, 6, 14, 0, 3, 4001, 1, 1, 0, -1, 2, 6, 0, 2, 0, 0, 1, 2, 0, 6, 4, 2, 1, 2, 0, 1, 14, 0, 0, 4001, 1, 1])], [(4, (0, 1, 1, []))], [], [], [], [])
theorem oo_Ho_route_at_d_0 {kA : Nat → ClassId} : or_ok PRD kA GG o_Ho_route_at_d_0 := by
  refine or_mk fun A ta ws vs hD hth hl => ?_
  intro t0 r0 t1 k1 t2 k2 t4 k4 f0 f1 f2
  replace f0 := shm_777 f0
  replace f1 := shm_778 f1
  replace f2 := shm_1888 f2
  have rf4 : tv_ok ta (0, 1, 1, []) (n_v vs 4) := tv_in t4 (by first | omega | grind) (by first | omega | grind)
  refine ⟨List.forall_mem_cons.mpr ⟨rf4, (fun _ h => (by cases h))⟩, [], trivial, ?_, (fun _ h => (by cases h))⟩
  rw [List.append_nil]
  exact (fun _ h => (by cases h))
def o_Ho_route_at_d_1 : or_T := (14, 7, [(0, (2, 0, 0, [12])), (1, (0, 0, 3, [])), (2, (0, -2147483648, 2147483647, [])), (4, (0, 1, 1, [])), (5, (2, 0, 0, [131])), (6, (2, 0, 0, [3]))], [(14, [6, 5, 1], []), (9, [5, 0], [0]), (8, [4], [1]), (20, [4, 1, 0], [51, 0, 0, 1, 4001002003, 4, 6, 1, 2, 1, 0, 0, 1, 2, 6, 0, 2, 0, 0, 1, 1, 2, 6, 0, 2, 1, 1, 0, 3, 7, 6, 14, 2, 3, 4001, 1, 1, 0, -1]), (20, [4, 1, 0], [51, 0, 0, 1, 4001002003, 4, 6, 1, 2, 1, 0, 0, 0, 3, 6, 0, 2, 1, 1, 0, -1, 3, 6, 0, 2, 0, 4, 1, 1, 1, 6, 14, 2, 3, 4001, 1, 1, 0, -1]), (20, [0], [62, 0]), (20, [0, 1, 2], [51, 0, 0, 2, 4001000003, 4001000000, 2, 10, 7, 6, 14, 0, 3, 4001, 1, 1, 0, -1, 2, 6, 0, 2, 0, 0, 1, 2, 0, 6, 4, 2, 1, 2, 0, 1, 14, 0, 0, 4001, 1, 1])], [], [], [(20, [0, 1, 6], [62, 71])], [], [])
theorem oo_Ho_route_at_d_1 {kA : Nat → ClassId} : or_ok PRD kA GG o_Ho_route_at_d_1 := by
  refine or_mk fun A ta ws vs hD hth hl => ?_
  intro t0 r0 t1 k1 t2 k2 t4 k4 t5 r5 t6 r6 f0 f1 f2 f3 f4 f5 f6
  replace f0 := shm_779 f0
  replace f1 := shm_175 f1
  replace f2 := shm_154 f2
  replace f3 := shm_777 f3
  replace f4 := shm_778 f4
  replace f5 := shm_1145 f5
  replace f6 := shm_1888 f6
  have cr_0_0 := fdq_303 hD hth r0
  have ad_5 : v_ad (n_v vs 5) = w_ar ws (n_v vs 0) 0 := congrArg v_ad f1
  have nf0 : fc_1 PRD (20, [0, 1, 6], [62, 71]) ws (vs) := by
    refine ⟨nf_in hl rfl, sgq_1734 ?_⟩
    · show WQF 71 [n_v vs 0, n_v vs 1, n_v vs 6] ws
      have zw := f5
      exact wq_in (zw) (by omega) (by omega) ⟨rfl, rfl⟩ ⟨Or.inr (pO_of f1 f0), trivial⟩
  refine ⟨(fun _ h => (by cases h)), [], trivial, ?_, (fun _ h => (by cases h))⟩
  rw [List.append_nil]
  exact List.forall_mem_cons.mpr ⟨⟨show (20 : Nat) < 100 from by decide, nf0⟩, (fun _ h => (by cases h))⟩
def o_Ho_route_at_d_2 : or_T := (18, 8, [(0, (2, 0, 0, [12])), (1, (0, 0, 3, [])), (2, (0, -2147483648, 2147483647, [])), (4, (0, 1, 1, [])), (5, (2, 0, 0, [131])), (6, (2, 0, 0, [3])), (7, (0, 0, 1, []))], [(20, [7, 2, 6], [50, 1, 0, 2001, 4, 6, 1, 2, 1, 0, 0, 1, 2, 6, 0, 2, 0, 0, 1, 1, 0, 6, 4, 2, 1, 1, 0, 1, 2, 2, 1]), (20, [7, 2, 6], [50, 1, 0, 2001, 4, 6, 1, 2, 1, 0, 0, 0, 3, 6, 0, 2, 1, 1, 0, -1, 0, 3, 2, 2, 1, 1, 1]), (14, [6, 5, 1], []), (9, [5, 0], [0]), (8, [4], [1]), (20, [4, 1, 0], [51, 0, 0, 1, 4001002003, 4, 6, 1, 2, 1, 0, 0, 1, 2, 6, 0, 2, 0, 0, 1, 1, 2, 6, 0, 2, 1, 1, 0, 3, 7, 6, 14, 2, 3, 4001, 1, 1, 0, -1]), (20, [4, 1, 0], [51, 0, 0, 1, 4001002003, 4, 6, 1, 2, 1, 0, 0, 0, 3, 6, 0, 2, 1, 1, 0, -1, 3, 6, 0, 2, 0, 4, 1, 1, 1, 6, 14, 2, 3, 4001, 1, 1, 0, -1]), (20, [0, 1, 2], [51, 0, 0, 2, 4001000003, 4001000000, 2, 10, 7, 6, 14, 0, 3, 4001, 1, 1, 0, -1, 2, 6, 0, 2, 0, 0, 1, 2, 0, 6, 4, 2, 1, 2, 0, 1, 14, 0, 0, 4001, 1, 1])], [(7, (0, 1, 1, []))], [], [], [], [])
theorem oo_Ho_route_at_d_2 {kA : Nat → ClassId} : or_ok PRD kA GG o_Ho_route_at_d_2 := by
  refine or_mk fun A ta ws vs hD hth hl => ?_
  intro t0 r0 t1 k1 t2 k2 t4 k4 t5 r5 t6 r6 t7 k7 f0 f1 f2 f3 f4 f5 f6 f7
  replace f0 := shm_396 f0
  replace f1 := shm_397 f1
  replace f2 := shm_779 f2
  replace f3 := shm_175 f3
  replace f4 := shm_154 f4
  replace f5 := shm_777 f5
  replace f6 := shm_778 f6
  replace f7 := shm_1888 f7
  have cr_0_0 := fdq_303 hD hth r0
  have ad_5 : v_ad (n_v vs 5) = w_ar ws (n_v vs 0) 0 := congrArg v_ad f3
  have kz_6_1 := fdq_38 hD hth r6
  first | have gr0 := rfi_nm (kf := 1) (len := 4) (z := v_iv (n_v vs 1)) (v := n_v vs 6) (a := w_ar ws (n_v vs 0) 0) (by first | assumption | omega | (rw [← ad_5]; assumption)) (by omega) (by omega) | skip
  have rf7 : tv_ok ta (0, 1, 1, []) (n_v vs 7) := tv_in t7 (by first | omega | grind) (by first | omega | grind)
  refine ⟨List.forall_mem_cons.mpr ⟨rf7, (fun _ h => (by cases h))⟩, [], trivial, ?_, (fun _ h => (by cases h))⟩
  rw [List.append_nil]
  exact (fun _ h => (by cases h))
def o_Ho_route_at_d_3 : or_T := (51, 10, [(0, (2, 0, 0, [12])), (1, (0, 0, 3, [])), (5, (2, 0, 0, [131])), (6, (2, 0, 0, [3])), (9, (2, 0, 0, [3]))], [(14, [9, 5, 1], []), (9, [5, 0], [0]), (20, [0, 1, 6], [62, 71])], [], [], [(24, [6, 9], [])], [], [])
theorem oo_Ho_route_at_d_3 {kA : Nat → ClassId} : or_ok PRD kA GG o_Ho_route_at_d_3 := by
  refine or_mk fun A ta ws vs hD hth hl => ?_
  intro t0 r0 t1 k1 t5 r5 t6 r6 t9 r9 f0 f1 f2
  replace f0 := shm_779 f0
  replace f1 := shm_175 f1
  replace f2 := shm_1734 f2
  have nf0 : fc_1 PRD (24, [6, 9], []) ws (vs) := by
    refine ⟨nf_in hl rfl, sgq_5 ?_⟩
    · show n_v vs 6 = n_v vs 9
      exact ref_same t6 t9 rfl rfl ((wl_0 (wq_wl f2) (by decide)).trans (pO_of f1 f0).symm)
  refine ⟨(fun _ h => (by cases h)), [], trivial, ?_, (fun _ h => (by cases h))⟩
  rw [List.append_nil]
  exact List.forall_mem_cons.mpr ⟨⟨show (24 : Nat) < 100 from by decide, nf0⟩, (fun _ h => (by cases h))⟩
def o_Ho_route_at_d_4 : or_T := (51, 10, [(0, (2, 0, 0, [12])), (1, (0, 0, 3, [])), (2, (0, -2147483648, 2147483647, [])), (4, (0, 1, 1, [])), (5, (2, 0, 0, [131])), (6, (2, 0, 0, [3])), (7, (0, 1, 1, [])), (9, (2, 0, 0, [3]))], [(24, [6, 9], []), (14, [9, 5, 1], []), (9, [5, 0], [0]), (20, [7, 2, 6], [50, 1, 0, 2001, 4, 6, 1, 2, 1, 0, 0, 1, 2, 6, 0, 2, 0, 0, 1, 1, 0, 6, 4, 2, 1, 1, 0, 1, 2, 2, 1]), (20, [7, 2, 6], [50, 1, 0, 2001, 4, 6, 1, 2, 1, 0, 0, 0, 3, 6, 0, 2, 1, 1, 0, -1, 0, 3, 2, 2, 1, 1, 1]), (20, [0, 1, 6], [62, 71]), (20, [4, 1, 0], [51, 0, 0, 1, 4001002003, 4, 6, 1, 2, 1, 0, 0, 1, 2, 6, 0, 2, 0, 0, 1, 1, 2, 6, 0, 2, 1, 1, 0, 3, 7, 6, 14, 2, 3, 4001, 1, 1, 0, -1]), (20, [4, 1, 0], [51, 0, 0, 1, 4001002003, 4, 6, 1, 2, 1, 0, 0, 0, 3, 6, 0, 2, 1, 1, 0, -1, 3, 6, 0, 2, 0, 4, 1, 1, 1, 6, 14, 2, 3, 4001, 1, 1, 0, -1]), (20, [0, 1, 2], [51, 0, 0, 2, 4001000003, 4001000000, 2, 10, 7, 6, 14, 0, 3, 4001, 1, 1, 0, -1, 2, 6, 0, 2, 0, 0, 1, 2, 0, 6, 4, 2, 1, 2, 0, 1, 14, 0, 0, 4001, 1, 1]), (101, [0, 8], [20]), (102, [7], [0, 303000, 303001, 303002, 303003, 303004, 303005, 303006, 303007, 303008, 303009, 303010, 303011, 303012, 303013, 303014, 303015, 303016, 303017]), (8, [7], [1]), (8, [4], [1])], [], [], [(20, [0, 1, 9], [62, 71])], [], [])
theorem oo_Ho_route_at_d_4 {kA : Nat → ClassId} : or_ok PRD kA GG o_Ho_route_at_d_4 := by
  refine or_mk fun A ta ws vs hD hth hl => ?_
  intro t0 r0 t1 k1 t2 k2 t4 k4 t5 r5 t6 r6 t7 k7 t9 r9 f0 f1 f2 f3 f4 f5 f6 f7 f8 ta1 w1 le1 s1 ta2 w2 le2 s2 f11 f12
  replace f0 := shm_5 f0
  replace f5 := shm_1734 f5
  have q9 : n_v vs 9 = n_v vs 6 := f0.symm
  have nf0 : fc_1 PRD (20, [0, 1, 9], [62, 71]) ws (vs) := by
    refine ⟨nf_in hl rfl, sgq_1734 ?_⟩
    · show WQF 71 [n_v vs 0, n_v vs 1, n_v vs 9] ws
      first | rw [q9] | skip
      have zw := f5
      first | rw [show n_v vs 6 = n_v vs 9 from (by first | exact f0 | exact f0.symm)] at zw | skip
      first | exact zw | ((first | rw [q9] at zw | skip); exact zw)
  refine ⟨(fun _ h => (by cases h)), [], trivial, ?_, (fun _ h => (by cases h))⟩
  rw [List.append_nil]
  exact List.forall_mem_cons.mpr ⟨⟨show (20 : Nat) < 100 from by decide, nf0⟩, (fun _ h => (by cases h))⟩
def o_Ho_route_at_d_5 : or_T := (58, 12, [(0, (2, 0, 0, [12])), (1, (0, 0, 3, [])), (5, (2, 0, 0, [131])), (9, (2, 0, 0, [3]))], [(20, [0, 1, 9], [62, 71]), (14, [9, 5, 1], []), (9, [5, 0], [0])], [], [], [(20, [9], [60, 2, 2, 596, 0, 1, 7, 8])], [], [])
theorem oo_Ho_route_at_d_5 {kA : Nat → ClassId} : or_ok PRD kA GG o_Ho_route_at_d_5 := by
  refine or_mk fun A ta ws vs hD hth hl => ?_
  intro t0 r0 t1 k1 t5 r5 t9 r9 f0 f1 f2
  replace f0 := shm_1734 f0
  replace f1 := shm_779 f1
  replace f2 := shm_175 f2
  have nf0 : fc_1 PRD (20, [9], [60, 2, 2, 596, 0, 1, 7, 8]) ws (vs) := by
    refine ⟨nf_in hl rfl, sgq_401 ?_⟩
    · show GKE (w_fi ws (n_v vs 9) 0) (w_fi ws (n_v vs 9) 1) (w_ei ws (w_ar ws (n_v vs 9) 7)) (w_ei ws (w_ar ws (n_v vs 9) 8))
      exact hg_gke (wq_hg f0 (by decide) (pO_of f2 f1))
  refine ⟨(fun _ h => (by cases h)), [], trivial, ?_, (fun _ h => (by cases h))⟩
  rw [List.append_nil]
  exact List.forall_mem_cons.mpr ⟨⟨show (20 : Nat) < 100 from by decide, nf0⟩, (fun _ h => (by cases h))⟩
set_option maxHeartbeats 4000000 in
theorem vc_Ho_route_at_d_6_0 (x2 : Int) (x4 : Int) (x7 : Int) (edges_0o6 : Int) (k2 : (-2147483648) ≤ x2 ∧ x2 ≤ 2147483647) (k4 : 1 ≤ x4 ∧ x4 ≤ 1) (k7 : 1 ≤ x7 ∧ x7 ≤ 1) (f6 : (x7 = 1) → ((0 ≤ x2) ∧ ((x2 + 1) ≤ edges_0o6))) (f7 : (x7 = 0) → ((x2 ≤ (-1)) ∨ (edges_0o6 ≤ x2))) (f13 : x7 ≠ 0) (f14 : x4 ≠ 0) (kz_6_1 : 0 ≤ edges_0o6 ∧ edges_0o6 ≤ 48) : (0 ≤ x2) ∧ ((x2 + 1) ≤ edges_0o6) := by
  first | omega
def o_Ho_route_at_d_6 : or_T := (58, 12, [(0, (2, 0, 0, [12])), (1, (0, 0, 3, [])), (2, (0, -2147483648, 2147483647, [])), (4, (0, 1, 1, [])), (5, (2, 0, 0, [131])), (6, (2, 0, 0, [3])), (7, (0, 1, 1, [])), (9, (2, 0, 0, [3])), (10, (2, 0, 0, [134])), (11, (2, 0, 0, [0]))], [(20, [9], [60, 2, 2, 596, 0, 1, 7, 8]), (14, [11, 10, 1], []), (9, [10, 0], [3]), (24, [6, 9], []), (14, [9, 5, 1], []), (9, [5, 0], [0]), (20, [7, 2, 6], [50, 1, 0, 2001, 4, 6, 1, 2, 1, 0, 0, 1, 2, 6, 0, 2, 0, 0, 1, 1, 0, 6, 4, 2, 1, 1, 0, 1, 2, 2, 1]), (20, [7, 2, 6], [50, 1, 0, 2001, 4, 6, 1, 2, 1, 0, 0, 0, 3, 6, 0, 2, 1, 1, 0, -1, 0, 3, 2, 2, 1, 1, 1]), (20, [4, 1, 0], [51, 0, 0, 1, 4001002003, 4, 6, 1, 2, 1, 0, 0, 1, 2, 6, 0, 2, 0, 0, 1, 1, 2, 6, 0, 2, 1, 1, 0, 3, 7, 6, 14, 2, 3, 4001, 1, 1, 0, -1]), (20, [4, 1, 0], [51, 0, 0, 1, 4001002003, 4, 6, 1, 2, 1, 0, 0, 0, 3, 6, 0, 2, 1, 1, 0, -1, 3, 6, 0, 2, 0, 4, 1, 1, 1, 6, 14, 2, 3, 4001, 1, 1, 0, -1]), (20, [0, 1, 2], [51, 0, 0, 2, 4001000003, 4001000000, 2, 10, 7, 6, 14, 0, 3, 4001, 1, 1, 0, -1, 2, 6, 0, 2, 0, 0, 1, 2, 0, 6, 4, 2, 1, 2, 0, 1, 14, 0, 0, 4001, 1, 1]), (101, [0, 8], [20]), (102, [7], [0, 303000, 303001, 303002, 303003, 303004, 303005, 303006, 303007, 303008, 303009, 303010, 303011, 303012, 303013, 303014, 303015, 303016, 303017]), (8, [7], [1]), (8, [4], [1])], [(2, (0, 0, 47, []))], [], [(20, [2, 9], [50, 1, 0, 1001, 2, 6, 0, 2, 0, 0, 1, 0, 0, 6, 4, 2, 1, 0, 0, 1, 2, 1, 1])], [], [])
theorem oo_Ho_route_at_d_6 {kA : Nat → ClassId} : or_ok PRD kA GG o_Ho_route_at_d_6 := by
  refine or_mk fun A ta ws vs hD hth hl => ?_
  intro t0 r0 t1 k1 t2 k2 t4 k4 t5 r5 t6 r6 t7 k7 t9 r9 t10 r10 t11 r11 f0 f1 f2 f3 f4 f5 f6 f7 f8 f9 f10 ta1 w1 le1 s1 ta2 w2 le2 s2 f13 f14
  replace f0 := shm_401 f0
  replace f1 := shm_779 f1
  replace f2 := shm_149 f2
  replace f3 := shm_5 f3
  replace f4 := shm_779 f4
  replace f5 := shm_175 f5
  replace f6 := shm_396 f6
  replace f7 := shm_397 f7
  replace f8 := shm_777 f8
  replace f9 := shm_778 f9
  replace f10 := shm_1888 f10
  have s1 : (∀ b j, w_el ws b j = w_el w1 b j) ∧ ∀ b j, w_fd ws b j = if b = v_ad (n_v vs 0) ∧ j = 20 then n_v vs 8 else w_fd w1 b j := s1.2
  replace f13 := shm_154 f13
  replace f14 := shm_154 f14
  have q9 : n_v vs 9 = n_v vs 6 := f3.symm
  simp only [q9] at f0 f4
  have cr_0_0 := fdq_303 hD hth r0
  have cr_0_3 := fdq_194 hD hth r0
  have cr_6_7 := fdq_52 hD hth r6
  have cr_6_8 := fdq_53 hD hth r6
  have ad_10 : v_ad (n_v vs 10) = w_ar ws (n_v vs 0) 3 := congrArg v_ad f2
  have ad_5 : v_ad (n_v vs 5) = w_ar ws (n_v vs 0) 0 := congrArg v_ad f5
  have hK_6_7 := elq_10 hD hth cr_6_7
  have hK_6_8 := elq_11 hD hth cr_6_8
  have kz_6_0 := fdq_23 hD hth r6
  have kz_6_1 := fdq_38 hD hth r6
  first | have gr0 := rfi_nm (kf := 1) (len := 4) (z := v_iv (n_v vs 1)) (v := n_v vs 11) (a := w_ar ws (n_v vs 0) 0) (by first | assumption | omega | (rw [← ad_10]; assumption)) (by omega) (by omega) | skip
  first | have gr1 := rfi_nm (kf := 1) (len := 4) (z := v_iv (n_v vs 1)) (v := n_v vs 9) (a := w_ar ws (n_v vs 0) 0) (by first | assumption | omega | (rw [← ad_5]; assumption)) (by omega) (by omega) | skip
  first | have gr2 := rfi_nm (kf := 1) (len := 4) (z := v_iv (n_v vs 1)) (v := n_v vs 6) (a := w_ar ws (n_v vs 0) 0) (by first | assumption | omega | (rw [← ad_5]; assumption)) (by omega) (by omega) | skip
  have nf0 : fc_1 PRD (20, [2, 9], [50, 1, 0, 1001, 2, 6, 0, 2, 0, 0, 1, 0, 0, 6, 4, 2, 1, 0, 0, 1, 2, 1, 1]) ws (vs) := by
    refine ⟨nf_in hl rfl, sgq_402 ?_⟩
    · show (0 ≤ v_iv (n_v vs 2)) ∧ ((v_iv (n_v vs 2) + 1) ≤ w_fi ws (n_v vs 9) 1)
      rw [q9]
      exact vc_Ho_route_at_d_6_0 (v_iv (n_v vs 2)) (v_iv (n_v vs 4)) (v_iv (n_v vs 7)) (w_fi ws (n_v vs 6) 1) k2 k4 k7 f6 f7 f13 f14 kz_6_1
  have rf2 : tv_ok ta (0, 0, 47, []) (n_v vs 2) := tv_in t2 (by first | omega | grind) (by first | omega | grind)
  refine ⟨List.forall_mem_cons.mpr ⟨rf2, (fun _ h => (by cases h))⟩, [], trivial, ?_, (fun _ h => (by cases h))⟩
  rw [List.append_nil]
  exact List.forall_mem_cons.mpr ⟨⟨show (20 : Nat) < 100 from by decide, nf0⟩, (fun _ h => (by cases h))⟩
def o_Ho_route_at_d_7 : or_T := (51, 9, [(0, (2, 0, 0, [12])), (1, (0, 0, 3, [])), (5, (2, 0, 0, [131])), (6, (2, 0, 0, [3])), (8, (2, 0, 0, [3]))], [(14, [8, 5, 1], []), (9, [5, 0], [0]), (20, [0, 1, 6], [62, 71])], [], [], [(24, [6, 8], [])], [], [])
theorem oo_Ho_route_at_d_7 {kA : Nat → ClassId} : or_ok PRD kA GG o_Ho_route_at_d_7 := by
  refine or_mk fun A ta ws vs hD hth hl => ?_
  intro t0 r0 t1 k1 t5 r5 t6 r6 t8 r8 f0 f1 f2
  replace f0 := shm_779 f0
  replace f1 := shm_175 f1
  replace f2 := shm_1734 f2
  have nf0 : fc_1 PRD (24, [6, 8], []) ws (vs) := by
    refine ⟨nf_in hl rfl, sgq_5 ?_⟩
    · show n_v vs 6 = n_v vs 8
      exact ref_same t6 t8 rfl rfl ((wl_0 (wq_wl f2) (by decide)).trans (pO_of f1 f0).symm)
  refine ⟨(fun _ h => (by cases h)), [], trivial, ?_, (fun _ h => (by cases h))⟩
  rw [List.append_nil]
  exact List.forall_mem_cons.mpr ⟨⟨show (24 : Nat) < 100 from by decide, nf0⟩, (fun _ h => (by cases h))⟩
def o_Ho_route_at_d_8 : or_T := (51, 9, [(0, (2, 0, 0, [12])), (1, (0, 0, 3, [])), (2, (0, -2147483648, 2147483647, [])), (4, (0, 1, 1, [])), (5, (2, 0, 0, [131])), (6, (2, 0, 0, [3])), (7, (0, 1, 1, [])), (8, (2, 0, 0, [3]))], [(24, [6, 8], []), (14, [8, 5, 1], []), (9, [5, 0], [0]), (8, [7], [1]), (20, [7, 2, 6], [50, 1, 0, 2001, 4, 6, 1, 2, 1, 0, 0, 1, 2, 6, 0, 2, 0, 0, 1, 1, 0, 6, 4, 2, 1, 1, 0, 1, 2, 2, 1]), (20, [7, 2, 6], [50, 1, 0, 2001, 4, 6, 1, 2, 1, 0, 0, 0, 3, 6, 0, 2, 1, 1, 0, -1, 0, 3, 2, 2, 1, 1, 1]), (20, [0, 1, 6], [62, 71]), (14, [6, 5, 1], []), (8, [4], [1]), (20, [4, 1, 0], [51, 0, 0, 1, 4001002003, 4, 6, 1, 2, 1, 0, 0, 1, 2, 6, 0, 2, 0, 0, 1, 1, 2, 6, 0, 2, 1, 1, 0, 3, 7, 6, 14, 2, 3, 4001, 1, 1, 0, -1]), (20, [4, 1, 0], [51, 0, 0, 1, 4001002003, 4, 6, 1, 2, 1, 0, 0, 0, 3, 6, 0, 2, 1, 1, 0, -1, 3, 6, 0, 2, 0, 4, 1, 1, 1, 6, 14, 2, 3, 4001, 1, 1, 0, -1]), (20, [0, 1, 2], [51, 0, 0, 2, 4001000003, 4001000000, 2, 10, 7, 6, 14, 0, 3, 4001, 1, 1, 0, -1, 2, 6, 0, 2, 0, 0, 1, 2, 0, 6, 4, 2, 1, 2, 0, 1, 14, 0, 0, 4001, 1, 1])], [], [], [(20, [0, 1, 8], [62, 71])], [], [])
theorem oo_Ho_route_at_d_8 {kA : Nat → ClassId} : or_ok PRD kA GG o_Ho_route_at_d_8 := by
  refine or_mk fun A ta ws vs hD hth hl => ?_
  intro t0 r0 t1 k1 t2 k2 t4 k4 t5 r5 t6 r6 t7 k7 t8 r8 f0 f1 f2 f3 f4 f5 f6 f7 f8 f9 f10 f11
  replace f0 := shm_5 f0
  replace f6 := shm_1734 f6
  have q8 : n_v vs 8 = n_v vs 6 := f0.symm
  have nf0 : fc_1 PRD (20, [0, 1, 8], [62, 71]) ws (vs) := by
    refine ⟨nf_in hl rfl, sgq_1734 ?_⟩
    · show WQF 71 [n_v vs 0, n_v vs 1, n_v vs 8] ws
      first | rw [q8] | skip
      have zw := f6
      first | rw [show n_v vs 6 = n_v vs 8 from (by first | exact f0 | exact f0.symm)] at zw | skip
      first | exact zw | ((first | rw [q8] at zw | skip); exact zw)
  refine ⟨(fun _ h => (by cases h)), [], trivial, ?_, (fun _ h => (by cases h))⟩
  rw [List.append_nil]
  exact List.forall_mem_cons.mpr ⟨⟨show (20 : Nat) < 100 from by decide, nf0⟩, (fun _ h => (by cases h))⟩
def o_Ho_route_at_d_9 : or_T := (58, 11, [(0, (2, 0, 0, [12])), (1, (0, 0, 3, [])), (5, (2, 0, 0, [131])), (8, (2, 0, 0, [3]))], [(20, [0, 1, 8], [62, 71]), (14, [8, 5, 1], []), (9, [5, 0], [0])], [], [], [(20, [8], [60, 2, 2, 596, 0, 1, 7, 8])], [], [])
theorem oo_Ho_route_at_d_9 {kA : Nat → ClassId} : or_ok PRD kA GG o_Ho_route_at_d_9 := by
  refine or_mk fun A ta ws vs hD hth hl => ?_
  intro t0 r0 t1 k1 t5 r5 t8 r8 f0 f1 f2
  replace f0 := shm_1734 f0
  replace f1 := shm_779 f1
  replace f2 := shm_175 f2
  have nf0 : fc_1 PRD (20, [8], [60, 2, 2, 596, 0, 1, 7, 8]) ws (vs) := by
    refine ⟨nf_in hl rfl, sgq_401 ?_⟩
    · show GKE (w_fi ws (n_v vs 8) 0) (w_fi ws (n_v vs 8) 1) (w_ei ws (w_ar ws (n_v vs 8) 7)) (w_ei ws (w_ar ws (n_v vs 8) 8))
      exact hg_gke (wq_hg f0 (by decide) (pO_of f2 f1))
  refine ⟨(fun _ h => (by cases h)), [], trivial, ?_, (fun _ h => (by cases h))⟩
  rw [List.append_nil]
  exact List.forall_mem_cons.mpr ⟨⟨show (20 : Nat) < 100 from by decide, nf0⟩, (fun _ h => (by cases h))⟩
set_option maxHeartbeats 4000000 in
theorem vc_Ho_route_at_d_10_0 (x2 : Int) (x4 : Int) (x7 : Int) (edges_0o6 : Int) (k2 : (-2147483648) ≤ x2 ∧ x2 ≤ 2147483647) (k4 : 1 ≤ x4 ∧ x4 ≤ 1) (k7 : 1 ≤ x7 ∧ x7 ≤ 1) (f7 : (x7 = 1) → ((0 ≤ x2) ∧ ((x2 + 1) ≤ edges_0o6))) (f8 : (x7 = 0) → ((x2 ≤ (-1)) ∨ (edges_0o6 ≤ x2))) (f10 : x4 ≠ 0) (kz_6_1 : 0 ≤ edges_0o6 ∧ edges_0o6 ≤ 48) : (0 ≤ x2) ∧ ((x2 + 1) ≤ edges_0o6) := by
  first | omega
def o_Ho_route_at_d_10 : or_T := (58, 11, [(0, (2, 0, 0, [12])), (1, (0, 0, 3, [])), (2, (0, -2147483648, 2147483647, [])), (4, (0, 1, 1, [])), (5, (2, 0, 0, [131])), (6, (2, 0, 0, [3])), (7, (0, 1, 1, [])), (8, (2, 0, 0, [3])), (9, (2, 0, 0, [134])), (10, (2, 0, 0, [0]))], [(20, [8], [60, 2, 2, 596, 0, 1, 7, 8]), (14, [10, 9, 1], []), (9, [9, 0], [3]), (24, [6, 8], []), (14, [8, 5, 1], []), (9, [5, 0], [0]), (8, [7], [1]), (20, [7, 2, 6], [50, 1, 0, 2001, 4, 6, 1, 2, 1, 0, 0, 1, 2, 6, 0, 2, 0, 0, 1, 1, 0, 6, 4, 2, 1, 1, 0, 1, 2, 2, 1]), (20, [7, 2, 6], [50, 1, 0, 2001, 4, 6, 1, 2, 1, 0, 0, 0, 3, 6, 0, 2, 1, 1, 0, -1, 0, 3, 2, 2, 1, 1, 1]), (14, [6, 5, 1], []), (8, [4], [1]), (20, [4, 1, 0], [51, 0, 0, 1, 4001002003, 4, 6, 1, 2, 1, 0, 0, 1, 2, 6, 0, 2, 0, 0, 1, 1, 2, 6, 0, 2, 1, 1, 0, 3, 7, 6, 14, 2, 3, 4001, 1, 1, 0, -1]), (20, [4, 1, 0], [51, 0, 0, 1, 4001002003, 4, 6, 1, 2, 1, 0, 0, 0, 3, 6, 0, 2, 1, 1, 0, -1, 3, 6, 0, 2, 0, 4, 1, 1, 1, 6, 14, 2, 3, 4001, 1, 1, 0, -1]), (20, [0, 1, 2], [51, 0, 0, 2, 4001000003, 4001000000, 2, 10, 7, 6, 14, 0, 3, 4001, 1, 1, 0, -1, 2, 6, 0, 2, 0, 0, 1, 2, 0, 6, 4, 2, 1, 2, 0, 1, 14, 0, 0, 4001, 1, 1])], [(2, (0, 0, 47, []))], [], [(20, [2, 8], [50, 1, 0, 1001, 2, 6, 0, 2, 0, 0, 1, 0, 0, 6, 4, 2, 1, 0, 0, 1, 2, 1, 1])], [], [])
theorem oo_Ho_route_at_d_10 {kA : Nat → ClassId} : or_ok PRD kA GG o_Ho_route_at_d_10 := by
  refine or_mk fun A ta ws vs hD hth hl => ?_
  intro t0 r0 t1 k1 t2 k2 t4 k4 t5 r5 t6 r6 t7 k7 t8 r8 t9 r9 t10 r10 f0 f1 f2 f3 f4 f5 f6 f7 f8 f9 f10 f11 f12 f13
  replace f0 := shm_401 f0
  replace f1 := shm_779 f1
  replace f2 := shm_149 f2
  replace f3 := shm_5 f3
  replace f4 := shm_779 f4
  replace f5 := shm_175 f5
  replace f6 := shm_154 f6
  replace f7 := shm_396 f7
  replace f8 := shm_397 f8
  replace f9 := shm_779 f9
  replace f10 := shm_154 f10
  replace f11 := shm_777 f11
  replace f12 := shm_778 f12
  replace f13 := shm_1888 f13
  have q8 : n_v vs 8 = n_v vs 6 := f3.symm
  simp only [q8] at f0 f4
  have cr_0_0 := fdq_303 hD hth r0
  have cr_0_3 := fdq_194 hD hth r0
  have cr_6_7 := fdq_52 hD hth r6
  have cr_6_8 := fdq_53 hD hth r6
  have ad_9 : v_ad (n_v vs 9) = w_ar ws (n_v vs 0) 3 := congrArg v_ad f2
  have ad_5 : v_ad (n_v vs 5) = w_ar ws (n_v vs 0) 0 := congrArg v_ad f5
  have hK_6_7 := elq_10 hD hth cr_6_7
  have hK_6_8 := elq_11 hD hth cr_6_8
  have kz_6_0 := fdq_23 hD hth r6
  have kz_6_1 := fdq_38 hD hth r6
  first | have gr0 := rfi_nm (kf := 1) (len := 4) (z := v_iv (n_v vs 1)) (v := n_v vs 10) (a := w_ar ws (n_v vs 0) 0) (by first | assumption | omega | (rw [← ad_9]; assumption)) (by omega) (by omega) | skip
  first | have gr1 := rfi_nm (kf := 1) (len := 4) (z := v_iv (n_v vs 1)) (v := n_v vs 8) (a := w_ar ws (n_v vs 0) 0) (by first | assumption | omega | (rw [← ad_5]; assumption)) (by omega) (by omega) | skip
  first | have gr2 := rfi_nm (kf := 1) (len := 4) (z := v_iv (n_v vs 1)) (v := n_v vs 6) (a := w_ar ws (n_v vs 0) 0) (by first | assumption | omega | (rw [← ad_5]; assumption)) (by omega) (by omega) | skip
  have nf0 : fc_1 PRD (20, [2, 8], [50, 1, 0, 1001, 2, 6, 0, 2, 0, 0, 1, 0, 0, 6, 4, 2, 1, 0, 0, 1, 2, 1, 1]) ws (vs) := by
    refine ⟨nf_in hl rfl, sgq_402 ?_⟩
    · show (0 ≤ v_iv (n_v vs 2)) ∧ ((v_iv (n_v vs 2) + 1) ≤ w_fi ws (n_v vs 8) 1)
      rw [q8]
      exact vc_Ho_route_at_d_10_0 (v_iv (n_v vs 2)) (v_iv (n_v vs 4)) (v_iv (n_v vs 7)) (w_fi ws (n_v vs 6) 1) k2 k4 k7 f7 f8 f10 kz_6_1
  have rf2 : tv_ok ta (0, 0, 47, []) (n_v vs 2) := tv_in t2 (by first | omega | grind) (by first | omega | grind)
  refine ⟨List.forall_mem_cons.mpr ⟨rf2, (fun _ h => (by cases h))⟩, [], trivial, ?_, (fun _ h => (by cases h))⟩
  rw [List.append_nil]
  exact List.forall_mem_cons.mpr ⟨⟨show (20 : Nat) < 100 from by decide, nf0⟩, (fun _ h => (by cases h))⟩
def n_Ho_route_at_d_an : List an_T := []
def t_Ho_route_at_d_ct : ct_L := [(1, 329, e_Ro_lead), (10, 323, e_Ho_hasDrawing_np), (49, 197, e_Gr_hasEdge_np), (2000031, 0, e_Ro_init_nw)]
set_option maxRecDepth 100000 in
theorem c_Ho_route_at_d {l : Launch} {D : va_G} {kA : Nat → ClassId} (h_Gr_hasEdge : ct_ok PRD l D kA GG y_Gr_hasEdge z_Gr_hasEdge e_Gr_hasEdge) (h_Ho_hasDrawing : ct_ok PRD l D kA GG y_Ho_hasDrawing z_Ho_hasDrawing e_Ho_hasDrawing) (h_Ro_init : ct_ok PRD l D kA GG y_Ro_init z_Ro_init e_Ro_init) (h_Ro_lead : ct_ok PRD l D kA GG y_Ro_lead z_Ro_lead e_Ro_lead) : ct_ok PRD l D kA GG y_Ho_route_at_d z_Ho_route_at_d e_Ho_route_at_d := chk_all_ok (FT := [(13, 12, 0), (31, 12, 3), (98, 12, 20)]) (PT := [(98, 12, 20, .object "DrawingHouse$Router")]) (CT := t_Ho_route_at_d_ct) (KT := []) (NT := []) (AN := n_Ho_route_at_d_an) (OT := [o_Ho_route_at_d_0, o_Ho_route_at_d_1, o_Ho_route_at_d_2, o_Ho_route_at_d_3, o_Ho_route_at_d_4, o_Ho_route_at_d_5, o_Ho_route_at_d_6, o_Ho_route_at_d_7, o_Ho_route_at_d_8, o_Ho_route_at_d_9, o_Ho_route_at_d_10]) 0 200 (List.forall_mem_cons.mpr ⟨oo_Ho_route_at_d_0, List.forall_mem_cons.mpr ⟨oo_Ho_route_at_d_1, List.forall_mem_cons.mpr ⟨oo_Ho_route_at_d_2, List.forall_mem_cons.mpr ⟨oo_Ho_route_at_d_3, List.forall_mem_cons.mpr ⟨oo_Ho_route_at_d_4, List.forall_mem_cons.mpr ⟨oo_Ho_route_at_d_5, List.forall_mem_cons.mpr ⟨oo_Ho_route_at_d_6, List.forall_mem_cons.mpr ⟨oo_Ho_route_at_d_7, List.forall_mem_cons.mpr ⟨oo_Ho_route_at_d_8, List.forall_mem_cons.mpr ⟨oo_Ho_route_at_d_9, List.forall_mem_cons.mpr ⟨oo_Ho_route_at_d_10, List.forall_mem_nil _⟩⟩⟩⟩⟩⟩⟩⟩⟩⟩⟩) (by decide +kernel) ⟨List.forall_mem_cons.mpr ⟨gf_Ho_13, List.forall_mem_cons.mpr ⟨gf_Ho_31, List.forall_mem_cons.mpr ⟨gf_Ho_98, List.forall_mem_nil _⟩⟩⟩, List.forall_mem_cons.mpr ⟨pf_Ho_98, List.forall_mem_nil _⟩, List.forall_mem_cons.mpr ⟨cl_virtual (y := y_Ro_lead) (ci := 9) rfl rfl ⟨_, _, rfl⟩ (by decide +kernel) h_Ro_lead wm_1925 wm_22 wm_1922 wm_1923 wm_1924 ⟨by decide, by decide, by decide +kernel⟩ (by decide), List.forall_mem_cons.mpr ⟨cl_nopa (cl_virtual (y := y_Ho_hasDrawing) (ci := 12) rfl rfl ⟨_, _, rfl⟩ (by decide +kernel) h_Ho_hasDrawing wm_1859 wm_1 wm_1856 wm_1858 wv_8_15 ⟨by decide, by decide, by decide +kernel⟩ (by decide)), List.forall_mem_cons.mpr ⟨cl_nopa (cl_virtual (y := y_Gr_hasEdge) (ci := 3) rfl rfl ⟨_, _, rfl⟩ (by decide +kernel) h_Gr_hasEdge wm_930 wm_3 wm_927 wm_928 wm_929 ⟨by decide, by decide, by decide +kernel⟩ (by decide)), List.forall_mem_cons.mpr ⟨cq_new (PQ := PRD) (pc := 31) (idx := 326) (index := 328) (rr := 303) (r := 9) h_Ro_init rfl rfl (by decide +kernel) (by decide +kernel) rfl rfl rfl (ro_none (G := GG) (by decide +kernel)) rfl rfl rfl rfl (by decide +kernel) (by decide +kernel) (by decide +kernel) i_Ro t_Ro t_Ro_ok wm_1860 wm_1861 wm_22 rfl f0Ro_ok wm_1864 wm_22 (Or.inr ⟨_, wn_1862⟩) wm_1863 rfl ⟨by decide, by decide, by decide +kernel⟩ (by decide) (by decide +kernel) (by decide +kernel) (by decide +kernel), List.forall_mem_nil _⟩⟩⟩⟩, List.forall_mem_nil _, List.forall_mem_nil _, GG_pl⟩ (by decide +kernel)

set_option maxHeartbeats 4000000 in
theorem vc_Mo_of_at_s5002_0_0 (x2 : Int) (x3 : Int) (x4 : Int) (x6 : Int) (x7 : Int) (kind_0 : Int) (fault_0 : Int) (from_0 : Int) (pos_0 : Int) (k2 : 99 ≤ x2 ∧ x2 ≤ 99) (k3 : 0 ≤ x3 ∧ x3 ≤ 2000) (k4 : (-1) ≤ x4 ∧ x4 ≤ 48) (k6 : 0 ≤ x6 ∧ x6 ≤ 0) (k7 : 0 ≤ x7 ∧ x7 ≤ 0) (f0 : x6 = 0) (f1 : (x6 = 1) → ((kind_0 = 3) ∧ (fault_0 = 0))) (f2 : 1 * from_0 + ((-1) * pos_0 + 0) ≤ 0) (f3 : ((kind_0 = 1) → (pos_0 ≤ (from_0 + 8))) ∧ ((kind_0 = 0) ∨ ((from_0 + 1) ≤ pos_0))) (f4 : 1 * x3 + ((-1) * pos_0 + 0) ≤ 0) (f5 : (1 ≤ fault_0) ∨ ((kind_0 = 0) ∨ ((x3 + 1) ≤ pos_0))) (f6 : (1 ≤ fault_0) ∨ (0 ≤ x4)) (kz_0_8 : 0 ≤ fault_0 ∧ fault_0 ≤ 5) (kz_0_11 : 0 ≤ pos_0 ∧ pos_0 ≤ 2000) (kz_0_12 : 0 ≤ kind_0 ∧ kind_0 ≤ 4) (kz_0_15 : 0 ≤ from_0 ∧ from_0 ≤ 2000) : 1 * x7 + ((-1) * x2 + 0) ≤ 0 := by
  first | assumption | (clear f1 f3 f5 f6; omega) | omega | grind
set_option maxHeartbeats 4000000 in
theorem vc_Mo_of_at_s5002_0_1 (x2 : Int) (x3 : Int) (x4 : Int) (x6 : Int) (x7 : Int) (kind_0 : Int) (fault_0 : Int) (from_0 : Int) (pos_0 : Int) (k2 : 99 ≤ x2 ∧ x2 ≤ 99) (k3 : 0 ≤ x3 ∧ x3 ≤ 2000) (k4 : (-1) ≤ x4 ∧ x4 ≤ 48) (k6 : 0 ≤ x6 ∧ x6 ≤ 0) (k7 : 0 ≤ x7 ∧ x7 ≤ 0) (f0 : x6 = 0) (f1 : (x6 = 1) → ((kind_0 = 3) ∧ (fault_0 = 0))) (f2 : 1 * from_0 + ((-1) * pos_0 + 0) ≤ 0) (f3 : ((kind_0 = 1) → (pos_0 ≤ (from_0 + 8))) ∧ ((kind_0 = 0) ∨ ((from_0 + 1) ≤ pos_0))) (f4 : 1 * x3 + ((-1) * pos_0 + 0) ≤ 0) (f5 : (1 ≤ fault_0) ∨ ((kind_0 = 0) ∨ ((x3 + 1) ≤ pos_0))) (f6 : (1 ≤ fault_0) ∨ (0 ≤ x4)) (kz_0_8 : 0 ≤ fault_0 ∧ fault_0 ≤ 5) (kz_0_11 : 0 ≤ pos_0 ∧ pos_0 ≤ 2000) (kz_0_12 : 0 ≤ kind_0 ∧ kind_0 ≤ 4) (kz_0_15 : 0 ≤ from_0 ∧ from_0 ≤ 2000) : (-1) * x7 + 0 ≤ 0 := by
  first | assumption | (clear f1 f3 f5 f6; omega) | omega | grind
def o_Mo_of_at_s5002_0 : or_T := (10, 8, [(0, (2, 0, 0, [165])), (2, (0, 99, 99, [])), (3, (0, 0, 2000, [])), (4, (0, -1, 48, [])), (6, (0, 0, 0, [])), (7, (0, 0, 0, []))], [(8, [6], [0]), (20, [6, 0], [50, 2, 0, 1012, 1008, 4, 6, 1, 2, 1, 0, 0, 1, 2, 7, 1, 3, 2, 1, 12, 0, 3, 1, 3, 2, 1, 8, 0, 0]), (20, [0, 0], [30, 0, 1, 1, 15, -1, 1, 11]), (20, [0], [50, 3, 0, 12, 11, 15, 2, 21, 4, 7, 1, 3, 2, 0, 12, 0, 1, 0, 3, 2, 0, 11, 4, 3, 2, 0, 15, 0, 8, 3, 7, 1, 3, 2, 0, 12, 0, 0, 0, 7, 4, 3, 2, 0, 15, 0, 1, 2, 0, 11]), (20, [3, 0], [30, 0, 1, 0, 0, -1, 1, 11]), (20, [0, 3], [50, 3, 0, 8, 12, 11, 3, 7, 0, 2, 0, 1, 2, 0, 8, 3, 7, 1, 3, 2, 0, 12, 0, 0, 0, 6, 4, 2, 1, 1, 0, 1, 2, 0, 11]), (20, [0, 4], [50, 1, 0, 8, 3, 7, 0, 2, 0, 1, 2, 0, 8, 0, 2, 0, 0, 1, 1])], [], [], [(20, [7, 2], [30, 0, 1, 0, 0, -1, 0, 0]), (20, [7], [30, 0, -1, 0, 0])], [], [])
theorem oo_Mo_of_at_s5002_0 {kA : Nat → ClassId} : or_ok PRD kA GG o_Mo_of_at_s5002_0 := by
  refine or_mk fun A ta ws vs hD hth hl => ?_
  intro t0 r0 t2 k2 t3 k3 t4 k4 t6 k6 t7 k7 f0 f1 f2 f3 f4 f5 f6
  have kz_0_8 := fdq_14 hD hth r0
  have kz_0_11 := fdq_273 hD hth r0
  have kz_0_12 := fdq_186 hD hth r0
  have kz_0_15 := fdq_274 hD hth r0
  have nf0 : fc_1 PRD (20, [7, 2], [30, 0, 1, 0, 0, -1, 0, 0]) ws (vs) := ⟨nf_in hl rfl, sgq_219 (vc_Mo_of_at_s5002_0_0 (v_iv (n_v vs 2)) (v_iv (n_v vs 3)) (v_iv (n_v vs 4)) (v_iv (n_v vs 6)) (v_iv (n_v vs 7)) (w_fi ws (n_v vs 0) 12) (w_fi ws (n_v vs 0) 8) (w_fi ws (n_v vs 0) 15) (w_fi ws (n_v vs 0) 11) k2 k3 k4 k6 k7 (shm_210 f0) (shm_717 f1) (shm_1397 f2) (shm_1398 f3) (shm_1395 f4) (shm_1660 f5) (shm_1889 f6) kz_0_8 kz_0_11 kz_0_12 kz_0_15)⟩
  have nf1 : fc_1 PRD (20, [7], [30, 0, -1, 0, 0]) ws (vs) := ⟨nf_in hl rfl, sgq_1890 (vc_Mo_of_at_s5002_0_1 (v_iv (n_v vs 2)) (v_iv (n_v vs 3)) (v_iv (n_v vs 4)) (v_iv (n_v vs 6)) (v_iv (n_v vs 7)) (w_fi ws (n_v vs 0) 12) (w_fi ws (n_v vs 0) 8) (w_fi ws (n_v vs 0) 15) (w_fi ws (n_v vs 0) 11) k2 k3 k4 k6 k7 (shm_210 f0) (shm_717 f1) (shm_1397 f2) (shm_1398 f3) (shm_1395 f4) (shm_1660 f5) (shm_1889 f6) kz_0_8 kz_0_11 kz_0_12 kz_0_15)⟩
  refine ⟨(fun _ h => (by cases h)), [], trivial, ?_, (fun _ h => (by cases h))⟩
  rw [List.append_nil]
  exact List.forall_mem_cons.mpr ⟨⟨show (20 : Nat) < 100 from by decide, nf0⟩, List.forall_mem_cons.mpr ⟨⟨show (20 : Nat) < 100 from by decide, nf1⟩, (fun _ h => (by cases h))⟩⟩
set_option maxHeartbeats 4000000 in
theorem vc_Mo_of_at_s5002_1_0 (x3 : Int) (x4 : Int) (x6 : Int) (kind_0 : Int) (fault_0 : Int) (from_0 : Int) (pos_0 : Int) (k3 : 0 ≤ x3 ∧ x3 ≤ 2000) (k4 : (-1) ≤ x4 ∧ x4 ≤ 48) (k6 : 1 ≤ x6 ∧ x6 ≤ 1) (f0 : x6 ≠ 0) (f1 : (x6 = 1) → ((kind_0 = 3) ∧ (fault_0 = 0))) (f2 : 1 * from_0 + ((-1) * pos_0 + 0) ≤ 0) (f3 : ((kind_0 = 1) → (pos_0 ≤ (from_0 + 8))) ∧ ((kind_0 = 0) ∨ ((from_0 + 1) ≤ pos_0))) (f4 : 1 * x3 + ((-1) * pos_0 + 0) ≤ 0) (f5 : (1 ≤ fault_0) ∨ ((kind_0 = 0) ∨ ((x3 + 1) ≤ pos_0))) (f6 : (1 ≤ fault_0) ∨ (0 ≤ x4)) (kz_0_8 : 0 ≤ fault_0 ∧ fault_0 ≤ 5) (kz_0_11 : 0 ≤ pos_0 ∧ pos_0 ≤ 2000) (kz_0_12 : 0 ≤ kind_0 ∧ kind_0 ≤ 4) (kz_0_15 : 0 ≤ from_0 ∧ from_0 ≤ 2000) : (-1) * x4 + 0 ≤ 0 := by
  first | assumption | (clear f1 f3 f5 f6; omega) | omega | grind
def o_Mo_of_at_s5002_1 : or_T := (11, 7, [(0, (2, 0, 0, [165])), (3, (0, 0, 2000, [])), (4, (0, -1, 48, [])), (6, (0, 1, 1, []))], [(8, [6], [1]), (20, [6, 0], [50, 2, 0, 1012, 1008, 4, 6, 1, 2, 1, 0, 0, 1, 2, 7, 1, 3, 2, 1, 12, 0, 3, 1, 3, 2, 1, 8, 0, 0]), (20, [0, 0], [30, 0, 1, 1, 15, -1, 1, 11]), (20, [0], [50, 3, 0, 12, 11, 15, 2, 21, 4, 7, 1, 3, 2, 0, 12, 0, 1, 0, 3, 2, 0, 11, 4, 3, 2, 0, 15, 0, 8, 3, 7, 1, 3, 2, 0, 12, 0, 0, 0, 7, 4, 3, 2, 0, 15, 0, 1, 2, 0, 11]), (20, [3, 0], [30, 0, 1, 0, 0, -1, 1, 11]), (20, [0, 3], [50, 3, 0, 8, 12, 11, 3, 7, 0, 2, 0, 1, 2, 0, 8, 3, 7, 1, 3, 2, 0, 12, 0, 0, 0, 6, 4, 2, 1, 1, 0, 1, 2, 0, 11]), (20, [0, 4], [50, 1, 0, 8, 3, 7, 0, 2, 0, 1, 2, 0, 8, 0, 2, 0, 0, 1, 1])], [], [], [(23, [4], [0, -1])], [], [])
theorem oo_Mo_of_at_s5002_1 {kA : Nat → ClassId} : or_ok PRD kA GG o_Mo_of_at_s5002_1 := by
  refine or_mk fun A ta ws vs hD hth hl => ?_
  intro t0 r0 t3 k3 t4 k4 t6 k6 f0 f1 f2 f3 f4 f5 f6
  have kz_0_8 := fdq_14 hD hth r0
  have kz_0_11 := fdq_273 hD hth r0
  have kz_0_12 := fdq_186 hD hth r0
  have kz_0_15 := fdq_274 hD hth r0
  have nf0 : fc_1 PRD (23, [4], [0, -1]) ws (vs) := ⟨nf_in hl rfl, sgq_1013 (vc_Mo_of_at_s5002_1_0 (v_iv (n_v vs 3)) (v_iv (n_v vs 4)) (v_iv (n_v vs 6)) (w_fi ws (n_v vs 0) 12) (w_fi ws (n_v vs 0) 8) (w_fi ws (n_v vs 0) 15) (w_fi ws (n_v vs 0) 11) k3 k4 k6 (shm_154 f0) (shm_717 f1) (shm_1397 f2) (shm_1398 f3) (shm_1395 f4) (shm_1660 f5) (shm_1889 f6) kz_0_8 kz_0_11 kz_0_12 kz_0_15)⟩
  refine ⟨(fun _ h => (by cases h)), [], trivial, ?_, (fun _ h => (by cases h))⟩
  rw [List.append_nil]
  exact List.forall_mem_cons.mpr ⟨⟨show (23 : Nat) < 100 from by decide, nf0⟩, (fun _ h => (by cases h))⟩
set_option maxHeartbeats 4000000 in
theorem vc_Mo_of_at_s5002_2_0 (x3 : Int) (x4 : Int) (x6 : Int) (kind_0 : Int) (fault_0 : Int) (from_0 : Int) (pos_0 : Int) (gx : Int) (k3 : 0 ≤ x3 ∧ x3 ≤ 2000) (k4 : (-1) ≤ x4 ∧ x4 ≤ 48) (k6 : 1 ≤ x6 ∧ x6 ≤ 1) (f0 : (-1) * x4 + 0 ≤ 0) (f1 : x6 ≠ 0) (f2 : (x6 = 1) → ((kind_0 = 3) ∧ (fault_0 = 0))) (f3 : 1 * from_0 + ((-1) * pos_0 + 0) ≤ 0) (f4 : ((kind_0 = 1) → (pos_0 ≤ (from_0 + 8))) ∧ ((kind_0 = 0) ∨ ((from_0 + 1) ≤ pos_0))) (f5 : 1 * x3 + ((-1) * pos_0 + 0) ≤ 0) (f6 : (1 ≤ fault_0) ∨ ((kind_0 = 0) ∨ ((x3 + 1) ≤ pos_0))) (f7 : (1 ≤ fault_0) ∨ (0 ≤ x4)) (kz_0_8 : 0 ≤ fault_0 ∧ fault_0 ≤ 5) (kz_0_11 : 0 ≤ pos_0 ∧ pos_0 ≤ 2000) (kz_0_12 : 0 ≤ kind_0 ∧ kind_0 ≤ 4) (kz_0_15 : 0 ≤ from_0 ∧ from_0 ≤ 2000) (ex2 : gx = pos_0) (ex3 : 0 ≤ gx ∧ gx ≤ 2000) : 1 * gx + ((-1) * pos_0 + 0) ≤ 0 := by
  first | assumption | (clear f2 f4 f6 f7; omega) | omega | grind
set_option maxHeartbeats 4000000 in
theorem vc_Mo_of_at_s5002_2_1 (x3 : Int) (x4 : Int) (x6 : Int) (kind_0 : Int) (fault_0 : Int) (from_0 : Int) (pos_0 : Int) (gx : Int) (k3 : 0 ≤ x3 ∧ x3 ≤ 2000) (k4 : (-1) ≤ x4 ∧ x4 ≤ 48) (k6 : 1 ≤ x6 ∧ x6 ≤ 1) (f0 : (-1) * x4 + 0 ≤ 0) (f1 : x6 ≠ 0) (f2 : (x6 = 1) → ((kind_0 = 3) ∧ (fault_0 = 0))) (f3 : 1 * from_0 + ((-1) * pos_0 + 0) ≤ 0) (f4 : ((kind_0 = 1) → (pos_0 ≤ (from_0 + 8))) ∧ ((kind_0 = 0) ∨ ((from_0 + 1) ≤ pos_0))) (f5 : 1 * x3 + ((-1) * pos_0 + 0) ≤ 0) (f6 : (1 ≤ fault_0) ∨ ((kind_0 = 0) ∨ ((x3 + 1) ≤ pos_0))) (f7 : (1 ≤ fault_0) ∨ (0 ≤ x4)) (kz_0_8 : 0 ≤ fault_0 ∧ fault_0 ≤ 5) (kz_0_11 : 0 ≤ pos_0 ∧ pos_0 ≤ 2000) (kz_0_12 : 0 ≤ kind_0 ∧ kind_0 ≤ 4) (kz_0_15 : 0 ≤ from_0 ∧ from_0 ≤ 2000) (ex2 : gx = pos_0) (ex3 : 0 ≤ gx ∧ gx ≤ 2000) : 1 * x3 + ((-1) * gx + 0) ≤ (-1) := by
  first | assumption | (clear f2 f4 f6 f7; omega) | omega | grind
def o_Mo_of_at_s5002_2 : or_T := (12, 7, [(0, (2, 0, 0, [165])), (3, (0, 0, 2000, [])), (4, (0, -1, 48, [])), (6, (0, 1, 1, []))], [(23, [4], [0, -1]), (8, [6], [1]), (20, [6, 0], [50, 2, 0, 1012, 1008, 4, 6, 1, 2, 1, 0, 0, 1, 2, 7, 1, 3, 2, 1, 12, 0, 3, 1, 3, 2, 1, 8, 0, 0]), (20, [0, 0], [30, 0, 1, 1, 15, -1, 1, 11]), (20, [0], [50, 3, 0, 12, 11, 15, 2, 21, 4, 7, 1, 3, 2, 0, 12, 0, 1, 0, 3, 2, 0, 11, 4, 3, 2, 0, 15, 0, 8, 3, 7, 1, 3, 2, 0, 12, 0, 0, 0, 7, 4, 3, 2, 0, 15, 0, 1, 2, 0, 11]), (20, [3, 0], [30, 0, 1, 0, 0, -1, 1, 11]), (20, [0, 3], [50, 3, 0, 8, 12, 11, 3, 7, 0, 2, 0, 1, 2, 0, 8, 3, 7, 1, 3, 2, 0, 12, 0, 0, 0, 6, 4, 2, 1, 1, 0, 1, 2, 0, 11]), (20, [0, 4], [50, 1, 0, 8, 3, 7, 0, 2, 0, 1, 2, 0, 8, 0, 2, 0, 0, 1, 1])], [], [(0, 0, 2000, [])], [(20, [7, 0], [30, 0, 1, 0, 0, -1, 1, 11]), (23, [3, 7], [-1, 1, -1])], [], [])
theorem oo_Mo_of_at_s5002_2 {kA : Nat → ClassId} : or_ok PRD kA GG o_Mo_of_at_s5002_2 := by
  refine or_mk fun A ta ws vs hD hth hl => ?_
  intro t0 r0 t3 k3 t4 k4 t6 k6 f0 f1 f2 f3 f4 f5 f6 f7
  replace f0 := shm_1013 f0
  replace f1 := shm_154 f1
  replace f2 := shm_717 f2
  replace f3 := shm_1397 f3
  replace f4 := shm_1398 f4
  replace f5 := shm_1395 f5
  replace f6 := shm_1660 f6
  replace f7 := shm_1889 f7
  have kz_0_8 := fdq_14 hD hth r0
  have kz_0_11 := fdq_273 hD hth r0
  have kz_0_12 := fdq_186 hD hth r0
  have kz_0_15 := fdq_274 hD hth r0
  obtain ⟨x, ex, hx⟩ := iv_ex (ta := ta) (lo := 0) (hi := 2000) (z := w_fi ws (n_v vs 0) 11) (by omega) (by omega) (by omega) (by omega)
  have ex2 : v_iv (Value.int x) = w_fi ws (n_v vs 0) 11 := ex
  have ex3 : 0 ≤ v_iv (Value.int x) ∧ v_iv (Value.int x) ≤ 2000 := tv_rng hx
  have e_0 : n_v (vs ++ [Value.int x]) 0 = n_v vs 0 := n_v_old (by rw [hl]; decide)
  have e_3 : n_v (vs ++ [Value.int x]) 3 = n_v vs 3 := n_v_old (by rw [hl]; decide)
  have e_7 : n_v (vs ++ [Value.int x]) 7 = Value.int x := n_v_new hl
  have nf0 : fc_1 PRD (20, [7, 0], [30, 0, 1, 0, 0, -1, 1, 11]) ws (vs ++ [Value.int x]) := by
    refine ⟨nf_inA hl rfl, sgq_1395 ?_⟩
    · show 1 * v_iv (n_v (vs ++ [Value.int x]) 7) + ((-1) * w_fi ws (n_v (vs ++ [Value.int x]) 0) 11 + 0) ≤ 0
      simp only [e_0, e_7]
      exact vc_Mo_of_at_s5002_2_0 (v_iv (n_v vs 3)) (v_iv (n_v vs 4)) (v_iv (n_v vs 6)) (w_fi ws (n_v vs 0) 12) (w_fi ws (n_v vs 0) 8) (w_fi ws (n_v vs 0) 15) (w_fi ws (n_v vs 0) 11) (v_iv (Value.int x)) k3 k4 k6 f0 f1 f2 f3 f4 f5 f6 f7 kz_0_8 kz_0_11 kz_0_12 kz_0_15 ex2 ex3
  have nf1 : fc_1 PRD (23, [3, 7], [-1, 1, -1]) ws (vs ++ [Value.int x]) := by
    refine ⟨nf_inA hl rfl, sgq_211 ?_⟩
    · show 1 * v_iv (n_v (vs ++ [Value.int x]) 3) + ((-1) * v_iv (n_v (vs ++ [Value.int x]) 7) + 0) ≤ (-1)
      simp only [e_3, e_7]
      exact vc_Mo_of_at_s5002_2_1 (v_iv (n_v vs 3)) (v_iv (n_v vs 4)) (v_iv (n_v vs 6)) (w_fi ws (n_v vs 0) 12) (w_fi ws (n_v vs 0) 8) (w_fi ws (n_v vs 0) 15) (w_fi ws (n_v vs 0) 11) (v_iv (Value.int x)) k3 k4 k6 f0 f1 f2 f3 f4 f5 f6 f7 kz_0_8 kz_0_11 kz_0_12 kz_0_15 ex2 ex3
  exact ⟨(fun _ h => (by cases h)), [Value.int x], ag_one hx, List.forall_mem_cons.mpr ⟨⟨show (20 : Nat) < 100 from by decide, nf0⟩, List.forall_mem_cons.mpr ⟨⟨show (23 : Nat) < 100 from by decide, nf1⟩, (fun _ h => (by cases h))⟩⟩, (fun _ h => (by cases h))⟩
set_option maxHeartbeats 4000000 in
theorem vc_Mo_of_at_s5002_3_0 (x2 : Int) (x3 : Int) (x4 : Int) (x7 : Int) (x8 : Int) (fault_0 : Int) (from_0 : Int) (pos_0 : Int) (kind_0 : Int) (gx : Int) (k2 : 99 ≤ x2 ∧ x2 ≤ 99) (k3 : 0 ≤ x3 ∧ x3 ≤ 2000) (k4 : (-1) ≤ x4 ∧ x4 ≤ 48) (k7 : 0 ≤ x7 ∧ x7 ≤ 2000) (k8 : 0 ≤ x8 ∧ x8 ≤ 0) (f0 : 1 * x3 + ((-1) * x7 + 0) ≤ (-1)) (f1 : (-1) * x4 + 0 ≤ 0) (f2 : (1 ≤ fault_0) ∨ (0 ≤ x4)) (f3 : 1 * from_0 + ((-1) * pos_0 + 0) ≤ 0) (f4 : ((kind_0 = 1) → (pos_0 ≤ (from_0 + 8))) ∧ ((kind_0 = 0) ∨ ((from_0 + 1) ≤ pos_0))) (f5 : 1 * x7 + ((-1) * from_0 + 0) ≤ 0) (f7 : 1 * x3 + ((-1) * x7 + 0) ≤ (-1)) (f8 : (-1) * x4 + 0 ≤ 0) (kz_0_8 : 0 ≤ fault_0 ∧ fault_0 ≤ 5) (kz_0_11 : 0 ≤ pos_0 ∧ pos_0 ≤ 2000) (kz_0_12 : 0 ≤ kind_0 ∧ kind_0 ≤ 4) (kz_0_15 : 0 ≤ from_0 ∧ from_0 ≤ 2000) (ex2 : gx = 2000 + ((-1) * pos_0 + 0)) (ex3 : 0 ≤ gx ∧ gx ≤ 2000) : 1 * from_0 + ((-1) * pos_0 + 0) ≤ 0 := by
  first | assumption | (clear f2 f4; omega) | omega | grind
set_option maxHeartbeats 4000000 in
theorem vc_Mo_of_at_s5002_3_1 (x2 : Int) (x3 : Int) (x4 : Int) (x7 : Int) (x8 : Int) (fault_0 : Int) (from_0 : Int) (pos_0 : Int) (kind_0 : Int) (gx : Int) (k2 : 99 ≤ x2 ∧ x2 ≤ 99) (k3 : 0 ≤ x3 ∧ x3 ≤ 2000) (k4 : (-1) ≤ x4 ∧ x4 ≤ 48) (k7 : 0 ≤ x7 ∧ x7 ≤ 2000) (k8 : 0 ≤ x8 ∧ x8 ≤ 0) (f0 : 1 * x3 + ((-1) * x7 + 0) ≤ (-1)) (f1 : (-1) * x4 + 0 ≤ 0) (f2 : (1 ≤ fault_0) ∨ (0 ≤ x4)) (f3 : 1 * from_0 + ((-1) * pos_0 + 0) ≤ 0) (f4 : ((kind_0 = 1) → (pos_0 ≤ (from_0 + 8))) ∧ ((kind_0 = 0) ∨ ((from_0 + 1) ≤ pos_0))) (f5 : 1 * x7 + ((-1) * from_0 + 0) ≤ 0) (f7 : 1 * x3 + ((-1) * x7 + 0) ≤ (-1)) (f8 : (-1) * x4 + 0 ≤ 0) (kz_0_8 : 0 ≤ fault_0 ∧ fault_0 ≤ 5) (kz_0_11 : 0 ≤ pos_0 ∧ pos_0 ≤ 2000) (kz_0_12 : 0 ≤ kind_0 ∧ kind_0 ≤ 4) (kz_0_15 : 0 ≤ from_0 ∧ from_0 ≤ 2000) (ex2 : gx = 2000 + ((-1) * pos_0 + 0)) (ex3 : 0 ≤ gx ∧ gx ≤ 2000) : ((kind_0 = 1) → (pos_0 ≤ (from_0 + 8))) ∧ ((kind_0 = 0) ∨ ((from_0 + 1) ≤ pos_0)) := by
  first | assumption | (clear f2 f4; omega) | omega | grind
set_option maxHeartbeats 4000000 in
theorem vc_Mo_of_at_s5002_3_2 (x2 : Int) (x3 : Int) (x4 : Int) (x7 : Int) (x8 : Int) (fault_0 : Int) (from_0 : Int) (pos_0 : Int) (kind_0 : Int) (gx : Int) (k2 : 99 ≤ x2 ∧ x2 ≤ 99) (k3 : 0 ≤ x3 ∧ x3 ≤ 2000) (k4 : (-1) ≤ x4 ∧ x4 ≤ 48) (k7 : 0 ≤ x7 ∧ x7 ≤ 2000) (k8 : 0 ≤ x8 ∧ x8 ≤ 0) (f0 : 1 * x3 + ((-1) * x7 + 0) ≤ (-1)) (f1 : (-1) * x4 + 0 ≤ 0) (f2 : (1 ≤ fault_0) ∨ (0 ≤ x4)) (f3 : 1 * from_0 + ((-1) * pos_0 + 0) ≤ 0) (f4 : ((kind_0 = 1) → (pos_0 ≤ (from_0 + 8))) ∧ ((kind_0 = 0) ∨ ((from_0 + 1) ≤ pos_0))) (f5 : 1 * x7 + ((-1) * from_0 + 0) ≤ 0) (f7 : 1 * x3 + ((-1) * x7 + 0) ≤ (-1)) (f8 : (-1) * x4 + 0 ≤ 0) (kz_0_8 : 0 ≤ fault_0 ∧ fault_0 ≤ 5) (kz_0_11 : 0 ≤ pos_0 ∧ pos_0 ≤ 2000) (kz_0_12 : 0 ≤ kind_0 ∧ kind_0 ≤ 4) (kz_0_15 : 0 ≤ from_0 ∧ from_0 ≤ 2000) (ex2 : gx = 2000 + ((-1) * pos_0 + 0)) (ex3 : 0 ≤ gx ∧ gx ≤ 2000) : 1 * x3 + ((-1) * pos_0 + 0) ≤ (-1) := by
  first | assumption | (clear f2 f4; omega) | omega | grind
set_option maxHeartbeats 4000000 in
theorem vc_Mo_of_at_s5002_3_3 (x2 : Int) (x3 : Int) (x4 : Int) (x7 : Int) (x8 : Int) (fault_0 : Int) (from_0 : Int) (pos_0 : Int) (kind_0 : Int) (gx : Int) (k2 : 99 ≤ x2 ∧ x2 ≤ 99) (k3 : 0 ≤ x3 ∧ x3 ≤ 2000) (k4 : (-1) ≤ x4 ∧ x4 ≤ 48) (k7 : 0 ≤ x7 ∧ x7 ≤ 2000) (k8 : 0 ≤ x8 ∧ x8 ≤ 0) (f0 : 1 * x3 + ((-1) * x7 + 0) ≤ (-1)) (f1 : (-1) * x4 + 0 ≤ 0) (f2 : (1 ≤ fault_0) ∨ (0 ≤ x4)) (f3 : 1 * from_0 + ((-1) * pos_0 + 0) ≤ 0) (f4 : ((kind_0 = 1) → (pos_0 ≤ (from_0 + 8))) ∧ ((kind_0 = 0) ∨ ((from_0 + 1) ≤ pos_0))) (f5 : 1 * x7 + ((-1) * from_0 + 0) ≤ 0) (f7 : 1 * x3 + ((-1) * x7 + 0) ≤ (-1)) (f8 : (-1) * x4 + 0 ≤ 0) (kz_0_8 : 0 ≤ fault_0 ∧ fault_0 ≤ 5) (kz_0_11 : 0 ≤ pos_0 ∧ pos_0 ≤ 2000) (kz_0_12 : 0 ≤ kind_0 ∧ kind_0 ≤ 4) (kz_0_15 : 0 ≤ from_0 ∧ from_0 ≤ 2000) (ex2 : gx = 2000 + ((-1) * pos_0 + 0)) (ex3 : 0 ≤ gx ∧ gx ≤ 2000) : 1 * x8 + ((-1) * x2 + 0) ≤ 0 := by
  first | assumption | (clear f2 f4; omega) | omega | grind
set_option maxHeartbeats 4000000 in
theorem vc_Mo_of_at_s5002_3_4 (x2 : Int) (x3 : Int) (x4 : Int) (x7 : Int) (x8 : Int) (fault_0 : Int) (from_0 : Int) (pos_0 : Int) (kind_0 : Int) (gx : Int) (k2 : 99 ≤ x2 ∧ x2 ≤ 99) (k3 : 0 ≤ x3 ∧ x3 ≤ 2000) (k4 : (-1) ≤ x4 ∧ x4 ≤ 48) (k7 : 0 ≤ x7 ∧ x7 ≤ 2000) (k8 : 0 ≤ x8 ∧ x8 ≤ 0) (f0 : 1 * x3 + ((-1) * x7 + 0) ≤ (-1)) (f1 : (-1) * x4 + 0 ≤ 0) (f2 : (1 ≤ fault_0) ∨ (0 ≤ x4)) (f3 : 1 * from_0 + ((-1) * pos_0 + 0) ≤ 0) (f4 : ((kind_0 = 1) → (pos_0 ≤ (from_0 + 8))) ∧ ((kind_0 = 0) ∨ ((from_0 + 1) ≤ pos_0))) (f5 : 1 * x7 + ((-1) * from_0 + 0) ≤ 0) (f7 : 1 * x3 + ((-1) * x7 + 0) ≤ (-1)) (f8 : (-1) * x4 + 0 ≤ 0) (kz_0_8 : 0 ≤ fault_0 ∧ fault_0 ≤ 5) (kz_0_11 : 0 ≤ pos_0 ∧ pos_0 ≤ 2000) (kz_0_12 : 0 ≤ kind_0 ∧ kind_0 ≤ 4) (kz_0_15 : 0 ≤ from_0 ∧ from_0 ≤ 2000) (ex2 : gx = 2000 + ((-1) * pos_0 + 0)) (ex3 : 0 ≤ gx ∧ gx ≤ 2000) : (-1) * x8 + 0 ≤ 0 := by
  first | assumption | (clear f2 f4; omega) | omega | grind
set_option maxHeartbeats 4000000 in
theorem vc_Mo_of_at_s5002_3_5 (x2 : Int) (x3 : Int) (x4 : Int) (x7 : Int) (x8 : Int) (fault_0 : Int) (from_0 : Int) (pos_0 : Int) (kind_0 : Int) (gx : Int) (k2 : 99 ≤ x2 ∧ x2 ≤ 99) (k3 : 0 ≤ x3 ∧ x3 ≤ 2000) (k4 : (-1) ≤ x4 ∧ x4 ≤ 48) (k7 : 0 ≤ x7 ∧ x7 ≤ 2000) (k8 : 0 ≤ x8 ∧ x8 ≤ 0) (f0 : 1 * x3 + ((-1) * x7 + 0) ≤ (-1)) (f1 : (-1) * x4 + 0 ≤ 0) (f2 : (1 ≤ fault_0) ∨ (0 ≤ x4)) (f3 : 1 * from_0 + ((-1) * pos_0 + 0) ≤ 0) (f4 : ((kind_0 = 1) → (pos_0 ≤ (from_0 + 8))) ∧ ((kind_0 = 0) ∨ ((from_0 + 1) ≤ pos_0))) (f5 : 1 * x7 + ((-1) * from_0 + 0) ≤ 0) (f7 : 1 * x3 + ((-1) * x7 + 0) ≤ (-1)) (f8 : (-1) * x4 + 0 ≤ 0) (kz_0_8 : 0 ≤ fault_0 ∧ fault_0 ≤ 5) (kz_0_11 : 0 ≤ pos_0 ∧ pos_0 ≤ 2000) (kz_0_12 : 0 ≤ kind_0 ∧ kind_0 ≤ 4) (kz_0_15 : 0 ≤ from_0 ∧ from_0 ≤ 2000) (ex2 : gx = 2000 + ((-1) * pos_0 + 0)) (ex3 : 0 ≤ gx ∧ gx ≤ 2000) : (-1) * x4 + 0 ≤ 0 := by
  first | assumption | (clear f2 f4; omega) | omega | grind
set_option maxHeartbeats 4000000 in
theorem vc_Mo_of_at_s5002_3_8 (x2 : Int) (x3 : Int) (x4 : Int) (x7 : Int) (x8 : Int) (fault_0 : Int) (from_0 : Int) (pos_0 : Int) (kind_0 : Int) (gx : Int) (k2 : 99 ≤ x2 ∧ x2 ≤ 99) (k3 : 0 ≤ x3 ∧ x3 ≤ 2000) (k4 : (-1) ≤ x4 ∧ x4 ≤ 48) (k7 : 0 ≤ x7 ∧ x7 ≤ 2000) (k8 : 0 ≤ x8 ∧ x8 ≤ 0) (f0 : 1 * x3 + ((-1) * x7 + 0) ≤ (-1)) (f1 : (-1) * x4 + 0 ≤ 0) (f2 : (1 ≤ fault_0) ∨ (0 ≤ x4)) (f3 : 1 * from_0 + ((-1) * pos_0 + 0) ≤ 0) (f4 : ((kind_0 = 1) → (pos_0 ≤ (from_0 + 8))) ∧ ((kind_0 = 0) ∨ ((from_0 + 1) ≤ pos_0))) (f5 : 1 * x7 + ((-1) * from_0 + 0) ≤ 0) (f7 : 1 * x3 + ((-1) * x7 + 0) ≤ (-1)) (f8 : (-1) * x4 + 0 ≤ 0) (kz_0_8 : 0 ≤ fault_0 ∧ fault_0 ≤ 5) (kz_0_11 : 0 ≤ pos_0 ∧ pos_0 ≤ 2000) (kz_0_12 : 0 ≤ kind_0 ∧ kind_0 ≤ 4) (kz_0_15 : 0 ≤ from_0 ∧ from_0 ≤ 2000) (ex2 : gx = 2000 + ((-1) * pos_0 + 0)) (ex3 : 0 ≤ gx ∧ gx ≤ 2000) : 1 * gx + (1 * pos_0 + 0) ≤ 2000 := by
  first | assumption | (clear f2 f4; omega) | omega | grind
set_option maxHeartbeats 4000000 in
theorem vc_Mo_of_at_s5002_3_9 (x2 : Int) (x3 : Int) (x4 : Int) (x7 : Int) (x8 : Int) (fault_0 : Int) (from_0 : Int) (pos_0 : Int) (kind_0 : Int) (gx : Int) (k2 : 99 ≤ x2 ∧ x2 ≤ 99) (k3 : 0 ≤ x3 ∧ x3 ≤ 2000) (k4 : (-1) ≤ x4 ∧ x4 ≤ 48) (k7 : 0 ≤ x7 ∧ x7 ≤ 2000) (k8 : 0 ≤ x8 ∧ x8 ≤ 0) (f0 : 1 * x3 + ((-1) * x7 + 0) ≤ (-1)) (f1 : (-1) * x4 + 0 ≤ 0) (f2 : (1 ≤ fault_0) ∨ (0 ≤ x4)) (f3 : 1 * from_0 + ((-1) * pos_0 + 0) ≤ 0) (f4 : ((kind_0 = 1) → (pos_0 ≤ (from_0 + 8))) ∧ ((kind_0 = 0) ∨ ((from_0 + 1) ≤ pos_0))) (f5 : 1 * x7 + ((-1) * from_0 + 0) ≤ 0) (f7 : 1 * x3 + ((-1) * x7 + 0) ≤ (-1)) (f8 : (-1) * x4 + 0 ≤ 0) (kz_0_8 : 0 ≤ fault_0 ∧ fault_0 ≤ 5) (kz_0_11 : 0 ≤ pos_0 ∧ pos_0 ≤ 2000) (kz_0_12 : 0 ≤ kind_0 ∧ kind_0 ≤ 4) (kz_0_15 : 0 ≤ from_0 ∧ from_0 ≤ 2000) (ex2 : gx = 2000 + ((-1) * pos_0 + 0)) (ex3 : 0 ≤ gx ∧ gx ≤ 2000) : (-1) * gx + ((-1) * pos_0 + 0) ≤ (-2000) := by
  first | assumption | (clear f2 f4; omega) | omega | grind
def o_Mo_of_at_s5002_3 : or_T := (17, 9, [(0, (2, 0, 0, [165])), (2, (0, 99, 99, [])), (3, (0, 0, 2000, [])), (4, (0, -1, 48, [])), (7, (0, 0, 2000, [])), (8, (0, 0, 0, []))], [(23, [3, 7], [-1, 1, -1]), (23, [4], [0, -1]), (20, [0, 4], [50, 1, 0, 8, 3, 7, 0, 2, 0, 1, 2, 0, 8, 0, 2, 0, 0, 1, 1]), (20, [0, 0], [30, 0, 1, 1, 15, -1, 1, 11]), (20, [0], [50, 3, 0, 12, 11, 15, 2, 21, 4, 7, 1, 3, 2, 0, 12, 0, 1, 0, 3, 2, 0, 11, 4, 3, 2, 0, 15, 0, 8, 3, 7, 1, 3, 2, 0, 12, 0, 0, 0, 7, 4, 3, 2, 0, 15, 0, 1, 2, 0, 11]), (20, [7, 0], [30, 0, 1, 0, 0, -1, 1, 15]), (102, [7], [0, 165011, 165012, 165013, 165014, 165015]), (23, [3, 7], [-1, 1, -1]), (23, [4], [0, -1])], [], [(0, 0, 2000, [])], [(20, [0, 0], [30, 0, 1, 1, 15, -1, 1, 11]), (20, [0], [50, 3, 0, 12, 11, 15, 2, 21, 4, 7, 1, 3, 2, 0, 12, 0, 1, 0, 3, 2, 0, 11, 4, 3, 2, 0, 15, 0, 8, 3, 7, 1, 3, 2, 0, 12, 0, 0, 0, 7, 4, 3, 2, 0, 15, 0, 1, 2, 0, 11]), (20, [3, 0], [30, -1, 1, 0, 0, -1, 1, 11]), (23, [8, 2], [0, 1, -1]), (23, [8], [0, -1]), (23, [4], [0, -1]), (24, [0, 0], []), (24, [2, 2], []), (20, [9, 0], [30, 2000, 1, 0, 0, 1, 1, 11]), (20, [9, 0], [30, -2000, -1, 0, 0, -1, 1, 11])], [], [])
theorem oo_Mo_of_at_s5002_3 {kA : Nat → ClassId} : or_ok PRD kA GG o_Mo_of_at_s5002_3 := by
  refine or_mk fun A ta ws vs hD hth hl => ?_
  intro t0 r0 t2 k2 t3 k3 t4 k4 t7 k7 t8 k8 f0 f1 f2 f3 f4 f5 ta1 w1 le1 s1 f7 f8
  replace f0 := shm_211 f0
  replace f1 := shm_1013 f1
  replace f2 := shm_1889 f2
  replace f3 := shm_1397 f3
  replace f4 := shm_1398 f4
  replace f5 := shm_1396 f5
  replace f7 := shm_211 f7
  replace f8 := shm_1013 f8
  have kz_0_8 := fdq_14 hD hth r0
  have kz_0_11 := fdq_273 hD hth r0
  have kz_0_12 := fdq_186 hD hth r0
  have kz_0_15 := fdq_274 hD hth r0
  obtain ⟨x, ex, hx⟩ := iv_ex (ta := ta) (lo := 0) (hi := 2000) (z := 2000 + ((-1) * w_fi ws (n_v vs 0) 11 + 0)) (by omega) (by omega) (by omega) (by omega)
  have ex2 : v_iv (Value.int x) = 2000 + ((-1) * w_fi ws (n_v vs 0) 11 + 0) := ex
  have ex3 : 0 ≤ v_iv (Value.int x) ∧ v_iv (Value.int x) ≤ 2000 := tv_rng hx
  have e_0 : n_v (vs ++ [Value.int x]) 0 = n_v vs 0 := n_v_old (by rw [hl]; decide)
  have e_2 : n_v (vs ++ [Value.int x]) 2 = n_v vs 2 := n_v_old (by rw [hl]; decide)
  have e_3 : n_v (vs ++ [Value.int x]) 3 = n_v vs 3 := n_v_old (by rw [hl]; decide)
  have e_4 : n_v (vs ++ [Value.int x]) 4 = n_v vs 4 := n_v_old (by rw [hl]; decide)
  have e_8 : n_v (vs ++ [Value.int x]) 8 = n_v vs 8 := n_v_old (by rw [hl]; decide)
  have e_9 : n_v (vs ++ [Value.int x]) 9 = Value.int x := n_v_new hl
  have nf0 : fc_1 PRD (20, [0, 0], [30, 0, 1, 1, 15, -1, 1, 11]) ws (vs ++ [Value.int x]) := by
    refine ⟨nf_inA hl rfl, sgq_1397 ?_⟩
    · show 1 * w_fi ws (n_v (vs ++ [Value.int x]) 0) 15 + ((-1) * w_fi ws (n_v (vs ++ [Value.int x]) 0) 11 + 0) ≤ 0
      rw [e_0]
      exact vc_Mo_of_at_s5002_3_0 (v_iv (n_v vs 2)) (v_iv (n_v vs 3)) (v_iv (n_v vs 4)) (v_iv (n_v vs 7)) (v_iv (n_v vs 8)) (w_fi ws (n_v vs 0) 8) (w_fi ws (n_v vs 0) 15) (w_fi ws (n_v vs 0) 11) (w_fi ws (n_v vs 0) 12) (v_iv (Value.int x)) k2 k3 k4 k7 k8 f0 f1 f2 f3 f4 f5 f7 f8 kz_0_8 kz_0_11 kz_0_12 kz_0_15 ex2 ex3
  have nf1 : fc_1 PRD (20, [0], [50, 3, 0, 12, 11, 15, 2, 21, 4, 7, 1, 3, 2, 0, 12, 0, 1, 0, 3, 2, 0, 11, 4, 3, 2, 0, 15, 0, 8, 3, 7, 1, 3, 2, 0, 12, 0, 0, 0, 7, 4, 3, 2, 0, 15, 0, 1, 2, 0, 11]) ws (vs ++ [Value.int x]) := by
    refine ⟨nf_inA hl rfl, sgq_1398 ?_⟩
    · show ((w_fi ws (n_v (vs ++ [Value.int x]) 0) 12 = 1) → (w_fi ws (n_v (vs ++ [Value.int x]) 0) 11 ≤ (w_fi ws (n_v (vs ++ [Value.int x]) 0) 15 + 8))) ∧ ((w_fi ws (n_v (vs ++ [Value.int x]) 0) 12 = 0) ∨ ((w_fi ws (n_v (vs ++ [Value.int x]) 0) 15 + 1) ≤ w_fi ws (n_v (vs ++ [Value.int x]) 0) 11))
      rw [e_0]
      exact vc_Mo_of_at_s5002_3_1 (v_iv (n_v vs 2)) (v_iv (n_v vs 3)) (v_iv (n_v vs 4)) (v_iv (n_v vs 7)) (v_iv (n_v vs 8)) (w_fi ws (n_v vs 0) 8) (w_fi ws (n_v vs 0) 15) (w_fi ws (n_v vs 0) 11) (w_fi ws (n_v vs 0) 12) (v_iv (Value.int x)) k2 k3 k4 k7 k8 f0 f1 f2 f3 f4 f5 f7 f8 kz_0_8 kz_0_11 kz_0_12 kz_0_15 ex2 ex3
  have nf2 : fc_1 PRD (20, [3, 0], [30, -1, 1, 0, 0, -1, 1, 11]) ws (vs ++ [Value.int x]) := by
    refine ⟨nf_inA hl rfl, sgq_1891 ?_⟩
    · show 1 * v_iv (n_v (vs ++ [Value.int x]) 3) + ((-1) * w_fi ws (n_v (vs ++ [Value.int x]) 0) 11 + 0) ≤ (-1)
      simp only [e_0, e_3]
      exact vc_Mo_of_at_s5002_3_2 (v_iv (n_v vs 2)) (v_iv (n_v vs 3)) (v_iv (n_v vs 4)) (v_iv (n_v vs 7)) (v_iv (n_v vs 8)) (w_fi ws (n_v vs 0) 8) (w_fi ws (n_v vs 0) 15) (w_fi ws (n_v vs 0) 11) (w_fi ws (n_v vs 0) 12) (v_iv (Value.int x)) k2 k3 k4 k7 k8 f0 f1 f2 f3 f4 f5 f7 f8 kz_0_8 kz_0_11 kz_0_12 kz_0_15 ex2 ex3
  have nf3 : fc_1 PRD (23, [8, 2], [0, 1, -1]) ws (vs ++ [Value.int x]) := by
    refine ⟨nf_inA hl rfl, sgq_7 ?_⟩
    · show 1 * v_iv (n_v (vs ++ [Value.int x]) 8) + ((-1) * v_iv (n_v (vs ++ [Value.int x]) 2) + 0) ≤ 0
      simp only [e_2, e_8]
      exact vc_Mo_of_at_s5002_3_3 (v_iv (n_v vs 2)) (v_iv (n_v vs 3)) (v_iv (n_v vs 4)) (v_iv (n_v vs 7)) (v_iv (n_v vs 8)) (w_fi ws (n_v vs 0) 8) (w_fi ws (n_v vs 0) 15) (w_fi ws (n_v vs 0) 11) (w_fi ws (n_v vs 0) 12) (v_iv (Value.int x)) k2 k3 k4 k7 k8 f0 f1 f2 f3 f4 f5 f7 f8 kz_0_8 kz_0_11 kz_0_12 kz_0_15 ex2 ex3
  have nf4 : fc_1 PRD (23, [8], [0, -1]) ws (vs ++ [Value.int x]) := by
    refine ⟨nf_inA hl rfl, sgq_1013 ?_⟩
    · show (-1) * v_iv (n_v (vs ++ [Value.int x]) 8) + 0 ≤ 0
      rw [e_8]
      exact vc_Mo_of_at_s5002_3_4 (v_iv (n_v vs 2)) (v_iv (n_v vs 3)) (v_iv (n_v vs 4)) (v_iv (n_v vs 7)) (v_iv (n_v vs 8)) (w_fi ws (n_v vs 0) 8) (w_fi ws (n_v vs 0) 15) (w_fi ws (n_v vs 0) 11) (w_fi ws (n_v vs 0) 12) (v_iv (Value.int x)) k2 k3 k4 k7 k8 f0 f1 f2 f3 f4 f5 f7 f8 kz_0_8 kz_0_11 kz_0_12 kz_0_15 ex2 ex3
  have nf5 : fc_1 PRD (23, [4], [0, -1]) ws (vs ++ [Value.int x]) := by
    refine ⟨nf_inA hl rfl, sgq_1013 ?_⟩
    · show (-1) * v_iv (n_v (vs ++ [Value.int x]) 4) + 0 ≤ 0
      rw [e_4]
      exact vc_Mo_of_at_s5002_3_5 (v_iv (n_v vs 2)) (v_iv (n_v vs 3)) (v_iv (n_v vs 4)) (v_iv (n_v vs 7)) (v_iv (n_v vs 8)) (w_fi ws (n_v vs 0) 8) (w_fi ws (n_v vs 0) 15) (w_fi ws (n_v vs 0) 11) (w_fi ws (n_v vs 0) 12) (v_iv (Value.int x)) k2 k3 k4 k7 k8 f0 f1 f2 f3 f4 f5 f7 f8 kz_0_8 kz_0_11 kz_0_12 kz_0_15 ex2 ex3
  have nf6 : fc_1 PRD (24, [0, 0], []) ws (vs ++ [Value.int x]) := by
    refine ⟨nf_inA hl rfl, sgq_1 ?_⟩
    · show n_v (vs ++ [Value.int x]) 0 = n_v (vs ++ [Value.int x]) 0
      first | rfl | simp only [e_0]
  have nf7 : fc_1 PRD (24, [2, 2], []) ws (vs ++ [Value.int x]) := by
    refine ⟨nf_inA hl rfl, sgq_1 ?_⟩
    · show n_v (vs ++ [Value.int x]) 2 = n_v (vs ++ [Value.int x]) 2
      first | rfl | simp only [e_2]
  have nf8 : fc_1 PRD (20, [9, 0], [30, 2000, 1, 0, 0, 1, 1, 11]) ws (vs ++ [Value.int x]) := by
    refine ⟨nf_inA hl rfl, sgq_1892 ?_⟩
    · show 1 * v_iv (n_v (vs ++ [Value.int x]) 9) + (1 * w_fi ws (n_v (vs ++ [Value.int x]) 0) 11 + 0) ≤ 2000
      simp only [e_0, e_9]
      exact vc_Mo_of_at_s5002_3_8 (v_iv (n_v vs 2)) (v_iv (n_v vs 3)) (v_iv (n_v vs 4)) (v_iv (n_v vs 7)) (v_iv (n_v vs 8)) (w_fi ws (n_v vs 0) 8) (w_fi ws (n_v vs 0) 15) (w_fi ws (n_v vs 0) 11) (w_fi ws (n_v vs 0) 12) (v_iv (Value.int x)) k2 k3 k4 k7 k8 f0 f1 f2 f3 f4 f5 f7 f8 kz_0_8 kz_0_11 kz_0_12 kz_0_15 ex2 ex3
  have nf9 : fc_1 PRD (20, [9, 0], [30, -2000, -1, 0, 0, -1, 1, 11]) ws (vs ++ [Value.int x]) := by
    refine ⟨nf_inA hl rfl, sgq_1893 ?_⟩
    · show (-1) * v_iv (n_v (vs ++ [Value.int x]) 9) + ((-1) * w_fi ws (n_v (vs ++ [Value.int x]) 0) 11 + 0) ≤ (-2000)
      simp only [e_0, e_9]
      exact vc_Mo_of_at_s5002_3_9 (v_iv (n_v vs 2)) (v_iv (n_v vs 3)) (v_iv (n_v vs 4)) (v_iv (n_v vs 7)) (v_iv (n_v vs 8)) (w_fi ws (n_v vs 0) 8) (w_fi ws (n_v vs 0) 15) (w_fi ws (n_v vs 0) 11) (w_fi ws (n_v vs 0) 12) (v_iv (Value.int x)) k2 k3 k4 k7 k8 f0 f1 f2 f3 f4 f5 f7 f8 kz_0_8 kz_0_11 kz_0_12 kz_0_15 ex2 ex3
  exact ⟨(fun _ h => (by cases h)), [Value.int x], ag_one hx, List.forall_mem_cons.mpr ⟨⟨show (20 : Nat) < 100 from by decide, nf0⟩, List.forall_mem_cons.mpr ⟨⟨show (20 : Nat) < 100 from by decide, nf1⟩, List.forall_mem_cons.mpr ⟨⟨show (20 : Nat) < 100 from by decide, nf2⟩, List.forall_mem_cons.mpr ⟨⟨show (23 : Nat) < 100 from by decide, nf3⟩, List.forall_mem_cons.mpr ⟨⟨show (23 : Nat) < 100 from by decide, nf4⟩, List.forall_mem_cons.mpr ⟨⟨show (23 : Nat) < 100 from by decide, nf5⟩, List.forall_mem_cons.mpr ⟨⟨show (24 : Nat) < 100 from by decide, nf6⟩, List.forall_mem_cons.mpr ⟨⟨show (24 : Nat) < 100 from by decide, nf7⟩, List.forall_mem_cons.mpr ⟨⟨show (20 : Nat) < 100 from by decide, nf8⟩, List.forall_mem_cons.mpr ⟨⟨show (20 : Nat) < 100 from by decide, nf9⟩, (fun _ h => (by cases h))⟩⟩⟩⟩⟩⟩⟩⟩⟩⟩, (fun _ h => (by cases h))⟩
set_option maxHeartbeats 4000000 in
theorem vc_Mo_of_at_s5002_4_0 (x2 : Int) (x3 : Int) (x4 : Int) (x7 : Int) (x9 : Int) (x12 : Int) (x15 : Int) (from_0 : Int) (pos_0 : Int) (kind_0 : Int) (fault_0 : Int) (k2 : 99 ≤ x2 ∧ x2 ≤ 99) (k3 : 0 ≤ x3 ∧ x3 ≤ 2000) (k4 : (-1) ≤ x4 ∧ x4 ≤ 48) (k7 : 99 ≤ x7 ∧ x7 ≤ 99) (k9 : 0 ≤ x9 ∧ x9 ≤ 2000) (k12 : 0 ≤ x12 ∧ x12 ≤ 0) (k15 : 0 ≤ x15 ∧ x15 ≤ 0) (f0 : 1 * from_0 + ((-1) * pos_0 + 0) ≤ 0) (f1 : ((kind_0 = 1) → (pos_0 ≤ (from_0 + 8))) ∧ ((kind_0 = 0) ∨ ((from_0 + 1) ≤ pos_0))) (f2 : 1 * x3 + ((-1) * pos_0 + 0) ≤ (-1)) (f3 : (-1) * x4 + 0 ≤ 0) (f6 : 1 * x9 + (1 * pos_0 + 0) ≤ 2000) (f7 : (-1) * x9 + ((-1) * pos_0 + 0) ≤ (-2000)) (f8 : (x12 = 1) → (kind_0 = 1)) (f9 : (-1) * fault_0 + 0 ≤ (-1)) (f11 : x12 = 0) (f12 : (-1) * x4 + 0 ≤ 0) (f14 : (-1) * x4 + 0 ≤ 0) (kz_0_8 : 0 ≤ fault_0 ∧ fault_0 ≤ 5) (kz_0_11 : 0 ≤ pos_0 ∧ pos_0 ≤ 2000) (kz_0_12 : 0 ≤ kind_0 ∧ kind_0 ≤ 4) (kz_0_15 : 0 ≤ from_0 ∧ from_0 ≤ 2000) : 1 * from_0 + ((-1) * pos_0 + 0) ≤ 0 := by
  first | assumption | (clear f1 f8; omega) | omega | grind
set_option maxHeartbeats 4000000 in
theorem vc_Mo_of_at_s5002_4_1 (x2 : Int) (x3 : Int) (x4 : Int) (x7 : Int) (x9 : Int) (x12 : Int) (x15 : Int) (from_0 : Int) (pos_0 : Int) (kind_0 : Int) (fault_0 : Int) (k2 : 99 ≤ x2 ∧ x2 ≤ 99) (k3 : 0 ≤ x3 ∧ x3 ≤ 2000) (k4 : (-1) ≤ x4 ∧ x4 ≤ 48) (k7 : 99 ≤ x7 ∧ x7 ≤ 99) (k9 : 0 ≤ x9 ∧ x9 ≤ 2000) (k12 : 0 ≤ x12 ∧ x12 ≤ 0) (k15 : 0 ≤ x15 ∧ x15 ≤ 0) (f0 : 1 * from_0 + ((-1) * pos_0 + 0) ≤ 0) (f1 : ((kind_0 = 1) → (pos_0 ≤ (from_0 + 8))) ∧ ((kind_0 = 0) ∨ ((from_0 + 1) ≤ pos_0))) (f2 : 1 * x3 + ((-1) * pos_0 + 0) ≤ (-1)) (f3 : (-1) * x4 + 0 ≤ 0) (f6 : 1 * x9 + (1 * pos_0 + 0) ≤ 2000) (f7 : (-1) * x9 + ((-1) * pos_0 + 0) ≤ (-2000)) (f8 : (x12 = 1) → (kind_0 = 1)) (f9 : (-1) * fault_0 + 0 ≤ (-1)) (f11 : x12 = 0) (f12 : (-1) * x4 + 0 ≤ 0) (f14 : (-1) * x4 + 0 ≤ 0) (kz_0_8 : 0 ≤ fault_0 ∧ fault_0 ≤ 5) (kz_0_11 : 0 ≤ pos_0 ∧ pos_0 ≤ 2000) (kz_0_12 : 0 ≤ kind_0 ∧ kind_0 ≤ 4) (kz_0_15 : 0 ≤ from_0 ∧ from_0 ≤ 2000) : ((kind_0 = 1) → (pos_0 ≤ (from_0 + 8))) ∧ ((kind_0 = 0) ∨ ((from_0 + 1) ≤ pos_0)) := by
  first | assumption | (clear f1 f8; omega) | omega | grind
set_option maxHeartbeats 4000000 in
theorem vc_Mo_of_at_s5002_4_2 (x2 : Int) (x3 : Int) (x4 : Int) (x7 : Int) (x9 : Int) (x12 : Int) (x15 : Int) (from_0 : Int) (pos_0 : Int) (kind_0 : Int) (fault_0 : Int) (k2 : 99 ≤ x2 ∧ x2 ≤ 99) (k3 : 0 ≤ x3 ∧ x3 ≤ 2000) (k4 : (-1) ≤ x4 ∧ x4 ≤ 48) (k7 : 99 ≤ x7 ∧ x7 ≤ 99) (k9 : 0 ≤ x9 ∧ x9 ≤ 2000) (k12 : 0 ≤ x12 ∧ x12 ≤ 0) (k15 : 0 ≤ x15 ∧ x15 ≤ 0) (f0 : 1 * from_0 + ((-1) * pos_0 + 0) ≤ 0) (f1 : ((kind_0 = 1) → (pos_0 ≤ (from_0 + 8))) ∧ ((kind_0 = 0) ∨ ((from_0 + 1) ≤ pos_0))) (f2 : 1 * x3 + ((-1) * pos_0 + 0) ≤ (-1)) (f3 : (-1) * x4 + 0 ≤ 0) (f6 : 1 * x9 + (1 * pos_0 + 0) ≤ 2000) (f7 : (-1) * x9 + ((-1) * pos_0 + 0) ≤ (-2000)) (f8 : (x12 = 1) → (kind_0 = 1)) (f9 : (-1) * fault_0 + 0 ≤ (-1)) (f11 : x12 = 0) (f12 : (-1) * x4 + 0 ≤ 0) (f14 : (-1) * x4 + 0 ≤ 0) (kz_0_8 : 0 ≤ fault_0 ∧ fault_0 ≤ 5) (kz_0_11 : 0 ≤ pos_0 ∧ pos_0 ≤ 2000) (kz_0_12 : 0 ≤ kind_0 ∧ kind_0 ≤ 4) (kz_0_15 : 0 ≤ from_0 ∧ from_0 ≤ 2000) : 1 * x3 + ((-1) * pos_0 + 0) ≤ 0 := by
  first | assumption | (clear f1 f8; omega) | omega | grind
set_option maxHeartbeats 4000000 in
theorem vc_Mo_of_at_s5002_4_3 (x2 : Int) (x3 : Int) (x4 : Int) (x7 : Int) (x9 : Int) (x12 : Int) (x15 : Int) (from_0 : Int) (pos_0 : Int) (kind_0 : Int) (fault_0 : Int) (k2 : 99 ≤ x2 ∧ x2 ≤ 99) (k3 : 0 ≤ x3 ∧ x3 ≤ 2000) (k4 : (-1) ≤ x4 ∧ x4 ≤ 48) (k7 : 99 ≤ x7 ∧ x7 ≤ 99) (k9 : 0 ≤ x9 ∧ x9 ≤ 2000) (k12 : 0 ≤ x12 ∧ x12 ≤ 0) (k15 : 0 ≤ x15 ∧ x15 ≤ 0) (f0 : 1 * from_0 + ((-1) * pos_0 + 0) ≤ 0) (f1 : ((kind_0 = 1) → (pos_0 ≤ (from_0 + 8))) ∧ ((kind_0 = 0) ∨ ((from_0 + 1) ≤ pos_0))) (f2 : 1 * x3 + ((-1) * pos_0 + 0) ≤ (-1)) (f3 : (-1) * x4 + 0 ≤ 0) (f6 : 1 * x9 + (1 * pos_0 + 0) ≤ 2000) (f7 : (-1) * x9 + ((-1) * pos_0 + 0) ≤ (-2000)) (f8 : (x12 = 1) → (kind_0 = 1)) (f9 : (-1) * fault_0 + 0 ≤ (-1)) (f11 : x12 = 0) (f12 : (-1) * x4 + 0 ≤ 0) (f14 : (-1) * x4 + 0 ≤ 0) (kz_0_8 : 0 ≤ fault_0 ∧ fault_0 ≤ 5) (kz_0_11 : 0 ≤ pos_0 ∧ pos_0 ≤ 2000) (kz_0_12 : 0 ≤ kind_0 ∧ kind_0 ≤ 4) (kz_0_15 : 0 ≤ from_0 ∧ from_0 ≤ 2000) : (1 ≤ fault_0) ∨ ((kind_0 = 0) ∨ ((x3 + 1) ≤ pos_0)) := by
  first | assumption | (clear f1 f8; omega) | omega | grind
set_option maxHeartbeats 4000000 in
theorem vc_Mo_of_at_s5002_4_4 (x2 : Int) (x3 : Int) (x4 : Int) (x7 : Int) (x9 : Int) (x12 : Int) (x15 : Int) (from_0 : Int) (pos_0 : Int) (kind_0 : Int) (fault_0 : Int) (k2 : 99 ≤ x2 ∧ x2 ≤ 99) (k3 : 0 ≤ x3 ∧ x3 ≤ 2000) (k4 : (-1) ≤ x4 ∧ x4 ≤ 48) (k7 : 99 ≤ x7 ∧ x7 ≤ 99) (k9 : 0 ≤ x9 ∧ x9 ≤ 2000) (k12 : 0 ≤ x12 ∧ x12 ≤ 0) (k15 : 0 ≤ x15 ∧ x15 ≤ 0) (f0 : 1 * from_0 + ((-1) * pos_0 + 0) ≤ 0) (f1 : ((kind_0 = 1) → (pos_0 ≤ (from_0 + 8))) ∧ ((kind_0 = 0) ∨ ((from_0 + 1) ≤ pos_0))) (f2 : 1 * x3 + ((-1) * pos_0 + 0) ≤ (-1)) (f3 : (-1) * x4 + 0 ≤ 0) (f6 : 1 * x9 + (1 * pos_0 + 0) ≤ 2000) (f7 : (-1) * x9 + ((-1) * pos_0 + 0) ≤ (-2000)) (f8 : (x12 = 1) → (kind_0 = 1)) (f9 : (-1) * fault_0 + 0 ≤ (-1)) (f11 : x12 = 0) (f12 : (-1) * x4 + 0 ≤ 0) (f14 : (-1) * x4 + 0 ≤ 0) (kz_0_8 : 0 ≤ fault_0 ∧ fault_0 ≤ 5) (kz_0_11 : 0 ≤ pos_0 ∧ pos_0 ≤ 2000) (kz_0_12 : 0 ≤ kind_0 ∧ kind_0 ≤ 4) (kz_0_15 : 0 ≤ from_0 ∧ from_0 ≤ 2000) : (1 ≤ fault_0) ∨ (0 ≤ x4) := by
  first | assumption | (clear f1 f8; omega) | omega | grind
set_option maxHeartbeats 4000000 in
theorem vc_Mo_of_at_s5002_4_5 (x2 : Int) (x3 : Int) (x4 : Int) (x7 : Int) (x9 : Int) (x12 : Int) (x15 : Int) (from_0 : Int) (pos_0 : Int) (kind_0 : Int) (fault_0 : Int) (k2 : 99 ≤ x2 ∧ x2 ≤ 99) (k3 : 0 ≤ x3 ∧ x3 ≤ 2000) (k4 : (-1) ≤ x4 ∧ x4 ≤ 48) (k7 : 99 ≤ x7 ∧ x7 ≤ 99) (k9 : 0 ≤ x9 ∧ x9 ≤ 2000) (k12 : 0 ≤ x12 ∧ x12 ≤ 0) (k15 : 0 ≤ x15 ∧ x15 ≤ 0) (f0 : 1 * from_0 + ((-1) * pos_0 + 0) ≤ 0) (f1 : ((kind_0 = 1) → (pos_0 ≤ (from_0 + 8))) ∧ ((kind_0 = 0) ∨ ((from_0 + 1) ≤ pos_0))) (f2 : 1 * x3 + ((-1) * pos_0 + 0) ≤ (-1)) (f3 : (-1) * x4 + 0 ≤ 0) (f6 : 1 * x9 + (1 * pos_0 + 0) ≤ 2000) (f7 : (-1) * x9 + ((-1) * pos_0 + 0) ≤ (-2000)) (f8 : (x12 = 1) → (kind_0 = 1)) (f9 : (-1) * fault_0 + 0 ≤ (-1)) (f11 : x12 = 0) (f12 : (-1) * x4 + 0 ≤ 0) (f14 : (-1) * x4 + 0 ≤ 0) (kz_0_8 : 0 ≤ fault_0 ∧ fault_0 ≤ 5) (kz_0_11 : 0 ≤ pos_0 ∧ pos_0 ≤ 2000) (kz_0_12 : 0 ≤ kind_0 ∧ kind_0 ≤ 4) (kz_0_15 : 0 ≤ from_0 ∧ from_0 ≤ 2000) : 1 * x15 + ((-1) * x2 + 0) ≤ 0 := by
  first | assumption | (clear f1 f8; omega) | omega | grind
set_option maxHeartbeats 4000000 in
theorem vc_Mo_of_at_s5002_4_6 (x2 : Int) (x3 : Int) (x4 : Int) (x7 : Int) (x9 : Int) (x12 : Int) (x15 : Int) (from_0 : Int) (pos_0 : Int) (kind_0 : Int) (fault_0 : Int) (k2 : 99 ≤ x2 ∧ x2 ≤ 99) (k3 : 0 ≤ x3 ∧ x3 ≤ 2000) (k4 : (-1) ≤ x4 ∧ x4 ≤ 48) (k7 : 99 ≤ x7 ∧ x7 ≤ 99) (k9 : 0 ≤ x9 ∧ x9 ≤ 2000) (k12 : 0 ≤ x12 ∧ x12 ≤ 0) (k15 : 0 ≤ x15 ∧ x15 ≤ 0) (f0 : 1 * from_0 + ((-1) * pos_0 + 0) ≤ 0) (f1 : ((kind_0 = 1) → (pos_0 ≤ (from_0 + 8))) ∧ ((kind_0 = 0) ∨ ((from_0 + 1) ≤ pos_0))) (f2 : 1 * x3 + ((-1) * pos_0 + 0) ≤ (-1)) (f3 : (-1) * x4 + 0 ≤ 0) (f6 : 1 * x9 + (1 * pos_0 + 0) ≤ 2000) (f7 : (-1) * x9 + ((-1) * pos_0 + 0) ≤ (-2000)) (f8 : (x12 = 1) → (kind_0 = 1)) (f9 : (-1) * fault_0 + 0 ≤ (-1)) (f11 : x12 = 0) (f12 : (-1) * x4 + 0 ≤ 0) (f14 : (-1) * x4 + 0 ≤ 0) (kz_0_8 : 0 ≤ fault_0 ∧ fault_0 ≤ 5) (kz_0_11 : 0 ≤ pos_0 ∧ pos_0 ≤ 2000) (kz_0_12 : 0 ≤ kind_0 ∧ kind_0 ≤ 4) (kz_0_15 : 0 ≤ from_0 ∧ from_0 ≤ 2000) : (-1) * x15 + 0 ≤ 0 := by
  first | assumption | (clear f1 f8; omega) | omega | grind
def o_Mo_of_at_s5002_4 : or_T := (58, 16, [(0, (2, 0, 0, [165])), (2, (0, 99, 99, [])), (3, (0, 0, 2000, [])), (4, (0, -1, 48, [])), (5, (2, 0, 0, [165])), (7, (0, 99, 99, [])), (9, (0, 0, 2000, [])), (12, (0, 0, 0, [])), (15, (0, 0, 0, []))], [(20, [5, 5], [30, 0, 1, 1, 15, -1, 1, 11]), (20, [5], [50, 3, 0, 12, 11, 15, 2, 21, 4, 7, 1, 3, 2, 0, 12, 0, 1, 0, 3, 2, 0, 11, 4, 3, 2, 0, 15, 0, 8, 3, 7, 1, 3, 2, 0, 12, 0, 0, 0, 7, 4, 3, 2, 0, 15, 0, 1, 2, 0, 11]), (20, [3, 5], [30, -1, 1, 0, 0, -1, 1, 11]), (23, [4], [0, -1]), (24, [0, 5], []), (24, [2, 7], []), (20, [9, 5], [30, 2000, 1, 0, 0, 1, 1, 11]), (20, [9, 5], [30, -2000, -1, 0, 0, -1, 1, 11]), (20, [12, 5], [50, 1, 0, 1012, 4, 6, 1, 2, 1, 0, 0, 1, 1, 3, 2, 1, 12, 0, 1]), (20, [5], [30, -1, -1, 1, 8]), (102, [14], [0, 165008, 165009]), (8, [12], [0]), (23, [4], [0, -1]), (102, [11], [0]), (23, [4], [0, -1])], [], [], [(20, [0, 0], [30, 0, 1, 1, 15, -1, 1, 11]), (20, [0], [50, 3, 0, 12, 11, 15, 2, 21, 4, 7, 1, 3, 2, 0, 12, 0, 1, 0, 3, 2, 0, 11, 4, 3, 2, 0, 15, 0, 8, 3, 7, 1, 3, 2, 0, 12, 0, 0, 0, 7, 4, 3, 2, 0, 15, 0, 1, 2, 0, 11]), (20, [3, 0], [30, 0, 1, 0, 0, -1, 1, 11]), (20, [0, 3], [50, 3, 0, 8, 12, 11, 3, 7, 0, 2, 0, 1, 2, 0, 8, 3, 7, 1, 3, 2, 0, 12, 0, 0, 0, 6, 4, 2, 1, 1, 0, 1, 2, 0, 11]), (20, [0, 4], [50, 1, 0, 8, 3, 7, 0, 2, 0, 1, 2, 0, 8, 0, 2, 0, 0, 1, 1]), (20, [15, 2], [30, 0, 1, 0, 0, -1, 0, 0]), (20, [15], [30, 0, -1, 0, 0])], [], [])
theorem oo_Mo_of_at_s5002_4 {kA : Nat → ClassId} : or_ok PRD kA GG o_Mo_of_at_s5002_4 := by
  refine or_mk fun A ta ws vs hD hth hl => ?_
  intro t0 r0 t2 k2 t3 k3 t4 k4 t5 r5 t7 k7 t9 k9 t12 k12 t15 k15 f0 f1 f2 f3 f4 f5 f6 f7 f8 f9 ta1 w1 le1 s1 f11 f12 ta2 w2 le2 s2 f14
  replace f0 := shm_1397 f0
  replace f1 := shm_1398 f1
  replace f2 := shm_1891 f2
  replace f4 := shm_5 f4
  replace f6 := shm_1892 f6
  replace f7 := shm_1893 f7
  replace f8 := shm_1762 f8
  replace f9 := shm_144 f9
  have q5 : n_v vs 5 = n_v vs 0 := f4.symm
  simp only [q5] at f0 f1 f2 f6 f7 f8 f9
  have kz_0_8 := fdq_14 hD hth r0
  have kz_0_11 := fdq_273 hD hth r0
  have kz_0_12 := fdq_186 hD hth r0
  have kz_0_15 := fdq_274 hD hth r0
  have nf0 : fc_1 PRD (20, [0, 0], [30, 0, 1, 1, 15, -1, 1, 11]) ws (vs) := ⟨nf_in hl rfl, sgq_1397 (vc_Mo_of_at_s5002_4_0 (v_iv (n_v vs 2)) (v_iv (n_v vs 3)) (v_iv (n_v vs 4)) (v_iv (n_v vs 7)) (v_iv (n_v vs 9)) (v_iv (n_v vs 12)) (v_iv (n_v vs 15)) (w_fi ws (n_v vs 0) 15) (w_fi ws (n_v vs 0) 11) (w_fi ws (n_v vs 0) 12) (w_fi ws (n_v vs 0) 8) k2 k3 k4 k7 k9 k12 k15 f0 f1 f2 (shm_1013 f3) f6 f7 f8 f9 (shm_210 f11) (shm_1013 f12) (shm_1013 f14) kz_0_8 kz_0_11 kz_0_12 kz_0_15)⟩
  have nf1 : fc_1 PRD (20, [0], [50, 3, 0, 12, 11, 15, 2, 21, 4, 7, 1, 3, 2, 0, 12, 0, 1, 0, 3, 2, 0, 11, 4, 3, 2, 0, 15, 0, 8, 3, 7, 1, 3, 2, 0, 12, 0, 0, 0, 7, 4, 3, 2, 0, 15, 0, 1, 2, 0, 11]) ws (vs) := ⟨nf_in hl rfl, sgq_1398 (vc_Mo_of_at_s5002_4_1 (v_iv (n_v vs 2)) (v_iv (n_v vs 3)) (v_iv (n_v vs 4)) (v_iv (n_v vs 7)) (v_iv (n_v vs 9)) (v_iv (n_v vs 12)) (v_iv (n_v vs 15)) (w_fi ws (n_v vs 0) 15) (w_fi ws (n_v vs 0) 11) (w_fi ws (n_v vs 0) 12) (w_fi ws (n_v vs 0) 8) k2 k3 k4 k7 k9 k12 k15 f0 f1 f2 (shm_1013 f3) f6 f7 f8 f9 (shm_210 f11) (shm_1013 f12) (shm_1013 f14) kz_0_8 kz_0_11 kz_0_12 kz_0_15)⟩
  have nf2 : fc_1 PRD (20, [3, 0], [30, 0, 1, 0, 0, -1, 1, 11]) ws (vs) := ⟨nf_in hl rfl, sgq_1395 (vc_Mo_of_at_s5002_4_2 (v_iv (n_v vs 2)) (v_iv (n_v vs 3)) (v_iv (n_v vs 4)) (v_iv (n_v vs 7)) (v_iv (n_v vs 9)) (v_iv (n_v vs 12)) (v_iv (n_v vs 15)) (w_fi ws (n_v vs 0) 15) (w_fi ws (n_v vs 0) 11) (w_fi ws (n_v vs 0) 12) (w_fi ws (n_v vs 0) 8) k2 k3 k4 k7 k9 k12 k15 f0 f1 f2 (shm_1013 f3) f6 f7 f8 f9 (shm_210 f11) (shm_1013 f12) (shm_1013 f14) kz_0_8 kz_0_11 kz_0_12 kz_0_15)⟩
  have nf3 : fc_1 PRD (20, [0, 3], [50, 3, 0, 8, 12, 11, 3, 7, 0, 2, 0, 1, 2, 0, 8, 3, 7, 1, 3, 2, 0, 12, 0, 0, 0, 6, 4, 2, 1, 1, 0, 1, 2, 0, 11]) ws (vs) := ⟨nf_in hl rfl, sgq_1660 (vc_Mo_of_at_s5002_4_3 (v_iv (n_v vs 2)) (v_iv (n_v vs 3)) (v_iv (n_v vs 4)) (v_iv (n_v vs 7)) (v_iv (n_v vs 9)) (v_iv (n_v vs 12)) (v_iv (n_v vs 15)) (w_fi ws (n_v vs 0) 15) (w_fi ws (n_v vs 0) 11) (w_fi ws (n_v vs 0) 12) (w_fi ws (n_v vs 0) 8) k2 k3 k4 k7 k9 k12 k15 f0 f1 f2 (shm_1013 f3) f6 f7 f8 f9 (shm_210 f11) (shm_1013 f12) (shm_1013 f14) kz_0_8 kz_0_11 kz_0_12 kz_0_15)⟩
  have nf4 : fc_1 PRD (20, [0, 4], [50, 1, 0, 8, 3, 7, 0, 2, 0, 1, 2, 0, 8, 0, 2, 0, 0, 1, 1]) ws (vs) := ⟨nf_in hl rfl, sgq_1889 (vc_Mo_of_at_s5002_4_4 (v_iv (n_v vs 2)) (v_iv (n_v vs 3)) (v_iv (n_v vs 4)) (v_iv (n_v vs 7)) (v_iv (n_v vs 9)) (v_iv (n_v vs 12)) (v_iv (n_v vs 15)) (w_fi ws (n_v vs 0) 15) (w_fi ws (n_v vs 0) 11) (w_fi ws (n_v vs 0) 12) (w_fi ws (n_v vs 0) 8) k2 k3 k4 k7 k9 k12 k15 f0 f1 f2 (shm_1013 f3) f6 f7 f8 f9 (shm_210 f11) (shm_1013 f12) (shm_1013 f14) kz_0_8 kz_0_11 kz_0_12 kz_0_15)⟩
  have nf5 : fc_1 PRD (20, [15, 2], [30, 0, 1, 0, 0, -1, 0, 0]) ws (vs) := ⟨nf_in hl rfl, sgq_219 (vc_Mo_of_at_s5002_4_5 (v_iv (n_v vs 2)) (v_iv (n_v vs 3)) (v_iv (n_v vs 4)) (v_iv (n_v vs 7)) (v_iv (n_v vs 9)) (v_iv (n_v vs 12)) (v_iv (n_v vs 15)) (w_fi ws (n_v vs 0) 15) (w_fi ws (n_v vs 0) 11) (w_fi ws (n_v vs 0) 12) (w_fi ws (n_v vs 0) 8) k2 k3 k4 k7 k9 k12 k15 f0 f1 f2 (shm_1013 f3) f6 f7 f8 f9 (shm_210 f11) (shm_1013 f12) (shm_1013 f14) kz_0_8 kz_0_11 kz_0_12 kz_0_15)⟩
  have nf6 : fc_1 PRD (20, [15], [30, 0, -1, 0, 0]) ws (vs) := ⟨nf_in hl rfl, sgq_1890 (vc_Mo_of_at_s5002_4_6 (v_iv (n_v vs 2)) (v_iv (n_v vs 3)) (v_iv (n_v vs 4)) (v_iv (n_v vs 7)) (v_iv (n_v vs 9)) (v_iv (n_v vs 12)) (v_iv (n_v vs 15)) (w_fi ws (n_v vs 0) 15) (w_fi ws (n_v vs 0) 11) (w_fi ws (n_v vs 0) 12) (w_fi ws (n_v vs 0) 8) k2 k3 k4 k7 k9 k12 k15 f0 f1 f2 (shm_1013 f3) f6 f7 f8 f9 (shm_210 f11) (shm_1013 f12) (shm_1013 f14) kz_0_8 kz_0_11 kz_0_12 kz_0_15)⟩
  refine ⟨(fun _ h => (by cases h)), [], trivial, ?_, (fun _ h => (by cases h))⟩
  rw [List.append_nil]
  exact List.forall_mem_cons.mpr ⟨⟨show (20 : Nat) < 100 from by decide, nf0⟩, List.forall_mem_cons.mpr ⟨⟨show (20 : Nat) < 100 from by decide, nf1⟩, List.forall_mem_cons.mpr ⟨⟨show (20 : Nat) < 100 from by decide, nf2⟩, List.forall_mem_cons.mpr ⟨⟨show (20 : Nat) < 100 from by decide, nf3⟩, List.forall_mem_cons.mpr ⟨⟨show (20 : Nat) < 100 from by decide, nf4⟩, List.forall_mem_cons.mpr ⟨⟨show (20 : Nat) < 100 from by decide, nf5⟩, List.forall_mem_cons.mpr ⟨⟨show (20 : Nat) < 100 from by decide, nf6⟩, (fun _ h => (by cases h))⟩⟩⟩⟩⟩⟩⟩
set_option maxHeartbeats 4000000 in
theorem vc_Mo_of_at_s5002_5_0 (x2 : Int) (x3 : Int) (x7 : Int) (x9 : Int) (x12 : Int) (from_0 : Int) (pos_0 : Int) (kind_0 : Int) (gx : Int) (k2 : 99 ≤ x2 ∧ x2 ≤ 99) (k3 : 0 ≤ x3 ∧ x3 ≤ 2000) (k7 : 99 ≤ x7 ∧ x7 ≤ 99) (k9 : 0 ≤ x9 ∧ x9 ≤ 2000) (k12 : 1 ≤ x12 ∧ x12 ≤ 1) (f0 : x12 ≠ 0) (f1 : 1 * from_0 + ((-1) * pos_0 + 0) ≤ 0) (f2 : ((kind_0 = 1) → (pos_0 ≤ (from_0 + 8))) ∧ ((kind_0 = 0) ∨ ((from_0 + 1) ≤ pos_0))) (f3 : 1 * x3 + ((-1) * pos_0 + 0) ≤ (-1)) (f6 : 1 * x9 + (1 * pos_0 + 0) ≤ 2000) (f7 : (-1) * x9 + ((-1) * pos_0 + 0) ≤ (-2000)) (f8 : (x12 = 1) → (kind_0 = 1)) (kz_0_11 : 0 ≤ pos_0 ∧ pos_0 ≤ 2000) (kz_0_12 : 0 ≤ kind_0 ∧ kind_0 ≤ 4) (kz_0_15 : 0 ≤ from_0 ∧ from_0 ≤ 2000) (ex2 : gx = pos_0) (ex3 : 0 ≤ gx ∧ gx ≤ 2000) : 1 * gx + ((-1) * pos_0 + 0) ≤ 0 := by
  first | assumption | (clear f2 f8; omega) | omega | grind
set_option maxHeartbeats 4000000 in
theorem vc_Mo_of_at_s5002_5_1 (x2 : Int) (x3 : Int) (x7 : Int) (x9 : Int) (x12 : Int) (from_0 : Int) (pos_0 : Int) (kind_0 : Int) (gx : Int) (k2 : 99 ≤ x2 ∧ x2 ≤ 99) (k3 : 0 ≤ x3 ∧ x3 ≤ 2000) (k7 : 99 ≤ x7 ∧ x7 ≤ 99) (k9 : 0 ≤ x9 ∧ x9 ≤ 2000) (k12 : 1 ≤ x12 ∧ x12 ≤ 1) (f0 : x12 ≠ 0) (f1 : 1 * from_0 + ((-1) * pos_0 + 0) ≤ 0) (f2 : ((kind_0 = 1) → (pos_0 ≤ (from_0 + 8))) ∧ ((kind_0 = 0) ∨ ((from_0 + 1) ≤ pos_0))) (f3 : 1 * x3 + ((-1) * pos_0 + 0) ≤ (-1)) (f6 : 1 * x9 + (1 * pos_0 + 0) ≤ 2000) (f7 : (-1) * x9 + ((-1) * pos_0 + 0) ≤ (-2000)) (f8 : (x12 = 1) → (kind_0 = 1)) (kz_0_11 : 0 ≤ pos_0 ∧ pos_0 ≤ 2000) (kz_0_12 : 0 ≤ kind_0 ∧ kind_0 ≤ 4) (kz_0_15 : 0 ≤ from_0 ∧ from_0 ≤ 2000) (ex2 : gx = pos_0) (ex3 : 0 ≤ gx ∧ gx ≤ 2000) : 1 * x3 + ((-1) * gx + 0) ≤ (-1) := by
  first | assumption | (clear f2 f8; omega) | omega | grind
set_option maxHeartbeats 4000000 in
theorem vc_Mo_of_at_s5002_5_2 (x2 : Int) (x3 : Int) (x7 : Int) (x9 : Int) (x12 : Int) (from_0 : Int) (pos_0 : Int) (kind_0 : Int) (gx : Int) (k2 : 99 ≤ x2 ∧ x2 ≤ 99) (k3 : 0 ≤ x3 ∧ x3 ≤ 2000) (k7 : 99 ≤ x7 ∧ x7 ≤ 99) (k9 : 0 ≤ x9 ∧ x9 ≤ 2000) (k12 : 1 ≤ x12 ∧ x12 ≤ 1) (f0 : x12 ≠ 0) (f1 : 1 * from_0 + ((-1) * pos_0 + 0) ≤ 0) (f2 : ((kind_0 = 1) → (pos_0 ≤ (from_0 + 8))) ∧ ((kind_0 = 0) ∨ ((from_0 + 1) ≤ pos_0))) (f3 : 1 * x3 + ((-1) * pos_0 + 0) ≤ (-1)) (f6 : 1 * x9 + (1 * pos_0 + 0) ≤ 2000) (f7 : (-1) * x9 + ((-1) * pos_0 + 0) ≤ (-2000)) (f8 : (x12 = 1) → (kind_0 = 1)) (kz_0_11 : 0 ≤ pos_0 ∧ pos_0 ≤ 2000) (kz_0_12 : 0 ≤ kind_0 ∧ kind_0 ≤ 4) (kz_0_15 : 0 ≤ from_0 ∧ from_0 ≤ 2000) (ex2 : gx = pos_0) (ex3 : 0 ≤ gx ∧ gx ≤ 2000) : (-1) * x9 + ((-1) * gx + 0) ≤ (-2000) := by
  first | assumption | (clear f2 f8; omega) | omega | grind
def o_Mo_of_at_s5002_5 : or_T := (60, 13, [(0, (2, 0, 0, [165])), (2, (0, 99, 99, [])), (3, (0, 0, 2000, [])), (7, (0, 99, 99, [])), (9, (0, 0, 2000, [])), (12, (0, 1, 1, []))], [(8, [12], [1]), (20, [5, 5], [30, 0, 1, 1, 15, -1, 1, 11]), (20, [5], [50, 3, 0, 12, 11, 15, 2, 21, 4, 7, 1, 3, 2, 0, 12, 0, 1, 0, 3, 2, 0, 11, 4, 3, 2, 0, 15, 0, 8, 3, 7, 1, 3, 2, 0, 12, 0, 0, 0, 7, 4, 3, 2, 0, 15, 0, 1, 2, 0, 11]), (20, [3, 5], [30, -1, 1, 0, 0, -1, 1, 11]), (24, [0, 5], []), (20, [9, 5], [30, 2000, 1, 0, 0, 1, 1, 11]), (20, [9, 5], [30, -2000, -1, 0, 0, -1, 1, 11]), (20, [12, 5], [50, 1, 0, 1012, 4, 6, 1, 2, 1, 0, 0, 1, 1, 3, 2, 1, 12, 0, 1])], [], [(0, 0, 2000, [])], [(20, [13, 5], [30, 0, 1, 0, 0, -1, 1, 11]), (23, [3, 13], [-1, 1, -1]), (23, [9, 13], [-2000, -1, -1])], [], [])
theorem oo_Mo_of_at_s5002_5 {kA : Nat → ClassId} : or_ok PRD kA GG o_Mo_of_at_s5002_5 := by
  refine or_mk fun A ta ws vs hD hth hl => ?_
  intro t0 r0 t2 k2 t3 k3 t7 k7 t9 k9 t12 k12 f0 f1 f2 f3 f4 f6 f7 f8
  replace f0 := shm_154 f0
  replace f1 := shm_1397 f1
  replace f2 := shm_1398 f2
  replace f3 := shm_1891 f3
  replace f4 := shm_5 f4
  replace f6 := shm_1892 f6
  replace f7 := shm_1893 f7
  replace f8 := shm_1762 f8
  have q5 : n_v vs 5 = n_v vs 0 := f4.symm
  simp only [q5] at f1 f2 f3 f6 f7 f8
  have kz_0_11 := fdq_273 hD hth r0
  have kz_0_12 := fdq_186 hD hth r0
  have kz_0_15 := fdq_274 hD hth r0
  obtain ⟨x, ex, hx⟩ := iv_ex (ta := ta) (lo := 0) (hi := 2000) (z := w_fi ws (n_v vs 0) 11) (by omega) (by omega) (by omega) (by omega)
  have ex2 : v_iv (Value.int x) = w_fi ws (n_v vs 0) 11 := ex
  have ex3 : 0 ≤ v_iv (Value.int x) ∧ v_iv (Value.int x) ≤ 2000 := tv_rng hx
  have e_3 : n_v (vs ++ [Value.int x]) 3 = n_v vs 3 := n_v_old (by rw [hl]; decide)
  have e_5 : n_v (vs ++ [Value.int x]) 5 = n_v vs 5 := n_v_old (by rw [hl]; decide)
  have e_9 : n_v (vs ++ [Value.int x]) 9 = n_v vs 9 := n_v_old (by rw [hl]; decide)
  have e_13 : n_v (vs ++ [Value.int x]) 13 = Value.int x := n_v_new hl
  have nf0 : fc_1 PRD (20, [13, 5], [30, 0, 1, 0, 0, -1, 1, 11]) ws (vs ++ [Value.int x]) := by
    refine ⟨nf_inA hl rfl, sgq_1395 ?_⟩
    · show 1 * v_iv (n_v (vs ++ [Value.int x]) 13) + ((-1) * w_fi ws (n_v (vs ++ [Value.int x]) 5) 11 + 0) ≤ 0
      simp only [e_5, e_13, q5]
      exact vc_Mo_of_at_s5002_5_0 (v_iv (n_v vs 2)) (v_iv (n_v vs 3)) (v_iv (n_v vs 7)) (v_iv (n_v vs 9)) (v_iv (n_v vs 12)) (w_fi ws (n_v vs 0) 15) (w_fi ws (n_v vs 0) 11) (w_fi ws (n_v vs 0) 12) (v_iv (Value.int x)) k2 k3 k7 k9 k12 f0 f1 f2 f3 f6 f7 f8 kz_0_11 kz_0_12 kz_0_15 ex2 ex3
  have nf1 : fc_1 PRD (23, [3, 13], [-1, 1, -1]) ws (vs ++ [Value.int x]) := by
    refine ⟨nf_inA hl rfl, sgq_211 ?_⟩
    · show 1 * v_iv (n_v (vs ++ [Value.int x]) 3) + ((-1) * v_iv (n_v (vs ++ [Value.int x]) 13) + 0) ≤ (-1)
      simp only [e_3, e_13]
      exact vc_Mo_of_at_s5002_5_1 (v_iv (n_v vs 2)) (v_iv (n_v vs 3)) (v_iv (n_v vs 7)) (v_iv (n_v vs 9)) (v_iv (n_v vs 12)) (w_fi ws (n_v vs 0) 15) (w_fi ws (n_v vs 0) 11) (w_fi ws (n_v vs 0) 12) (v_iv (Value.int x)) k2 k3 k7 k9 k12 f0 f1 f2 f3 f6 f7 f8 kz_0_11 kz_0_12 kz_0_15 ex2 ex3
  have nf2 : fc_1 PRD (23, [9, 13], [-2000, -1, -1]) ws (vs ++ [Value.int x]) := by
    refine ⟨nf_inA hl rfl, sgq_1894 ?_⟩
    · show (-1) * v_iv (n_v (vs ++ [Value.int x]) 9) + ((-1) * v_iv (n_v (vs ++ [Value.int x]) 13) + 0) ≤ (-2000)
      simp only [e_9, e_13]
      exact vc_Mo_of_at_s5002_5_2 (v_iv (n_v vs 2)) (v_iv (n_v vs 3)) (v_iv (n_v vs 7)) (v_iv (n_v vs 9)) (v_iv (n_v vs 12)) (w_fi ws (n_v vs 0) 15) (w_fi ws (n_v vs 0) 11) (w_fi ws (n_v vs 0) 12) (v_iv (Value.int x)) k2 k3 k7 k9 k12 f0 f1 f2 f3 f6 f7 f8 kz_0_11 kz_0_12 kz_0_15 ex2 ex3
  exact ⟨(fun _ h => (by cases h)), [Value.int x], ag_one hx, List.forall_mem_cons.mpr ⟨⟨show (20 : Nat) < 100 from by decide, nf0⟩, List.forall_mem_cons.mpr ⟨⟨show (23 : Nat) < 100 from by decide, nf1⟩, List.forall_mem_cons.mpr ⟨⟨show (23 : Nat) < 100 from by decide, nf2⟩, (fun _ h => (by cases h))⟩⟩⟩, (fun _ h => (by cases h))⟩
set_option maxHeartbeats 4000000 in
theorem vc_Mo_of_at_s5002_6_0 (x2 : Int) (x3 : Int) (x7 : Int) (x9 : Int) (x13 : Int) (from_0 : Int) (pos_0 : Int) (kind_0 : Int) (fault_0 : Int) (gx : Int) (k2 : 99 ≤ x2 ∧ x2 ≤ 99) (k3 : 0 ≤ x3 ∧ x3 ≤ 2000) (k7 : 99 ≤ x7 ∧ x7 ≤ 99) (k9 : 0 ≤ x9 ∧ x9 ≤ 2000) (k13 : 0 ≤ x13 ∧ x13 ≤ 2000) (f0 : 1 * x3 + ((-1) * x13 + 0) ≤ (-1)) (f1 : (-1) * x9 + ((-1) * x13 + 0) ≤ (-2000)) (f4 : 1 * from_0 + ((-1) * pos_0 + 0) ≤ 0) (f5 : ((kind_0 = 1) → (pos_0 ≤ (from_0 + 8))) ∧ ((kind_0 = 0) ∨ ((from_0 + 1) ≤ pos_0))) (f6 : 1 * x13 + ((-1) * from_0 + 0) ≤ 0) (f8 : 1 * x3 + ((-1) * x13 + 0) ≤ (-1)) (f9 : (-1) * x9 + ((-1) * x13 + 0) ≤ (-2000)) (kz_0_8 : 0 ≤ fault_0 ∧ fault_0 ≤ 5) (kz_0_11 : 0 ≤ pos_0 ∧ pos_0 ≤ 2000) (kz_0_12 : 0 ≤ kind_0 ∧ kind_0 ≤ 4) (kz_0_15 : 0 ≤ from_0 ∧ from_0 ≤ 2000) (ex2 : gx = x13) (ex3 : 0 ≤ gx ∧ gx ≤ 2000) : 1 * gx + ((-1) * x13 + 0) ≤ 0 := by
  first | assumption | (clear f5; omega) | omega | grind
set_option maxHeartbeats 4000000 in
theorem vc_Mo_of_at_s5002_6_1 (x2 : Int) (x3 : Int) (x7 : Int) (x9 : Int) (x13 : Int) (from_0 : Int) (pos_0 : Int) (kind_0 : Int) (fault_0 : Int) (gx : Int) (k2 : 99 ≤ x2 ∧ x2 ≤ 99) (k3 : 0 ≤ x3 ∧ x3 ≤ 2000) (k7 : 99 ≤ x7 ∧ x7 ≤ 99) (k9 : 0 ≤ x9 ∧ x9 ≤ 2000) (k13 : 0 ≤ x13 ∧ x13 ≤ 2000) (f0 : 1 * x3 + ((-1) * x13 + 0) ≤ (-1)) (f1 : (-1) * x9 + ((-1) * x13 + 0) ≤ (-2000)) (f4 : 1 * from_0 + ((-1) * pos_0 + 0) ≤ 0) (f5 : ((kind_0 = 1) → (pos_0 ≤ (from_0 + 8))) ∧ ((kind_0 = 0) ∨ ((from_0 + 1) ≤ pos_0))) (f6 : 1 * x13 + ((-1) * from_0 + 0) ≤ 0) (f8 : 1 * x3 + ((-1) * x13 + 0) ≤ (-1)) (f9 : (-1) * x9 + ((-1) * x13 + 0) ≤ (-2000)) (kz_0_8 : 0 ≤ fault_0 ∧ fault_0 ≤ 5) (kz_0_11 : 0 ≤ pos_0 ∧ pos_0 ≤ 2000) (kz_0_12 : 0 ≤ kind_0 ∧ kind_0 ≤ 4) (kz_0_15 : 0 ≤ from_0 ∧ from_0 ≤ 2000) (ex2 : gx = x13) (ex3 : 0 ≤ gx ∧ gx ≤ 2000) : (-1) * gx + (1 * x13 + 0) ≤ 0 := by
  first | assumption | (clear f5; omega) | omega | grind
set_option maxHeartbeats 4000000 in
theorem vc_Mo_of_at_s5002_6_2 (x2 : Int) (x3 : Int) (x7 : Int) (x9 : Int) (x13 : Int) (from_0 : Int) (pos_0 : Int) (kind_0 : Int) (fault_0 : Int) (gx : Int) (k2 : 99 ≤ x2 ∧ x2 ≤ 99) (k3 : 0 ≤ x3 ∧ x3 ≤ 2000) (k7 : 99 ≤ x7 ∧ x7 ≤ 99) (k9 : 0 ≤ x9 ∧ x9 ≤ 2000) (k13 : 0 ≤ x13 ∧ x13 ≤ 2000) (f0 : 1 * x3 + ((-1) * x13 + 0) ≤ (-1)) (f1 : (-1) * x9 + ((-1) * x13 + 0) ≤ (-2000)) (f4 : 1 * from_0 + ((-1) * pos_0 + 0) ≤ 0) (f5 : ((kind_0 = 1) → (pos_0 ≤ (from_0 + 8))) ∧ ((kind_0 = 0) ∨ ((from_0 + 1) ≤ pos_0))) (f6 : 1 * x13 + ((-1) * from_0 + 0) ≤ 0) (f8 : 1 * x3 + ((-1) * x13 + 0) ≤ (-1)) (f9 : (-1) * x9 + ((-1) * x13 + 0) ≤ (-2000)) (kz_0_8 : 0 ≤ fault_0 ∧ fault_0 ≤ 5) (kz_0_11 : 0 ≤ pos_0 ∧ pos_0 ≤ 2000) (kz_0_12 : 0 ≤ kind_0 ∧ kind_0 ≤ 4) (kz_0_15 : 0 ≤ from_0 ∧ from_0 ≤ 2000) (ex2 : gx = x13) (ex3 : 0 ≤ gx ∧ gx ≤ 2000) : 1 * from_0 + ((-1) * pos_0 + 0) ≤ 0 := by
  first | assumption | (clear f5; omega) | omega | grind
set_option maxHeartbeats 4000000 in
theorem vc_Mo_of_at_s5002_6_3 (x2 : Int) (x3 : Int) (x7 : Int) (x9 : Int) (x13 : Int) (from_0 : Int) (pos_0 : Int) (kind_0 : Int) (fault_0 : Int) (gx : Int) (k2 : 99 ≤ x2 ∧ x2 ≤ 99) (k3 : 0 ≤ x3 ∧ x3 ≤ 2000) (k7 : 99 ≤ x7 ∧ x7 ≤ 99) (k9 : 0 ≤ x9 ∧ x9 ≤ 2000) (k13 : 0 ≤ x13 ∧ x13 ≤ 2000) (f0 : 1 * x3 + ((-1) * x13 + 0) ≤ (-1)) (f1 : (-1) * x9 + ((-1) * x13 + 0) ≤ (-2000)) (f4 : 1 * from_0 + ((-1) * pos_0 + 0) ≤ 0) (f5 : ((kind_0 = 1) → (pos_0 ≤ (from_0 + 8))) ∧ ((kind_0 = 0) ∨ ((from_0 + 1) ≤ pos_0))) (f6 : 1 * x13 + ((-1) * from_0 + 0) ≤ 0) (f8 : 1 * x3 + ((-1) * x13 + 0) ≤ (-1)) (f9 : (-1) * x9 + ((-1) * x13 + 0) ≤ (-2000)) (kz_0_8 : 0 ≤ fault_0 ∧ fault_0 ≤ 5) (kz_0_11 : 0 ≤ pos_0 ∧ pos_0 ≤ 2000) (kz_0_12 : 0 ≤ kind_0 ∧ kind_0 ≤ 4) (kz_0_15 : 0 ≤ from_0 ∧ from_0 ≤ 2000) (ex2 : gx = x13) (ex3 : 0 ≤ gx ∧ gx ≤ 2000) : ((kind_0 = 1) → (pos_0 ≤ (from_0 + 8))) ∧ ((kind_0 = 0) ∨ ((from_0 + 1) ≤ pos_0)) := by
  first | assumption | (clear f5; omega) | omega | grind
set_option maxHeartbeats 4000000 in
theorem vc_Mo_of_at_s5002_6_4 (x2 : Int) (x3 : Int) (x7 : Int) (x9 : Int) (x13 : Int) (from_0 : Int) (pos_0 : Int) (kind_0 : Int) (fault_0 : Int) (gx : Int) (k2 : 99 ≤ x2 ∧ x2 ≤ 99) (k3 : 0 ≤ x3 ∧ x3 ≤ 2000) (k7 : 99 ≤ x7 ∧ x7 ≤ 99) (k9 : 0 ≤ x9 ∧ x9 ≤ 2000) (k13 : 0 ≤ x13 ∧ x13 ≤ 2000) (f0 : 1 * x3 + ((-1) * x13 + 0) ≤ (-1)) (f1 : (-1) * x9 + ((-1) * x13 + 0) ≤ (-2000)) (f4 : 1 * from_0 + ((-1) * pos_0 + 0) ≤ 0) (f5 : ((kind_0 = 1) → (pos_0 ≤ (from_0 + 8))) ∧ ((kind_0 = 0) ∨ ((from_0 + 1) ≤ pos_0))) (f6 : 1 * x13 + ((-1) * from_0 + 0) ≤ 0) (f8 : 1 * x3 + ((-1) * x13 + 0) ≤ (-1)) (f9 : (-1) * x9 + ((-1) * x13 + 0) ≤ (-2000)) (kz_0_8 : 0 ≤ fault_0 ∧ fault_0 ≤ 5) (kz_0_11 : 0 ≤ pos_0 ∧ pos_0 ≤ 2000) (kz_0_12 : 0 ≤ kind_0 ∧ kind_0 ≤ 4) (kz_0_15 : 0 ≤ from_0 ∧ from_0 ≤ 2000) (ex2 : gx = x13) (ex3 : 0 ≤ gx ∧ gx ≤ 2000) : 1 * gx + ((-1) * pos_0 + 0) ≤ 0 := by
  first | assumption | (clear f5; omega) | omega | grind
set_option maxHeartbeats 4000000 in
theorem vc_Mo_of_at_s5002_6_5 (x2 : Int) (x3 : Int) (x7 : Int) (x9 : Int) (x13 : Int) (from_0 : Int) (pos_0 : Int) (kind_0 : Int) (fault_0 : Int) (gx : Int) (k2 : 99 ≤ x2 ∧ x2 ≤ 99) (k3 : 0 ≤ x3 ∧ x3 ≤ 2000) (k7 : 99 ≤ x7 ∧ x7 ≤ 99) (k9 : 0 ≤ x9 ∧ x9 ≤ 2000) (k13 : 0 ≤ x13 ∧ x13 ≤ 2000) (f0 : 1 * x3 + ((-1) * x13 + 0) ≤ (-1)) (f1 : (-1) * x9 + ((-1) * x13 + 0) ≤ (-2000)) (f4 : 1 * from_0 + ((-1) * pos_0 + 0) ≤ 0) (f5 : ((kind_0 = 1) → (pos_0 ≤ (from_0 + 8))) ∧ ((kind_0 = 0) ∨ ((from_0 + 1) ≤ pos_0))) (f6 : 1 * x13 + ((-1) * from_0 + 0) ≤ 0) (f8 : 1 * x3 + ((-1) * x13 + 0) ≤ (-1)) (f9 : (-1) * x9 + ((-1) * x13 + 0) ≤ (-2000)) (kz_0_8 : 0 ≤ fault_0 ∧ fault_0 ≤ 5) (kz_0_11 : 0 ≤ pos_0 ∧ pos_0 ≤ 2000) (kz_0_12 : 0 ≤ kind_0 ∧ kind_0 ≤ 4) (kz_0_15 : 0 ≤ from_0 ∧ from_0 ≤ 2000) (ex2 : gx = x13) (ex3 : 0 ≤ gx ∧ gx ≤ 2000) : (1 ≤ fault_0) ∨ ((kind_0 = 0) ∨ ((gx + 1) ≤ pos_0)) := by
  first | assumption | (clear f5; omega) | omega | grind
set_option maxHeartbeats 4000000 in
theorem vc_Mo_of_at_s5002_6_6 (x2 : Int) (x3 : Int) (x7 : Int) (x9 : Int) (x13 : Int) (from_0 : Int) (pos_0 : Int) (kind_0 : Int) (fault_0 : Int) (gx : Int) (k2 : 99 ≤ x2 ∧ x2 ≤ 99) (k3 : 0 ≤ x3 ∧ x3 ≤ 2000) (k7 : 99 ≤ x7 ∧ x7 ≤ 99) (k9 : 0 ≤ x9 ∧ x9 ≤ 2000) (k13 : 0 ≤ x13 ∧ x13 ≤ 2000) (f0 : 1 * x3 + ((-1) * x13 + 0) ≤ (-1)) (f1 : (-1) * x9 + ((-1) * x13 + 0) ≤ (-2000)) (f4 : 1 * from_0 + ((-1) * pos_0 + 0) ≤ 0) (f5 : ((kind_0 = 1) → (pos_0 ≤ (from_0 + 8))) ∧ ((kind_0 = 0) ∨ ((from_0 + 1) ≤ pos_0))) (f6 : 1 * x13 + ((-1) * from_0 + 0) ≤ 0) (f8 : 1 * x3 + ((-1) * x13 + 0) ≤ (-1)) (f9 : (-1) * x9 + ((-1) * x13 + 0) ≤ (-2000)) (kz_0_8 : 0 ≤ fault_0 ∧ fault_0 ≤ 5) (kz_0_11 : 0 ≤ pos_0 ∧ pos_0 ≤ 2000) (kz_0_12 : 0 ≤ kind_0 ∧ kind_0 ≤ 4) (kz_0_15 : 0 ≤ from_0 ∧ from_0 ≤ 2000) (ex2 : gx = x13) (ex3 : 0 ≤ gx ∧ gx ≤ 2000) : 1 * x3 + ((-1) * gx + 0) ≤ (-1) := by
  first | assumption | (clear f5; omega) | omega | grind
set_option maxHeartbeats 4000000 in
theorem vc_Mo_of_at_s5002_6_7 (x2 : Int) (x3 : Int) (x7 : Int) (x9 : Int) (x13 : Int) (from_0 : Int) (pos_0 : Int) (kind_0 : Int) (fault_0 : Int) (gx : Int) (k2 : 99 ≤ x2 ∧ x2 ≤ 99) (k3 : 0 ≤ x3 ∧ x3 ≤ 2000) (k7 : 99 ≤ x7 ∧ x7 ≤ 99) (k9 : 0 ≤ x9 ∧ x9 ≤ 2000) (k13 : 0 ≤ x13 ∧ x13 ≤ 2000) (f0 : 1 * x3 + ((-1) * x13 + 0) ≤ (-1)) (f1 : (-1) * x9 + ((-1) * x13 + 0) ≤ (-2000)) (f4 : 1 * from_0 + ((-1) * pos_0 + 0) ≤ 0) (f5 : ((kind_0 = 1) → (pos_0 ≤ (from_0 + 8))) ∧ ((kind_0 = 0) ∨ ((from_0 + 1) ≤ pos_0))) (f6 : 1 * x13 + ((-1) * from_0 + 0) ≤ 0) (f8 : 1 * x3 + ((-1) * x13 + 0) ≤ (-1)) (f9 : (-1) * x9 + ((-1) * x13 + 0) ≤ (-2000)) (kz_0_8 : 0 ≤ fault_0 ∧ fault_0 ≤ 5) (kz_0_11 : 0 ≤ pos_0 ∧ pos_0 ≤ 2000) (kz_0_12 : 0 ≤ kind_0 ∧ kind_0 ≤ 4) (kz_0_15 : 0 ≤ from_0 ∧ from_0 ≤ 2000) (ex2 : gx = x13) (ex3 : 0 ≤ gx ∧ gx ≤ 2000) : (-1) * x9 + ((-1) * gx + 0) ≤ (-2000) := by
  first | assumption | (clear f5; omega) | omega | grind
def o_Mo_of_at_s5002_6 : or_T := (66, 15, [(0, (2, 0, 0, [165])), (2, (0, 99, 99, [])), (3, (0, 0, 2000, [])), (7, (0, 99, 99, [])), (9, (0, 0, 2000, [])), (13, (0, 0, 2000, []))], [(23, [3, 13], [-1, 1, -1]), (23, [9, 13], [-2000, -1, -1]), (24, [0, 5], []), (20, [5, 5], [30, 0, 1, 1, 15, -1, 1, 11]), (20, [5], [50, 3, 0, 12, 11, 15, 2, 21, 4, 7, 1, 3, 2, 0, 12, 0, 1, 0, 3, 2, 0, 11, 4, 3, 2, 0, 15, 0, 8, 3, 7, 1, 3, 2, 0, 12, 0, 0, 0, 7, 4, 3, 2, 0, 15, 0, 1, 2, 0, 11]), (20, [13, 5], [30, 0, 1, 0, 0, -1, 1, 15]), (102, [13], [0, 165011, 165012, 165013, 165014, 165015]), (23, [3, 13], [-1, 1, -1]), (23, [9, 13], [-2000, -1, -1])], [], [(0, 0, 2000, [])], [(23, [15, 13], [0, 1, -1]), (23, [15, 13], [0, -1, 1]), (20, [5, 5], [30, 0, 1, 1, 15, -1, 1, 11]), (20, [5], [50, 3, 0, 12, 11, 15, 2, 21, 4, 7, 1, 3, 2, 0, 12, 0, 1, 0, 3, 2, 0, 11, 4, 3, 2, 0, 15, 0, 8, 3, 7, 1, 3, 2, 0, 12, 0, 0, 0, 7, 4, 3, 2, 0, 15, 0, 1, 2, 0, 11]), (20, [15, 5], [30, 0, 1, 0, 0, -1, 1, 11]), (20, [5, 15], [50, 3, 0, 8, 12, 11, 3, 7, 0, 2, 0, 1, 2, 0, 8, 3, 7, 1, 3, 2, 0, 12, 0, 0, 0, 6, 4, 2, 1, 1, 0, 1, 2, 0, 11]), (23, [3, 15], [-1, 1, -1]), (23, [9, 15], [-2000, -1, -1])], [], [])
theorem oo_Mo_of_at_s5002_6 {kA : Nat → ClassId} : or_ok PRD kA GG o_Mo_of_at_s5002_6 := by
  refine or_mk fun A ta ws vs hD hth hl => ?_
  intro t0 r0 t2 k2 t3 k3 t7 k7 t9 k9 t13 k13 f0 f1 f2 f4 f5 f6 ta1 w1 le1 s1 f8 f9
  replace f0 := shm_211 f0
  replace f1 := shm_1894 f1
  replace f2 := shm_5 f2
  replace f4 := shm_1397 f4
  replace f5 := shm_1398 f5
  replace f6 := shm_1396 f6
  replace f8 := shm_211 f8
  replace f9 := shm_1894 f9
  have q5 : n_v vs 5 = n_v vs 0 := f2.symm
  simp only [q5] at f4 f5 f6
  have kz_0_8 := fdq_14 hD hth r0
  have kz_0_11 := fdq_273 hD hth r0
  have kz_0_12 := fdq_186 hD hth r0
  have kz_0_15 := fdq_274 hD hth r0
  obtain ⟨x, ex, hx⟩ := iv_ex (ta := ta) (lo := 0) (hi := 2000) (z := v_iv (n_v vs 13)) (by omega) (by omega) (by omega) (by omega)
  have ex2 : v_iv (Value.int x) = v_iv (n_v vs 13) := ex
  have ex3 : 0 ≤ v_iv (Value.int x) ∧ v_iv (Value.int x) ≤ 2000 := tv_rng hx
  have e_3 : n_v (vs ++ [Value.int x]) 3 = n_v vs 3 := n_v_old (by rw [hl]; decide)
  have e_5 : n_v (vs ++ [Value.int x]) 5 = n_v vs 5 := n_v_old (by rw [hl]; decide)
  have e_9 : n_v (vs ++ [Value.int x]) 9 = n_v vs 9 := n_v_old (by rw [hl]; decide)
  have e_13 : n_v (vs ++ [Value.int x]) 13 = n_v vs 13 := n_v_old (by rw [hl]; decide)
  have e_15 : n_v (vs ++ [Value.int x]) 15 = Value.int x := n_v_new hl
  have nf0 : fc_1 PRD (23, [15, 13], [0, 1, -1]) ws (vs ++ [Value.int x]) := by
    refine ⟨nf_inA hl rfl, sgq_7 ?_⟩
    · show 1 * v_iv (n_v (vs ++ [Value.int x]) 15) + ((-1) * v_iv (n_v (vs ++ [Value.int x]) 13) + 0) ≤ 0
      simp only [e_13, e_15]
      exact vc_Mo_of_at_s5002_6_0 (v_iv (n_v vs 2)) (v_iv (n_v vs 3)) (v_iv (n_v vs 7)) (v_iv (n_v vs 9)) (v_iv (n_v vs 13)) (w_fi ws (n_v vs 0) 15) (w_fi ws (n_v vs 0) 11) (w_fi ws (n_v vs 0) 12) (w_fi ws (n_v vs 0) 8) (v_iv (Value.int x)) k2 k3 k7 k9 k13 f0 f1 f4 f5 f6 f8 f9 kz_0_8 kz_0_11 kz_0_12 kz_0_15 ex2 ex3
  have nf1 : fc_1 PRD (23, [15, 13], [0, -1, 1]) ws (vs ++ [Value.int x]) := by
    refine ⟨nf_inA hl rfl, sgq_22 ?_⟩
    · show (-1) * v_iv (n_v (vs ++ [Value.int x]) 15) + (1 * v_iv (n_v (vs ++ [Value.int x]) 13) + 0) ≤ 0
      simp only [e_13, e_15]
      exact vc_Mo_of_at_s5002_6_1 (v_iv (n_v vs 2)) (v_iv (n_v vs 3)) (v_iv (n_v vs 7)) (v_iv (n_v vs 9)) (v_iv (n_v vs 13)) (w_fi ws (n_v vs 0) 15) (w_fi ws (n_v vs 0) 11) (w_fi ws (n_v vs 0) 12) (w_fi ws (n_v vs 0) 8) (v_iv (Value.int x)) k2 k3 k7 k9 k13 f0 f1 f4 f5 f6 f8 f9 kz_0_8 kz_0_11 kz_0_12 kz_0_15 ex2 ex3
  have nf2 : fc_1 PRD (20, [5, 5], [30, 0, 1, 1, 15, -1, 1, 11]) ws (vs ++ [Value.int x]) := by
    refine ⟨nf_inA hl rfl, sgq_1397 ?_⟩
    · show 1 * w_fi ws (n_v (vs ++ [Value.int x]) 5) 15 + ((-1) * w_fi ws (n_v (vs ++ [Value.int x]) 5) 11 + 0) ≤ 0
      simp only [e_5, q5]
      exact vc_Mo_of_at_s5002_6_2 (v_iv (n_v vs 2)) (v_iv (n_v vs 3)) (v_iv (n_v vs 7)) (v_iv (n_v vs 9)) (v_iv (n_v vs 13)) (w_fi ws (n_v vs 0) 15) (w_fi ws (n_v vs 0) 11) (w_fi ws (n_v vs 0) 12) (w_fi ws (n_v vs 0) 8) (v_iv (Value.int x)) k2 k3 k7 k9 k13 f0 f1 f4 f5 f6 f8 f9 kz_0_8 kz_0_11 kz_0_12 kz_0_15 ex2 ex3
  have nf3 : fc_1 PRD (20, [5], [50, 3, 0, 12, 11, 15, 2, 21, 4, 7, 1, 3, 2, 0, 12, 0, 1, 0, 3, 2, 0, 11, 4, 3, 2, 0, 15, 0, 8, 3, 7, 1, 3, 2, 0, 12, 0, 0, 0, 7, 4, 3, 2, 0, 15, 0, 1, 2, 0, 11]) ws (vs ++ [Value.int x]) := by
    refine ⟨nf_inA hl rfl, sgq_1398 ?_⟩
    · show ((w_fi ws (n_v (vs ++ [Value.int x]) 5) 12 = 1) → (w_fi ws (n_v (vs ++ [Value.int x]) 5) 11 ≤ (w_fi ws (n_v (vs ++ [Value.int x]) 5) 15 + 8))) ∧ ((w_fi ws (n_v (vs ++ [Value.int x]) 5) 12 = 0) ∨ ((w_fi ws (n_v (vs ++ [Value.int x]) 5) 15 + 1) ≤ w_fi ws (n_v (vs ++ [Value.int x]) 5) 11))
      simp only [e_5, q5]
      exact vc_Mo_of_at_s5002_6_3 (v_iv (n_v vs 2)) (v_iv (n_v vs 3)) (v_iv (n_v vs 7)) (v_iv (n_v vs 9)) (v_iv (n_v vs 13)) (w_fi ws (n_v vs 0) 15) (w_fi ws (n_v vs 0) 11) (w_fi ws (n_v vs 0) 12) (w_fi ws (n_v vs 0) 8) (v_iv (Value.int x)) k2 k3 k7 k9 k13 f0 f1 f4 f5 f6 f8 f9 kz_0_8 kz_0_11 kz_0_12 kz_0_15 ex2 ex3
  have nf4 : fc_1 PRD (20, [15, 5], [30, 0, 1, 0, 0, -1, 1, 11]) ws (vs ++ [Value.int x]) := by
    refine ⟨nf_inA hl rfl, sgq_1395 ?_⟩
    · show 1 * v_iv (n_v (vs ++ [Value.int x]) 15) + ((-1) * w_fi ws (n_v (vs ++ [Value.int x]) 5) 11 + 0) ≤ 0
      simp only [e_5, e_15, q5]
      exact vc_Mo_of_at_s5002_6_4 (v_iv (n_v vs 2)) (v_iv (n_v vs 3)) (v_iv (n_v vs 7)) (v_iv (n_v vs 9)) (v_iv (n_v vs 13)) (w_fi ws (n_v vs 0) 15) (w_fi ws (n_v vs 0) 11) (w_fi ws (n_v vs 0) 12) (w_fi ws (n_v vs 0) 8) (v_iv (Value.int x)) k2 k3 k7 k9 k13 f0 f1 f4 f5 f6 f8 f9 kz_0_8 kz_0_11 kz_0_12 kz_0_15 ex2 ex3
  have nf5 : fc_1 PRD (20, [5, 15], [50, 3, 0, 8, 12, 11, 3, 7, 0, 2, 0, 1, 2, 0, 8, 3, 7, 1, 3, 2, 0, 12, 0, 0, 0, 6, 4, 2, 1, 1, 0, 1, 2, 0, 11]) ws (vs ++ [Value.int x]) := by
    refine ⟨nf_inA hl rfl, sgq_1660 ?_⟩
    · show (1 ≤ w_fi ws (n_v (vs ++ [Value.int x]) 5) 8) ∨ ((w_fi ws (n_v (vs ++ [Value.int x]) 5) 12 = 0) ∨ ((v_iv (n_v (vs ++ [Value.int x]) 15) + 1) ≤ w_fi ws (n_v (vs ++ [Value.int x]) 5) 11))
      simp only [e_5, e_15, q5]
      exact vc_Mo_of_at_s5002_6_5 (v_iv (n_v vs 2)) (v_iv (n_v vs 3)) (v_iv (n_v vs 7)) (v_iv (n_v vs 9)) (v_iv (n_v vs 13)) (w_fi ws (n_v vs 0) 15) (w_fi ws (n_v vs 0) 11) (w_fi ws (n_v vs 0) 12) (w_fi ws (n_v vs 0) 8) (v_iv (Value.int x)) k2 k3 k7 k9 k13 f0 f1 f4 f5 f6 f8 f9 kz_0_8 kz_0_11 kz_0_12 kz_0_15 ex2 ex3
  have nf6 : fc_1 PRD (23, [3, 15], [-1, 1, -1]) ws (vs ++ [Value.int x]) := by
    refine ⟨nf_inA hl rfl, sgq_211 ?_⟩
    · show 1 * v_iv (n_v (vs ++ [Value.int x]) 3) + ((-1) * v_iv (n_v (vs ++ [Value.int x]) 15) + 0) ≤ (-1)
      simp only [e_3, e_15]
      exact vc_Mo_of_at_s5002_6_6 (v_iv (n_v vs 2)) (v_iv (n_v vs 3)) (v_iv (n_v vs 7)) (v_iv (n_v vs 9)) (v_iv (n_v vs 13)) (w_fi ws (n_v vs 0) 15) (w_fi ws (n_v vs 0) 11) (w_fi ws (n_v vs 0) 12) (w_fi ws (n_v vs 0) 8) (v_iv (Value.int x)) k2 k3 k7 k9 k13 f0 f1 f4 f5 f6 f8 f9 kz_0_8 kz_0_11 kz_0_12 kz_0_15 ex2 ex3
  have nf7 : fc_1 PRD (23, [9, 15], [-2000, -1, -1]) ws (vs ++ [Value.int x]) := by
    refine ⟨nf_inA hl rfl, sgq_1894 ?_⟩
    · show (-1) * v_iv (n_v (vs ++ [Value.int x]) 9) + ((-1) * v_iv (n_v (vs ++ [Value.int x]) 15) + 0) ≤ (-2000)
      simp only [e_9, e_15]
      exact vc_Mo_of_at_s5002_6_7 (v_iv (n_v vs 2)) (v_iv (n_v vs 3)) (v_iv (n_v vs 7)) (v_iv (n_v vs 9)) (v_iv (n_v vs 13)) (w_fi ws (n_v vs 0) 15) (w_fi ws (n_v vs 0) 11) (w_fi ws (n_v vs 0) 12) (w_fi ws (n_v vs 0) 8) (v_iv (Value.int x)) k2 k3 k7 k9 k13 f0 f1 f4 f5 f6 f8 f9 kz_0_8 kz_0_11 kz_0_12 kz_0_15 ex2 ex3
  exact ⟨(fun _ h => (by cases h)), [Value.int x], ag_one hx, List.forall_mem_cons.mpr ⟨⟨show (23 : Nat) < 100 from by decide, nf0⟩, List.forall_mem_cons.mpr ⟨⟨show (23 : Nat) < 100 from by decide, nf1⟩, List.forall_mem_cons.mpr ⟨⟨show (20 : Nat) < 100 from by decide, nf2⟩, List.forall_mem_cons.mpr ⟨⟨show (20 : Nat) < 100 from by decide, nf3⟩, List.forall_mem_cons.mpr ⟨⟨show (20 : Nat) < 100 from by decide, nf4⟩, List.forall_mem_cons.mpr ⟨⟨show (20 : Nat) < 100 from by decide, nf5⟩, List.forall_mem_cons.mpr ⟨⟨show (23 : Nat) < 100 from by decide, nf6⟩, List.forall_mem_cons.mpr ⟨⟨show (23 : Nat) < 100 from by decide, nf7⟩, (fun _ h => (by cases h))⟩⟩⟩⟩⟩⟩⟩⟩, (fun _ h => (by cases h))⟩
set_option maxHeartbeats 4000000 in
theorem vc_Mo_of_at_s5002_7_0 (x2 : Int) (x3 : Int) (x4 : Int) (x7 : Int) (x9 : Int) (x13 : Int) (x15 : Int) (x16 : Int) (x17 : Int) (fault_0 : Int) (from_0 : Int) (pos_0 : Int) (kind_0 : Int) (k2 : 99 ≤ x2 ∧ x2 ≤ 99) (k3 : 0 ≤ x3 ∧ x3 ≤ 2000) (k4 : (-1) ≤ x4 ∧ x4 ≤ 48) (k7 : 99 ≤ x7 ∧ x7 ≤ 99) (k9 : 0 ≤ x9 ∧ x9 ≤ 2000) (k13 : 0 ≤ x13 ∧ x13 ≤ 2000) (k15 : 0 ≤ x15 ∧ x15 ≤ 2000) (k16 : 1 ≤ x16 ∧ x16 ≤ 5) (k17 : 0 ≤ x17 ∧ x17 ≤ 0) (f0 : 0 < x16) (g1 : x16 = fault_0) (f2 : x16 ≠ 0) (f3 : x16 ≠ 0) (f4 : 1 * x15 + ((-1) * x13 + 0) ≤ 0) (f5 : (-1) * x15 + (1 * x13 + 0) ≤ 0) (f6 : 1 * x3 + ((-1) * x15 + 0) ≤ (-1)) (f7 : (-1) * x9 + ((-1) * x15 + 0) ≤ (-2000)) (f8 : 1 * x3 + ((-1) * x13 + 0) ≤ (-1)) (f9 : (-1) * x9 + ((-1) * x13 + 0) ≤ (-2000)) (f10 : (-1) * x4 + 0 ≤ 0) (f13 : 1 * from_0 + ((-1) * pos_0 + 0) ≤ 0) (f14 : ((kind_0 = 1) → (pos_0 ≤ (from_0 + 8))) ∧ ((kind_0 = 0) ∨ ((from_0 + 1) ≤ pos_0))) (f15 : 1 * x15 + ((-1) * pos_0 + 0) ≤ 0) (f16 : (1 ≤ fault_0) ∨ ((x15 + 1) ≤ pos_0)) (f18 : 1 * x15 + ((-1) * x13 + 0) ≤ 0) (f19 : (-1) * x15 + (1 * x13 + 0) ≤ 0) (f20 : 1 * x3 + ((-1) * x15 + 0) ≤ (-1)) (f21 : (-1) * x9 + ((-1) * x15 + 0) ≤ (-2000)) (f22 : 1 * x3 + ((-1) * x13 + 0) ≤ (-1)) (f23 : (-1) * x9 + ((-1) * x13 + 0) ≤ (-2000)) (f24 : (-1) * x4 + 0 ≤ 0) (f26 : 1 * x3 + ((-1) * x13 + 0) ≤ (-1)) (f27 : (-1) * x9 + ((-1) * x13 + 0) ≤ (-2000)) (f28 : (-1) * x4 + 0 ≤ 0) (f30 : (-1) * x4 + 0 ≤ 0) (kz_0_8 : 0 ≤ fault_0 ∧ fault_0 ≤ 5) (kz_0_11 : 0 ≤ pos_0 ∧ pos_0 ≤ 2000) (kz_0_12 : 0 ≤ kind_0 ∧ kind_0 ≤ 4) (kz_0_15 : 0 ≤ from_0 ∧ from_0 ≤ 2000) : 1 * from_0 + ((-1) * pos_0 + 0) ≤ 0 := by
  first | assumption | (clear f14 f16; omega) | omega | grind
set_option maxHeartbeats 4000000 in
theorem vc_Mo_of_at_s5002_7_1 (x2 : Int) (x3 : Int) (x4 : Int) (x7 : Int) (x9 : Int) (x13 : Int) (x15 : Int) (x16 : Int) (x17 : Int) (fault_0 : Int) (from_0 : Int) (pos_0 : Int) (kind_0 : Int) (k2 : 99 ≤ x2 ∧ x2 ≤ 99) (k3 : 0 ≤ x3 ∧ x3 ≤ 2000) (k4 : (-1) ≤ x4 ∧ x4 ≤ 48) (k7 : 99 ≤ x7 ∧ x7 ≤ 99) (k9 : 0 ≤ x9 ∧ x9 ≤ 2000) (k13 : 0 ≤ x13 ∧ x13 ≤ 2000) (k15 : 0 ≤ x15 ∧ x15 ≤ 2000) (k16 : 1 ≤ x16 ∧ x16 ≤ 5) (k17 : 0 ≤ x17 ∧ x17 ≤ 0) (f0 : 0 < x16) (g1 : x16 = fault_0) (f2 : x16 ≠ 0) (f3 : x16 ≠ 0) (f4 : 1 * x15 + ((-1) * x13 + 0) ≤ 0) (f5 : (-1) * x15 + (1 * x13 + 0) ≤ 0) (f6 : 1 * x3 + ((-1) * x15 + 0) ≤ (-1)) (f7 : (-1) * x9 + ((-1) * x15 + 0) ≤ (-2000)) (f8 : 1 * x3 + ((-1) * x13 + 0) ≤ (-1)) (f9 : (-1) * x9 + ((-1) * x13 + 0) ≤ (-2000)) (f10 : (-1) * x4 + 0 ≤ 0) (f13 : 1 * from_0 + ((-1) * pos_0 + 0) ≤ 0) (f14 : ((kind_0 = 1) → (pos_0 ≤ (from_0 + 8))) ∧ ((kind_0 = 0) ∨ ((from_0 + 1) ≤ pos_0))) (f15 : 1 * x15 + ((-1) * pos_0 + 0) ≤ 0) (f16 : (1 ≤ fault_0) ∨ ((x15 + 1) ≤ pos_0)) (f18 : 1 * x15 + ((-1) * x13 + 0) ≤ 0) (f19 : (-1) * x15 + (1 * x13 + 0) ≤ 0) (f20 : 1 * x3 + ((-1) * x15 + 0) ≤ (-1)) (f21 : (-1) * x9 + ((-1) * x15 + 0) ≤ (-2000)) (f22 : 1 * x3 + ((-1) * x13 + 0) ≤ (-1)) (f23 : (-1) * x9 + ((-1) * x13 + 0) ≤ (-2000)) (f24 : (-1) * x4 + 0 ≤ 0) (f26 : 1 * x3 + ((-1) * x13 + 0) ≤ (-1)) (f27 : (-1) * x9 + ((-1) * x13 + 0) ≤ (-2000)) (f28 : (-1) * x4 + 0 ≤ 0) (f30 : (-1) * x4 + 0 ≤ 0) (kz_0_8 : 0 ≤ fault_0 ∧ fault_0 ≤ 5) (kz_0_11 : 0 ≤ pos_0 ∧ pos_0 ≤ 2000) (kz_0_12 : 0 ≤ kind_0 ∧ kind_0 ≤ 4) (kz_0_15 : 0 ≤ from_0 ∧ from_0 ≤ 2000) : ((kind_0 = 1) → (pos_0 ≤ (from_0 + 8))) ∧ ((kind_0 = 0) ∨ ((from_0 + 1) ≤ pos_0)) := by
  first | assumption | (clear f14 f16; omega) | omega | grind
set_option maxHeartbeats 4000000 in
theorem vc_Mo_of_at_s5002_7_2 (x2 : Int) (x3 : Int) (x4 : Int) (x7 : Int) (x9 : Int) (x13 : Int) (x15 : Int) (x16 : Int) (x17 : Int) (fault_0 : Int) (from_0 : Int) (pos_0 : Int) (kind_0 : Int) (k2 : 99 ≤ x2 ∧ x2 ≤ 99) (k3 : 0 ≤ x3 ∧ x3 ≤ 2000) (k4 : (-1) ≤ x4 ∧ x4 ≤ 48) (k7 : 99 ≤ x7 ∧ x7 ≤ 99) (k9 : 0 ≤ x9 ∧ x9 ≤ 2000) (k13 : 0 ≤ x13 ∧ x13 ≤ 2000) (k15 : 0 ≤ x15 ∧ x15 ≤ 2000) (k16 : 1 ≤ x16 ∧ x16 ≤ 5) (k17 : 0 ≤ x17 ∧ x17 ≤ 0) (f0 : 0 < x16) (g1 : x16 = fault_0) (f2 : x16 ≠ 0) (f3 : x16 ≠ 0) (f4 : 1 * x15 + ((-1) * x13 + 0) ≤ 0) (f5 : (-1) * x15 + (1 * x13 + 0) ≤ 0) (f6 : 1 * x3 + ((-1) * x15 + 0) ≤ (-1)) (f7 : (-1) * x9 + ((-1) * x15 + 0) ≤ (-2000)) (f8 : 1 * x3 + ((-1) * x13 + 0) ≤ (-1)) (f9 : (-1) * x9 + ((-1) * x13 + 0) ≤ (-2000)) (f10 : (-1) * x4 + 0 ≤ 0) (f13 : 1 * from_0 + ((-1) * pos_0 + 0) ≤ 0) (f14 : ((kind_0 = 1) → (pos_0 ≤ (from_0 + 8))) ∧ ((kind_0 = 0) ∨ ((from_0 + 1) ≤ pos_0))) (f15 : 1 * x15 + ((-1) * pos_0 + 0) ≤ 0) (f16 : (1 ≤ fault_0) ∨ ((x15 + 1) ≤ pos_0)) (f18 : 1 * x15 + ((-1) * x13 + 0) ≤ 0) (f19 : (-1) * x15 + (1 * x13 + 0) ≤ 0) (f20 : 1 * x3 + ((-1) * x15 + 0) ≤ (-1)) (f21 : (-1) * x9 + ((-1) * x15 + 0) ≤ (-2000)) (f22 : 1 * x3 + ((-1) * x13 + 0) ≤ (-1)) (f23 : (-1) * x9 + ((-1) * x13 + 0) ≤ (-2000)) (f24 : (-1) * x4 + 0 ≤ 0) (f26 : 1 * x3 + ((-1) * x13 + 0) ≤ (-1)) (f27 : (-1) * x9 + ((-1) * x13 + 0) ≤ (-2000)) (f28 : (-1) * x4 + 0 ≤ 0) (f30 : (-1) * x4 + 0 ≤ 0) (kz_0_8 : 0 ≤ fault_0 ∧ fault_0 ≤ 5) (kz_0_11 : 0 ≤ pos_0 ∧ pos_0 ≤ 2000) (kz_0_12 : 0 ≤ kind_0 ∧ kind_0 ≤ 4) (kz_0_15 : 0 ≤ from_0 ∧ from_0 ≤ 2000) : 1 * x3 + ((-1) * pos_0 + 0) ≤ 0 := by
  first | assumption | (clear f14 f16; omega) | omega | grind
set_option maxHeartbeats 4000000 in
theorem vc_Mo_of_at_s5002_7_3 (x2 : Int) (x3 : Int) (x4 : Int) (x7 : Int) (x9 : Int) (x13 : Int) (x15 : Int) (x16 : Int) (x17 : Int) (fault_0 : Int) (from_0 : Int) (pos_0 : Int) (kind_0 : Int) (k2 : 99 ≤ x2 ∧ x2 ≤ 99) (k3 : 0 ≤ x3 ∧ x3 ≤ 2000) (k4 : (-1) ≤ x4 ∧ x4 ≤ 48) (k7 : 99 ≤ x7 ∧ x7 ≤ 99) (k9 : 0 ≤ x9 ∧ x9 ≤ 2000) (k13 : 0 ≤ x13 ∧ x13 ≤ 2000) (k15 : 0 ≤ x15 ∧ x15 ≤ 2000) (k16 : 1 ≤ x16 ∧ x16 ≤ 5) (k17 : 0 ≤ x17 ∧ x17 ≤ 0) (f0 : 0 < x16) (g1 : x16 = fault_0) (f2 : x16 ≠ 0) (f3 : x16 ≠ 0) (f4 : 1 * x15 + ((-1) * x13 + 0) ≤ 0) (f5 : (-1) * x15 + (1 * x13 + 0) ≤ 0) (f6 : 1 * x3 + ((-1) * x15 + 0) ≤ (-1)) (f7 : (-1) * x9 + ((-1) * x15 + 0) ≤ (-2000)) (f8 : 1 * x3 + ((-1) * x13 + 0) ≤ (-1)) (f9 : (-1) * x9 + ((-1) * x13 + 0) ≤ (-2000)) (f10 : (-1) * x4 + 0 ≤ 0) (f13 : 1 * from_0 + ((-1) * pos_0 + 0) ≤ 0) (f14 : ((kind_0 = 1) → (pos_0 ≤ (from_0 + 8))) ∧ ((kind_0 = 0) ∨ ((from_0 + 1) ≤ pos_0))) (f15 : 1 * x15 + ((-1) * pos_0 + 0) ≤ 0) (f16 : (1 ≤ fault_0) ∨ ((x15 + 1) ≤ pos_0)) (f18 : 1 * x15 + ((-1) * x13 + 0) ≤ 0) (f19 : (-1) * x15 + (1 * x13 + 0) ≤ 0) (f20 : 1 * x3 + ((-1) * x15 + 0) ≤ (-1)) (f21 : (-1) * x9 + ((-1) * x15 + 0) ≤ (-2000)) (f22 : 1 * x3 + ((-1) * x13 + 0) ≤ (-1)) (f23 : (-1) * x9 + ((-1) * x13 + 0) ≤ (-2000)) (f24 : (-1) * x4 + 0 ≤ 0) (f26 : 1 * x3 + ((-1) * x13 + 0) ≤ (-1)) (f27 : (-1) * x9 + ((-1) * x13 + 0) ≤ (-2000)) (f28 : (-1) * x4 + 0 ≤ 0) (f30 : (-1) * x4 + 0 ≤ 0) (kz_0_8 : 0 ≤ fault_0 ∧ fault_0 ≤ 5) (kz_0_11 : 0 ≤ pos_0 ∧ pos_0 ≤ 2000) (kz_0_12 : 0 ≤ kind_0 ∧ kind_0 ≤ 4) (kz_0_15 : 0 ≤ from_0 ∧ from_0 ≤ 2000) : (1 ≤ fault_0) ∨ ((kind_0 = 0) ∨ ((x3 + 1) ≤ pos_0)) := by
  first | assumption | (clear f14 f16; omega) | omega | grind
set_option maxHeartbeats 4000000 in
theorem vc_Mo_of_at_s5002_7_4 (x2 : Int) (x3 : Int) (x4 : Int) (x7 : Int) (x9 : Int) (x13 : Int) (x15 : Int) (x16 : Int) (x17 : Int) (fault_0 : Int) (from_0 : Int) (pos_0 : Int) (kind_0 : Int) (k2 : 99 ≤ x2 ∧ x2 ≤ 99) (k3 : 0 ≤ x3 ∧ x3 ≤ 2000) (k4 : (-1) ≤ x4 ∧ x4 ≤ 48) (k7 : 99 ≤ x7 ∧ x7 ≤ 99) (k9 : 0 ≤ x9 ∧ x9 ≤ 2000) (k13 : 0 ≤ x13 ∧ x13 ≤ 2000) (k15 : 0 ≤ x15 ∧ x15 ≤ 2000) (k16 : 1 ≤ x16 ∧ x16 ≤ 5) (k17 : 0 ≤ x17 ∧ x17 ≤ 0) (f0 : 0 < x16) (g1 : x16 = fault_0) (f2 : x16 ≠ 0) (f3 : x16 ≠ 0) (f4 : 1 * x15 + ((-1) * x13 + 0) ≤ 0) (f5 : (-1) * x15 + (1 * x13 + 0) ≤ 0) (f6 : 1 * x3 + ((-1) * x15 + 0) ≤ (-1)) (f7 : (-1) * x9 + ((-1) * x15 + 0) ≤ (-2000)) (f8 : 1 * x3 + ((-1) * x13 + 0) ≤ (-1)) (f9 : (-1) * x9 + ((-1) * x13 + 0) ≤ (-2000)) (f10 : (-1) * x4 + 0 ≤ 0) (f13 : 1 * from_0 + ((-1) * pos_0 + 0) ≤ 0) (f14 : ((kind_0 = 1) → (pos_0 ≤ (from_0 + 8))) ∧ ((kind_0 = 0) ∨ ((from_0 + 1) ≤ pos_0))) (f15 : 1 * x15 + ((-1) * pos_0 + 0) ≤ 0) (f16 : (1 ≤ fault_0) ∨ ((x15 + 1) ≤ pos_0)) (f18 : 1 * x15 + ((-1) * x13 + 0) ≤ 0) (f19 : (-1) * x15 + (1 * x13 + 0) ≤ 0) (f20 : 1 * x3 + ((-1) * x15 + 0) ≤ (-1)) (f21 : (-1) * x9 + ((-1) * x15 + 0) ≤ (-2000)) (f22 : 1 * x3 + ((-1) * x13 + 0) ≤ (-1)) (f23 : (-1) * x9 + ((-1) * x13 + 0) ≤ (-2000)) (f24 : (-1) * x4 + 0 ≤ 0) (f26 : 1 * x3 + ((-1) * x13 + 0) ≤ (-1)) (f27 : (-1) * x9 + ((-1) * x13 + 0) ≤ (-2000)) (f28 : (-1) * x4 + 0 ≤ 0) (f30 : (-1) * x4 + 0 ≤ 0) (kz_0_8 : 0 ≤ fault_0 ∧ fault_0 ≤ 5) (kz_0_11 : 0 ≤ pos_0 ∧ pos_0 ≤ 2000) (kz_0_12 : 0 ≤ kind_0 ∧ kind_0 ≤ 4) (kz_0_15 : 0 ≤ from_0 ∧ from_0 ≤ 2000) : (1 ≤ fault_0) ∨ (0 ≤ x4) := by
  first | assumption | (clear f14 f16; omega) | omega | grind
set_option maxHeartbeats 4000000 in
theorem vc_Mo_of_at_s5002_7_5 (x2 : Int) (x3 : Int) (x4 : Int) (x7 : Int) (x9 : Int) (x13 : Int) (x15 : Int) (x16 : Int) (x17 : Int) (fault_0 : Int) (from_0 : Int) (pos_0 : Int) (kind_0 : Int) (k2 : 99 ≤ x2 ∧ x2 ≤ 99) (k3 : 0 ≤ x3 ∧ x3 ≤ 2000) (k4 : (-1) ≤ x4 ∧ x4 ≤ 48) (k7 : 99 ≤ x7 ∧ x7 ≤ 99) (k9 : 0 ≤ x9 ∧ x9 ≤ 2000) (k13 : 0 ≤ x13 ∧ x13 ≤ 2000) (k15 : 0 ≤ x15 ∧ x15 ≤ 2000) (k16 : 1 ≤ x16 ∧ x16 ≤ 5) (k17 : 0 ≤ x17 ∧ x17 ≤ 0) (f0 : 0 < x16) (g1 : x16 = fault_0) (f2 : x16 ≠ 0) (f3 : x16 ≠ 0) (f4 : 1 * x15 + ((-1) * x13 + 0) ≤ 0) (f5 : (-1) * x15 + (1 * x13 + 0) ≤ 0) (f6 : 1 * x3 + ((-1) * x15 + 0) ≤ (-1)) (f7 : (-1) * x9 + ((-1) * x15 + 0) ≤ (-2000)) (f8 : 1 * x3 + ((-1) * x13 + 0) ≤ (-1)) (f9 : (-1) * x9 + ((-1) * x13 + 0) ≤ (-2000)) (f10 : (-1) * x4 + 0 ≤ 0) (f13 : 1 * from_0 + ((-1) * pos_0 + 0) ≤ 0) (f14 : ((kind_0 = 1) → (pos_0 ≤ (from_0 + 8))) ∧ ((kind_0 = 0) ∨ ((from_0 + 1) ≤ pos_0))) (f15 : 1 * x15 + ((-1) * pos_0 + 0) ≤ 0) (f16 : (1 ≤ fault_0) ∨ ((x15 + 1) ≤ pos_0)) (f18 : 1 * x15 + ((-1) * x13 + 0) ≤ 0) (f19 : (-1) * x15 + (1 * x13 + 0) ≤ 0) (f20 : 1 * x3 + ((-1) * x15 + 0) ≤ (-1)) (f21 : (-1) * x9 + ((-1) * x15 + 0) ≤ (-2000)) (f22 : 1 * x3 + ((-1) * x13 + 0) ≤ (-1)) (f23 : (-1) * x9 + ((-1) * x13 + 0) ≤ (-2000)) (f24 : (-1) * x4 + 0 ≤ 0) (f26 : 1 * x3 + ((-1) * x13 + 0) ≤ (-1)) (f27 : (-1) * x9 + ((-1) * x13 + 0) ≤ (-2000)) (f28 : (-1) * x4 + 0 ≤ 0) (f30 : (-1) * x4 + 0 ≤ 0) (kz_0_8 : 0 ≤ fault_0 ∧ fault_0 ≤ 5) (kz_0_11 : 0 ≤ pos_0 ∧ pos_0 ≤ 2000) (kz_0_12 : 0 ≤ kind_0 ∧ kind_0 ≤ 4) (kz_0_15 : 0 ≤ from_0 ∧ from_0 ≤ 2000) : 1 * x17 + ((-1) * x2 + 0) ≤ 0 := by
  first | assumption | (clear f14 f16; omega) | omega | grind
set_option maxHeartbeats 4000000 in
theorem vc_Mo_of_at_s5002_7_6 (x2 : Int) (x3 : Int) (x4 : Int) (x7 : Int) (x9 : Int) (x13 : Int) (x15 : Int) (x16 : Int) (x17 : Int) (fault_0 : Int) (from_0 : Int) (pos_0 : Int) (kind_0 : Int) (k2 : 99 ≤ x2 ∧ x2 ≤ 99) (k3 : 0 ≤ x3 ∧ x3 ≤ 2000) (k4 : (-1) ≤ x4 ∧ x4 ≤ 48) (k7 : 99 ≤ x7 ∧ x7 ≤ 99) (k9 : 0 ≤ x9 ∧ x9 ≤ 2000) (k13 : 0 ≤ x13 ∧ x13 ≤ 2000) (k15 : 0 ≤ x15 ∧ x15 ≤ 2000) (k16 : 1 ≤ x16 ∧ x16 ≤ 5) (k17 : 0 ≤ x17 ∧ x17 ≤ 0) (f0 : 0 < x16) (g1 : x16 = fault_0) (f2 : x16 ≠ 0) (f3 : x16 ≠ 0) (f4 : 1 * x15 + ((-1) * x13 + 0) ≤ 0) (f5 : (-1) * x15 + (1 * x13 + 0) ≤ 0) (f6 : 1 * x3 + ((-1) * x15 + 0) ≤ (-1)) (f7 : (-1) * x9 + ((-1) * x15 + 0) ≤ (-2000)) (f8 : 1 * x3 + ((-1) * x13 + 0) ≤ (-1)) (f9 : (-1) * x9 + ((-1) * x13 + 0) ≤ (-2000)) (f10 : (-1) * x4 + 0 ≤ 0) (f13 : 1 * from_0 + ((-1) * pos_0 + 0) ≤ 0) (f14 : ((kind_0 = 1) → (pos_0 ≤ (from_0 + 8))) ∧ ((kind_0 = 0) ∨ ((from_0 + 1) ≤ pos_0))) (f15 : 1 * x15 + ((-1) * pos_0 + 0) ≤ 0) (f16 : (1 ≤ fault_0) ∨ ((x15 + 1) ≤ pos_0)) (f18 : 1 * x15 + ((-1) * x13 + 0) ≤ 0) (f19 : (-1) * x15 + (1 * x13 + 0) ≤ 0) (f20 : 1 * x3 + ((-1) * x15 + 0) ≤ (-1)) (f21 : (-1) * x9 + ((-1) * x15 + 0) ≤ (-2000)) (f22 : 1 * x3 + ((-1) * x13 + 0) ≤ (-1)) (f23 : (-1) * x9 + ((-1) * x13 + 0) ≤ (-2000)) (f24 : (-1) * x4 + 0 ≤ 0) (f26 : 1 * x3 + ((-1) * x13 + 0) ≤ (-1)) (f27 : (-1) * x9 + ((-1) * x13 + 0) ≤ (-2000)) (f28 : (-1) * x4 + 0 ≤ 0) (f30 : (-1) * x4 + 0 ≤ 0) (kz_0_8 : 0 ≤ fault_0 ∧ fault_0 ≤ 5) (kz_0_11 : 0 ≤ pos_0 ∧ pos_0 ≤ 2000) (kz_0_12 : 0 ≤ kind_0 ∧ kind_0 ≤ 4) (kz_0_15 : 0 ≤ from_0 ∧ from_0 ≤ 2000) : (-1) * x17 + 0 ≤ 0 := by
  first | assumption | (clear f14 f16; omega) | omega | grind
def o_Mo_of_at_s5002_7 : or_T := (129, 18, [(0, (2, 0, 0, [165])), (2, (0, 99, 99, [])), (3, (0, 0, 2000, [])), (4, (0, -1, 48, [])), (7, (0, 99, 99, [])), (9, (0, 0, 2000, [])), (13, (0, 0, 2000, [])), (15, (0, 0, 2000, [])), (16, (0, 1, 5, [])), (17, (0, 0, 0, []))], [(8, [16], [4]), (9, [16, 5], [8]), (8, [16], [1]), (8, [16], [1]), (23, [15, 13], [0, 1, -1]), (23, [15, 13], [0, -1, 1]), (23, [3, 15], [-1, 1, -1]), (23, [9, 15], [-2000, -1, -1]), (23, [3, 13], [-1, 1, -1]), (23, [9, 13], [-2000, -1, -1]), (23, [4], [0, -1]), (24, [0, 5], []), (20, [5, 5], [30, 0, 1, 1, 15, -1, 1, 11]), (20, [5], [50, 3, 0, 12, 11, 15, 2, 21, 4, 7, 1, 3, 2, 0, 12, 0, 1, 0, 3, 2, 0, 11, 4, 3, 2, 0, 15, 0, 8, 3, 7, 1, 3, 2, 0, 12, 0, 0, 0, 7, 4, 3, 2, 0, 15, 0, 1, 2, 0, 11]), (20, [15, 5], [30, 0, 1, 0, 0, -1, 1, 11]), (20, [5, 15], [50, 2, 0, 8, 11, 3, 7, 0, 2, 0, 1, 2, 0, 8, 0, 6, 4, 2, 1, 1, 0, 1, 2, 0, 11]), (102, [15], [0, 165008, 165009, 165011, 165012, 165013, 165014, 165015]), (23, [15, 13], [0, 1, -1]), (23, [15, 13], [0, -1, 1]), (23, [3, 15], [-1, 1, -1]), (23, [9, 15], [-2000, -1, -1]), (23, [3, 13], [-1, 1, -1]), (23, [9, 13], [-2000, -1, -1]), (23, [4], [0, -1]), (102, [13], [0, 165011, 165012, 165013, 165014, 165015]), (23, [3, 13], [-1, 1, -1]), (23, [9, 13], [-2000, -1, -1]), (23, [4], [0, -1]), (102, [11], [0]), (23, [4], [0, -1])], [], [], [(20, [0, 0], [30, 0, 1, 1, 15, -1, 1, 11]), (20, [0], [50, 3, 0, 12, 11, 15, 2, 21, 4, 7, 1, 3, 2, 0, 12, 0, 1, 0, 3, 2, 0, 11, 4, 3, 2, 0, 15, 0, 8, 3, 7, 1, 3, 2, 0, 12, 0, 0, 0, 7, 4, 3, 2, 0, 15, 0, 1, 2, 0, 11]), (20, [3, 0], [30, 0, 1, 0, 0, -1, 1, 11]), (20, [0, 3], [50, 3, 0, 8, 12, 11, 3, 7, 0, 2, 0, 1, 2, 0, 8, 3, 7, 1, 3, 2, 0, 12, 0, 0, 0, 6, 4, 2, 1, 1, 0, 1, 2, 0, 11]), (20, [0, 4], [50, 1, 0, 8, 3, 7, 0, 2, 0, 1, 2, 0, 8, 0, 2, 0, 0, 1, 1]), (20, [17, 2], [30, 0, 1, 0, 0, -1, 0, 0]), (20, [17], [30, 0, -1, 0, 0])], [], [])
theorem oo_Mo_of_at_s5002_7 {kA : Nat → ClassId} : or_ok PRD kA GG o_Mo_of_at_s5002_7 := by
  refine or_mk fun A ta ws vs hD hth hl => ?_
  intro t0 r0 t2 k2 t3 k3 t4 k4 t7 k7 t9 k9 t13 k13 t15 k15 t16 k16 t17 k17 f0 f1 f2 f3 f4 f5 f6 f7 f8 f9 f10 f11 f13 f14 f15 f16 ta1 w1 le1 s1 f18 f19 f20 f21 f22 f23 f24 ta2 w2 le2 s2 f26 f27 f28 ta3 w3 le3 s3 f30
  replace f1 := shm_143 f1
  replace f11 := shm_5 f11
  replace f13 := shm_1397 f13
  replace f14 := shm_1398 f14
  replace f15 := shm_1395 f15
  replace f16 := shm_1659 f16
  have q5 : n_v vs 5 = n_v vs 0 := f11.symm
  simp only [q5] at f1 f13 f14 f15 f16
  have g1 : v_iv (n_v vs 16) = w_fi ws (n_v vs 0) 8 := congrArg v_iv f1
  have kz_0_8 := fdq_14 hD hth r0
  have kz_0_11 := fdq_273 hD hth r0
  have kz_0_12 := fdq_186 hD hth r0
  have kz_0_15 := fdq_274 hD hth r0
  have nf0 : fc_1 PRD (20, [0, 0], [30, 0, 1, 1, 15, -1, 1, 11]) ws (vs) := ⟨nf_in hl rfl, sgq_1397 (vc_Mo_of_at_s5002_7_0 (v_iv (n_v vs 2)) (v_iv (n_v vs 3)) (v_iv (n_v vs 4)) (v_iv (n_v vs 7)) (v_iv (n_v vs 9)) (v_iv (n_v vs 13)) (v_iv (n_v vs 15)) (v_iv (n_v vs 16)) (v_iv (n_v vs 17)) (w_fi ws (n_v vs 0) 8) (w_fi ws (n_v vs 0) 15) (w_fi ws (n_v vs 0) 11) (w_fi ws (n_v vs 0) 12) k2 k3 k4 k7 k9 k13 k15 k16 k17 (shm_145 f0) g1 (shm_154 f2) (shm_154 f3) (shm_7 f4) (shm_22 f5) (shm_211 f6) (shm_1894 f7) (shm_211 f8) (shm_1894 f9) (shm_1013 f10) f13 f14 f15 f16 (shm_7 f18) (shm_22 f19) (shm_211 f20) (shm_1894 f21) (shm_211 f22) (shm_1894 f23) (shm_1013 f24) (shm_211 f26) (shm_1894 f27) (shm_1013 f28) (shm_1013 f30) kz_0_8 kz_0_11 kz_0_12 kz_0_15)⟩
  have nf1 : fc_1 PRD (20, [0], [50, 3, 0, 12, 11, 15, 2, 21, 4, 7, 1, 3, 2, 0, 12, 0, 1, 0, 3, 2, 0, 11, 4, 3, 2, 0, 15, 0, 8, 3, 7, 1, 3, 2, 0, 12, 0, 0, 0, 7, 4, 3, 2, 0, 15, 0, 1, 2, 0, 11]) ws (vs) := ⟨nf_in hl rfl, sgq_1398 (vc_Mo_of_at_s5002_7_1 (v_iv (n_v vs 2)) (v_iv (n_v vs 3)) (v_iv (n_v vs 4)) (v_iv (n_v vs 7)) (v_iv (n_v vs 9)) (v_iv (n_v vs 13)) (v_iv (n_v vs 15)) (v_iv (n_v vs 16)) (v_iv (n_v vs 17)) (w_fi ws (n_v vs 0) 8) (w_fi ws (n_v vs 0) 15) (w_fi ws (n_v vs 0) 11) (w_fi ws (n_v vs 0) 12) k2 k3 k4 k7 k9 k13 k15 k16 k17 (shm_145 f0) g1 (shm_154 f2) (shm_154 f3) (shm_7 f4) (shm_22 f5) (shm_211 f6) (shm_1894 f7) (shm_211 f8) (shm_1894 f9) (shm_1013 f10) f13 f14 f15 f16 (shm_7 f18) (shm_22 f19) (shm_211 f20) (shm_1894 f21) (shm_211 f22) (shm_1894 f23) (shm_1013 f24) (shm_211 f26) (shm_1894 f27) (shm_1013 f28) (shm_1013 f30) kz_0_8 kz_0_11 kz_0_12 kz_0_15)⟩
  have nf2 : fc_1 PRD (20, [3, 0], [30, 0, 1, 0, 0, -1, 1, 11]) ws (vs) := ⟨nf_in hl rfl, sgq_1395 (vc_Mo_of_at_s5002_7_2 (v_iv (n_v vs 2)) (v_iv (n_v vs 3)) (v_iv (n_v vs 4)) (v_iv (n_v vs 7)) (v_iv (n_v vs 9)) (v_iv (n_v vs 13)) (v_iv (n_v vs 15)) (v_iv (n_v vs 16)) (v_iv (n_v vs 17)) (w_fi ws (n_v vs 0) 8) (w_fi ws (n_v vs 0) 15) (w_fi ws (n_v vs 0) 11) (w_fi ws (n_v vs 0) 12) k2 k3 k4 k7 k9 k13 k15 k16 k17 (shm_145 f0) g1 (shm_154 f2) (shm_154 f3) (shm_7 f4) (shm_22 f5) (shm_211 f6) (shm_1894 f7) (shm_211 f8) (shm_1894 f9) (shm_1013 f10) f13 f14 f15 f16 (shm_7 f18) (shm_22 f19) (shm_211 f20) (shm_1894 f21) (shm_211 f22) (shm_1894 f23) (shm_1013 f24) (shm_211 f26) (shm_1894 f27) (shm_1013 f28) (shm_1013 f30) kz_0_8 kz_0_11 kz_0_12 kz_0_15)⟩
  have nf3 : fc_1 PRD (20, [0, 3], [50, 3, 0, 8, 12, 11, 3, 7, 0, 2, 0, 1, 2, 0, 8, 3, 7, 1, 3, 2, 0, 12, 0, 0, 0, 6, 4, 2, 1, 1, 0, 1, 2, 0, 11]) ws (vs) := ⟨nf_in hl rfl, sgq_1660 (vc_Mo_of_at_s5002_7_3 (v_iv (n_v vs 2)) (v_iv (n_v vs 3)) (v_iv (n_v vs 4)) (v_iv (n_v vs 7)) (v_iv (n_v vs 9)) (v_iv (n_v vs 13)) (v_iv (n_v vs 15)) (v_iv (n_v vs 16)) (v_iv (n_v vs 17)) (w_fi ws (n_v vs 0) 8) (w_fi ws (n_v vs 0) 15) (w_fi ws (n_v vs 0) 11) (w_fi ws (n_v vs 0) 12) k2 k3 k4 k7 k9 k13 k15 k16 k17 (shm_145 f0) g1 (shm_154 f2) (shm_154 f3) (shm_7 f4) (shm_22 f5) (shm_211 f6) (shm_1894 f7) (shm_211 f8) (shm_1894 f9) (shm_1013 f10) f13 f14 f15 f16 (shm_7 f18) (shm_22 f19) (shm_211 f20) (shm_1894 f21) (shm_211 f22) (shm_1894 f23) (shm_1013 f24) (shm_211 f26) (shm_1894 f27) (shm_1013 f28) (shm_1013 f30) kz_0_8 kz_0_11 kz_0_12 kz_0_15)⟩
  have nf4 : fc_1 PRD (20, [0, 4], [50, 1, 0, 8, 3, 7, 0, 2, 0, 1, 2, 0, 8, 0, 2, 0, 0, 1, 1]) ws (vs) := ⟨nf_in hl rfl, sgq_1889 (vc_Mo_of_at_s5002_7_4 (v_iv (n_v vs 2)) (v_iv (n_v vs 3)) (v_iv (n_v vs 4)) (v_iv (n_v vs 7)) (v_iv (n_v vs 9)) (v_iv (n_v vs 13)) (v_iv (n_v vs 15)) (v_iv (n_v vs 16)) (v_iv (n_v vs 17)) (w_fi ws (n_v vs 0) 8) (w_fi ws (n_v vs 0) 15) (w_fi ws (n_v vs 0) 11) (w_fi ws (n_v vs 0) 12) k2 k3 k4 k7 k9 k13 k15 k16 k17 (shm_145 f0) g1 (shm_154 f2) (shm_154 f3) (shm_7 f4) (shm_22 f5) (shm_211 f6) (shm_1894 f7) (shm_211 f8) (shm_1894 f9) (shm_1013 f10) f13 f14 f15 f16 (shm_7 f18) (shm_22 f19) (shm_211 f20) (shm_1894 f21) (shm_211 f22) (shm_1894 f23) (shm_1013 f24) (shm_211 f26) (shm_1894 f27) (shm_1013 f28) (shm_1013 f30) kz_0_8 kz_0_11 kz_0_12 kz_0_15)⟩
  have nf5 : fc_1 PRD (20, [17, 2], [30, 0, 1, 0, 0, -1, 0, 0]) ws (vs) := ⟨nf_in hl rfl, sgq_219 (vc_Mo_of_at_s5002_7_5 (v_iv (n_v vs 2)) (v_iv (n_v vs 3)) (v_iv (n_v vs 4)) (v_iv (n_v vs 7)) (v_iv (n_v vs 9)) (v_iv (n_v vs 13)) (v_iv (n_v vs 15)) (v_iv (n_v vs 16)) (v_iv (n_v vs 17)) (w_fi ws (n_v vs 0) 8) (w_fi ws (n_v vs 0) 15) (w_fi ws (n_v vs 0) 11) (w_fi ws (n_v vs 0) 12) k2 k3 k4 k7 k9 k13 k15 k16 k17 (shm_145 f0) g1 (shm_154 f2) (shm_154 f3) (shm_7 f4) (shm_22 f5) (shm_211 f6) (shm_1894 f7) (shm_211 f8) (shm_1894 f9) (shm_1013 f10) f13 f14 f15 f16 (shm_7 f18) (shm_22 f19) (shm_211 f20) (shm_1894 f21) (shm_211 f22) (shm_1894 f23) (shm_1013 f24) (shm_211 f26) (shm_1894 f27) (shm_1013 f28) (shm_1013 f30) kz_0_8 kz_0_11 kz_0_12 kz_0_15)⟩
  have nf6 : fc_1 PRD (20, [17], [30, 0, -1, 0, 0]) ws (vs) := ⟨nf_in hl rfl, sgq_1890 (vc_Mo_of_at_s5002_7_6 (v_iv (n_v vs 2)) (v_iv (n_v vs 3)) (v_iv (n_v vs 4)) (v_iv (n_v vs 7)) (v_iv (n_v vs 9)) (v_iv (n_v vs 13)) (v_iv (n_v vs 15)) (v_iv (n_v vs 16)) (v_iv (n_v vs 17)) (w_fi ws (n_v vs 0) 8) (w_fi ws (n_v vs 0) 15) (w_fi ws (n_v vs 0) 11) (w_fi ws (n_v vs 0) 12) k2 k3 k4 k7 k9 k13 k15 k16 k17 (shm_145 f0) g1 (shm_154 f2) (shm_154 f3) (shm_7 f4) (shm_22 f5) (shm_211 f6) (shm_1894 f7) (shm_211 f8) (shm_1894 f9) (shm_1013 f10) f13 f14 f15 f16 (shm_7 f18) (shm_22 f19) (shm_211 f20) (shm_1894 f21) (shm_211 f22) (shm_1894 f23) (shm_1013 f24) (shm_211 f26) (shm_1894 f27) (shm_1013 f28) (shm_1013 f30) kz_0_8 kz_0_11 kz_0_12 kz_0_15)⟩
  refine ⟨(fun _ h => (by cases h)), [], trivial, ?_, (fun _ h => (by cases h))⟩
  rw [List.append_nil]
  exact List.forall_mem_cons.mpr ⟨⟨show (20 : Nat) < 100 from by decide, nf0⟩, List.forall_mem_cons.mpr ⟨⟨show (20 : Nat) < 100 from by decide, nf1⟩, List.forall_mem_cons.mpr ⟨⟨show (20 : Nat) < 100 from by decide, nf2⟩, List.forall_mem_cons.mpr ⟨⟨show (20 : Nat) < 100 from by decide, nf3⟩, List.forall_mem_cons.mpr ⟨⟨show (20 : Nat) < 100 from by decide, nf4⟩, List.forall_mem_cons.mpr ⟨⟨show (20 : Nat) < 100 from by decide, nf5⟩, List.forall_mem_cons.mpr ⟨⟨show (20 : Nat) < 100 from by decide, nf6⟩, (fun _ h => (by cases h))⟩⟩⟩⟩⟩⟩⟩
set_option maxHeartbeats 4000000 in
theorem vc_Mo_of_at_s5002_8_0 (x2 : Int) (x3 : Int) (x7 : Int) (x8 : Int) (x9 : Int) (x13 : Int) (x15 : Int) (x19 : Int) (x24 : Int) (value_0 : Int) (fault_0 : Int) (from_0 : Int) (pos_0 : Int) (kind_0 : Int) (k2 : 99 ≤ x2 ∧ x2 ≤ 99) (k3 : 0 ≤ x3 ∧ x3 ≤ 2000) (k7 : 99 ≤ x7 ∧ x7 ≤ 99) (k8 : (-2147483648) ≤ x8 ∧ x8 ≤ 0) (k9 : 0 ≤ x9 ∧ x9 ≤ 2000) (k13 : 0 ≤ x13 ∧ x13 ≤ 2000) (k15 : 0 ≤ x15 ∧ x15 ≤ 2000) (k19 : (-2147483648) ≤ x19 ∧ x19 ≤ 0) (k24 : 0 ≤ x24 ∧ x24 ≤ 0) (g0 : x19 = value_0) (f1 : x24 ≤ 0) (g2 : x24 = fault_0) (f3 : 1 * x15 + ((-1) * x13 + 0) ≤ 0) (f4 : (-1) * x15 + (1 * x13 + 0) ≤ 0) (f5 : 1 * x3 + ((-1) * x15 + 0) ≤ (-1)) (f6 : (-1) * x9 + ((-1) * x15 + 0) ≤ (-2000)) (f7 : 1 * x3 + ((-1) * x13 + 0) ≤ (-1)) (f8 : (-1) * x9 + ((-1) * x13 + 0) ≤ (-2000)) (f9 : 1 * x8 + ((-1) * x2 + 0) ≤ 0) (f10 : (-1) * x8 + 0 ≤ 0) (f13 : 1 * from_0 + ((-1) * pos_0 + 0) ≤ 0) (f14 : ((kind_0 = 1) → (pos_0 ≤ (from_0 + 8))) ∧ ((kind_0 = 0) ∨ ((from_0 + 1) ≤ pos_0))) (f15 : 1 * x15 + ((-1) * pos_0 + 0) ≤ 0) (f16 : (-1) * fault_0 + 0 ≤ (-1)) (f18 : 1 * x15 + ((-1) * x13 + 0) ≤ 0) (f19 : (-1) * x15 + (1 * x13 + 0) ≤ 0) (f20 : 1 * x3 + ((-1) * x15 + 0) ≤ (-1)) (f21 : (-1) * x9 + ((-1) * x15 + 0) ≤ (-2000)) (f22 : 1 * x3 + ((-1) * x13 + 0) ≤ (-1)) (f23 : (-1) * x9 + ((-1) * x13 + 0) ≤ (-2000)) (f24 : 1 * x8 + ((-1) * x2 + 0) ≤ 0) (f25 : (-1) * x8 + 0 ≤ 0) (f27 : 1 * x15 + ((-1) * x13 + 0) ≤ 0) (f28 : (-1) * x15 + (1 * x13 + 0) ≤ 0) (f29 : 1 * x3 + ((-1) * x15 + 0) ≤ (-1)) (f30 : (-1) * x9 + ((-1) * x15 + 0) ≤ (-2000)) (f31 : 1 * x3 + ((-1) * x13 + 0) ≤ (-1)) (f32 : (-1) * x9 + ((-1) * x13 + 0) ≤ (-2000)) (f33 : 1 * x8 + ((-1) * x2 + 0) ≤ 0) (f34 : (-1) * x8 + 0 ≤ 0) (f36 : 1 * x3 + ((-1) * x13 + 0) ≤ (-1)) (f37 : (-1) * x9 + ((-1) * x13 + 0) ≤ (-2000)) (f38 : x8 ≤ 0) (f39 : 1 * x8 + ((-1) * x2 + 0) ≤ 0) (f40 : (-1) * x8 + 0 ≤ 0) (f42 : 1 * x8 + ((-1) * x2 + 0) ≤ 0) (f43 : (-1) * x8 + 0 ≤ 0) (kz_0_8 : 0 ≤ fault_0 ∧ fault_0 ≤ 5) (kz_0_11 : 0 ≤ pos_0 ∧ pos_0 ≤ 2000) (kz_0_12 : 0 ≤ kind_0 ∧ kind_0 ≤ 4) (kz_0_14 : (-2147483648) ≤ value_0 ∧ value_0 ≤ 2147483647) (kz_0_15 : 0 ≤ from_0 ∧ from_0 ≤ 2000) : 1 * x19 + ((-1) * x2 + 0) ≤ 0 := by
  first | assumption | (clear f14; omega) | omega | grind
set_option maxHeartbeats 4000000 in
theorem vc_Mo_of_at_s5002_8_1 (x2 : Int) (x3 : Int) (x7 : Int) (x8 : Int) (x9 : Int) (x13 : Int) (x15 : Int) (x19 : Int) (x24 : Int) (value_0 : Int) (fault_0 : Int) (from_0 : Int) (pos_0 : Int) (kind_0 : Int) (k2 : 99 ≤ x2 ∧ x2 ≤ 99) (k3 : 0 ≤ x3 ∧ x3 ≤ 2000) (k7 : 99 ≤ x7 ∧ x7 ≤ 99) (k8 : (-2147483648) ≤ x8 ∧ x8 ≤ 0) (k9 : 0 ≤ x9 ∧ x9 ≤ 2000) (k13 : 0 ≤ x13 ∧ x13 ≤ 2000) (k15 : 0 ≤ x15 ∧ x15 ≤ 2000) (k19 : (-2147483648) ≤ x19 ∧ x19 ≤ 0) (k24 : 0 ≤ x24 ∧ x24 ≤ 0) (g0 : x19 = value_0) (f1 : x24 ≤ 0) (g2 : x24 = fault_0) (f3 : 1 * x15 + ((-1) * x13 + 0) ≤ 0) (f4 : (-1) * x15 + (1 * x13 + 0) ≤ 0) (f5 : 1 * x3 + ((-1) * x15 + 0) ≤ (-1)) (f6 : (-1) * x9 + ((-1) * x15 + 0) ≤ (-2000)) (f7 : 1 * x3 + ((-1) * x13 + 0) ≤ (-1)) (f8 : (-1) * x9 + ((-1) * x13 + 0) ≤ (-2000)) (f9 : 1 * x8 + ((-1) * x2 + 0) ≤ 0) (f10 : (-1) * x8 + 0 ≤ 0) (f13 : 1 * from_0 + ((-1) * pos_0 + 0) ≤ 0) (f14 : ((kind_0 = 1) → (pos_0 ≤ (from_0 + 8))) ∧ ((kind_0 = 0) ∨ ((from_0 + 1) ≤ pos_0))) (f15 : 1 * x15 + ((-1) * pos_0 + 0) ≤ 0) (f16 : (-1) * fault_0 + 0 ≤ (-1)) (f18 : 1 * x15 + ((-1) * x13 + 0) ≤ 0) (f19 : (-1) * x15 + (1 * x13 + 0) ≤ 0) (f20 : 1 * x3 + ((-1) * x15 + 0) ≤ (-1)) (f21 : (-1) * x9 + ((-1) * x15 + 0) ≤ (-2000)) (f22 : 1 * x3 + ((-1) * x13 + 0) ≤ (-1)) (f23 : (-1) * x9 + ((-1) * x13 + 0) ≤ (-2000)) (f24 : 1 * x8 + ((-1) * x2 + 0) ≤ 0) (f25 : (-1) * x8 + 0 ≤ 0) (f27 : 1 * x15 + ((-1) * x13 + 0) ≤ 0) (f28 : (-1) * x15 + (1 * x13 + 0) ≤ 0) (f29 : 1 * x3 + ((-1) * x15 + 0) ≤ (-1)) (f30 : (-1) * x9 + ((-1) * x15 + 0) ≤ (-2000)) (f31 : 1 * x3 + ((-1) * x13 + 0) ≤ (-1)) (f32 : (-1) * x9 + ((-1) * x13 + 0) ≤ (-2000)) (f33 : 1 * x8 + ((-1) * x2 + 0) ≤ 0) (f34 : (-1) * x8 + 0 ≤ 0) (f36 : 1 * x3 + ((-1) * x13 + 0) ≤ (-1)) (f37 : (-1) * x9 + ((-1) * x13 + 0) ≤ (-2000)) (f38 : x8 ≤ 0) (f39 : 1 * x8 + ((-1) * x2 + 0) ≤ 0) (f40 : (-1) * x8 + 0 ≤ 0) (f42 : 1 * x8 + ((-1) * x2 + 0) ≤ 0) (f43 : (-1) * x8 + 0 ≤ 0) (kz_0_8 : 0 ≤ fault_0 ∧ fault_0 ≤ 5) (kz_0_11 : 0 ≤ pos_0 ∧ pos_0 ≤ 2000) (kz_0_12 : 0 ≤ kind_0 ∧ kind_0 ≤ 4) (kz_0_14 : (-2147483648) ≤ value_0 ∧ value_0 ≤ 2147483647) (kz_0_15 : 0 ≤ from_0 ∧ from_0 ≤ 2000) : (-1) * x19 + 0 ≤ 0 := by
  first | assumption | (clear f14; omega) | omega | grind
def o_Mo_of_at_s5002_8 : or_T := (135, 25, [(0, (2, 0, 0, [165])), (2, (0, 99, 99, [])), (3, (0, 0, 2000, [])), (5, (2, 0, 0, [165])), (7, (0, 99, 99, [])), (8, (0, -2147483648, 0, [])), (9, (0, 0, 2000, [])), (13, (0, 0, 2000, [])), (15, (0, 0, 2000, [])), (19, (0, -2147483648, 0, [])), (24, (0, 0, 0, []))], [(9, [19, 5], [14]), (8, [24], [5]), (9, [24, 5], [8]), (23, [15, 13], [0, 1, -1]), (23, [15, 13], [0, -1, 1]), (23, [3, 15], [-1, 1, -1]), (23, [9, 15], [-2000, -1, -1]), (23, [3, 13], [-1, 1, -1]), (23, [9, 13], [-2000, -1, -1]), (23, [8, 7], [0, 1, -1]), (23, [8], [0, -1]), (24, [0, 5], []), (24, [2, 7], []), (20, [5, 5], [30, 0, 1, 1, 15, -1, 1, 11]), (20, [5], [50, 3, 0, 12, 11, 15, 2, 21, 4, 7, 1, 3, 2, 0, 12, 0, 1, 0, 3, 2, 0, 11, 4, 3, 2, 0, 15, 0, 8, 3, 7, 1, 3, 2, 0, 12, 0, 0, 0, 7, 4, 3, 2, 0, 15, 0, 1, 2, 0, 11]), (20, [15, 5], [30, 0, 1, 0, 0, -1, 1, 11]), (20, [5], [30, -1, -1, 1, 8]), (102, [23], [0, 165008, 165009]), (23, [15, 13], [0, 1, -1]), (23, [15, 13], [0, -1, 1]), (23, [3, 15], [-1, 1, -1]), (23, [9, 15], [-2000, -1, -1]), (23, [3, 13], [-1, 1, -1]), (23, [9, 13], [-2000, -1, -1]), (23, [8, 7], [0, 1, -1]), (23, [8], [0, -1]), (102, [15], [0, 165008, 165009, 165011, 165012, 165013, 165014, 165015]), (23, [15, 13], [0, 1, -1]), (23, [15, 13], [0, -1, 1]), (23, [3, 15], [-1, 1, -1]), (23, [9, 15], [-2000, -1, -1]), (23, [3, 13], [-1, 1, -1]), (23, [9, 13], [-2000, -1, -1]), (23, [8, 7], [0, 1, -1]), (23, [8], [0, -1]), (102, [13], [0, 165011, 165012, 165013, 165014, 165015]), (23, [3, 13], [-1, 1, -1]), (23, [9, 13], [-2000, -1, -1]), (8, [8], [5]), (23, [8, 7], [0, 1, -1]), (23, [8], [0, -1]), (102, [11], [0]), (23, [8, 7], [0, 1, -1]), (23, [8], [0, -1])], [], [], [(23, [19, 7], [0, 1, -1]), (23, [19], [0, -1])], [], [])
theorem oo_Mo_of_at_s5002_8 {kA : Nat → ClassId} : or_ok PRD kA GG o_Mo_of_at_s5002_8 := by
  refine or_mk fun A ta ws vs hD hth hl => ?_
  intro t0 r0 t2 k2 t3 k3 t5 r5 t7 k7 t8 k8 t9 k9 t13 k13 t15 k15 t19 k19 t24 k24 f0 f1 f2 f3 f4 f5 f6 f7 f8 f9 f10 f11 f12 f13 f14 f15 f16 ta1 w1 le1 s1 f18 f19 f20 f21 f22 f23 f24 f25 ta2 w2 le2 s2 f27 f28 f29 f30 f31 f32 f33 f34 ta3 w3 le3 s3 f36 f37 f38 f39 f40 ta4 w4 le4 s4 f42 f43
  replace f0 := shm_116 f0
  replace f1 := shm_142 f1
  replace f2 := shm_143 f2
  replace f3 := shm_7 f3
  replace f4 := shm_22 f4
  replace f5 := shm_211 f5
  replace f6 := shm_1894 f6
  replace f7 := shm_211 f7
  replace f8 := shm_1894 f8
  replace f9 := shm_7 f9
  replace f10 := shm_1013 f10
  replace f11 := shm_5 f11
  replace f12 := shm_5 f12
  replace f13 := shm_1397 f13
  replace f14 := shm_1398 f14
  replace f15 := shm_1395 f15
  replace f16 := shm_144 f16
  replace f18 := shm_7 f18
  replace f19 := shm_22 f19
  replace f20 := shm_211 f20
  replace f21 := shm_1894 f21
  replace f22 := shm_211 f22
  replace f23 := shm_1894 f23
  replace f24 := shm_7 f24
  replace f25 := shm_1013 f25
  replace f27 := shm_7 f27
  replace f28 := shm_22 f28
  replace f29 := shm_211 f29
  replace f30 := shm_1894 f30
  replace f31 := shm_211 f31
  replace f32 := shm_1894 f32
  replace f33 := shm_7 f33
  replace f34 := shm_1013 f34
  replace f36 := shm_211 f36
  replace f37 := shm_1894 f37
  replace f38 := shm_142 f38
  replace f39 := shm_7 f39
  replace f40 := shm_1013 f40
  replace f42 := shm_7 f42
  replace f43 := shm_1013 f43
  have q5 : n_v vs 5 = n_v vs 0 := f11.symm
  have q7 : n_v vs 7 = n_v vs 2 := f12.symm
  simp only [q5, q7] at f0 f2 f9 f13 f14 f15 f16 f24 f33 f39 f42
  have g0 : v_iv (n_v vs 19) = w_fi ws (n_v vs 0) 14 := congrArg v_iv f0
  have g2 : v_iv (n_v vs 24) = w_fi ws (n_v vs 0) 8 := congrArg v_iv f2
  have kz_0_8 := fdq_14 hD hth r0
  have kz_0_11 := fdq_273 hD hth r0
  have kz_0_12 := fdq_186 hD hth r0
  have kz_0_14 := fdq_311 hD hth r0
  have kz_0_15 := fdq_274 hD hth r0
  have nf0 : fc_1 PRD (23, [19, 7], [0, 1, -1]) ws (vs) := by
    refine ⟨nf_in hl rfl, sgq_7 ?_⟩
    · show 1 * v_iv (n_v vs 19) + ((-1) * v_iv (n_v vs 7) + 0) ≤ 0
      rw [q7]
      exact vc_Mo_of_at_s5002_8_0 (v_iv (n_v vs 2)) (v_iv (n_v vs 3)) (v_iv (n_v vs 7)) (v_iv (n_v vs 8)) (v_iv (n_v vs 9)) (v_iv (n_v vs 13)) (v_iv (n_v vs 15)) (v_iv (n_v vs 19)) (v_iv (n_v vs 24)) (w_fi ws (n_v vs 0) 14) (w_fi ws (n_v vs 0) 8) (w_fi ws (n_v vs 0) 15) (w_fi ws (n_v vs 0) 11) (w_fi ws (n_v vs 0) 12) k2 k3 k7 k8 k9 k13 k15 k19 k24 g0 f1 g2 f3 f4 f5 f6 f7 f8 f9 f10 f13 f14 f15 f16 f18 f19 f20 f21 f22 f23 f24 f25 f27 f28 f29 f30 f31 f32 f33 f34 f36 f37 f38 f39 f40 f42 f43 kz_0_8 kz_0_11 kz_0_12 kz_0_14 kz_0_15
  have nf1 : fc_1 PRD (23, [19], [0, -1]) ws (vs) := ⟨nf_in hl rfl, sgq_1013 (vc_Mo_of_at_s5002_8_1 (v_iv (n_v vs 2)) (v_iv (n_v vs 3)) (v_iv (n_v vs 7)) (v_iv (n_v vs 8)) (v_iv (n_v vs 9)) (v_iv (n_v vs 13)) (v_iv (n_v vs 15)) (v_iv (n_v vs 19)) (v_iv (n_v vs 24)) (w_fi ws (n_v vs 0) 14) (w_fi ws (n_v vs 0) 8) (w_fi ws (n_v vs 0) 15) (w_fi ws (n_v vs 0) 11) (w_fi ws (n_v vs 0) 12) k2 k3 k7 k8 k9 k13 k15 k19 k24 g0 f1 g2 f3 f4 f5 f6 f7 f8 f9 f10 f13 f14 f15 f16 f18 f19 f20 f21 f22 f23 f24 f25 f27 f28 f29 f30 f31 f32 f33 f34 f36 f37 f38 f39 f40 f42 f43 kz_0_8 kz_0_11 kz_0_12 kz_0_14 kz_0_15)⟩
  refine ⟨(fun _ h => (by cases h)), [], trivial, ?_, (fun _ h => (by cases h))⟩
  rw [List.append_nil]
  exact List.forall_mem_cons.mpr ⟨⟨show (23 : Nat) < 100 from by decide, nf0⟩, List.forall_mem_cons.mpr ⟨⟨show (23 : Nat) < 100 from by decide, nf1⟩, (fun _ h => (by cases h))⟩⟩
set_option maxHeartbeats 4000000 in
theorem vc_Mo_of_at_s5002_9_0 (x2 : Int) (x3 : Int) (x7 : Int) (x9 : Int) (x13 : Int) (x15 : Int) (x24 : Int) (fault_0 : Int) (from_0 : Int) (pos_0 : Int) (kind_0 : Int) (gx : Int) (k2 : 99 ≤ x2 ∧ x2 ≤ 99) (k3 : 0 ≤ x3 ∧ x3 ≤ 2000) (k7 : 99 ≤ x7 ∧ x7 ≤ 99) (k9 : 0 ≤ x9 ∧ x9 ≤ 2000) (k13 : 0 ≤ x13 ∧ x13 ≤ 2000) (k15 : 0 ≤ x15 ∧ x15 ≤ 2000) (k24 : 0 ≤ x24 ∧ x24 ≤ 0) (f0 : x24 ≤ 0) (g1 : x24 = fault_0) (f2 : 1 * x15 + ((-1) * x13 + 0) ≤ 0) (f3 : (-1) * x15 + (1 * x13 + 0) ≤ 0) (f4 : 1 * x3 + ((-1) * x15 + 0) ≤ (-1)) (f5 : (-1) * x9 + ((-1) * x15 + 0) ≤ (-2000)) (f6 : 1 * x3 + ((-1) * x13 + 0) ≤ (-1)) (f7 : (-1) * x9 + ((-1) * x13 + 0) ≤ (-2000)) (f10 : 1 * from_0 + ((-1) * pos_0 + 0) ≤ 0) (f11 : ((kind_0 = 1) → (pos_0 ≤ (from_0 + 8))) ∧ ((kind_0 = 0) ∨ ((from_0 + 1) ≤ pos_0))) (f12 : 1 * x15 + ((-1) * pos_0 + 0) ≤ 0) (f13 : (-1) * fault_0 + 0 ≤ (-1)) (f15 : 1 * x15 + ((-1) * x13 + 0) ≤ 0) (f16 : (-1) * x15 + (1 * x13 + 0) ≤ 0) (f17 : 1 * x3 + ((-1) * x15 + 0) ≤ (-1)) (f18 : (-1) * x9 + ((-1) * x15 + 0) ≤ (-2000)) (f19 : 1 * x3 + ((-1) * x13 + 0) ≤ (-1)) (f20 : (-1) * x9 + ((-1) * x13 + 0) ≤ (-2000)) (f22 : 1 * x15 + ((-1) * x13 + 0) ≤ 0) (f23 : (-1) * x15 + (1 * x13 + 0) ≤ 0) (f24 : 1 * x3 + ((-1) * x15 + 0) ≤ (-1)) (f25 : (-1) * x9 + ((-1) * x15 + 0) ≤ (-2000)) (f26 : 1 * x3 + ((-1) * x13 + 0) ≤ (-1)) (f27 : (-1) * x9 + ((-1) * x13 + 0) ≤ (-2000)) (f29 : 1 * x3 + ((-1) * x13 + 0) ≤ (-1)) (f30 : (-1) * x9 + ((-1) * x13 + 0) ≤ (-2000)) (kz_0_8 : 0 ≤ fault_0 ∧ fault_0 ≤ 5) (kz_0_11 : 0 ≤ pos_0 ∧ pos_0 ≤ 2000) (kz_0_12 : 0 ≤ kind_0 ∧ kind_0 ≤ 4) (kz_0_15 : 0 ≤ from_0 ∧ from_0 ≤ 2000) (ex2 : gx = pos_0) (ex3 : 0 ≤ gx ∧ gx ≤ 2000) : 1 * gx + ((-1) * pos_0 + 0) ≤ 0 := by
  first | assumption | (clear f11; omega) | omega | grind
set_option maxHeartbeats 4000000 in
theorem vc_Mo_of_at_s5002_9_1 (x2 : Int) (x3 : Int) (x7 : Int) (x9 : Int) (x13 : Int) (x15 : Int) (x24 : Int) (fault_0 : Int) (from_0 : Int) (pos_0 : Int) (kind_0 : Int) (gx : Int) (k2 : 99 ≤ x2 ∧ x2 ≤ 99) (k3 : 0 ≤ x3 ∧ x3 ≤ 2000) (k7 : 99 ≤ x7 ∧ x7 ≤ 99) (k9 : 0 ≤ x9 ∧ x9 ≤ 2000) (k13 : 0 ≤ x13 ∧ x13 ≤ 2000) (k15 : 0 ≤ x15 ∧ x15 ≤ 2000) (k24 : 0 ≤ x24 ∧ x24 ≤ 0) (f0 : x24 ≤ 0) (g1 : x24 = fault_0) (f2 : 1 * x15 + ((-1) * x13 + 0) ≤ 0) (f3 : (-1) * x15 + (1 * x13 + 0) ≤ 0) (f4 : 1 * x3 + ((-1) * x15 + 0) ≤ (-1)) (f5 : (-1) * x9 + ((-1) * x15 + 0) ≤ (-2000)) (f6 : 1 * x3 + ((-1) * x13 + 0) ≤ (-1)) (f7 : (-1) * x9 + ((-1) * x13 + 0) ≤ (-2000)) (f10 : 1 * from_0 + ((-1) * pos_0 + 0) ≤ 0) (f11 : ((kind_0 = 1) → (pos_0 ≤ (from_0 + 8))) ∧ ((kind_0 = 0) ∨ ((from_0 + 1) ≤ pos_0))) (f12 : 1 * x15 + ((-1) * pos_0 + 0) ≤ 0) (f13 : (-1) * fault_0 + 0 ≤ (-1)) (f15 : 1 * x15 + ((-1) * x13 + 0) ≤ 0) (f16 : (-1) * x15 + (1 * x13 + 0) ≤ 0) (f17 : 1 * x3 + ((-1) * x15 + 0) ≤ (-1)) (f18 : (-1) * x9 + ((-1) * x15 + 0) ≤ (-2000)) (f19 : 1 * x3 + ((-1) * x13 + 0) ≤ (-1)) (f20 : (-1) * x9 + ((-1) * x13 + 0) ≤ (-2000)) (f22 : 1 * x15 + ((-1) * x13 + 0) ≤ 0) (f23 : (-1) * x15 + (1 * x13 + 0) ≤ 0) (f24 : 1 * x3 + ((-1) * x15 + 0) ≤ (-1)) (f25 : (-1) * x9 + ((-1) * x15 + 0) ≤ (-2000)) (f26 : 1 * x3 + ((-1) * x13 + 0) ≤ (-1)) (f27 : (-1) * x9 + ((-1) * x13 + 0) ≤ (-2000)) (f29 : 1 * x3 + ((-1) * x13 + 0) ≤ (-1)) (f30 : (-1) * x9 + ((-1) * x13 + 0) ≤ (-2000)) (kz_0_8 : 0 ≤ fault_0 ∧ fault_0 ≤ 5) (kz_0_11 : 0 ≤ pos_0 ∧ pos_0 ≤ 2000) (kz_0_12 : 0 ≤ kind_0 ∧ kind_0 ≤ 4) (kz_0_15 : 0 ≤ from_0 ∧ from_0 ≤ 2000) (ex2 : gx = pos_0) (ex3 : 0 ≤ gx ∧ gx ≤ 2000) : 1 * x3 + ((-1) * gx + 0) ≤ (-1) := by
  first | assumption | (clear f11; omega) | omega | grind
set_option maxHeartbeats 4000000 in
theorem vc_Mo_of_at_s5002_9_2 (x2 : Int) (x3 : Int) (x7 : Int) (x9 : Int) (x13 : Int) (x15 : Int) (x24 : Int) (fault_0 : Int) (from_0 : Int) (pos_0 : Int) (kind_0 : Int) (gx : Int) (k2 : 99 ≤ x2 ∧ x2 ≤ 99) (k3 : 0 ≤ x3 ∧ x3 ≤ 2000) (k7 : 99 ≤ x7 ∧ x7 ≤ 99) (k9 : 0 ≤ x9 ∧ x9 ≤ 2000) (k13 : 0 ≤ x13 ∧ x13 ≤ 2000) (k15 : 0 ≤ x15 ∧ x15 ≤ 2000) (k24 : 0 ≤ x24 ∧ x24 ≤ 0) (f0 : x24 ≤ 0) (g1 : x24 = fault_0) (f2 : 1 * x15 + ((-1) * x13 + 0) ≤ 0) (f3 : (-1) * x15 + (1 * x13 + 0) ≤ 0) (f4 : 1 * x3 + ((-1) * x15 + 0) ≤ (-1)) (f5 : (-1) * x9 + ((-1) * x15 + 0) ≤ (-2000)) (f6 : 1 * x3 + ((-1) * x13 + 0) ≤ (-1)) (f7 : (-1) * x9 + ((-1) * x13 + 0) ≤ (-2000)) (f10 : 1 * from_0 + ((-1) * pos_0 + 0) ≤ 0) (f11 : ((kind_0 = 1) → (pos_0 ≤ (from_0 + 8))) ∧ ((kind_0 = 0) ∨ ((from_0 + 1) ≤ pos_0))) (f12 : 1 * x15 + ((-1) * pos_0 + 0) ≤ 0) (f13 : (-1) * fault_0 + 0 ≤ (-1)) (f15 : 1 * x15 + ((-1) * x13 + 0) ≤ 0) (f16 : (-1) * x15 + (1 * x13 + 0) ≤ 0) (f17 : 1 * x3 + ((-1) * x15 + 0) ≤ (-1)) (f18 : (-1) * x9 + ((-1) * x15 + 0) ≤ (-2000)) (f19 : 1 * x3 + ((-1) * x13 + 0) ≤ (-1)) (f20 : (-1) * x9 + ((-1) * x13 + 0) ≤ (-2000)) (f22 : 1 * x15 + ((-1) * x13 + 0) ≤ 0) (f23 : (-1) * x15 + (1 * x13 + 0) ≤ 0) (f24 : 1 * x3 + ((-1) * x15 + 0) ≤ (-1)) (f25 : (-1) * x9 + ((-1) * x15 + 0) ≤ (-2000)) (f26 : 1 * x3 + ((-1) * x13 + 0) ≤ (-1)) (f27 : (-1) * x9 + ((-1) * x13 + 0) ≤ (-2000)) (f29 : 1 * x3 + ((-1) * x13 + 0) ≤ (-1)) (f30 : (-1) * x9 + ((-1) * x13 + 0) ≤ (-2000)) (kz_0_8 : 0 ≤ fault_0 ∧ fault_0 ≤ 5) (kz_0_11 : 0 ≤ pos_0 ∧ pos_0 ≤ 2000) (kz_0_12 : 0 ≤ kind_0 ∧ kind_0 ≤ 4) (kz_0_15 : 0 ≤ from_0 ∧ from_0 ≤ 2000) (ex2 : gx = pos_0) (ex3 : 0 ≤ gx ∧ gx ≤ 2000) : (-1) * x9 + ((-1) * gx + 0) ≤ (-2001) := by
  first | assumption | (clear f11; omega) | omega | grind
def o_Mo_of_at_s5002_9 : or_T := (136, 25, [(0, (2, 0, 0, [165])), (2, (0, 99, 99, [])), (3, (0, 0, 2000, [])), (5, (2, 0, 0, [165])), (7, (0, 99, 99, [])), (9, (0, 0, 2000, [])), (13, (0, 0, 2000, [])), (15, (0, 0, 2000, [])), (24, (0, 0, 0, []))], [(8, [24], [5]), (9, [24, 5], [8]), (23, [15, 13], [0, 1, -1]), (23, [15, 13], [0, -1, 1]), (23, [3, 15], [-1, 1, -1]), (23, [9, 15], [-2000, -1, -1]), (23, [3, 13], [-1, 1, -1]), (23, [9, 13], [-2000, -1, -1]), (24, [0, 5], []), (24, [2, 7], []), (20, [5, 5], [30, 0, 1, 1, 15, -1, 1, 11]), (20, [5], [50, 3, 0, 12, 11, 15, 2, 21, 4, 7, 1, 3, 2, 0, 12, 0, 1, 0, 3, 2, 0, 11, 4, 3, 2, 0, 15, 0, 8, 3, 7, 1, 3, 2, 0, 12, 0, 0, 0, 7, 4, 3, 2, 0, 15, 0, 1, 2, 0, 11]), (20, [15, 5], [30, 0, 1, 0, 0, -1, 1, 11]), (20, [5], [30, -1, -1, 1, 8]), (102, [23], [0, 165008, 165009]), (23, [15, 13], [0, 1, -1]), (23, [15, 13], [0, -1, 1]), (23, [3, 15], [-1, 1, -1]), (23, [9, 15], [-2000, -1, -1]), (23, [3, 13], [-1, 1, -1]), (23, [9, 13], [-2000, -1, -1]), (102, [15], [0, 165008, 165009, 165011, 165012, 165013, 165014, 165015]), (23, [15, 13], [0, 1, -1]), (23, [15, 13], [0, -1, 1]), (23, [3, 15], [-1, 1, -1]), (23, [9, 15], [-2000, -1, -1]), (23, [3, 13], [-1, 1, -1]), (23, [9, 13], [-2000, -1, -1]), (102, [13], [0, 165011, 165012, 165013, 165014, 165015]), (23, [3, 13], [-1, 1, -1]), (23, [9, 13], [-2000, -1, -1])], [], [(0, 0, 2000, [])], [(20, [25, 5], [30, 0, 1, 0, 0, -1, 1, 11]), (23, [3, 25], [-1, 1, -1]), (23, [9, 25], [-2001, -1, -1])], [], [])
theorem oo_Mo_of_at_s5002_9 {kA : Nat → ClassId} : or_ok PRD kA GG o_Mo_of_at_s5002_9 := by
  refine or_mk fun A ta ws vs hD hth hl => ?_
  intro t0 r0 t2 k2 t3 k3 t5 r5 t7 k7 t9 k9 t13 k13 t15 k15 t24 k24 f0 f1 f2 f3 f4 f5 f6 f7 f8 f9 f10 f11 f12 f13 ta1 w1 le1 s1 f15 f16 f17 f18 f19 f20 ta2 w2 le2 s2 f22 f23 f24 f25 f26 f27 ta3 w3 le3 s3 f29 f30
  replace f0 := shm_142 f0
  replace f1 := shm_143 f1
  replace f2 := shm_7 f2
  replace f3 := shm_22 f3
  replace f4 := shm_211 f4
  replace f5 := shm_1894 f5
  replace f6 := shm_211 f6
  replace f7 := shm_1894 f7
  replace f8 := shm_5 f8
  replace f10 := shm_1397 f10
  replace f11 := shm_1398 f11
  replace f12 := shm_1395 f12
  replace f13 := shm_144 f13
  replace f15 := shm_7 f15
  replace f16 := shm_22 f16
  replace f17 := shm_211 f17
  replace f18 := shm_1894 f18
  replace f19 := shm_211 f19
  replace f20 := shm_1894 f20
  replace f22 := shm_7 f22
  replace f23 := shm_22 f23
  replace f24 := shm_211 f24
  replace f25 := shm_1894 f25
  replace f26 := shm_211 f26
  replace f27 := shm_1894 f27
  replace f29 := shm_211 f29
  replace f30 := shm_1894 f30
  have q5 : n_v vs 5 = n_v vs 0 := f8.symm
  simp only [q5] at f1 f10 f11 f12 f13
  have g1 : v_iv (n_v vs 24) = w_fi ws (n_v vs 0) 8 := congrArg v_iv f1
  have kz_0_8 := fdq_14 hD hth r0
  have kz_0_11 := fdq_273 hD hth r0
  have kz_0_12 := fdq_186 hD hth r0
  have kz_0_15 := fdq_274 hD hth r0
  obtain ⟨x, ex, hx⟩ := iv_ex (ta := ta) (lo := 0) (hi := 2000) (z := w_fi ws (n_v vs 0) 11) (by omega) (by omega) (by omega) (by omega)
  have ex2 : v_iv (Value.int x) = w_fi ws (n_v vs 0) 11 := ex
  have ex3 : 0 ≤ v_iv (Value.int x) ∧ v_iv (Value.int x) ≤ 2000 := tv_rng hx
  have e_3 : n_v (vs ++ [Value.int x]) 3 = n_v vs 3 := n_v_old (by rw [hl]; decide)
  have e_5 : n_v (vs ++ [Value.int x]) 5 = n_v vs 5 := n_v_old (by rw [hl]; decide)
  have e_9 : n_v (vs ++ [Value.int x]) 9 = n_v vs 9 := n_v_old (by rw [hl]; decide)
  have e_25 : n_v (vs ++ [Value.int x]) 25 = Value.int x := n_v_new hl
  have nf0 : fc_1 PRD (20, [25, 5], [30, 0, 1, 0, 0, -1, 1, 11]) ws (vs ++ [Value.int x]) := by
    refine ⟨nf_inA hl rfl, sgq_1395 ?_⟩
    · show 1 * v_iv (n_v (vs ++ [Value.int x]) 25) + ((-1) * w_fi ws (n_v (vs ++ [Value.int x]) 5) 11 + 0) ≤ 0
      simp only [e_5, e_25, q5]
      exact vc_Mo_of_at_s5002_9_0 (v_iv (n_v vs 2)) (v_iv (n_v vs 3)) (v_iv (n_v vs 7)) (v_iv (n_v vs 9)) (v_iv (n_v vs 13)) (v_iv (n_v vs 15)) (v_iv (n_v vs 24)) (w_fi ws (n_v vs 0) 8) (w_fi ws (n_v vs 0) 15) (w_fi ws (n_v vs 0) 11) (w_fi ws (n_v vs 0) 12) (v_iv (Value.int x)) k2 k3 k7 k9 k13 k15 k24 f0 g1 f2 f3 f4 f5 f6 f7 f10 f11 f12 f13 f15 f16 f17 f18 f19 f20 f22 f23 f24 f25 f26 f27 f29 f30 kz_0_8 kz_0_11 kz_0_12 kz_0_15 ex2 ex3
  have nf1 : fc_1 PRD (23, [3, 25], [-1, 1, -1]) ws (vs ++ [Value.int x]) := by
    refine ⟨nf_inA hl rfl, sgq_211 ?_⟩
    · show 1 * v_iv (n_v (vs ++ [Value.int x]) 3) + ((-1) * v_iv (n_v (vs ++ [Value.int x]) 25) + 0) ≤ (-1)
      simp only [e_3, e_25]
      exact vc_Mo_of_at_s5002_9_1 (v_iv (n_v vs 2)) (v_iv (n_v vs 3)) (v_iv (n_v vs 7)) (v_iv (n_v vs 9)) (v_iv (n_v vs 13)) (v_iv (n_v vs 15)) (v_iv (n_v vs 24)) (w_fi ws (n_v vs 0) 8) (w_fi ws (n_v vs 0) 15) (w_fi ws (n_v vs 0) 11) (w_fi ws (n_v vs 0) 12) (v_iv (Value.int x)) k2 k3 k7 k9 k13 k15 k24 f0 g1 f2 f3 f4 f5 f6 f7 f10 f11 f12 f13 f15 f16 f17 f18 f19 f20 f22 f23 f24 f25 f26 f27 f29 f30 kz_0_8 kz_0_11 kz_0_12 kz_0_15 ex2 ex3
  have nf2 : fc_1 PRD (23, [9, 25], [-2001, -1, -1]) ws (vs ++ [Value.int x]) := by
    refine ⟨nf_inA hl rfl, sgq_1895 ?_⟩
    · show (-1) * v_iv (n_v (vs ++ [Value.int x]) 9) + ((-1) * v_iv (n_v (vs ++ [Value.int x]) 25) + 0) ≤ (-2001)
      simp only [e_9, e_25]
      exact vc_Mo_of_at_s5002_9_2 (v_iv (n_v vs 2)) (v_iv (n_v vs 3)) (v_iv (n_v vs 7)) (v_iv (n_v vs 9)) (v_iv (n_v vs 13)) (v_iv (n_v vs 15)) (v_iv (n_v vs 24)) (w_fi ws (n_v vs 0) 8) (w_fi ws (n_v vs 0) 15) (w_fi ws (n_v vs 0) 11) (w_fi ws (n_v vs 0) 12) (v_iv (Value.int x)) k2 k3 k7 k9 k13 k15 k24 f0 g1 f2 f3 f4 f5 f6 f7 f10 f11 f12 f13 f15 f16 f17 f18 f19 f20 f22 f23 f24 f25 f26 f27 f29 f30 kz_0_8 kz_0_11 kz_0_12 kz_0_15 ex2 ex3
  exact ⟨(fun _ h => (by cases h)), [Value.int x], ag_one hx, List.forall_mem_cons.mpr ⟨⟨show (20 : Nat) < 100 from by decide, nf0⟩, List.forall_mem_cons.mpr ⟨⟨show (23 : Nat) < 100 from by decide, nf1⟩, List.forall_mem_cons.mpr ⟨⟨show (23 : Nat) < 100 from by decide, nf2⟩, (fun _ h => (by cases h))⟩⟩⟩, (fun _ h => (by cases h))⟩
set_option maxHeartbeats 4000000 in
theorem vc_Mo_of_at_s5002_10_0 (x2 : Int) (x3 : Int) (x4 : Int) (x7 : Int) (x8 : Int) (x9 : Int) (x13 : Int) (x15 : Int) (x19 : Int) (x25 : Int) (fault_0 : Int) (from_0 : Int) (pos_0 : Int) (kind_0 : Int) (gx : Int) (k2 : 99 ≤ x2 ∧ x2 ≤ 99) (k3 : 0 ≤ x3 ∧ x3 ≤ 2000) (k4 : (-1) ≤ x4 ∧ x4 ≤ 48) (k7 : 99 ≤ x7 ∧ x7 ≤ 99) (k8 : (-2147483648) ≤ x8 ∧ x8 ≤ 0) (k9 : 0 ≤ x9 ∧ x9 ≤ 2000) (k13 : 0 ≤ x13 ∧ x13 ≤ 2000) (k15 : 0 ≤ x15 ∧ x15 ≤ 2000) (k19 : (-2147483648) ≤ x19 ∧ x19 ≤ 0) (k25 : 0 ≤ x25 ∧ x25 ≤ 2000) (f0 : 1 * x3 + ((-1) * x25 + 0) ≤ (-1)) (f1 : (-1) * x9 + ((-1) * x25 + 0) ≤ (-2001)) (f2 : 1 * x19 + ((-1) * x2 + 0) ≤ 0) (f3 : (-1) * x19 + 0 ≤ 0) (f4 : 1 * x15 + ((-1) * x13 + 0) ≤ 0) (f5 : (-1) * x15 + (1 * x13 + 0) ≤ 0) (f6 : 1 * x3 + ((-1) * x15 + 0) ≤ (-1)) (f7 : (-1) * x9 + ((-1) * x15 + 0) ≤ (-2000)) (f8 : 1 * x3 + ((-1) * x13 + 0) ≤ (-1)) (f9 : (-1) * x9 + ((-1) * x13 + 0) ≤ (-2000)) (f10 : 1 * x8 + ((-1) * x2 + 0) ≤ 0) (f11 : (-1) * x8 + 0 ≤ 0) (f12 : (-1) * x4 + 0 ≤ 0) (f15 : (-1) * fault_0 + 0 ≤ (-1)) (f16 : 1 * from_0 + ((-1) * pos_0 + 0) ≤ 0) (f17 : ((kind_0 = 1) → (pos_0 ≤ (from_0 + 8))) ∧ ((kind_0 = 0) ∨ ((from_0 + 1) ≤ pos_0))) (f18 : 1 * x25 + ((-1) * from_0 + 0) ≤ 0) (f20 : 1 * x3 + ((-1) * x25 + 0) ≤ (-1)) (f21 : (-1) * x9 + ((-1) * x25 + 0) ≤ (-2001)) (f22 : 1 * x19 + ((-1) * x2 + 0) ≤ 0) (f23 : (-1) * x19 + 0 ≤ 0) (f24 : 1 * x15 + ((-1) * x13 + 0) ≤ 0) (f25 : (-1) * x15 + (1 * x13 + 0) ≤ 0) (f26 : 1 * x3 + ((-1) * x15 + 0) ≤ (-1)) (f27 : (-1) * x9 + ((-1) * x15 + 0) ≤ (-2000)) (f28 : 1 * x3 + ((-1) * x13 + 0) ≤ (-1)) (f29 : (-1) * x9 + ((-1) * x13 + 0) ≤ (-2000)) (f30 : 1 * x8 + ((-1) * x2 + 0) ≤ 0) (f31 : (-1) * x8 + 0 ≤ 0) (f32 : (-1) * x4 + 0 ≤ 0) (f34 : 1 * x15 + ((-1) * x13 + 0) ≤ 0) (f35 : (-1) * x15 + (1 * x13 + 0) ≤ 0) (f36 : 1 * x3 + ((-1) * x15 + 0) ≤ (-1)) (f37 : (-1) * x9 + ((-1) * x15 + 0) ≤ (-2000)) (f38 : 1 * x3 + ((-1) * x13 + 0) ≤ (-1)) (f39 : (-1) * x9 + ((-1) * x13 + 0) ≤ (-2000)) (f40 : 1 * x8 + ((-1) * x2 + 0) ≤ 0) (f41 : (-1) * x8 + 0 ≤ 0) (f42 : (-1) * x4 + 0 ≤ 0) (f44 : 1 * x15 + ((-1) * x13 + 0) ≤ 0) (f45 : (-1) * x15 + (1 * x13 + 0) ≤ 0) (f46 : 1 * x3 + ((-1) * x15 + 0) ≤ (-1)) (f47 : (-1) * x9 + ((-1) * x15 + 0) ≤ (-2000)) (f48 : 1 * x3 + ((-1) * x13 + 0) ≤ (-1)) (f49 : (-1) * x9 + ((-1) * x13 + 0) ≤ (-2000)) (f50 : 1 * x8 + ((-1) * x2 + 0) ≤ 0) (f51 : (-1) * x8 + 0 ≤ 0) (f52 : (-1) * x4 + 0 ≤ 0) (f54 : 1 * x3 + ((-1) * x13 + 0) ≤ (-1)) (f55 : (-1) * x9 + ((-1) * x13 + 0) ≤ (-2000)) (f56 : x8 ≤ 0) (f57 : 1 * x8 + ((-1) * x2 + 0) ≤ 0) (f58 : (-1) * x8 + 0 ≤ 0) (f59 : (-1) * x4 + 0 ≤ 0) (f61 : 1 * x8 + ((-1) * x2 + 0) ≤ 0) (f62 : (-1) * x8 + 0 ≤ 0) (f63 : (-1) * x4 + 0 ≤ 0) (kz_0_8 : 0 ≤ fault_0 ∧ fault_0 ≤ 5) (kz_0_11 : 0 ≤ pos_0 ∧ pos_0 ≤ 2000) (kz_0_12 : 0 ≤ kind_0 ∧ kind_0 ≤ 4) (kz_0_15 : 0 ≤ from_0 ∧ from_0 ≤ 2000) (ex2 : gx = 0 + (1 * x9 + 0)) (ex3 : 0 ≤ gx ∧ gx ≤ 2000) : 1 * from_0 + ((-1) * pos_0 + 0) ≤ 0 := by
  first | assumption | (clear f17; omega) | omega | grind
set_option maxHeartbeats 4000000 in
theorem vc_Mo_of_at_s5002_10_1 (x2 : Int) (x3 : Int) (x4 : Int) (x7 : Int) (x8 : Int) (x9 : Int) (x13 : Int) (x15 : Int) (x19 : Int) (x25 : Int) (fault_0 : Int) (from_0 : Int) (pos_0 : Int) (kind_0 : Int) (gx : Int) (k2 : 99 ≤ x2 ∧ x2 ≤ 99) (k3 : 0 ≤ x3 ∧ x3 ≤ 2000) (k4 : (-1) ≤ x4 ∧ x4 ≤ 48) (k7 : 99 ≤ x7 ∧ x7 ≤ 99) (k8 : (-2147483648) ≤ x8 ∧ x8 ≤ 0) (k9 : 0 ≤ x9 ∧ x9 ≤ 2000) (k13 : 0 ≤ x13 ∧ x13 ≤ 2000) (k15 : 0 ≤ x15 ∧ x15 ≤ 2000) (k19 : (-2147483648) ≤ x19 ∧ x19 ≤ 0) (k25 : 0 ≤ x25 ∧ x25 ≤ 2000) (f0 : 1 * x3 + ((-1) * x25 + 0) ≤ (-1)) (f1 : (-1) * x9 + ((-1) * x25 + 0) ≤ (-2001)) (f2 : 1 * x19 + ((-1) * x2 + 0) ≤ 0) (f3 : (-1) * x19 + 0 ≤ 0) (f4 : 1 * x15 + ((-1) * x13 + 0) ≤ 0) (f5 : (-1) * x15 + (1 * x13 + 0) ≤ 0) (f6 : 1 * x3 + ((-1) * x15 + 0) ≤ (-1)) (f7 : (-1) * x9 + ((-1) * x15 + 0) ≤ (-2000)) (f8 : 1 * x3 + ((-1) * x13 + 0) ≤ (-1)) (f9 : (-1) * x9 + ((-1) * x13 + 0) ≤ (-2000)) (f10 : 1 * x8 + ((-1) * x2 + 0) ≤ 0) (f11 : (-1) * x8 + 0 ≤ 0) (f12 : (-1) * x4 + 0 ≤ 0) (f15 : (-1) * fault_0 + 0 ≤ (-1)) (f16 : 1 * from_0 + ((-1) * pos_0 + 0) ≤ 0) (f17 : ((kind_0 = 1) → (pos_0 ≤ (from_0 + 8))) ∧ ((kind_0 = 0) ∨ ((from_0 + 1) ≤ pos_0))) (f18 : 1 * x25 + ((-1) * from_0 + 0) ≤ 0) (f20 : 1 * x3 + ((-1) * x25 + 0) ≤ (-1)) (f21 : (-1) * x9 + ((-1) * x25 + 0) ≤ (-2001)) (f22 : 1 * x19 + ((-1) * x2 + 0) ≤ 0) (f23 : (-1) * x19 + 0 ≤ 0) (f24 : 1 * x15 + ((-1) * x13 + 0) ≤ 0) (f25 : (-1) * x15 + (1 * x13 + 0) ≤ 0) (f26 : 1 * x3 + ((-1) * x15 + 0) ≤ (-1)) (f27 : (-1) * x9 + ((-1) * x15 + 0) ≤ (-2000)) (f28 : 1 * x3 + ((-1) * x13 + 0) ≤ (-1)) (f29 : (-1) * x9 + ((-1) * x13 + 0) ≤ (-2000)) (f30 : 1 * x8 + ((-1) * x2 + 0) ≤ 0) (f31 : (-1) * x8 + 0 ≤ 0) (f32 : (-1) * x4 + 0 ≤ 0) (f34 : 1 * x15 + ((-1) * x13 + 0) ≤ 0) (f35 : (-1) * x15 + (1 * x13 + 0) ≤ 0) (f36 : 1 * x3 + ((-1) * x15 + 0) ≤ (-1)) (f37 : (-1) * x9 + ((-1) * x15 + 0) ≤ (-2000)) (f38 : 1 * x3 + ((-1) * x13 + 0) ≤ (-1)) (f39 : (-1) * x9 + ((-1) * x13 + 0) ≤ (-2000)) (f40 : 1 * x8 + ((-1) * x2 + 0) ≤ 0) (f41 : (-1) * x8 + 0 ≤ 0) (f42 : (-1) * x4 + 0 ≤ 0) (f44 : 1 * x15 + ((-1) * x13 + 0) ≤ 0) (f45 : (-1) * x15 + (1 * x13 + 0) ≤ 0) (f46 : 1 * x3 + ((-1) * x15 + 0) ≤ (-1)) (f47 : (-1) * x9 + ((-1) * x15 + 0) ≤ (-2000)) (f48 : 1 * x3 + ((-1) * x13 + 0) ≤ (-1)) (f49 : (-1) * x9 + ((-1) * x13 + 0) ≤ (-2000)) (f50 : 1 * x8 + ((-1) * x2 + 0) ≤ 0) (f51 : (-1) * x8 + 0 ≤ 0) (f52 : (-1) * x4 + 0 ≤ 0) (f54 : 1 * x3 + ((-1) * x13 + 0) ≤ (-1)) (f55 : (-1) * x9 + ((-1) * x13 + 0) ≤ (-2000)) (f56 : x8 ≤ 0) (f57 : 1 * x8 + ((-1) * x2 + 0) ≤ 0) (f58 : (-1) * x8 + 0 ≤ 0) (f59 : (-1) * x4 + 0 ≤ 0) (f61 : 1 * x8 + ((-1) * x2 + 0) ≤ 0) (f62 : (-1) * x8 + 0 ≤ 0) (f63 : (-1) * x4 + 0 ≤ 0) (kz_0_8 : 0 ≤ fault_0 ∧ fault_0 ≤ 5) (kz_0_11 : 0 ≤ pos_0 ∧ pos_0 ≤ 2000) (kz_0_12 : 0 ≤ kind_0 ∧ kind_0 ≤ 4) (kz_0_15 : 0 ≤ from_0 ∧ from_0 ≤ 2000) (ex2 : gx = 0 + (1 * x9 + 0)) (ex3 : 0 ≤ gx ∧ gx ≤ 2000) : ((kind_0 = 1) → (pos_0 ≤ (from_0 + 8))) ∧ ((kind_0 = 0) ∨ ((from_0 + 1) ≤ pos_0)) := by
  first | assumption | (clear f17; omega) | omega | grind
set_option maxHeartbeats 4000000 in
theorem vc_Mo_of_at_s5002_10_2 (x2 : Int) (x3 : Int) (x4 : Int) (x7 : Int) (x8 : Int) (x9 : Int) (x13 : Int) (x15 : Int) (x19 : Int) (x25 : Int) (fault_0 : Int) (from_0 : Int) (pos_0 : Int) (kind_0 : Int) (gx : Int) (k2 : 99 ≤ x2 ∧ x2 ≤ 99) (k3 : 0 ≤ x3 ∧ x3 ≤ 2000) (k4 : (-1) ≤ x4 ∧ x4 ≤ 48) (k7 : 99 ≤ x7 ∧ x7 ≤ 99) (k8 : (-2147483648) ≤ x8 ∧ x8 ≤ 0) (k9 : 0 ≤ x9 ∧ x9 ≤ 2000) (k13 : 0 ≤ x13 ∧ x13 ≤ 2000) (k15 : 0 ≤ x15 ∧ x15 ≤ 2000) (k19 : (-2147483648) ≤ x19 ∧ x19 ≤ 0) (k25 : 0 ≤ x25 ∧ x25 ≤ 2000) (f0 : 1 * x3 + ((-1) * x25 + 0) ≤ (-1)) (f1 : (-1) * x9 + ((-1) * x25 + 0) ≤ (-2001)) (f2 : 1 * x19 + ((-1) * x2 + 0) ≤ 0) (f3 : (-1) * x19 + 0 ≤ 0) (f4 : 1 * x15 + ((-1) * x13 + 0) ≤ 0) (f5 : (-1) * x15 + (1 * x13 + 0) ≤ 0) (f6 : 1 * x3 + ((-1) * x15 + 0) ≤ (-1)) (f7 : (-1) * x9 + ((-1) * x15 + 0) ≤ (-2000)) (f8 : 1 * x3 + ((-1) * x13 + 0) ≤ (-1)) (f9 : (-1) * x9 + ((-1) * x13 + 0) ≤ (-2000)) (f10 : 1 * x8 + ((-1) * x2 + 0) ≤ 0) (f11 : (-1) * x8 + 0 ≤ 0) (f12 : (-1) * x4 + 0 ≤ 0) (f15 : (-1) * fault_0 + 0 ≤ (-1)) (f16 : 1 * from_0 + ((-1) * pos_0 + 0) ≤ 0) (f17 : ((kind_0 = 1) → (pos_0 ≤ (from_0 + 8))) ∧ ((kind_0 = 0) ∨ ((from_0 + 1) ≤ pos_0))) (f18 : 1 * x25 + ((-1) * from_0 + 0) ≤ 0) (f20 : 1 * x3 + ((-1) * x25 + 0) ≤ (-1)) (f21 : (-1) * x9 + ((-1) * x25 + 0) ≤ (-2001)) (f22 : 1 * x19 + ((-1) * x2 + 0) ≤ 0) (f23 : (-1) * x19 + 0 ≤ 0) (f24 : 1 * x15 + ((-1) * x13 + 0) ≤ 0) (f25 : (-1) * x15 + (1 * x13 + 0) ≤ 0) (f26 : 1 * x3 + ((-1) * x15 + 0) ≤ (-1)) (f27 : (-1) * x9 + ((-1) * x15 + 0) ≤ (-2000)) (f28 : 1 * x3 + ((-1) * x13 + 0) ≤ (-1)) (f29 : (-1) * x9 + ((-1) * x13 + 0) ≤ (-2000)) (f30 : 1 * x8 + ((-1) * x2 + 0) ≤ 0) (f31 : (-1) * x8 + 0 ≤ 0) (f32 : (-1) * x4 + 0 ≤ 0) (f34 : 1 * x15 + ((-1) * x13 + 0) ≤ 0) (f35 : (-1) * x15 + (1 * x13 + 0) ≤ 0) (f36 : 1 * x3 + ((-1) * x15 + 0) ≤ (-1)) (f37 : (-1) * x9 + ((-1) * x15 + 0) ≤ (-2000)) (f38 : 1 * x3 + ((-1) * x13 + 0) ≤ (-1)) (f39 : (-1) * x9 + ((-1) * x13 + 0) ≤ (-2000)) (f40 : 1 * x8 + ((-1) * x2 + 0) ≤ 0) (f41 : (-1) * x8 + 0 ≤ 0) (f42 : (-1) * x4 + 0 ≤ 0) (f44 : 1 * x15 + ((-1) * x13 + 0) ≤ 0) (f45 : (-1) * x15 + (1 * x13 + 0) ≤ 0) (f46 : 1 * x3 + ((-1) * x15 + 0) ≤ (-1)) (f47 : (-1) * x9 + ((-1) * x15 + 0) ≤ (-2000)) (f48 : 1 * x3 + ((-1) * x13 + 0) ≤ (-1)) (f49 : (-1) * x9 + ((-1) * x13 + 0) ≤ (-2000)) (f50 : 1 * x8 + ((-1) * x2 + 0) ≤ 0) (f51 : (-1) * x8 + 0 ≤ 0) (f52 : (-1) * x4 + 0 ≤ 0) (f54 : 1 * x3 + ((-1) * x13 + 0) ≤ (-1)) (f55 : (-1) * x9 + ((-1) * x13 + 0) ≤ (-2000)) (f56 : x8 ≤ 0) (f57 : 1 * x8 + ((-1) * x2 + 0) ≤ 0) (f58 : (-1) * x8 + 0 ≤ 0) (f59 : (-1) * x4 + 0 ≤ 0) (f61 : 1 * x8 + ((-1) * x2 + 0) ≤ 0) (f62 : (-1) * x8 + 0 ≤ 0) (f63 : (-1) * x4 + 0 ≤ 0) (kz_0_8 : 0 ≤ fault_0 ∧ fault_0 ≤ 5) (kz_0_11 : 0 ≤ pos_0 ∧ pos_0 ≤ 2000) (kz_0_12 : 0 ≤ kind_0 ∧ kind_0 ≤ 4) (kz_0_15 : 0 ≤ from_0 ∧ from_0 ≤ 2000) (ex2 : gx = 0 + (1 * x9 + 0)) (ex3 : 0 ≤ gx ∧ gx ≤ 2000) : 1 * x3 + ((-1) * pos_0 + 0) ≤ (-1) := by
  first | assumption | (clear f17; omega) | omega | grind
set_option maxHeartbeats 4000000 in
theorem vc_Mo_of_at_s5002_10_3 (x2 : Int) (x3 : Int) (x4 : Int) (x7 : Int) (x8 : Int) (x9 : Int) (x13 : Int) (x15 : Int) (x19 : Int) (x25 : Int) (fault_0 : Int) (from_0 : Int) (pos_0 : Int) (kind_0 : Int) (gx : Int) (k2 : 99 ≤ x2 ∧ x2 ≤ 99) (k3 : 0 ≤ x3 ∧ x3 ≤ 2000) (k4 : (-1) ≤ x4 ∧ x4 ≤ 48) (k7 : 99 ≤ x7 ∧ x7 ≤ 99) (k8 : (-2147483648) ≤ x8 ∧ x8 ≤ 0) (k9 : 0 ≤ x9 ∧ x9 ≤ 2000) (k13 : 0 ≤ x13 ∧ x13 ≤ 2000) (k15 : 0 ≤ x15 ∧ x15 ≤ 2000) (k19 : (-2147483648) ≤ x19 ∧ x19 ≤ 0) (k25 : 0 ≤ x25 ∧ x25 ≤ 2000) (f0 : 1 * x3 + ((-1) * x25 + 0) ≤ (-1)) (f1 : (-1) * x9 + ((-1) * x25 + 0) ≤ (-2001)) (f2 : 1 * x19 + ((-1) * x2 + 0) ≤ 0) (f3 : (-1) * x19 + 0 ≤ 0) (f4 : 1 * x15 + ((-1) * x13 + 0) ≤ 0) (f5 : (-1) * x15 + (1 * x13 + 0) ≤ 0) (f6 : 1 * x3 + ((-1) * x15 + 0) ≤ (-1)) (f7 : (-1) * x9 + ((-1) * x15 + 0) ≤ (-2000)) (f8 : 1 * x3 + ((-1) * x13 + 0) ≤ (-1)) (f9 : (-1) * x9 + ((-1) * x13 + 0) ≤ (-2000)) (f10 : 1 * x8 + ((-1) * x2 + 0) ≤ 0) (f11 : (-1) * x8 + 0 ≤ 0) (f12 : (-1) * x4 + 0 ≤ 0) (f15 : (-1) * fault_0 + 0 ≤ (-1)) (f16 : 1 * from_0 + ((-1) * pos_0 + 0) ≤ 0) (f17 : ((kind_0 = 1) → (pos_0 ≤ (from_0 + 8))) ∧ ((kind_0 = 0) ∨ ((from_0 + 1) ≤ pos_0))) (f18 : 1 * x25 + ((-1) * from_0 + 0) ≤ 0) (f20 : 1 * x3 + ((-1) * x25 + 0) ≤ (-1)) (f21 : (-1) * x9 + ((-1) * x25 + 0) ≤ (-2001)) (f22 : 1 * x19 + ((-1) * x2 + 0) ≤ 0) (f23 : (-1) * x19 + 0 ≤ 0) (f24 : 1 * x15 + ((-1) * x13 + 0) ≤ 0) (f25 : (-1) * x15 + (1 * x13 + 0) ≤ 0) (f26 : 1 * x3 + ((-1) * x15 + 0) ≤ (-1)) (f27 : (-1) * x9 + ((-1) * x15 + 0) ≤ (-2000)) (f28 : 1 * x3 + ((-1) * x13 + 0) ≤ (-1)) (f29 : (-1) * x9 + ((-1) * x13 + 0) ≤ (-2000)) (f30 : 1 * x8 + ((-1) * x2 + 0) ≤ 0) (f31 : (-1) * x8 + 0 ≤ 0) (f32 : (-1) * x4 + 0 ≤ 0) (f34 : 1 * x15 + ((-1) * x13 + 0) ≤ 0) (f35 : (-1) * x15 + (1 * x13 + 0) ≤ 0) (f36 : 1 * x3 + ((-1) * x15 + 0) ≤ (-1)) (f37 : (-1) * x9 + ((-1) * x15 + 0) ≤ (-2000)) (f38 : 1 * x3 + ((-1) * x13 + 0) ≤ (-1)) (f39 : (-1) * x9 + ((-1) * x13 + 0) ≤ (-2000)) (f40 : 1 * x8 + ((-1) * x2 + 0) ≤ 0) (f41 : (-1) * x8 + 0 ≤ 0) (f42 : (-1) * x4 + 0 ≤ 0) (f44 : 1 * x15 + ((-1) * x13 + 0) ≤ 0) (f45 : (-1) * x15 + (1 * x13 + 0) ≤ 0) (f46 : 1 * x3 + ((-1) * x15 + 0) ≤ (-1)) (f47 : (-1) * x9 + ((-1) * x15 + 0) ≤ (-2000)) (f48 : 1 * x3 + ((-1) * x13 + 0) ≤ (-1)) (f49 : (-1) * x9 + ((-1) * x13 + 0) ≤ (-2000)) (f50 : 1 * x8 + ((-1) * x2 + 0) ≤ 0) (f51 : (-1) * x8 + 0 ≤ 0) (f52 : (-1) * x4 + 0 ≤ 0) (f54 : 1 * x3 + ((-1) * x13 + 0) ≤ (-1)) (f55 : (-1) * x9 + ((-1) * x13 + 0) ≤ (-2000)) (f56 : x8 ≤ 0) (f57 : 1 * x8 + ((-1) * x2 + 0) ≤ 0) (f58 : (-1) * x8 + 0 ≤ 0) (f59 : (-1) * x4 + 0 ≤ 0) (f61 : 1 * x8 + ((-1) * x2 + 0) ≤ 0) (f62 : (-1) * x8 + 0 ≤ 0) (f63 : (-1) * x4 + 0 ≤ 0) (kz_0_8 : 0 ≤ fault_0 ∧ fault_0 ≤ 5) (kz_0_11 : 0 ≤ pos_0 ∧ pos_0 ≤ 2000) (kz_0_12 : 0 ≤ kind_0 ∧ kind_0 ≤ 4) (kz_0_15 : 0 ≤ from_0 ∧ from_0 ≤ 2000) (ex2 : gx = 0 + (1 * x9 + 0)) (ex3 : 0 ≤ gx ∧ gx ≤ 2000) : 1 * x19 + ((-1) * x2 + 0) ≤ 0 := by
  first | assumption | (clear f17; omega) | omega | grind
set_option maxHeartbeats 4000000 in
theorem vc_Mo_of_at_s5002_10_4 (x2 : Int) (x3 : Int) (x4 : Int) (x7 : Int) (x8 : Int) (x9 : Int) (x13 : Int) (x15 : Int) (x19 : Int) (x25 : Int) (fault_0 : Int) (from_0 : Int) (pos_0 : Int) (kind_0 : Int) (gx : Int) (k2 : 99 ≤ x2 ∧ x2 ≤ 99) (k3 : 0 ≤ x3 ∧ x3 ≤ 2000) (k4 : (-1) ≤ x4 ∧ x4 ≤ 48) (k7 : 99 ≤ x7 ∧ x7 ≤ 99) (k8 : (-2147483648) ≤ x8 ∧ x8 ≤ 0) (k9 : 0 ≤ x9 ∧ x9 ≤ 2000) (k13 : 0 ≤ x13 ∧ x13 ≤ 2000) (k15 : 0 ≤ x15 ∧ x15 ≤ 2000) (k19 : (-2147483648) ≤ x19 ∧ x19 ≤ 0) (k25 : 0 ≤ x25 ∧ x25 ≤ 2000) (f0 : 1 * x3 + ((-1) * x25 + 0) ≤ (-1)) (f1 : (-1) * x9 + ((-1) * x25 + 0) ≤ (-2001)) (f2 : 1 * x19 + ((-1) * x2 + 0) ≤ 0) (f3 : (-1) * x19 + 0 ≤ 0) (f4 : 1 * x15 + ((-1) * x13 + 0) ≤ 0) (f5 : (-1) * x15 + (1 * x13 + 0) ≤ 0) (f6 : 1 * x3 + ((-1) * x15 + 0) ≤ (-1)) (f7 : (-1) * x9 + ((-1) * x15 + 0) ≤ (-2000)) (f8 : 1 * x3 + ((-1) * x13 + 0) ≤ (-1)) (f9 : (-1) * x9 + ((-1) * x13 + 0) ≤ (-2000)) (f10 : 1 * x8 + ((-1) * x2 + 0) ≤ 0) (f11 : (-1) * x8 + 0 ≤ 0) (f12 : (-1) * x4 + 0 ≤ 0) (f15 : (-1) * fault_0 + 0 ≤ (-1)) (f16 : 1 * from_0 + ((-1) * pos_0 + 0) ≤ 0) (f17 : ((kind_0 = 1) → (pos_0 ≤ (from_0 + 8))) ∧ ((kind_0 = 0) ∨ ((from_0 + 1) ≤ pos_0))) (f18 : 1 * x25 + ((-1) * from_0 + 0) ≤ 0) (f20 : 1 * x3 + ((-1) * x25 + 0) ≤ (-1)) (f21 : (-1) * x9 + ((-1) * x25 + 0) ≤ (-2001)) (f22 : 1 * x19 + ((-1) * x2 + 0) ≤ 0) (f23 : (-1) * x19 + 0 ≤ 0) (f24 : 1 * x15 + ((-1) * x13 + 0) ≤ 0) (f25 : (-1) * x15 + (1 * x13 + 0) ≤ 0) (f26 : 1 * x3 + ((-1) * x15 + 0) ≤ (-1)) (f27 : (-1) * x9 + ((-1) * x15 + 0) ≤ (-2000)) (f28 : 1 * x3 + ((-1) * x13 + 0) ≤ (-1)) (f29 : (-1) * x9 + ((-1) * x13 + 0) ≤ (-2000)) (f30 : 1 * x8 + ((-1) * x2 + 0) ≤ 0) (f31 : (-1) * x8 + 0 ≤ 0) (f32 : (-1) * x4 + 0 ≤ 0) (f34 : 1 * x15 + ((-1) * x13 + 0) ≤ 0) (f35 : (-1) * x15 + (1 * x13 + 0) ≤ 0) (f36 : 1 * x3 + ((-1) * x15 + 0) ≤ (-1)) (f37 : (-1) * x9 + ((-1) * x15 + 0) ≤ (-2000)) (f38 : 1 * x3 + ((-1) * x13 + 0) ≤ (-1)) (f39 : (-1) * x9 + ((-1) * x13 + 0) ≤ (-2000)) (f40 : 1 * x8 + ((-1) * x2 + 0) ≤ 0) (f41 : (-1) * x8 + 0 ≤ 0) (f42 : (-1) * x4 + 0 ≤ 0) (f44 : 1 * x15 + ((-1) * x13 + 0) ≤ 0) (f45 : (-1) * x15 + (1 * x13 + 0) ≤ 0) (f46 : 1 * x3 + ((-1) * x15 + 0) ≤ (-1)) (f47 : (-1) * x9 + ((-1) * x15 + 0) ≤ (-2000)) (f48 : 1 * x3 + ((-1) * x13 + 0) ≤ (-1)) (f49 : (-1) * x9 + ((-1) * x13 + 0) ≤ (-2000)) (f50 : 1 * x8 + ((-1) * x2 + 0) ≤ 0) (f51 : (-1) * x8 + 0 ≤ 0) (f52 : (-1) * x4 + 0 ≤ 0) (f54 : 1 * x3 + ((-1) * x13 + 0) ≤ (-1)) (f55 : (-1) * x9 + ((-1) * x13 + 0) ≤ (-2000)) (f56 : x8 ≤ 0) (f57 : 1 * x8 + ((-1) * x2 + 0) ≤ 0) (f58 : (-1) * x8 + 0 ≤ 0) (f59 : (-1) * x4 + 0 ≤ 0) (f61 : 1 * x8 + ((-1) * x2 + 0) ≤ 0) (f62 : (-1) * x8 + 0 ≤ 0) (f63 : (-1) * x4 + 0 ≤ 0) (kz_0_8 : 0 ≤ fault_0 ∧ fault_0 ≤ 5) (kz_0_11 : 0 ≤ pos_0 ∧ pos_0 ≤ 2000) (kz_0_12 : 0 ≤ kind_0 ∧ kind_0 ≤ 4) (kz_0_15 : 0 ≤ from_0 ∧ from_0 ≤ 2000) (ex2 : gx = 0 + (1 * x9 + 0)) (ex3 : 0 ≤ gx ∧ gx ≤ 2000) : (-1) * x19 + 0 ≤ 0 := by
  first | assumption | (clear f17; omega) | omega | grind
set_option maxHeartbeats 4000000 in
theorem vc_Mo_of_at_s5002_10_5 (x2 : Int) (x3 : Int) (x4 : Int) (x7 : Int) (x8 : Int) (x9 : Int) (x13 : Int) (x15 : Int) (x19 : Int) (x25 : Int) (fault_0 : Int) (from_0 : Int) (pos_0 : Int) (kind_0 : Int) (gx : Int) (k2 : 99 ≤ x2 ∧ x2 ≤ 99) (k3 : 0 ≤ x3 ∧ x3 ≤ 2000) (k4 : (-1) ≤ x4 ∧ x4 ≤ 48) (k7 : 99 ≤ x7 ∧ x7 ≤ 99) (k8 : (-2147483648) ≤ x8 ∧ x8 ≤ 0) (k9 : 0 ≤ x9 ∧ x9 ≤ 2000) (k13 : 0 ≤ x13 ∧ x13 ≤ 2000) (k15 : 0 ≤ x15 ∧ x15 ≤ 2000) (k19 : (-2147483648) ≤ x19 ∧ x19 ≤ 0) (k25 : 0 ≤ x25 ∧ x25 ≤ 2000) (f0 : 1 * x3 + ((-1) * x25 + 0) ≤ (-1)) (f1 : (-1) * x9 + ((-1) * x25 + 0) ≤ (-2001)) (f2 : 1 * x19 + ((-1) * x2 + 0) ≤ 0) (f3 : (-1) * x19 + 0 ≤ 0) (f4 : 1 * x15 + ((-1) * x13 + 0) ≤ 0) (f5 : (-1) * x15 + (1 * x13 + 0) ≤ 0) (f6 : 1 * x3 + ((-1) * x15 + 0) ≤ (-1)) (f7 : (-1) * x9 + ((-1) * x15 + 0) ≤ (-2000)) (f8 : 1 * x3 + ((-1) * x13 + 0) ≤ (-1)) (f9 : (-1) * x9 + ((-1) * x13 + 0) ≤ (-2000)) (f10 : 1 * x8 + ((-1) * x2 + 0) ≤ 0) (f11 : (-1) * x8 + 0 ≤ 0) (f12 : (-1) * x4 + 0 ≤ 0) (f15 : (-1) * fault_0 + 0 ≤ (-1)) (f16 : 1 * from_0 + ((-1) * pos_0 + 0) ≤ 0) (f17 : ((kind_0 = 1) → (pos_0 ≤ (from_0 + 8))) ∧ ((kind_0 = 0) ∨ ((from_0 + 1) ≤ pos_0))) (f18 : 1 * x25 + ((-1) * from_0 + 0) ≤ 0) (f20 : 1 * x3 + ((-1) * x25 + 0) ≤ (-1)) (f21 : (-1) * x9 + ((-1) * x25 + 0) ≤ (-2001)) (f22 : 1 * x19 + ((-1) * x2 + 0) ≤ 0) (f23 : (-1) * x19 + 0 ≤ 0) (f24 : 1 * x15 + ((-1) * x13 + 0) ≤ 0) (f25 : (-1) * x15 + (1 * x13 + 0) ≤ 0) (f26 : 1 * x3 + ((-1) * x15 + 0) ≤ (-1)) (f27 : (-1) * x9 + ((-1) * x15 + 0) ≤ (-2000)) (f28 : 1 * x3 + ((-1) * x13 + 0) ≤ (-1)) (f29 : (-1) * x9 + ((-1) * x13 + 0) ≤ (-2000)) (f30 : 1 * x8 + ((-1) * x2 + 0) ≤ 0) (f31 : (-1) * x8 + 0 ≤ 0) (f32 : (-1) * x4 + 0 ≤ 0) (f34 : 1 * x15 + ((-1) * x13 + 0) ≤ 0) (f35 : (-1) * x15 + (1 * x13 + 0) ≤ 0) (f36 : 1 * x3 + ((-1) * x15 + 0) ≤ (-1)) (f37 : (-1) * x9 + ((-1) * x15 + 0) ≤ (-2000)) (f38 : 1 * x3 + ((-1) * x13 + 0) ≤ (-1)) (f39 : (-1) * x9 + ((-1) * x13 + 0) ≤ (-2000)) (f40 : 1 * x8 + ((-1) * x2 + 0) ≤ 0) (f41 : (-1) * x8 + 0 ≤ 0) (f42 : (-1) * x4 + 0 ≤ 0) (f44 : 1 * x15 + ((-1) * x13 + 0) ≤ 0) (f45 : (-1) * x15 + (1 * x13 + 0) ≤ 0) (f46 : 1 * x3 + ((-1) * x15 + 0) ≤ (-1)) (f47 : (-1) * x9 + ((-1) * x15 + 0) ≤ (-2000)) (f48 : 1 * x3 + ((-1) * x13 + 0) ≤ (-1)) (f49 : (-1) * x9 + ((-1) * x13 + 0) ≤ (-2000)) (f50 : 1 * x8 + ((-1) * x2 + 0) ≤ 0) (f51 : (-1) * x8 + 0 ≤ 0) (f52 : (-1) * x4 + 0 ≤ 0) (f54 : 1 * x3 + ((-1) * x13 + 0) ≤ (-1)) (f55 : (-1) * x9 + ((-1) * x13 + 0) ≤ (-2000)) (f56 : x8 ≤ 0) (f57 : 1 * x8 + ((-1) * x2 + 0) ≤ 0) (f58 : (-1) * x8 + 0 ≤ 0) (f59 : (-1) * x4 + 0 ≤ 0) (f61 : 1 * x8 + ((-1) * x2 + 0) ≤ 0) (f62 : (-1) * x8 + 0 ≤ 0) (f63 : (-1) * x4 + 0 ≤ 0) (kz_0_8 : 0 ≤ fault_0 ∧ fault_0 ≤ 5) (kz_0_11 : 0 ≤ pos_0 ∧ pos_0 ≤ 2000) (kz_0_12 : 0 ≤ kind_0 ∧ kind_0 ≤ 4) (kz_0_15 : 0 ≤ from_0 ∧ from_0 ≤ 2000) (ex2 : gx = 0 + (1 * x9 + 0)) (ex3 : 0 ≤ gx ∧ gx ≤ 2000) : (-1) * x4 + 0 ≤ 0 := by
  first | assumption | (clear f17; omega) | omega | grind
set_option maxHeartbeats 4000000 in
theorem vc_Mo_of_at_s5002_10_6 (x2 : Int) (x3 : Int) (x4 : Int) (x7 : Int) (x8 : Int) (x9 : Int) (x13 : Int) (x15 : Int) (x19 : Int) (x25 : Int) (fault_0 : Int) (from_0 : Int) (pos_0 : Int) (kind_0 : Int) (gx : Int) (k2 : 99 ≤ x2 ∧ x2 ≤ 99) (k3 : 0 ≤ x3 ∧ x3 ≤ 2000) (k4 : (-1) ≤ x4 ∧ x4 ≤ 48) (k7 : 99 ≤ x7 ∧ x7 ≤ 99) (k8 : (-2147483648) ≤ x8 ∧ x8 ≤ 0) (k9 : 0 ≤ x9 ∧ x9 ≤ 2000) (k13 : 0 ≤ x13 ∧ x13 ≤ 2000) (k15 : 0 ≤ x15 ∧ x15 ≤ 2000) (k19 : (-2147483648) ≤ x19 ∧ x19 ≤ 0) (k25 : 0 ≤ x25 ∧ x25 ≤ 2000) (f0 : 1 * x3 + ((-1) * x25 + 0) ≤ (-1)) (f1 : (-1) * x9 + ((-1) * x25 + 0) ≤ (-2001)) (f2 : 1 * x19 + ((-1) * x2 + 0) ≤ 0) (f3 : (-1) * x19 + 0 ≤ 0) (f4 : 1 * x15 + ((-1) * x13 + 0) ≤ 0) (f5 : (-1) * x15 + (1 * x13 + 0) ≤ 0) (f6 : 1 * x3 + ((-1) * x15 + 0) ≤ (-1)) (f7 : (-1) * x9 + ((-1) * x15 + 0) ≤ (-2000)) (f8 : 1 * x3 + ((-1) * x13 + 0) ≤ (-1)) (f9 : (-1) * x9 + ((-1) * x13 + 0) ≤ (-2000)) (f10 : 1 * x8 + ((-1) * x2 + 0) ≤ 0) (f11 : (-1) * x8 + 0 ≤ 0) (f12 : (-1) * x4 + 0 ≤ 0) (f15 : (-1) * fault_0 + 0 ≤ (-1)) (f16 : 1 * from_0 + ((-1) * pos_0 + 0) ≤ 0) (f17 : ((kind_0 = 1) → (pos_0 ≤ (from_0 + 8))) ∧ ((kind_0 = 0) ∨ ((from_0 + 1) ≤ pos_0))) (f18 : 1 * x25 + ((-1) * from_0 + 0) ≤ 0) (f20 : 1 * x3 + ((-1) * x25 + 0) ≤ (-1)) (f21 : (-1) * x9 + ((-1) * x25 + 0) ≤ (-2001)) (f22 : 1 * x19 + ((-1) * x2 + 0) ≤ 0) (f23 : (-1) * x19 + 0 ≤ 0) (f24 : 1 * x15 + ((-1) * x13 + 0) ≤ 0) (f25 : (-1) * x15 + (1 * x13 + 0) ≤ 0) (f26 : 1 * x3 + ((-1) * x15 + 0) ≤ (-1)) (f27 : (-1) * x9 + ((-1) * x15 + 0) ≤ (-2000)) (f28 : 1 * x3 + ((-1) * x13 + 0) ≤ (-1)) (f29 : (-1) * x9 + ((-1) * x13 + 0) ≤ (-2000)) (f30 : 1 * x8 + ((-1) * x2 + 0) ≤ 0) (f31 : (-1) * x8 + 0 ≤ 0) (f32 : (-1) * x4 + 0 ≤ 0) (f34 : 1 * x15 + ((-1) * x13 + 0) ≤ 0) (f35 : (-1) * x15 + (1 * x13 + 0) ≤ 0) (f36 : 1 * x3 + ((-1) * x15 + 0) ≤ (-1)) (f37 : (-1) * x9 + ((-1) * x15 + 0) ≤ (-2000)) (f38 : 1 * x3 + ((-1) * x13 + 0) ≤ (-1)) (f39 : (-1) * x9 + ((-1) * x13 + 0) ≤ (-2000)) (f40 : 1 * x8 + ((-1) * x2 + 0) ≤ 0) (f41 : (-1) * x8 + 0 ≤ 0) (f42 : (-1) * x4 + 0 ≤ 0) (f44 : 1 * x15 + ((-1) * x13 + 0) ≤ 0) (f45 : (-1) * x15 + (1 * x13 + 0) ≤ 0) (f46 : 1 * x3 + ((-1) * x15 + 0) ≤ (-1)) (f47 : (-1) * x9 + ((-1) * x15 + 0) ≤ (-2000)) (f48 : 1 * x3 + ((-1) * x13 + 0) ≤ (-1)) (f49 : (-1) * x9 + ((-1) * x13 + 0) ≤ (-2000)) (f50 : 1 * x8 + ((-1) * x2 + 0) ≤ 0) (f51 : (-1) * x8 + 0 ≤ 0) (f52 : (-1) * x4 + 0 ≤ 0) (f54 : 1 * x3 + ((-1) * x13 + 0) ≤ (-1)) (f55 : (-1) * x9 + ((-1) * x13 + 0) ≤ (-2000)) (f56 : x8 ≤ 0) (f57 : 1 * x8 + ((-1) * x2 + 0) ≤ 0) (f58 : (-1) * x8 + 0 ≤ 0) (f59 : (-1) * x4 + 0 ≤ 0) (f61 : 1 * x8 + ((-1) * x2 + 0) ≤ 0) (f62 : (-1) * x8 + 0 ≤ 0) (f63 : (-1) * x4 + 0 ≤ 0) (kz_0_8 : 0 ≤ fault_0 ∧ fault_0 ≤ 5) (kz_0_11 : 0 ≤ pos_0 ∧ pos_0 ≤ 2000) (kz_0_12 : 0 ≤ kind_0 ∧ kind_0 ≤ 4) (kz_0_15 : 0 ≤ from_0 ∧ from_0 ≤ 2000) (ex2 : gx = 0 + (1 * x9 + 0)) (ex3 : 0 ≤ gx ∧ gx ≤ 2000) : (-1) * gx + ((-1) * pos_0 + 0) ≤ (-2001) := by
  first | assumption | (clear f17; omega) | omega | grind
def o_Mo_of_at_s5002_10 : or_T := (139, 26, [(0, (2, 0, 0, [165])), (2, (0, 99, 99, [])), (3, (0, 0, 2000, [])), (4, (0, -1, 48, [])), (5, (2, 0, 0, [165])), (7, (0, 99, 99, [])), (8, (0, -2147483648, 0, [])), (9, (0, 0, 2000, [])), (13, (0, 0, 2000, [])), (15, (0, 0, 2000, [])), (19, (0, -2147483648, 0, [])), (25, (0, 0, 2000, []))], [(23, [3, 25], [-1, 1, -1]), (23, [9, 25], [-2001, -1, -1]), (23, [19, 7], [0, 1, -1]), (23, [19], [0, -1]), (23, [15, 13], [0, 1, -1]), (23, [15, 13], [0, -1, 1]), (23, [3, 15], [-1, 1, -1]), (23, [9, 15], [-2000, -1, -1]), (23, [3, 13], [-1, 1, -1]), (23, [9, 13], [-2000, -1, -1]), (23, [8, 7], [0, 1, -1]), (23, [8], [0, -1]), (23, [4], [0, -1]), (24, [0, 5], []), (24, [2, 7], []), (20, [5], [30, -1, -1, 1, 8]), (20, [5, 5], [30, 0, 1, 1, 15, -1, 1, 11]), (20, [5], [50, 3, 0, 12, 11, 15, 2, 21, 4, 7, 1, 3, 2, 0, 12, 0, 1, 0, 3, 2, 0, 11, 4, 3, 2, 0, 15, 0, 8, 3, 7, 1, 3, 2, 0, 12, 0, 0, 0, 7, 4, 3, 2, 0, 15, 0, 1, 2, 0, 11]), (20, [25, 5], [30, 0, 1, 0, 0, -1, 1, 15]), (102, [25], [0, 165011, 165012, 165013, 165014, 165015]), (23, [3, 25], [-1, 1, -1]), (23, [9, 25], [-2001, -1, -1]), (23, [19, 7], [0, 1, -1]), (23, [19], [0, -1]), (23, [15, 13], [0, 1, -1]), (23, [15, 13], [0, -1, 1]), (23, [3, 15], [-1, 1, -1]), (23, [9, 15], [-2000, -1, -1]), (23, [3, 13], [-1, 1, -1]), (23, [9, 13], [-2000, -1, -1]), (23, [8, 7], [0, 1, -1]), (23, [8], [0, -1]), (23, [4], [0, -1]), (102, [23], [0, 165008, 165009]), (23, [15, 13], [0, 1, -1]), (23, [15, 13], [0, -1, 1]), (23, [3, 15], [-1, 1, -1]), (23, [9, 15], [-2000, -1, -1]), (23, [3, 13], [-1, 1, -1]), (23, [9, 13], [-2000, -1, -1]), (23, [8, 7], [0, 1, -1]), (23, [8], [0, -1]), (23, [4], [0, -1]), (102, [15], [0, 165008, 165009, 165011, 165012, 165013, 165014, 165015]), (23, [15, 13], [0, 1, -1]), (23, [15, 13], [0, -1, 1]), (23, [3, 15], [-1, 1, -1]), (23, [9, 15], [-2000, -1, -1]), (23, [3, 13], [-1, 1, -1]), (23, [9, 13], [-2000, -1, -1]), (23, [8, 7], [0, 1, -1]), (23, [8], [0, -1]), (23, [4], [0, -1]), (102, [13], [0, 165011, 165012, 165013, 165014, 165015]), (23, [3, 13], [-1, 1, -1]), (23, [9, 13], [-2000, -1, -1]), (8, [8], [5]), (23, [8, 7], [0, 1, -1]), (23, [8], [0, -1]), (23, [4], [0, -1]), (102, [11], [0]), (23, [8, 7], [0, 1, -1]), (23, [8], [0, -1]), (23, [4], [0, -1])], [], [(0, 0, 2000, [])], [(20, [5, 5], [30, 0, 1, 1, 15, -1, 1, 11]), (20, [5], [50, 3, 0, 12, 11, 15, 2, 21, 4, 7, 1, 3, 2, 0, 12, 0, 1, 0, 3, 2, 0, 11, 4, 3, 2, 0, 15, 0, 8, 3, 7, 1, 3, 2, 0, 12, 0, 0, 0, 7, 4, 3, 2, 0, 15, 0, 1, 2, 0, 11]), (20, [3, 5], [30, -1, 1, 0, 0, -1, 1, 11]), (23, [19, 7], [0, 1, -1]), (23, [19], [0, -1]), (23, [4], [0, -1]), (20, [26, 5], [30, -2001, -1, 0, 0, -1, 1, 11]), (24, [0, 5], []), (24, [2, 7], [])], [(26, 9, 0, 0)], [])
theorem oo_Mo_of_at_s5002_10 {kA : Nat → ClassId} : or_ok PRD kA GG o_Mo_of_at_s5002_10 := by
  refine or_mk fun A ta ws vs hD hth hl => ?_
  intro t0 r0 t2 k2 t3 k3 t4 k4 t5 r5 t7 k7 t8 k8 t9 k9 t13 k13 t15 k15 t19 k19 t25 k25 f0 f1 f2 f3 f4 f5 f6 f7 f8 f9 f10 f11 f12 f13 f14 f15 f16 f17 f18 ta1 w1 le1 s1 f20 f21 f22 f23 f24 f25 f26 f27 f28 f29 f30 f31 f32 ta2 w2 le2 s2 f34 f35 f36 f37 f38 f39 f40 f41 f42 ta3 w3 le3 s3 f44 f45 f46 f47 f48 f49 f50 f51 f52 ta4 w4 le4 s4 f54 f55 f56 f57 f58 f59 ta5 w5 le5 s5 f61 f62 f63
  replace f0 := shm_211 f0
  replace f1 := shm_1895 f1
  replace f2 := shm_7 f2
  replace f3 := shm_1013 f3
  replace f4 := shm_7 f4
  replace f5 := shm_22 f5
  replace f6 := shm_211 f6
  replace f7 := shm_1894 f7
  replace f8 := shm_211 f8
  replace f9 := shm_1894 f9
  replace f10 := shm_7 f10
  replace f11 := shm_1013 f11
  replace f12 := shm_1013 f12
  replace f13 := shm_5 f13
  replace f14 := shm_5 f14
  replace f15 := shm_144 f15
  replace f16 := shm_1397 f16
  replace f17 := shm_1398 f17
  replace f18 := shm_1396 f18
  replace f20 := shm_211 f20
  replace f21 := shm_1895 f21
  replace f22 := shm_7 f22
  replace f23 := shm_1013 f23
  replace f24 := shm_7 f24
  replace f25 := shm_22 f25
  replace f26 := shm_211 f26
  replace f27 := shm_1894 f27
  replace f28 := shm_211 f28
  replace f29 := shm_1894 f29
  replace f30 := shm_7 f30
  replace f31 := shm_1013 f31
  replace f32 := shm_1013 f32
  replace f34 := shm_7 f34
  replace f35 := shm_22 f35
  replace f36 := shm_211 f36
  replace f37 := shm_1894 f37
  replace f38 := shm_211 f38
  replace f39 := shm_1894 f39
  replace f40 := shm_7 f40
  replace f41 := shm_1013 f41
  replace f42 := shm_1013 f42
  replace f44 := shm_7 f44
  replace f45 := shm_22 f45
  replace f46 := shm_211 f46
  replace f47 := shm_1894 f47
  replace f48 := shm_211 f48
  replace f49 := shm_1894 f49
  replace f50 := shm_7 f50
  replace f51 := shm_1013 f51
  replace f52 := shm_1013 f52
  replace f54 := shm_211 f54
  replace f55 := shm_1894 f55
  replace f56 := shm_142 f56
  replace f57 := shm_7 f57
  replace f58 := shm_1013 f58
  replace f59 := shm_1013 f59
  replace f61 := shm_7 f61
  replace f62 := shm_1013 f62
  replace f63 := shm_1013 f63
  have q5 : n_v vs 5 = n_v vs 0 := f13.symm
  have q7 : n_v vs 7 = n_v vs 2 := f14.symm
  simp only [q7, q5] at f2 f10 f15 f16 f17 f18 f22 f30 f40 f50 f57 f61
  have kz_0_8 := fdq_14 hD hth r0
  have kz_0_11 := fdq_273 hD hth r0
  have kz_0_12 := fdq_186 hD hth r0
  have kz_0_15 := fdq_274 hD hth r0
  obtain ⟨x, ex, hx⟩ := iv_ex (ta := ta) (lo := 0) (hi := 2000) (z := 0 + (1 * v_iv (n_v vs 9) + 0)) (by omega) (by omega) (by omega) (by omega)
  have ex2 : v_iv (Value.int x) = 0 + (1 * v_iv (n_v vs 9) + 0) := ex
  have ex3 : 0 ≤ v_iv (Value.int x) ∧ v_iv (Value.int x) ≤ 2000 := tv_rng hx
  have e_0 : n_v (vs ++ [Value.int x]) 0 = n_v vs 0 := n_v_old (by rw [hl]; decide)
  have e_2 : n_v (vs ++ [Value.int x]) 2 = n_v vs 2 := n_v_old (by rw [hl]; decide)
  have e_3 : n_v (vs ++ [Value.int x]) 3 = n_v vs 3 := n_v_old (by rw [hl]; decide)
  have e_4 : n_v (vs ++ [Value.int x]) 4 = n_v vs 4 := n_v_old (by rw [hl]; decide)
  have e_5 : n_v (vs ++ [Value.int x]) 5 = n_v vs 5 := n_v_old (by rw [hl]; decide)
  have e_7 : n_v (vs ++ [Value.int x]) 7 = n_v vs 7 := n_v_old (by rw [hl]; decide)
  have e_19 : n_v (vs ++ [Value.int x]) 19 = n_v vs 19 := n_v_old (by rw [hl]; decide)
  have e_26 : n_v (vs ++ [Value.int x]) 26 = Value.int x := n_v_new hl
  have nf0 : fc_1 PRD (20, [5, 5], [30, 0, 1, 1, 15, -1, 1, 11]) ws (vs ++ [Value.int x]) := by
    refine ⟨nf_inA hl rfl, sgq_1397 ?_⟩
    · show 1 * w_fi ws (n_v (vs ++ [Value.int x]) 5) 15 + ((-1) * w_fi ws (n_v (vs ++ [Value.int x]) 5) 11 + 0) ≤ 0
      simp only [e_5, q5]
      exact vc_Mo_of_at_s5002_10_0 (v_iv (n_v vs 2)) (v_iv (n_v vs 3)) (v_iv (n_v vs 4)) (v_iv (n_v vs 7)) (v_iv (n_v vs 8)) (v_iv (n_v vs 9)) (v_iv (n_v vs 13)) (v_iv (n_v vs 15)) (v_iv (n_v vs 19)) (v_iv (n_v vs 25)) (w_fi ws (n_v vs 0) 8) (w_fi ws (n_v vs 0) 15) (w_fi ws (n_v vs 0) 11) (w_fi ws (n_v vs 0) 12) (v_iv (Value.int x)) k2 k3 k4 k7 k8 k9 k13 k15 k19 k25 f0 f1 f2 f3 f4 f5 f6 f7 f8 f9 f10 f11 f12 f15 f16 f17 f18 f20 f21 f22 f23 f24 f25 f26 f27 f28 f29 f30 f31 f32 f34 f35 f36 f37 f38 f39 f40 f41 f42 f44 f45 f46 f47 f48 f49 f50 f51 f52 f54 f55 f56 f57 f58 f59 f61 f62 f63 kz_0_8 kz_0_11 kz_0_12 kz_0_15 ex2 ex3
  have nf1 : fc_1 PRD (20, [5], [50, 3, 0, 12, 11, 15, 2, 21, 4, 7, 1, 3, 2, 0, 12, 0, 1, 0, 3, 2, 0, 11, 4, 3, 2, 0, 15, 0, 8, 3, 7, 1, 3, 2, 0, 12, 0, 0, 0, 7, 4, 3, 2, 0, 15, 0, 1, 2, 0, 11]) ws (vs ++ [Value.int x]) := by
    refine ⟨nf_inA hl rfl, sgq_1398 ?_⟩
    · show ((w_fi ws (n_v (vs ++ [Value.int x]) 5) 12 = 1) → (w_fi ws (n_v (vs ++ [Value.int x]) 5) 11 ≤ (w_fi ws (n_v (vs ++ [Value.int x]) 5) 15 + 8))) ∧ ((w_fi ws (n_v (vs ++ [Value.int x]) 5) 12 = 0) ∨ ((w_fi ws (n_v (vs ++ [Value.int x]) 5) 15 + 1) ≤ w_fi ws (n_v (vs ++ [Value.int x]) 5) 11))
      simp only [e_5, q5]
      exact vc_Mo_of_at_s5002_10_1 (v_iv (n_v vs 2)) (v_iv (n_v vs 3)) (v_iv (n_v vs 4)) (v_iv (n_v vs 7)) (v_iv (n_v vs 8)) (v_iv (n_v vs 9)) (v_iv (n_v vs 13)) (v_iv (n_v vs 15)) (v_iv (n_v vs 19)) (v_iv (n_v vs 25)) (w_fi ws (n_v vs 0) 8) (w_fi ws (n_v vs 0) 15) (w_fi ws (n_v vs 0) 11) (w_fi ws (n_v vs 0) 12) (v_iv (Value.int x)) k2 k3 k4 k7 k8 k9 k13 k15 k19 k25 f0 f1 f2 f3 f4 f5 f6 f7 f8 f9 f10 f11 f12 f15 f16 f17 f18 f20 f21 f22 f23 f24 f25 f26 f27 f28 f29 f30 f31 f32 f34 f35 f36 f37 f38 f39 f40 f41 f42 f44 f45 f46 f47 f48 f49 f50 f51 f52 f54 f55 f56 f57 f58 f59 f61 f62 f63 kz_0_8 kz_0_11 kz_0_12 kz_0_15 ex2 ex3
  have nf2 : fc_1 PRD (20, [3, 5], [30, -1, 1, 0, 0, -1, 1, 11]) ws (vs ++ [Value.int x]) := by
    refine ⟨nf_inA hl rfl, sgq_1891 ?_⟩
    · show 1 * v_iv (n_v (vs ++ [Value.int x]) 3) + ((-1) * w_fi ws (n_v (vs ++ [Value.int x]) 5) 11 + 0) ≤ (-1)
      simp only [e_3, e_5, q5]
      exact vc_Mo_of_at_s5002_10_2 (v_iv (n_v vs 2)) (v_iv (n_v vs 3)) (v_iv (n_v vs 4)) (v_iv (n_v vs 7)) (v_iv (n_v vs 8)) (v_iv (n_v vs 9)) (v_iv (n_v vs 13)) (v_iv (n_v vs 15)) (v_iv (n_v vs 19)) (v_iv (n_v vs 25)) (w_fi ws (n_v vs 0) 8) (w_fi ws (n_v vs 0) 15) (w_fi ws (n_v vs 0) 11) (w_fi ws (n_v vs 0) 12) (v_iv (Value.int x)) k2 k3 k4 k7 k8 k9 k13 k15 k19 k25 f0 f1 f2 f3 f4 f5 f6 f7 f8 f9 f10 f11 f12 f15 f16 f17 f18 f20 f21 f22 f23 f24 f25 f26 f27 f28 f29 f30 f31 f32 f34 f35 f36 f37 f38 f39 f40 f41 f42 f44 f45 f46 f47 f48 f49 f50 f51 f52 f54 f55 f56 f57 f58 f59 f61 f62 f63 kz_0_8 kz_0_11 kz_0_12 kz_0_15 ex2 ex3
  have nf3 : fc_1 PRD (23, [19, 7], [0, 1, -1]) ws (vs ++ [Value.int x]) := by
    refine ⟨nf_inA hl rfl, sgq_7 ?_⟩
    · show 1 * v_iv (n_v (vs ++ [Value.int x]) 19) + ((-1) * v_iv (n_v (vs ++ [Value.int x]) 7) + 0) ≤ 0
      simp only [e_7, e_19, q7]
      exact vc_Mo_of_at_s5002_10_3 (v_iv (n_v vs 2)) (v_iv (n_v vs 3)) (v_iv (n_v vs 4)) (v_iv (n_v vs 7)) (v_iv (n_v vs 8)) (v_iv (n_v vs 9)) (v_iv (n_v vs 13)) (v_iv (n_v vs 15)) (v_iv (n_v vs 19)) (v_iv (n_v vs 25)) (w_fi ws (n_v vs 0) 8) (w_fi ws (n_v vs 0) 15) (w_fi ws (n_v vs 0) 11) (w_fi ws (n_v vs 0) 12) (v_iv (Value.int x)) k2 k3 k4 k7 k8 k9 k13 k15 k19 k25 f0 f1 f2 f3 f4 f5 f6 f7 f8 f9 f10 f11 f12 f15 f16 f17 f18 f20 f21 f22 f23 f24 f25 f26 f27 f28 f29 f30 f31 f32 f34 f35 f36 f37 f38 f39 f40 f41 f42 f44 f45 f46 f47 f48 f49 f50 f51 f52 f54 f55 f56 f57 f58 f59 f61 f62 f63 kz_0_8 kz_0_11 kz_0_12 kz_0_15 ex2 ex3
  have nf4 : fc_1 PRD (23, [19], [0, -1]) ws (vs ++ [Value.int x]) := by
    refine ⟨nf_inA hl rfl, sgq_1013 ?_⟩
    · show (-1) * v_iv (n_v (vs ++ [Value.int x]) 19) + 0 ≤ 0
      rw [e_19]
      exact vc_Mo_of_at_s5002_10_4 (v_iv (n_v vs 2)) (v_iv (n_v vs 3)) (v_iv (n_v vs 4)) (v_iv (n_v vs 7)) (v_iv (n_v vs 8)) (v_iv (n_v vs 9)) (v_iv (n_v vs 13)) (v_iv (n_v vs 15)) (v_iv (n_v vs 19)) (v_iv (n_v vs 25)) (w_fi ws (n_v vs 0) 8) (w_fi ws (n_v vs 0) 15) (w_fi ws (n_v vs 0) 11) (w_fi ws (n_v vs 0) 12) (v_iv (Value.int x)) k2 k3 k4 k7 k8 k9 k13 k15 k19 k25 f0 f1 f2 f3 f4 f5 f6 f7 f8 f9 f10 f11 f12 f15 f16 f17 f18 f20 f21 f22 f23 f24 f25 f26 f27 f28 f29 f30 f31 f32 f34 f35 f36 f37 f38 f39 f40 f41 f42 f44 f45 f46 f47 f48 f49 f50 f51 f52 f54 f55 f56 f57 f58 f59 f61 f62 f63 kz_0_8 kz_0_11 kz_0_12 kz_0_15 ex2 ex3
  have nf5 : fc_1 PRD (23, [4], [0, -1]) ws (vs ++ [Value.int x]) := by
    refine ⟨nf_inA hl rfl, sgq_1013 ?_⟩
    · show (-1) * v_iv (n_v (vs ++ [Value.int x]) 4) + 0 ≤ 0
      rw [e_4]
      exact vc_Mo_of_at_s5002_10_5 (v_iv (n_v vs 2)) (v_iv (n_v vs 3)) (v_iv (n_v vs 4)) (v_iv (n_v vs 7)) (v_iv (n_v vs 8)) (v_iv (n_v vs 9)) (v_iv (n_v vs 13)) (v_iv (n_v vs 15)) (v_iv (n_v vs 19)) (v_iv (n_v vs 25)) (w_fi ws (n_v vs 0) 8) (w_fi ws (n_v vs 0) 15) (w_fi ws (n_v vs 0) 11) (w_fi ws (n_v vs 0) 12) (v_iv (Value.int x)) k2 k3 k4 k7 k8 k9 k13 k15 k19 k25 f0 f1 f2 f3 f4 f5 f6 f7 f8 f9 f10 f11 f12 f15 f16 f17 f18 f20 f21 f22 f23 f24 f25 f26 f27 f28 f29 f30 f31 f32 f34 f35 f36 f37 f38 f39 f40 f41 f42 f44 f45 f46 f47 f48 f49 f50 f51 f52 f54 f55 f56 f57 f58 f59 f61 f62 f63 kz_0_8 kz_0_11 kz_0_12 kz_0_15 ex2 ex3
  have nf6 : fc_1 PRD (20, [26, 5], [30, -2001, -1, 0, 0, -1, 1, 11]) ws (vs ++ [Value.int x]) := by
    refine ⟨nf_inA hl rfl, sgq_1896 ?_⟩
    · show (-1) * v_iv (n_v (vs ++ [Value.int x]) 26) + ((-1) * w_fi ws (n_v (vs ++ [Value.int x]) 5) 11 + 0) ≤ (-2001)
      simp only [e_5, e_26, q5]
      exact vc_Mo_of_at_s5002_10_6 (v_iv (n_v vs 2)) (v_iv (n_v vs 3)) (v_iv (n_v vs 4)) (v_iv (n_v vs 7)) (v_iv (n_v vs 8)) (v_iv (n_v vs 9)) (v_iv (n_v vs 13)) (v_iv (n_v vs 15)) (v_iv (n_v vs 19)) (v_iv (n_v vs 25)) (w_fi ws (n_v vs 0) 8) (w_fi ws (n_v vs 0) 15) (w_fi ws (n_v vs 0) 11) (w_fi ws (n_v vs 0) 12) (v_iv (Value.int x)) k2 k3 k4 k7 k8 k9 k13 k15 k19 k25 f0 f1 f2 f3 f4 f5 f6 f7 f8 f9 f10 f11 f12 f15 f16 f17 f18 f20 f21 f22 f23 f24 f25 f26 f27 f28 f29 f30 f31 f32 f34 f35 f36 f37 f38 f39 f40 f41 f42 f44 f45 f46 f47 f48 f49 f50 f51 f52 f54 f55 f56 f57 f58 f59 f61 f62 f63 kz_0_8 kz_0_11 kz_0_12 kz_0_15 ex2 ex3
  have nf7 : fc_1 PRD (24, [0, 5], []) ws (vs ++ [Value.int x]) := by
    refine ⟨nf_inA hl rfl, sgq_5 ?_⟩
    · show n_v (vs ++ [Value.int x]) 0 = n_v (vs ++ [Value.int x]) 5
      first | rfl | simp only [e_0, e_5, q5, q7]
  have nf8 : fc_1 PRD (24, [2, 7], []) ws (vs ++ [Value.int x]) := by
    refine ⟨nf_inA hl rfl, sgq_5 ?_⟩
    · show n_v (vs ++ [Value.int x]) 2 = n_v (vs ++ [Value.int x]) 7
      first | rfl | simp only [e_2, e_7, q5, q7]
  obtain ⟨x0, e0, _, _⟩ := tv_int t9 rfl
  have e1 : v_iv (n_v vs 9) = x0.toInt := by rw [e0]; rfl
  have ho : sy_ofs (vs ++ [Value.int x]) (26, 9, 0, 0) := by
    refine ⟨x, x0, by rw [List.getElem?_append_right (by rw [hl]; decide), hl]; rfl, ?_, ?_, ?_⟩
    · rw [List.getElem?_append_left (by rw [hl]; decide)]; exact n_v_some (by rw [hl]; decide) e0
    · show x0.toInt + 0 ≤ x.toInt; omega
    · show x.toInt ≤ x0.toInt + 0; omega
  exact ⟨(fun _ h => (by cases h)), [Value.int x], ag_one hx, List.forall_mem_cons.mpr ⟨⟨show (20 : Nat) < 100 from by decide, nf0⟩, List.forall_mem_cons.mpr ⟨⟨show (20 : Nat) < 100 from by decide, nf1⟩, List.forall_mem_cons.mpr ⟨⟨show (20 : Nat) < 100 from by decide, nf2⟩, List.forall_mem_cons.mpr ⟨⟨show (23 : Nat) < 100 from by decide, nf3⟩, List.forall_mem_cons.mpr ⟨⟨show (23 : Nat) < 100 from by decide, nf4⟩, List.forall_mem_cons.mpr ⟨⟨show (23 : Nat) < 100 from by decide, nf5⟩, List.forall_mem_cons.mpr ⟨⟨show (20 : Nat) < 100 from by decide, nf6⟩, List.forall_mem_cons.mpr ⟨⟨show (24 : Nat) < 100 from by decide, nf7⟩, List.forall_mem_cons.mpr ⟨⟨show (24 : Nat) < 100 from by decide, nf8⟩, (fun _ h => (by cases h))⟩⟩⟩⟩⟩⟩⟩⟩⟩, List.forall_mem_cons.mpr ⟨ho, (fun _ h => (by cases h))⟩⟩
set_option maxHeartbeats 4000000 in
theorem vc_Mo_of_at_s5002_11_0 (x2 : Int) (x3 : Int) (x4 : Int) (x7 : Int) (x9 : Int) (x13 : Int) (x15 : Int) (x24 : Int) (x25 : Int) (fault_0 : Int) (from_0 : Int) (pos_0 : Int) (kind_0 : Int) (k2 : 99 ≤ x2 ∧ x2 ≤ 99) (k3 : 0 ≤ x3 ∧ x3 ≤ 2000) (k4 : (-1) ≤ x4 ∧ x4 ≤ 48) (k7 : 99 ≤ x7 ∧ x7 ≤ 99) (k9 : 0 ≤ x9 ∧ x9 ≤ 2000) (k13 : 0 ≤ x13 ∧ x13 ≤ 2000) (k15 : 0 ≤ x15 ∧ x15 ≤ 2000) (k24 : 1 ≤ x24 ∧ x24 ≤ 5) (k25 : 0 ≤ x25 ∧ x25 ≤ 0) (f0 : 0 < x24) (g1 : x24 = fault_0) (f2 : 1 * x15 + ((-1) * x13 + 0) ≤ 0) (f3 : (-1) * x15 + (1 * x13 + 0) ≤ 0) (f4 : 1 * x3 + ((-1) * x15 + 0) ≤ (-1)) (f5 : (-1) * x9 + ((-1) * x15 + 0) ≤ (-2000)) (f6 : 1 * x3 + ((-1) * x13 + 0) ≤ (-1)) (f7 : (-1) * x9 + ((-1) * x13 + 0) ≤ (-2000)) (f8 : (-1) * x4 + 0 ≤ 0) (f11 : 1 * from_0 + ((-1) * pos_0 + 0) ≤ 0) (f12 : ((kind_0 = 1) → (pos_0 ≤ (from_0 + 8))) ∧ ((kind_0 = 0) ∨ ((from_0 + 1) ≤ pos_0))) (f13 : 1 * x15 + ((-1) * pos_0 + 0) ≤ 0) (f14 : (-1) * fault_0 + 0 ≤ (-1)) (f16 : 1 * x15 + ((-1) * x13 + 0) ≤ 0) (f17 : (-1) * x15 + (1 * x13 + 0) ≤ 0) (f18 : 1 * x3 + ((-1) * x15 + 0) ≤ (-1)) (f19 : (-1) * x9 + ((-1) * x15 + 0) ≤ (-2000)) (f20 : 1 * x3 + ((-1) * x13 + 0) ≤ (-1)) (f21 : (-1) * x9 + ((-1) * x13 + 0) ≤ (-2000)) (f22 : (-1) * x4 + 0 ≤ 0) (f24 : 1 * x15 + ((-1) * x13 + 0) ≤ 0) (f25 : (-1) * x15 + (1 * x13 + 0) ≤ 0) (f26 : 1 * x3 + ((-1) * x15 + 0) ≤ (-1)) (f27 : (-1) * x9 + ((-1) * x15 + 0) ≤ (-2000)) (f28 : 1 * x3 + ((-1) * x13 + 0) ≤ (-1)) (f29 : (-1) * x9 + ((-1) * x13 + 0) ≤ (-2000)) (f30 : (-1) * x4 + 0 ≤ 0) (f32 : 1 * x3 + ((-1) * x13 + 0) ≤ (-1)) (f33 : (-1) * x9 + ((-1) * x13 + 0) ≤ (-2000)) (f34 : (-1) * x4 + 0 ≤ 0) (f36 : (-1) * x4 + 0 ≤ 0) (kz_0_8 : 0 ≤ fault_0 ∧ fault_0 ≤ 5) (kz_0_11 : 0 ≤ pos_0 ∧ pos_0 ≤ 2000) (kz_0_12 : 0 ≤ kind_0 ∧ kind_0 ≤ 4) (kz_0_15 : 0 ≤ from_0 ∧ from_0 ≤ 2000) : 1 * from_0 + ((-1) * pos_0 + 0) ≤ 0 := by
  first | assumption | (clear f12; omega) | omega | grind
set_option maxHeartbeats 4000000 in
theorem vc_Mo_of_at_s5002_11_1 (x2 : Int) (x3 : Int) (x4 : Int) (x7 : Int) (x9 : Int) (x13 : Int) (x15 : Int) (x24 : Int) (x25 : Int) (fault_0 : Int) (from_0 : Int) (pos_0 : Int) (kind_0 : Int) (k2 : 99 ≤ x2 ∧ x2 ≤ 99) (k3 : 0 ≤ x3 ∧ x3 ≤ 2000) (k4 : (-1) ≤ x4 ∧ x4 ≤ 48) (k7 : 99 ≤ x7 ∧ x7 ≤ 99) (k9 : 0 ≤ x9 ∧ x9 ≤ 2000) (k13 : 0 ≤ x13 ∧ x13 ≤ 2000) (k15 : 0 ≤ x15 ∧ x15 ≤ 2000) (k24 : 1 ≤ x24 ∧ x24 ≤ 5) (k25 : 0 ≤ x25 ∧ x25 ≤ 0) (f0 : 0 < x24) (g1 : x24 = fault_0) (f2 : 1 * x15 + ((-1) * x13 + 0) ≤ 0) (f3 : (-1) * x15 + (1 * x13 + 0) ≤ 0) (f4 : 1 * x3 + ((-1) * x15 + 0) ≤ (-1)) (f5 : (-1) * x9 + ((-1) * x15 + 0) ≤ (-2000)) (f6 : 1 * x3 + ((-1) * x13 + 0) ≤ (-1)) (f7 : (-1) * x9 + ((-1) * x13 + 0) ≤ (-2000)) (f8 : (-1) * x4 + 0 ≤ 0) (f11 : 1 * from_0 + ((-1) * pos_0 + 0) ≤ 0) (f12 : ((kind_0 = 1) → (pos_0 ≤ (from_0 + 8))) ∧ ((kind_0 = 0) ∨ ((from_0 + 1) ≤ pos_0))) (f13 : 1 * x15 + ((-1) * pos_0 + 0) ≤ 0) (f14 : (-1) * fault_0 + 0 ≤ (-1)) (f16 : 1 * x15 + ((-1) * x13 + 0) ≤ 0) (f17 : (-1) * x15 + (1 * x13 + 0) ≤ 0) (f18 : 1 * x3 + ((-1) * x15 + 0) ≤ (-1)) (f19 : (-1) * x9 + ((-1) * x15 + 0) ≤ (-2000)) (f20 : 1 * x3 + ((-1) * x13 + 0) ≤ (-1)) (f21 : (-1) * x9 + ((-1) * x13 + 0) ≤ (-2000)) (f22 : (-1) * x4 + 0 ≤ 0) (f24 : 1 * x15 + ((-1) * x13 + 0) ≤ 0) (f25 : (-1) * x15 + (1 * x13 + 0) ≤ 0) (f26 : 1 * x3 + ((-1) * x15 + 0) ≤ (-1)) (f27 : (-1) * x9 + ((-1) * x15 + 0) ≤ (-2000)) (f28 : 1 * x3 + ((-1) * x13 + 0) ≤ (-1)) (f29 : (-1) * x9 + ((-1) * x13 + 0) ≤ (-2000)) (f30 : (-1) * x4 + 0 ≤ 0) (f32 : 1 * x3 + ((-1) * x13 + 0) ≤ (-1)) (f33 : (-1) * x9 + ((-1) * x13 + 0) ≤ (-2000)) (f34 : (-1) * x4 + 0 ≤ 0) (f36 : (-1) * x4 + 0 ≤ 0) (kz_0_8 : 0 ≤ fault_0 ∧ fault_0 ≤ 5) (kz_0_11 : 0 ≤ pos_0 ∧ pos_0 ≤ 2000) (kz_0_12 : 0 ≤ kind_0 ∧ kind_0 ≤ 4) (kz_0_15 : 0 ≤ from_0 ∧ from_0 ≤ 2000) : ((kind_0 = 1) → (pos_0 ≤ (from_0 + 8))) ∧ ((kind_0 = 0) ∨ ((from_0 + 1) ≤ pos_0)) := by
  first | assumption | (clear f12; omega) | omega | grind
set_option maxHeartbeats 4000000 in
theorem vc_Mo_of_at_s5002_11_2 (x2 : Int) (x3 : Int) (x4 : Int) (x7 : Int) (x9 : Int) (x13 : Int) (x15 : Int) (x24 : Int) (x25 : Int) (fault_0 : Int) (from_0 : Int) (pos_0 : Int) (kind_0 : Int) (k2 : 99 ≤ x2 ∧ x2 ≤ 99) (k3 : 0 ≤ x3 ∧ x3 ≤ 2000) (k4 : (-1) ≤ x4 ∧ x4 ≤ 48) (k7 : 99 ≤ x7 ∧ x7 ≤ 99) (k9 : 0 ≤ x9 ∧ x9 ≤ 2000) (k13 : 0 ≤ x13 ∧ x13 ≤ 2000) (k15 : 0 ≤ x15 ∧ x15 ≤ 2000) (k24 : 1 ≤ x24 ∧ x24 ≤ 5) (k25 : 0 ≤ x25 ∧ x25 ≤ 0) (f0 : 0 < x24) (g1 : x24 = fault_0) (f2 : 1 * x15 + ((-1) * x13 + 0) ≤ 0) (f3 : (-1) * x15 + (1 * x13 + 0) ≤ 0) (f4 : 1 * x3 + ((-1) * x15 + 0) ≤ (-1)) (f5 : (-1) * x9 + ((-1) * x15 + 0) ≤ (-2000)) (f6 : 1 * x3 + ((-1) * x13 + 0) ≤ (-1)) (f7 : (-1) * x9 + ((-1) * x13 + 0) ≤ (-2000)) (f8 : (-1) * x4 + 0 ≤ 0) (f11 : 1 * from_0 + ((-1) * pos_0 + 0) ≤ 0) (f12 : ((kind_0 = 1) → (pos_0 ≤ (from_0 + 8))) ∧ ((kind_0 = 0) ∨ ((from_0 + 1) ≤ pos_0))) (f13 : 1 * x15 + ((-1) * pos_0 + 0) ≤ 0) (f14 : (-1) * fault_0 + 0 ≤ (-1)) (f16 : 1 * x15 + ((-1) * x13 + 0) ≤ 0) (f17 : (-1) * x15 + (1 * x13 + 0) ≤ 0) (f18 : 1 * x3 + ((-1) * x15 + 0) ≤ (-1)) (f19 : (-1) * x9 + ((-1) * x15 + 0) ≤ (-2000)) (f20 : 1 * x3 + ((-1) * x13 + 0) ≤ (-1)) (f21 : (-1) * x9 + ((-1) * x13 + 0) ≤ (-2000)) (f22 : (-1) * x4 + 0 ≤ 0) (f24 : 1 * x15 + ((-1) * x13 + 0) ≤ 0) (f25 : (-1) * x15 + (1 * x13 + 0) ≤ 0) (f26 : 1 * x3 + ((-1) * x15 + 0) ≤ (-1)) (f27 : (-1) * x9 + ((-1) * x15 + 0) ≤ (-2000)) (f28 : 1 * x3 + ((-1) * x13 + 0) ≤ (-1)) (f29 : (-1) * x9 + ((-1) * x13 + 0) ≤ (-2000)) (f30 : (-1) * x4 + 0 ≤ 0) (f32 : 1 * x3 + ((-1) * x13 + 0) ≤ (-1)) (f33 : (-1) * x9 + ((-1) * x13 + 0) ≤ (-2000)) (f34 : (-1) * x4 + 0 ≤ 0) (f36 : (-1) * x4 + 0 ≤ 0) (kz_0_8 : 0 ≤ fault_0 ∧ fault_0 ≤ 5) (kz_0_11 : 0 ≤ pos_0 ∧ pos_0 ≤ 2000) (kz_0_12 : 0 ≤ kind_0 ∧ kind_0 ≤ 4) (kz_0_15 : 0 ≤ from_0 ∧ from_0 ≤ 2000) : 1 * x3 + ((-1) * pos_0 + 0) ≤ 0 := by
  first | assumption | (clear f12; omega) | omega | grind
set_option maxHeartbeats 4000000 in
theorem vc_Mo_of_at_s5002_11_3 (x2 : Int) (x3 : Int) (x4 : Int) (x7 : Int) (x9 : Int) (x13 : Int) (x15 : Int) (x24 : Int) (x25 : Int) (fault_0 : Int) (from_0 : Int) (pos_0 : Int) (kind_0 : Int) (k2 : 99 ≤ x2 ∧ x2 ≤ 99) (k3 : 0 ≤ x3 ∧ x3 ≤ 2000) (k4 : (-1) ≤ x4 ∧ x4 ≤ 48) (k7 : 99 ≤ x7 ∧ x7 ≤ 99) (k9 : 0 ≤ x9 ∧ x9 ≤ 2000) (k13 : 0 ≤ x13 ∧ x13 ≤ 2000) (k15 : 0 ≤ x15 ∧ x15 ≤ 2000) (k24 : 1 ≤ x24 ∧ x24 ≤ 5) (k25 : 0 ≤ x25 ∧ x25 ≤ 0) (f0 : 0 < x24) (g1 : x24 = fault_0) (f2 : 1 * x15 + ((-1) * x13 + 0) ≤ 0) (f3 : (-1) * x15 + (1 * x13 + 0) ≤ 0) (f4 : 1 * x3 + ((-1) * x15 + 0) ≤ (-1)) (f5 : (-1) * x9 + ((-1) * x15 + 0) ≤ (-2000)) (f6 : 1 * x3 + ((-1) * x13 + 0) ≤ (-1)) (f7 : (-1) * x9 + ((-1) * x13 + 0) ≤ (-2000)) (f8 : (-1) * x4 + 0 ≤ 0) (f11 : 1 * from_0 + ((-1) * pos_0 + 0) ≤ 0) (f12 : ((kind_0 = 1) → (pos_0 ≤ (from_0 + 8))) ∧ ((kind_0 = 0) ∨ ((from_0 + 1) ≤ pos_0))) (f13 : 1 * x15 + ((-1) * pos_0 + 0) ≤ 0) (f14 : (-1) * fault_0 + 0 ≤ (-1)) (f16 : 1 * x15 + ((-1) * x13 + 0) ≤ 0) (f17 : (-1) * x15 + (1 * x13 + 0) ≤ 0) (f18 : 1 * x3 + ((-1) * x15 + 0) ≤ (-1)) (f19 : (-1) * x9 + ((-1) * x15 + 0) ≤ (-2000)) (f20 : 1 * x3 + ((-1) * x13 + 0) ≤ (-1)) (f21 : (-1) * x9 + ((-1) * x13 + 0) ≤ (-2000)) (f22 : (-1) * x4 + 0 ≤ 0) (f24 : 1 * x15 + ((-1) * x13 + 0) ≤ 0) (f25 : (-1) * x15 + (1 * x13 + 0) ≤ 0) (f26 : 1 * x3 + ((-1) * x15 + 0) ≤ (-1)) (f27 : (-1) * x9 + ((-1) * x15 + 0) ≤ (-2000)) (f28 : 1 * x3 + ((-1) * x13 + 0) ≤ (-1)) (f29 : (-1) * x9 + ((-1) * x13 + 0) ≤ (-2000)) (f30 : (-1) * x4 + 0 ≤ 0) (f32 : 1 * x3 + ((-1) * x13 + 0) ≤ (-1)) (f33 : (-1) * x9 + ((-1) * x13 + 0) ≤ (-2000)) (f34 : (-1) * x4 + 0 ≤ 0) (f36 : (-1) * x4 + 0 ≤ 0) (kz_0_8 : 0 ≤ fault_0 ∧ fault_0 ≤ 5) (kz_0_11 : 0 ≤ pos_0 ∧ pos_0 ≤ 2000) (kz_0_12 : 0 ≤ kind_0 ∧ kind_0 ≤ 4) (kz_0_15 : 0 ≤ from_0 ∧ from_0 ≤ 2000) : (1 ≤ fault_0) ∨ ((kind_0 = 0) ∨ ((x3 + 1) ≤ pos_0)) := by
  first | assumption | (clear f12; omega) | omega | grind
set_option maxHeartbeats 4000000 in
theorem vc_Mo_of_at_s5002_11_4 (x2 : Int) (x3 : Int) (x4 : Int) (x7 : Int) (x9 : Int) (x13 : Int) (x15 : Int) (x24 : Int) (x25 : Int) (fault_0 : Int) (from_0 : Int) (pos_0 : Int) (kind_0 : Int) (k2 : 99 ≤ x2 ∧ x2 ≤ 99) (k3 : 0 ≤ x3 ∧ x3 ≤ 2000) (k4 : (-1) ≤ x4 ∧ x4 ≤ 48) (k7 : 99 ≤ x7 ∧ x7 ≤ 99) (k9 : 0 ≤ x9 ∧ x9 ≤ 2000) (k13 : 0 ≤ x13 ∧ x13 ≤ 2000) (k15 : 0 ≤ x15 ∧ x15 ≤ 2000) (k24 : 1 ≤ x24 ∧ x24 ≤ 5) (k25 : 0 ≤ x25 ∧ x25 ≤ 0) (f0 : 0 < x24) (g1 : x24 = fault_0) (f2 : 1 * x15 + ((-1) * x13 + 0) ≤ 0) (f3 : (-1) * x15 + (1 * x13 + 0) ≤ 0) (f4 : 1 * x3 + ((-1) * x15 + 0) ≤ (-1)) (f5 : (-1) * x9 + ((-1) * x15 + 0) ≤ (-2000)) (f6 : 1 * x3 + ((-1) * x13 + 0) ≤ (-1)) (f7 : (-1) * x9 + ((-1) * x13 + 0) ≤ (-2000)) (f8 : (-1) * x4 + 0 ≤ 0) (f11 : 1 * from_0 + ((-1) * pos_0 + 0) ≤ 0) (f12 : ((kind_0 = 1) → (pos_0 ≤ (from_0 + 8))) ∧ ((kind_0 = 0) ∨ ((from_0 + 1) ≤ pos_0))) (f13 : 1 * x15 + ((-1) * pos_0 + 0) ≤ 0) (f14 : (-1) * fault_0 + 0 ≤ (-1)) (f16 : 1 * x15 + ((-1) * x13 + 0) ≤ 0) (f17 : (-1) * x15 + (1 * x13 + 0) ≤ 0) (f18 : 1 * x3 + ((-1) * x15 + 0) ≤ (-1)) (f19 : (-1) * x9 + ((-1) * x15 + 0) ≤ (-2000)) (f20 : 1 * x3 + ((-1) * x13 + 0) ≤ (-1)) (f21 : (-1) * x9 + ((-1) * x13 + 0) ≤ (-2000)) (f22 : (-1) * x4 + 0 ≤ 0) (f24 : 1 * x15 + ((-1) * x13 + 0) ≤ 0) (f25 : (-1) * x15 + (1 * x13 + 0) ≤ 0) (f26 : 1 * x3 + ((-1) * x15 + 0) ≤ (-1)) (f27 : (-1) * x9 + ((-1) * x15 + 0) ≤ (-2000)) (f28 : 1 * x3 + ((-1) * x13 + 0) ≤ (-1)) (f29 : (-1) * x9 + ((-1) * x13 + 0) ≤ (-2000)) (f30 : (-1) * x4 + 0 ≤ 0) (f32 : 1 * x3 + ((-1) * x13 + 0) ≤ (-1)) (f33 : (-1) * x9 + ((-1) * x13 + 0) ≤ (-2000)) (f34 : (-1) * x4 + 0 ≤ 0) (f36 : (-1) * x4 + 0 ≤ 0) (kz_0_8 : 0 ≤ fault_0 ∧ fault_0 ≤ 5) (kz_0_11 : 0 ≤ pos_0 ∧ pos_0 ≤ 2000) (kz_0_12 : 0 ≤ kind_0 ∧ kind_0 ≤ 4) (kz_0_15 : 0 ≤ from_0 ∧ from_0 ≤ 2000) : (1 ≤ fault_0) ∨ (0 ≤ x4) := by
  first | assumption | (clear f12; omega) | omega | grind
set_option maxHeartbeats 4000000 in
theorem vc_Mo_of_at_s5002_11_5 (x2 : Int) (x3 : Int) (x4 : Int) (x7 : Int) (x9 : Int) (x13 : Int) (x15 : Int) (x24 : Int) (x25 : Int) (fault_0 : Int) (from_0 : Int) (pos_0 : Int) (kind_0 : Int) (k2 : 99 ≤ x2 ∧ x2 ≤ 99) (k3 : 0 ≤ x3 ∧ x3 ≤ 2000) (k4 : (-1) ≤ x4 ∧ x4 ≤ 48) (k7 : 99 ≤ x7 ∧ x7 ≤ 99) (k9 : 0 ≤ x9 ∧ x9 ≤ 2000) (k13 : 0 ≤ x13 ∧ x13 ≤ 2000) (k15 : 0 ≤ x15 ∧ x15 ≤ 2000) (k24 : 1 ≤ x24 ∧ x24 ≤ 5) (k25 : 0 ≤ x25 ∧ x25 ≤ 0) (f0 : 0 < x24) (g1 : x24 = fault_0) (f2 : 1 * x15 + ((-1) * x13 + 0) ≤ 0) (f3 : (-1) * x15 + (1 * x13 + 0) ≤ 0) (f4 : 1 * x3 + ((-1) * x15 + 0) ≤ (-1)) (f5 : (-1) * x9 + ((-1) * x15 + 0) ≤ (-2000)) (f6 : 1 * x3 + ((-1) * x13 + 0) ≤ (-1)) (f7 : (-1) * x9 + ((-1) * x13 + 0) ≤ (-2000)) (f8 : (-1) * x4 + 0 ≤ 0) (f11 : 1 * from_0 + ((-1) * pos_0 + 0) ≤ 0) (f12 : ((kind_0 = 1) → (pos_0 ≤ (from_0 + 8))) ∧ ((kind_0 = 0) ∨ ((from_0 + 1) ≤ pos_0))) (f13 : 1 * x15 + ((-1) * pos_0 + 0) ≤ 0) (f14 : (-1) * fault_0 + 0 ≤ (-1)) (f16 : 1 * x15 + ((-1) * x13 + 0) ≤ 0) (f17 : (-1) * x15 + (1 * x13 + 0) ≤ 0) (f18 : 1 * x3 + ((-1) * x15 + 0) ≤ (-1)) (f19 : (-1) * x9 + ((-1) * x15 + 0) ≤ (-2000)) (f20 : 1 * x3 + ((-1) * x13 + 0) ≤ (-1)) (f21 : (-1) * x9 + ((-1) * x13 + 0) ≤ (-2000)) (f22 : (-1) * x4 + 0 ≤ 0) (f24 : 1 * x15 + ((-1) * x13 + 0) ≤ 0) (f25 : (-1) * x15 + (1 * x13 + 0) ≤ 0) (f26 : 1 * x3 + ((-1) * x15 + 0) ≤ (-1)) (f27 : (-1) * x9 + ((-1) * x15 + 0) ≤ (-2000)) (f28 : 1 * x3 + ((-1) * x13 + 0) ≤ (-1)) (f29 : (-1) * x9 + ((-1) * x13 + 0) ≤ (-2000)) (f30 : (-1) * x4 + 0 ≤ 0) (f32 : 1 * x3 + ((-1) * x13 + 0) ≤ (-1)) (f33 : (-1) * x9 + ((-1) * x13 + 0) ≤ (-2000)) (f34 : (-1) * x4 + 0 ≤ 0) (f36 : (-1) * x4 + 0 ≤ 0) (kz_0_8 : 0 ≤ fault_0 ∧ fault_0 ≤ 5) (kz_0_11 : 0 ≤ pos_0 ∧ pos_0 ≤ 2000) (kz_0_12 : 0 ≤ kind_0 ∧ kind_0 ≤ 4) (kz_0_15 : 0 ≤ from_0 ∧ from_0 ≤ 2000) : 1 * x25 + ((-1) * x2 + 0) ≤ 0 := by
  first | assumption | (clear f12; omega) | omega | grind
set_option maxHeartbeats 4000000 in
theorem vc_Mo_of_at_s5002_11_6 (x2 : Int) (x3 : Int) (x4 : Int) (x7 : Int) (x9 : Int) (x13 : Int) (x15 : Int) (x24 : Int) (x25 : Int) (fault_0 : Int) (from_0 : Int) (pos_0 : Int) (kind_0 : Int) (k2 : 99 ≤ x2 ∧ x2 ≤ 99) (k3 : 0 ≤ x3 ∧ x3 ≤ 2000) (k4 : (-1) ≤ x4 ∧ x4 ≤ 48) (k7 : 99 ≤ x7 ∧ x7 ≤ 99) (k9 : 0 ≤ x9 ∧ x9 ≤ 2000) (k13 : 0 ≤ x13 ∧ x13 ≤ 2000) (k15 : 0 ≤ x15 ∧ x15 ≤ 2000) (k24 : 1 ≤ x24 ∧ x24 ≤ 5) (k25 : 0 ≤ x25 ∧ x25 ≤ 0) (f0 : 0 < x24) (g1 : x24 = fault_0) (f2 : 1 * x15 + ((-1) * x13 + 0) ≤ 0) (f3 : (-1) * x15 + (1 * x13 + 0) ≤ 0) (f4 : 1 * x3 + ((-1) * x15 + 0) ≤ (-1)) (f5 : (-1) * x9 + ((-1) * x15 + 0) ≤ (-2000)) (f6 : 1 * x3 + ((-1) * x13 + 0) ≤ (-1)) (f7 : (-1) * x9 + ((-1) * x13 + 0) ≤ (-2000)) (f8 : (-1) * x4 + 0 ≤ 0) (f11 : 1 * from_0 + ((-1) * pos_0 + 0) ≤ 0) (f12 : ((kind_0 = 1) → (pos_0 ≤ (from_0 + 8))) ∧ ((kind_0 = 0) ∨ ((from_0 + 1) ≤ pos_0))) (f13 : 1 * x15 + ((-1) * pos_0 + 0) ≤ 0) (f14 : (-1) * fault_0 + 0 ≤ (-1)) (f16 : 1 * x15 + ((-1) * x13 + 0) ≤ 0) (f17 : (-1) * x15 + (1 * x13 + 0) ≤ 0) (f18 : 1 * x3 + ((-1) * x15 + 0) ≤ (-1)) (f19 : (-1) * x9 + ((-1) * x15 + 0) ≤ (-2000)) (f20 : 1 * x3 + ((-1) * x13 + 0) ≤ (-1)) (f21 : (-1) * x9 + ((-1) * x13 + 0) ≤ (-2000)) (f22 : (-1) * x4 + 0 ≤ 0) (f24 : 1 * x15 + ((-1) * x13 + 0) ≤ 0) (f25 : (-1) * x15 + (1 * x13 + 0) ≤ 0) (f26 : 1 * x3 + ((-1) * x15 + 0) ≤ (-1)) (f27 : (-1) * x9 + ((-1) * x15 + 0) ≤ (-2000)) (f28 : 1 * x3 + ((-1) * x13 + 0) ≤ (-1)) (f29 : (-1) * x9 + ((-1) * x13 + 0) ≤ (-2000)) (f30 : (-1) * x4 + 0 ≤ 0) (f32 : 1 * x3 + ((-1) * x13 + 0) ≤ (-1)) (f33 : (-1) * x9 + ((-1) * x13 + 0) ≤ (-2000)) (f34 : (-1) * x4 + 0 ≤ 0) (f36 : (-1) * x4 + 0 ≤ 0) (kz_0_8 : 0 ≤ fault_0 ∧ fault_0 ≤ 5) (kz_0_11 : 0 ≤ pos_0 ∧ pos_0 ≤ 2000) (kz_0_12 : 0 ≤ kind_0 ∧ kind_0 ≤ 4) (kz_0_15 : 0 ≤ from_0 ∧ from_0 ≤ 2000) : (-1) * x25 + 0 ≤ 0 := by
  first | assumption | (clear f12; omega) | omega | grind
def o_Mo_of_at_s5002_11 : or_T := (129, 26, [(0, (2, 0, 0, [165])), (2, (0, 99, 99, [])), (3, (0, 0, 2000, [])), (4, (0, -1, 48, [])), (7, (0, 99, 99, [])), (9, (0, 0, 2000, [])), (13, (0, 0, 2000, [])), (15, (0, 0, 2000, [])), (24, (0, 1, 5, [])), (25, (0, 0, 0, []))], [(8, [24], [4]), (9, [24, 5], [8]), (23, [15, 13], [0, 1, -1]), (23, [15, 13], [0, -1, 1]), (23, [3, 15], [-1, 1, -1]), (23, [9, 15], [-2000, -1, -1]), (23, [3, 13], [-1, 1, -1]), (23, [9, 13], [-2000, -1, -1]), (23, [4], [0, -1]), (24, [0, 5], []), (20, [5, 5], [30, 0, 1, 1, 15, -1, 1, 11]), (20, [5], [50, 3, 0, 12, 11, 15, 2, 21, 4, 7, 1, 3, 2, 0, 12, 0, 1, 0, 3, 2, 0, 11, 4, 3, 2, 0, 15, 0, 8, 3, 7, 1, 3, 2, 0, 12, 0, 0, 0, 7, 4, 3, 2, 0, 15, 0, 1, 2, 0, 11]), (20, [15, 5], [30, 0, 1, 0, 0, -1, 1, 11]), (20, [5], [30, -1, -1, 1, 8]), (102, [23], [0, 165008, 165009]), (23, [15, 13], [0, 1, -1]), (23, [15, 13], [0, -1, 1]), (23, [3, 15], [-1, 1, -1]), (23, [9, 15], [-2000, -1, -1]), (23, [3, 13], [-1, 1, -1]), (23, [9, 13], [-2000, -1, -1]), (23, [4], [0, -1]), (102, [15], [0, 165008, 165009, 165011, 165012, 165013, 165014, 165015]), (23, [15, 13], [0, 1, -1]), (23, [15, 13], [0, -1, 1]), (23, [3, 15], [-1, 1, -1]), (23, [9, 15], [-2000, -1, -1]), (23, [3, 13], [-1, 1, -1]), (23, [9, 13], [-2000, -1, -1]), (23, [4], [0, -1]), (102, [13], [0, 165011, 165012, 165013, 165014, 165015]), (23, [3, 13], [-1, 1, -1]), (23, [9, 13], [-2000, -1, -1]), (23, [4], [0, -1]), (102, [11], [0]), (23, [4], [0, -1])], [], [], [(20, [0, 0], [30, 0, 1, 1, 15, -1, 1, 11]), (20, [0], [50, 3, 0, 12, 11, 15, 2, 21, 4, 7, 1, 3, 2, 0, 12, 0, 1, 0, 3, 2, 0, 11, 4, 3, 2, 0, 15, 0, 8, 3, 7, 1, 3, 2, 0, 12, 0, 0, 0, 7, 4, 3, 2, 0, 15, 0, 1, 2, 0, 11]), (20, [3, 0], [30, 0, 1, 0, 0, -1, 1, 11]), (20, [0, 3], [50, 3, 0, 8, 12, 11, 3, 7, 0, 2, 0, 1, 2, 0, 8, 3, 7, 1, 3, 2, 0, 12, 0, 0, 0, 6, 4, 2, 1, 1, 0, 1, 2, 0, 11]), (20, [0, 4], [50, 1, 0, 8, 3, 7, 0, 2, 0, 1, 2, 0, 8, 0, 2, 0, 0, 1, 1]), (20, [25, 2], [30, 0, 1, 0, 0, -1, 0, 0]), (20, [25], [30, 0, -1, 0, 0])], [], [])
theorem oo_Mo_of_at_s5002_11 {kA : Nat → ClassId} : or_ok PRD kA GG o_Mo_of_at_s5002_11 := by
  refine or_mk fun A ta ws vs hD hth hl => ?_
  intro t0 r0 t2 k2 t3 k3 t4 k4 t7 k7 t9 k9 t13 k13 t15 k15 t24 k24 t25 k25 f0 f1 f2 f3 f4 f5 f6 f7 f8 f9 f11 f12 f13 f14 ta1 w1 le1 s1 f16 f17 f18 f19 f20 f21 f22 ta2 w2 le2 s2 f24 f25 f26 f27 f28 f29 f30 ta3 w3 le3 s3 f32 f33 f34 ta4 w4 le4 s4 f36
  replace f1 := shm_143 f1
  replace f9 := shm_5 f9
  replace f11 := shm_1397 f11
  replace f12 := shm_1398 f12
  replace f13 := shm_1395 f13
  replace f14 := shm_144 f14
  have q5 : n_v vs 5 = n_v vs 0 := f9.symm
  simp only [q5] at f1 f11 f12 f13 f14
  have g1 : v_iv (n_v vs 24) = w_fi ws (n_v vs 0) 8 := congrArg v_iv f1
  have kz_0_8 := fdq_14 hD hth r0
  have kz_0_11 := fdq_273 hD hth r0
  have kz_0_12 := fdq_186 hD hth r0
  have kz_0_15 := fdq_274 hD hth r0
  have nf0 : fc_1 PRD (20, [0, 0], [30, 0, 1, 1, 15, -1, 1, 11]) ws (vs) := ⟨nf_in hl rfl, sgq_1397 (vc_Mo_of_at_s5002_11_0 (v_iv (n_v vs 2)) (v_iv (n_v vs 3)) (v_iv (n_v vs 4)) (v_iv (n_v vs 7)) (v_iv (n_v vs 9)) (v_iv (n_v vs 13)) (v_iv (n_v vs 15)) (v_iv (n_v vs 24)) (v_iv (n_v vs 25)) (w_fi ws (n_v vs 0) 8) (w_fi ws (n_v vs 0) 15) (w_fi ws (n_v vs 0) 11) (w_fi ws (n_v vs 0) 12) k2 k3 k4 k7 k9 k13 k15 k24 k25 (shm_145 f0) g1 (shm_7 f2) (shm_22 f3) (shm_211 f4) (shm_1894 f5) (shm_211 f6) (shm_1894 f7) (shm_1013 f8) f11 f12 f13 f14 (shm_7 f16) (shm_22 f17) (shm_211 f18) (shm_1894 f19) (shm_211 f20) (shm_1894 f21) (shm_1013 f22) (shm_7 f24) (shm_22 f25) (shm_211 f26) (shm_1894 f27) (shm_211 f28) (shm_1894 f29) (shm_1013 f30) (shm_211 f32) (shm_1894 f33) (shm_1013 f34) (shm_1013 f36) kz_0_8 kz_0_11 kz_0_12 kz_0_15)⟩
  have nf1 : fc_1 PRD (20, [0], [50, 3, 0, 12, 11, 15, 2, 21, 4, 7, 1, 3, 2, 0, 12, 0, 1, 0, 3, 2, 0, 11, 4, 3, 2, 0, 15, 0, 8, 3, 7, 1, 3, 2, 0, 12, 0, 0, 0, 7, 4, 3, 2, 0, 15, 0, 1, 2, 0, 11]) ws (vs) := ⟨nf_in hl rfl, sgq_1398 (vc_Mo_of_at_s5002_11_1 (v_iv (n_v vs 2)) (v_iv (n_v vs 3)) (v_iv (n_v vs 4)) (v_iv (n_v vs 7)) (v_iv (n_v vs 9)) (v_iv (n_v vs 13)) (v_iv (n_v vs 15)) (v_iv (n_v vs 24)) (v_iv (n_v vs 25)) (w_fi ws (n_v vs 0) 8) (w_fi ws (n_v vs 0) 15) (w_fi ws (n_v vs 0) 11) (w_fi ws (n_v vs 0) 12) k2 k3 k4 k7 k9 k13 k15 k24 k25 (shm_145 f0) g1 (shm_7 f2) (shm_22 f3) (shm_211 f4) (shm_1894 f5) (shm_211 f6) (shm_1894 f7) (shm_1013 f8) f11 f12 f13 f14 (shm_7 f16) (shm_22 f17) (shm_211 f18) (shm_1894 f19) (shm_211 f20) (shm_1894 f21) (shm_1013 f22) (shm_7 f24) (shm_22 f25) (shm_211 f26) (shm_1894 f27) (shm_211 f28) (shm_1894 f29) (shm_1013 f30) (shm_211 f32) (shm_1894 f33) (shm_1013 f34) (shm_1013 f36) kz_0_8 kz_0_11 kz_0_12 kz_0_15)⟩
  have nf2 : fc_1 PRD (20, [3, 0], [30, 0, 1, 0, 0, -1, 1, 11]) ws (vs) := ⟨nf_in hl rfl, sgq_1395 (vc_Mo_of_at_s5002_11_2 (v_iv (n_v vs 2)) (v_iv (n_v vs 3)) (v_iv (n_v vs 4)) (v_iv (n_v vs 7)) (v_iv (n_v vs 9)) (v_iv (n_v vs 13)) (v_iv (n_v vs 15)) (v_iv (n_v vs 24)) (v_iv (n_v vs 25)) (w_fi ws (n_v vs 0) 8) (w_fi ws (n_v vs 0) 15) (w_fi ws (n_v vs 0) 11) (w_fi ws (n_v vs 0) 12) k2 k3 k4 k7 k9 k13 k15 k24 k25 (shm_145 f0) g1 (shm_7 f2) (shm_22 f3) (shm_211 f4) (shm_1894 f5) (shm_211 f6) (shm_1894 f7) (shm_1013 f8) f11 f12 f13 f14 (shm_7 f16) (shm_22 f17) (shm_211 f18) (shm_1894 f19) (shm_211 f20) (shm_1894 f21) (shm_1013 f22) (shm_7 f24) (shm_22 f25) (shm_211 f26) (shm_1894 f27) (shm_211 f28) (shm_1894 f29) (shm_1013 f30) (shm_211 f32) (shm_1894 f33) (shm_1013 f34) (shm_1013 f36) kz_0_8 kz_0_11 kz_0_12 kz_0_15)⟩
  have nf3 : fc_1 PRD (20, [0, 3], [50, 3, 0, 8, 12, 11, 3, 7, 0, 2, 0, 1, 2, 0, 8, 3, 7, 1, 3, 2, 0, 12, 0, 0, 0, 6, 4, 2, 1, 1, 0, 1, 2, 0, 11]) ws (vs) := ⟨nf_in hl rfl, sgq_1660 (vc_Mo_of_at_s5002_11_3 (v_iv (n_v vs 2)) (v_iv (n_v vs 3)) (v_iv (n_v vs 4)) (v_iv (n_v vs 7)) (v_iv (n_v vs 9)) (v_iv (n_v vs 13)) (v_iv (n_v vs 15)) (v_iv (n_v vs 24)) (v_iv (n_v vs 25)) (w_fi ws (n_v vs 0) 8) (w_fi ws (n_v vs 0) 15) (w_fi ws (n_v vs 0) 11) (w_fi ws (n_v vs 0) 12) k2 k3 k4 k7 k9 k13 k15 k24 k25 (shm_145 f0) g1 (shm_7 f2) (shm_22 f3) (shm_211 f4) (shm_1894 f5) (shm_211 f6) (shm_1894 f7) (shm_1013 f8) f11 f12 f13 f14 (shm_7 f16) (shm_22 f17) (shm_211 f18) (shm_1894 f19) (shm_211 f20) (shm_1894 f21) (shm_1013 f22) (shm_7 f24) (shm_22 f25) (shm_211 f26) (shm_1894 f27) (shm_211 f28) (shm_1894 f29) (shm_1013 f30) (shm_211 f32) (shm_1894 f33) (shm_1013 f34) (shm_1013 f36) kz_0_8 kz_0_11 kz_0_12 kz_0_15)⟩
  have nf4 : fc_1 PRD (20, [0, 4], [50, 1, 0, 8, 3, 7, 0, 2, 0, 1, 2, 0, 8, 0, 2, 0, 0, 1, 1]) ws (vs) := ⟨nf_in hl rfl, sgq_1889 (vc_Mo_of_at_s5002_11_4 (v_iv (n_v vs 2)) (v_iv (n_v vs 3)) (v_iv (n_v vs 4)) (v_iv (n_v vs 7)) (v_iv (n_v vs 9)) (v_iv (n_v vs 13)) (v_iv (n_v vs 15)) (v_iv (n_v vs 24)) (v_iv (n_v vs 25)) (w_fi ws (n_v vs 0) 8) (w_fi ws (n_v vs 0) 15) (w_fi ws (n_v vs 0) 11) (w_fi ws (n_v vs 0) 12) k2 k3 k4 k7 k9 k13 k15 k24 k25 (shm_145 f0) g1 (shm_7 f2) (shm_22 f3) (shm_211 f4) (shm_1894 f5) (shm_211 f6) (shm_1894 f7) (shm_1013 f8) f11 f12 f13 f14 (shm_7 f16) (shm_22 f17) (shm_211 f18) (shm_1894 f19) (shm_211 f20) (shm_1894 f21) (shm_1013 f22) (shm_7 f24) (shm_22 f25) (shm_211 f26) (shm_1894 f27) (shm_211 f28) (shm_1894 f29) (shm_1013 f30) (shm_211 f32) (shm_1894 f33) (shm_1013 f34) (shm_1013 f36) kz_0_8 kz_0_11 kz_0_12 kz_0_15)⟩
  have nf5 : fc_1 PRD (20, [25, 2], [30, 0, 1, 0, 0, -1, 0, 0]) ws (vs) := ⟨nf_in hl rfl, sgq_219 (vc_Mo_of_at_s5002_11_5 (v_iv (n_v vs 2)) (v_iv (n_v vs 3)) (v_iv (n_v vs 4)) (v_iv (n_v vs 7)) (v_iv (n_v vs 9)) (v_iv (n_v vs 13)) (v_iv (n_v vs 15)) (v_iv (n_v vs 24)) (v_iv (n_v vs 25)) (w_fi ws (n_v vs 0) 8) (w_fi ws (n_v vs 0) 15) (w_fi ws (n_v vs 0) 11) (w_fi ws (n_v vs 0) 12) k2 k3 k4 k7 k9 k13 k15 k24 k25 (shm_145 f0) g1 (shm_7 f2) (shm_22 f3) (shm_211 f4) (shm_1894 f5) (shm_211 f6) (shm_1894 f7) (shm_1013 f8) f11 f12 f13 f14 (shm_7 f16) (shm_22 f17) (shm_211 f18) (shm_1894 f19) (shm_211 f20) (shm_1894 f21) (shm_1013 f22) (shm_7 f24) (shm_22 f25) (shm_211 f26) (shm_1894 f27) (shm_211 f28) (shm_1894 f29) (shm_1013 f30) (shm_211 f32) (shm_1894 f33) (shm_1013 f34) (shm_1013 f36) kz_0_8 kz_0_11 kz_0_12 kz_0_15)⟩
  have nf6 : fc_1 PRD (20, [25], [30, 0, -1, 0, 0]) ws (vs) := ⟨nf_in hl rfl, sgq_1890 (vc_Mo_of_at_s5002_11_6 (v_iv (n_v vs 2)) (v_iv (n_v vs 3)) (v_iv (n_v vs 4)) (v_iv (n_v vs 7)) (v_iv (n_v vs 9)) (v_iv (n_v vs 13)) (v_iv (n_v vs 15)) (v_iv (n_v vs 24)) (v_iv (n_v vs 25)) (w_fi ws (n_v vs 0) 8) (w_fi ws (n_v vs 0) 15) (w_fi ws (n_v vs 0) 11) (w_fi ws (n_v vs 0) 12) k2 k3 k4 k7 k9 k13 k15 k24 k25 (shm_145 f0) g1 (shm_7 f2) (shm_22 f3) (shm_211 f4) (shm_1894 f5) (shm_211 f6) (shm_1894 f7) (shm_1013 f8) f11 f12 f13 f14 (shm_7 f16) (shm_22 f17) (shm_211 f18) (shm_1894 f19) (shm_211 f20) (shm_1894 f21) (shm_1013 f22) (shm_7 f24) (shm_22 f25) (shm_211 f26) (shm_1894 f27) (shm_211 f28) (shm_1894 f29) (shm_1013 f30) (shm_211 f32) (shm_1894 f33) (shm_1013 f34) (shm_1013 f36) kz_0_8 kz_0_11 kz_0_12 kz_0_15)⟩
  refine ⟨(fun _ h => (by cases h)), [], trivial, ?_, (fun _ h => (by cases h))⟩
  rw [List.append_nil]
  exact List.forall_mem_cons.mpr ⟨⟨show (20 : Nat) < 100 from by decide, nf0⟩, List.forall_mem_cons.mpr ⟨⟨show (20 : Nat) < 100 from by decide, nf1⟩, List.forall_mem_cons.mpr ⟨⟨show (20 : Nat) < 100 from by decide, nf2⟩, List.forall_mem_cons.mpr ⟨⟨show (20 : Nat) < 100 from by decide, nf3⟩, List.forall_mem_cons.mpr ⟨⟨show (20 : Nat) < 100 from by decide, nf4⟩, List.forall_mem_cons.mpr ⟨⟨show (20 : Nat) < 100 from by decide, nf5⟩, List.forall_mem_cons.mpr ⟨⟨show (20 : Nat) < 100 from by decide, nf6⟩, (fun _ h => (by cases h))⟩⟩⟩⟩⟩⟩⟩
set_option maxHeartbeats 4000000 in
theorem vc_Mo_of_at_s5002_12_0 (x2 : Int) (x3 : Int) (x7 : Int) (x8 : Int) (x9 : Int) (x13 : Int) (x15 : Int) (x19 : Int) (x24 : Int) (value_0 : Int) (fault_0 : Int) (from_0 : Int) (pos_0 : Int) (kind_0 : Int) (k2 : 99 ≤ x2 ∧ x2 ≤ 99) (k3 : 0 ≤ x3 ∧ x3 ≤ 2000) (k7 : 99 ≤ x7 ∧ x7 ≤ 99) (k8 : (-2147483648) ≤ x8 ∧ x8 ≤ 0) (k9 : 0 ≤ x9 ∧ x9 ≤ 2000) (k13 : 0 ≤ x13 ∧ x13 ≤ 2000) (k15 : 0 ≤ x15 ∧ x15 ≤ 2000) (k19 : 100 ≤ x19 ∧ x19 ≤ 2147483647) (k24 : 0 ≤ x24 ∧ x24 ≤ 0) (g0 : x19 = value_0) (f1 : x24 ≤ 0) (g2 : x24 = fault_0) (f3 : 1 * x15 + ((-1) * x13 + 0) ≤ 0) (f4 : (-1) * x15 + (1 * x13 + 0) ≤ 0) (f5 : 1 * x3 + ((-1) * x15 + 0) ≤ (-1)) (f6 : (-1) * x9 + ((-1) * x15 + 0) ≤ (-2000)) (f7 : 1 * x3 + ((-1) * x13 + 0) ≤ (-1)) (f8 : (-1) * x9 + ((-1) * x13 + 0) ≤ (-2000)) (f9 : 1 * x8 + ((-1) * x2 + 0) ≤ 0) (f10 : (-1) * x8 + 0 ≤ 0) (f13 : 1 * from_0 + ((-1) * pos_0 + 0) ≤ 0) (f14 : ((kind_0 = 1) → (pos_0 ≤ (from_0 + 8))) ∧ ((kind_0 = 0) ∨ ((from_0 + 1) ≤ pos_0))) (f15 : 1 * x15 + ((-1) * pos_0 + 0) ≤ 0) (f16 : (-1) * fault_0 + 0 ≤ (-1)) (f18 : 1 * x15 + ((-1) * x13 + 0) ≤ 0) (f19 : (-1) * x15 + (1 * x13 + 0) ≤ 0) (f20 : 1 * x3 + ((-1) * x15 + 0) ≤ (-1)) (f21 : (-1) * x9 + ((-1) * x15 + 0) ≤ (-2000)) (f22 : 1 * x3 + ((-1) * x13 + 0) ≤ (-1)) (f23 : (-1) * x9 + ((-1) * x13 + 0) ≤ (-2000)) (f24 : 1 * x8 + ((-1) * x2 + 0) ≤ 0) (f25 : (-1) * x8 + 0 ≤ 0) (f27 : 1 * x15 + ((-1) * x13 + 0) ≤ 0) (f28 : (-1) * x15 + (1 * x13 + 0) ≤ 0) (f29 : 1 * x3 + ((-1) * x15 + 0) ≤ (-1)) (f30 : (-1) * x9 + ((-1) * x15 + 0) ≤ (-2000)) (f31 : 1 * x3 + ((-1) * x13 + 0) ≤ (-1)) (f32 : (-1) * x9 + ((-1) * x13 + 0) ≤ (-2000)) (f33 : 1 * x8 + ((-1) * x2 + 0) ≤ 0) (f34 : (-1) * x8 + 0 ≤ 0) (f36 : 1 * x3 + ((-1) * x13 + 0) ≤ (-1)) (f37 : (-1) * x9 + ((-1) * x13 + 0) ≤ (-2000)) (f38 : x8 ≤ 0) (f39 : 1 * x8 + ((-1) * x2 + 0) ≤ 0) (f40 : (-1) * x8 + 0 ≤ 0) (f42 : 1 * x8 + ((-1) * x2 + 0) ≤ 0) (f43 : (-1) * x8 + 0 ≤ 0) (kz_0_8 : 0 ≤ fault_0 ∧ fault_0 ≤ 5) (kz_0_11 : 0 ≤ pos_0 ∧ pos_0 ≤ 2000) (kz_0_12 : 0 ≤ kind_0 ∧ kind_0 ≤ 4) (kz_0_14 : (-2147483648) ≤ value_0 ∧ value_0 ≤ 2147483647) (kz_0_15 : 0 ≤ from_0 ∧ from_0 ≤ 2000) : 1 * x19 + ((-1) * x2 + 0) ≤ 0 := by
  first | assumption | (clear f14; omega) | omega | grind
set_option maxHeartbeats 4000000 in
theorem vc_Mo_of_at_s5002_12_1 (x2 : Int) (x3 : Int) (x7 : Int) (x8 : Int) (x9 : Int) (x13 : Int) (x15 : Int) (x19 : Int) (x24 : Int) (value_0 : Int) (fault_0 : Int) (from_0 : Int) (pos_0 : Int) (kind_0 : Int) (k2 : 99 ≤ x2 ∧ x2 ≤ 99) (k3 : 0 ≤ x3 ∧ x3 ≤ 2000) (k7 : 99 ≤ x7 ∧ x7 ≤ 99) (k8 : (-2147483648) ≤ x8 ∧ x8 ≤ 0) (k9 : 0 ≤ x9 ∧ x9 ≤ 2000) (k13 : 0 ≤ x13 ∧ x13 ≤ 2000) (k15 : 0 ≤ x15 ∧ x15 ≤ 2000) (k19 : 100 ≤ x19 ∧ x19 ≤ 2147483647) (k24 : 0 ≤ x24 ∧ x24 ≤ 0) (g0 : x19 = value_0) (f1 : x24 ≤ 0) (g2 : x24 = fault_0) (f3 : 1 * x15 + ((-1) * x13 + 0) ≤ 0) (f4 : (-1) * x15 + (1 * x13 + 0) ≤ 0) (f5 : 1 * x3 + ((-1) * x15 + 0) ≤ (-1)) (f6 : (-1) * x9 + ((-1) * x15 + 0) ≤ (-2000)) (f7 : 1 * x3 + ((-1) * x13 + 0) ≤ (-1)) (f8 : (-1) * x9 + ((-1) * x13 + 0) ≤ (-2000)) (f9 : 1 * x8 + ((-1) * x2 + 0) ≤ 0) (f10 : (-1) * x8 + 0 ≤ 0) (f13 : 1 * from_0 + ((-1) * pos_0 + 0) ≤ 0) (f14 : ((kind_0 = 1) → (pos_0 ≤ (from_0 + 8))) ∧ ((kind_0 = 0) ∨ ((from_0 + 1) ≤ pos_0))) (f15 : 1 * x15 + ((-1) * pos_0 + 0) ≤ 0) (f16 : (-1) * fault_0 + 0 ≤ (-1)) (f18 : 1 * x15 + ((-1) * x13 + 0) ≤ 0) (f19 : (-1) * x15 + (1 * x13 + 0) ≤ 0) (f20 : 1 * x3 + ((-1) * x15 + 0) ≤ (-1)) (f21 : (-1) * x9 + ((-1) * x15 + 0) ≤ (-2000)) (f22 : 1 * x3 + ((-1) * x13 + 0) ≤ (-1)) (f23 : (-1) * x9 + ((-1) * x13 + 0) ≤ (-2000)) (f24 : 1 * x8 + ((-1) * x2 + 0) ≤ 0) (f25 : (-1) * x8 + 0 ≤ 0) (f27 : 1 * x15 + ((-1) * x13 + 0) ≤ 0) (f28 : (-1) * x15 + (1 * x13 + 0) ≤ 0) (f29 : 1 * x3 + ((-1) * x15 + 0) ≤ (-1)) (f30 : (-1) * x9 + ((-1) * x15 + 0) ≤ (-2000)) (f31 : 1 * x3 + ((-1) * x13 + 0) ≤ (-1)) (f32 : (-1) * x9 + ((-1) * x13 + 0) ≤ (-2000)) (f33 : 1 * x8 + ((-1) * x2 + 0) ≤ 0) (f34 : (-1) * x8 + 0 ≤ 0) (f36 : 1 * x3 + ((-1) * x13 + 0) ≤ (-1)) (f37 : (-1) * x9 + ((-1) * x13 + 0) ≤ (-2000)) (f38 : x8 ≤ 0) (f39 : 1 * x8 + ((-1) * x2 + 0) ≤ 0) (f40 : (-1) * x8 + 0 ≤ 0) (f42 : 1 * x8 + ((-1) * x2 + 0) ≤ 0) (f43 : (-1) * x8 + 0 ≤ 0) (kz_0_8 : 0 ≤ fault_0 ∧ fault_0 ≤ 5) (kz_0_11 : 0 ≤ pos_0 ∧ pos_0 ≤ 2000) (kz_0_12 : 0 ≤ kind_0 ∧ kind_0 ≤ 4) (kz_0_14 : (-2147483648) ≤ value_0 ∧ value_0 ≤ 2147483647) (kz_0_15 : 0 ≤ from_0 ∧ from_0 ≤ 2000) : (-1) * x19 + 0 ≤ 0 := by
  first | assumption | (clear f14; omega) | omega | grind
def o_Mo_of_at_s5002_12 : or_T := (135, 25, [(0, (2, 0, 0, [165])), (2, (0, 99, 99, [])), (3, (0, 0, 2000, [])), (5, (2, 0, 0, [165])), (7, (0, 99, 99, [])), (8, (0, -2147483648, 0, [])), (9, (0, 0, 2000, [])), (13, (0, 0, 2000, [])), (15, (0, 0, 2000, [])), (19, (0, 100, 2147483647, [])), (24, (0, 0, 0, []))], [(9, [19, 5], [14]), (8, [24], [5]), (9, [24, 5], [8]), (23, [15, 13], [0, 1, -1]), (23, [15, 13], [0, -1, 1]), (23, [3, 15], [-1, 1, -1]), (23, [9, 15], [-2000, -1, -1]), (23, [3, 13], [-1, 1, -1]), (23, [9, 13], [-2000, -1, -1]), (23, [8, 7], [0, 1, -1]), (23, [8], [0, -1]), (24, [0, 5], []), (24, [2, 7], []), (20, [5, 5], [30, 0, 1, 1, 15, -1, 1, 11]), (20, [5], [50, 3, 0, 12, 11, 15, 2, 21, 4, 7, 1, 3, 2, 0, 12, 0, 1, 0, 3, 2, 0, 11, 4, 3, 2, 0, 15, 0, 8, 3, 7, 1, 3, 2, 0, 12, 0, 0, 0, 7, 4, 3, 2, 0, 15, 0, 1, 2, 0, 11]), (20, [15, 5], [30, 0, 1, 0, 0, -1, 1, 11]), (20, [5], [30, -1, -1, 1, 8]), (102, [23], [0, 165008, 165009]), (23, [15, 13], [0, 1, -1]), (23, [15, 13], [0, -1, 1]), (23, [3, 15], [-1, 1, -1]), (23, [9, 15], [-2000, -1, -1]), (23, [3, 13], [-1, 1, -1]), (23, [9, 13], [-2000, -1, -1]), (23, [8, 7], [0, 1, -1]), (23, [8], [0, -1]), (102, [15], [0, 165008, 165009, 165011, 165012, 165013, 165014, 165015]), (23, [15, 13], [0, 1, -1]), (23, [15, 13], [0, -1, 1]), (23, [3, 15], [-1, 1, -1]), (23, [9, 15], [-2000, -1, -1]), (23, [3, 13], [-1, 1, -1]), (23, [9, 13], [-2000, -1, -1]), (23, [8, 7], [0, 1, -1]), (23, [8], [0, -1]), (102, [13], [0, 165011, 165012, 165013, 165014, 165015]), (23, [3, 13], [-1, 1, -1]), (23, [9, 13], [-2000, -1, -1]), (8, [8], [5]), (23, [8, 7], [0, 1, -1]), (23, [8], [0, -1]), (102, [11], [0]), (23, [8, 7], [0, 1, -1]), (23, [8], [0, -1])], [], [], [(23, [19, 7], [0, 1, -1]), (23, [19], [0, -1])], [], [])
theorem oo_Mo_of_at_s5002_12 {kA : Nat → ClassId} : or_ok PRD kA GG o_Mo_of_at_s5002_12 := by
  refine or_mk fun A ta ws vs hD hth hl => ?_
  intro t0 r0 t2 k2 t3 k3 t5 r5 t7 k7 t8 k8 t9 k9 t13 k13 t15 k15 t19 k19 t24 k24 f0 f1 f2 f3 f4 f5 f6 f7 f8 f9 f10 f11 f12 f13 f14 f15 f16 ta1 w1 le1 s1 f18 f19 f20 f21 f22 f23 f24 f25 ta2 w2 le2 s2 f27 f28 f29 f30 f31 f32 f33 f34 ta3 w3 le3 s3 f36 f37 f38 f39 f40 ta4 w4 le4 s4 f42 f43
  replace f0 := shm_116 f0
  replace f1 := shm_142 f1
  replace f2 := shm_143 f2
  replace f3 := shm_7 f3
  replace f4 := shm_22 f4
  replace f5 := shm_211 f5
  replace f6 := shm_1894 f6
  replace f7 := shm_211 f7
  replace f8 := shm_1894 f8
  replace f9 := shm_7 f9
  replace f10 := shm_1013 f10
  replace f11 := shm_5 f11
  replace f12 := shm_5 f12
  replace f13 := shm_1397 f13
  replace f14 := shm_1398 f14
  replace f15 := shm_1395 f15
  replace f16 := shm_144 f16
  replace f18 := shm_7 f18
  replace f19 := shm_22 f19
  replace f20 := shm_211 f20
  replace f21 := shm_1894 f21
  replace f22 := shm_211 f22
  replace f23 := shm_1894 f23
  replace f24 := shm_7 f24
  replace f25 := shm_1013 f25
  replace f27 := shm_7 f27
  replace f28 := shm_22 f28
  replace f29 := shm_211 f29
  replace f30 := shm_1894 f30
  replace f31 := shm_211 f31
  replace f32 := shm_1894 f32
  replace f33 := shm_7 f33
  replace f34 := shm_1013 f34
  replace f36 := shm_211 f36
  replace f37 := shm_1894 f37
  replace f38 := shm_142 f38
  replace f39 := shm_7 f39
  replace f40 := shm_1013 f40
  replace f42 := shm_7 f42
  replace f43 := shm_1013 f43
  have q5 : n_v vs 5 = n_v vs 0 := f11.symm
  have q7 : n_v vs 7 = n_v vs 2 := f12.symm
  simp only [q5, q7] at f0 f2 f9 f13 f14 f15 f16 f24 f33 f39 f42
  have g0 : v_iv (n_v vs 19) = w_fi ws (n_v vs 0) 14 := congrArg v_iv f0
  have g2 : v_iv (n_v vs 24) = w_fi ws (n_v vs 0) 8 := congrArg v_iv f2
  have kz_0_8 := fdq_14 hD hth r0
  have kz_0_11 := fdq_273 hD hth r0
  have kz_0_12 := fdq_186 hD hth r0
  have kz_0_14 := fdq_311 hD hth r0
  have kz_0_15 := fdq_274 hD hth r0
  have nf0 : fc_1 PRD (23, [19, 7], [0, 1, -1]) ws (vs) := by
    refine ⟨nf_in hl rfl, sgq_7 ?_⟩
    · show 1 * v_iv (n_v vs 19) + ((-1) * v_iv (n_v vs 7) + 0) ≤ 0
      rw [q7]
      exact vc_Mo_of_at_s5002_12_0 (v_iv (n_v vs 2)) (v_iv (n_v vs 3)) (v_iv (n_v vs 7)) (v_iv (n_v vs 8)) (v_iv (n_v vs 9)) (v_iv (n_v vs 13)) (v_iv (n_v vs 15)) (v_iv (n_v vs 19)) (v_iv (n_v vs 24)) (w_fi ws (n_v vs 0) 14) (w_fi ws (n_v vs 0) 8) (w_fi ws (n_v vs 0) 15) (w_fi ws (n_v vs 0) 11) (w_fi ws (n_v vs 0) 12) k2 k3 k7 k8 k9 k13 k15 k19 k24 g0 f1 g2 f3 f4 f5 f6 f7 f8 f9 f10 f13 f14 f15 f16 f18 f19 f20 f21 f22 f23 f24 f25 f27 f28 f29 f30 f31 f32 f33 f34 f36 f37 f38 f39 f40 f42 f43 kz_0_8 kz_0_11 kz_0_12 kz_0_14 kz_0_15
  have nf1 : fc_1 PRD (23, [19], [0, -1]) ws (vs) := ⟨nf_in hl rfl, sgq_1013 (vc_Mo_of_at_s5002_12_1 (v_iv (n_v vs 2)) (v_iv (n_v vs 3)) (v_iv (n_v vs 7)) (v_iv (n_v vs 8)) (v_iv (n_v vs 9)) (v_iv (n_v vs 13)) (v_iv (n_v vs 15)) (v_iv (n_v vs 19)) (v_iv (n_v vs 24)) (w_fi ws (n_v vs 0) 14) (w_fi ws (n_v vs 0) 8) (w_fi ws (n_v vs 0) 15) (w_fi ws (n_v vs 0) 11) (w_fi ws (n_v vs 0) 12) k2 k3 k7 k8 k9 k13 k15 k19 k24 g0 f1 g2 f3 f4 f5 f6 f7 f8 f9 f10 f13 f14 f15 f16 f18 f19 f20 f21 f22 f23 f24 f25 f27 f28 f29 f30 f31 f32 f33 f34 f36 f37 f38 f39 f40 f42 f43 kz_0_8 kz_0_11 kz_0_12 kz_0_14 kz_0_15)⟩
  refine ⟨(fun _ h => (by cases h)), [], trivial, ?_, (fun _ h => (by cases h))⟩
  rw [List.append_nil]
  exact List.forall_mem_cons.mpr ⟨⟨show (23 : Nat) < 100 from by decide, nf0⟩, List.forall_mem_cons.mpr ⟨⟨show (23 : Nat) < 100 from by decide, nf1⟩, (fun _ h => (by cases h))⟩⟩
set_option maxHeartbeats 4000000 in
theorem vc_Mo_of_at_s5002_13_0 (x2 : Int) (x3 : Int) (x4 : Int) (x7 : Int) (x8 : Int) (x9 : Int) (x13 : Int) (x15 : Int) (x19 : Int) (x25 : Int) (fault_0 : Int) (from_0 : Int) (pos_0 : Int) (kind_0 : Int) (gx : Int) (k2 : 99 ≤ x2 ∧ x2 ≤ 99) (k3 : 0 ≤ x3 ∧ x3 ≤ 2000) (k4 : (-1) ≤ x4 ∧ x4 ≤ 48) (k7 : 99 ≤ x7 ∧ x7 ≤ 99) (k8 : (-2147483648) ≤ x8 ∧ x8 ≤ 0) (k9 : 0 ≤ x9 ∧ x9 ≤ 2000) (k13 : 0 ≤ x13 ∧ x13 ≤ 2000) (k15 : 0 ≤ x15 ∧ x15 ≤ 2000) (k19 : 100 ≤ x19 ∧ x19 ≤ 2147483647) (k25 : 0 ≤ x25 ∧ x25 ≤ 2000) (f0 : 1 * x3 + ((-1) * x25 + 0) ≤ (-1)) (f1 : (-1) * x9 + ((-1) * x25 + 0) ≤ (-2001)) (f2 : 1 * x19 + ((-1) * x2 + 0) ≤ 0) (f3 : (-1) * x19 + 0 ≤ 0) (f4 : 1 * x15 + ((-1) * x13 + 0) ≤ 0) (f5 : (-1) * x15 + (1 * x13 + 0) ≤ 0) (f6 : 1 * x3 + ((-1) * x15 + 0) ≤ (-1)) (f7 : (-1) * x9 + ((-1) * x15 + 0) ≤ (-2000)) (f8 : 1 * x3 + ((-1) * x13 + 0) ≤ (-1)) (f9 : (-1) * x9 + ((-1) * x13 + 0) ≤ (-2000)) (f10 : 1 * x8 + ((-1) * x2 + 0) ≤ 0) (f11 : (-1) * x8 + 0 ≤ 0) (f12 : (-1) * x4 + 0 ≤ 0) (f15 : (-1) * fault_0 + 0 ≤ (-1)) (f16 : 1 * from_0 + ((-1) * pos_0 + 0) ≤ 0) (f17 : ((kind_0 = 1) → (pos_0 ≤ (from_0 + 8))) ∧ ((kind_0 = 0) ∨ ((from_0 + 1) ≤ pos_0))) (f18 : 1 * x25 + ((-1) * from_0 + 0) ≤ 0) (f20 : 1 * x3 + ((-1) * x25 + 0) ≤ (-1)) (f21 : (-1) * x9 + ((-1) * x25 + 0) ≤ (-2001)) (f22 : 1 * x19 + ((-1) * x2 + 0) ≤ 0) (f23 : (-1) * x19 + 0 ≤ 0) (f24 : 1 * x15 + ((-1) * x13 + 0) ≤ 0) (f25 : (-1) * x15 + (1 * x13 + 0) ≤ 0) (f26 : 1 * x3 + ((-1) * x15 + 0) ≤ (-1)) (f27 : (-1) * x9 + ((-1) * x15 + 0) ≤ (-2000)) (f28 : 1 * x3 + ((-1) * x13 + 0) ≤ (-1)) (f29 : (-1) * x9 + ((-1) * x13 + 0) ≤ (-2000)) (f30 : 1 * x8 + ((-1) * x2 + 0) ≤ 0) (f31 : (-1) * x8 + 0 ≤ 0) (f32 : (-1) * x4 + 0 ≤ 0) (f34 : 1 * x15 + ((-1) * x13 + 0) ≤ 0) (f35 : (-1) * x15 + (1 * x13 + 0) ≤ 0) (f36 : 1 * x3 + ((-1) * x15 + 0) ≤ (-1)) (f37 : (-1) * x9 + ((-1) * x15 + 0) ≤ (-2000)) (f38 : 1 * x3 + ((-1) * x13 + 0) ≤ (-1)) (f39 : (-1) * x9 + ((-1) * x13 + 0) ≤ (-2000)) (f40 : 1 * x8 + ((-1) * x2 + 0) ≤ 0) (f41 : (-1) * x8 + 0 ≤ 0) (f42 : (-1) * x4 + 0 ≤ 0) (f44 : 1 * x15 + ((-1) * x13 + 0) ≤ 0) (f45 : (-1) * x15 + (1 * x13 + 0) ≤ 0) (f46 : 1 * x3 + ((-1) * x15 + 0) ≤ (-1)) (f47 : (-1) * x9 + ((-1) * x15 + 0) ≤ (-2000)) (f48 : 1 * x3 + ((-1) * x13 + 0) ≤ (-1)) (f49 : (-1) * x9 + ((-1) * x13 + 0) ≤ (-2000)) (f50 : 1 * x8 + ((-1) * x2 + 0) ≤ 0) (f51 : (-1) * x8 + 0 ≤ 0) (f52 : (-1) * x4 + 0 ≤ 0) (f54 : 1 * x3 + ((-1) * x13 + 0) ≤ (-1)) (f55 : (-1) * x9 + ((-1) * x13 + 0) ≤ (-2000)) (f56 : x8 ≤ 0) (f57 : 1 * x8 + ((-1) * x2 + 0) ≤ 0) (f58 : (-1) * x8 + 0 ≤ 0) (f59 : (-1) * x4 + 0 ≤ 0) (f61 : 1 * x8 + ((-1) * x2 + 0) ≤ 0) (f62 : (-1) * x8 + 0 ≤ 0) (f63 : (-1) * x4 + 0 ≤ 0) (kz_0_8 : 0 ≤ fault_0 ∧ fault_0 ≤ 5) (kz_0_11 : 0 ≤ pos_0 ∧ pos_0 ≤ 2000) (kz_0_12 : 0 ≤ kind_0 ∧ kind_0 ≤ 4) (kz_0_15 : 0 ≤ from_0 ∧ from_0 ≤ 2000) (ex2 : gx = 0 + (1 * x9 + 0)) (ex3 : 0 ≤ gx ∧ gx ≤ 2000) : 1 * from_0 + ((-1) * pos_0 + 0) ≤ 0 := by
  first | assumption | (clear f17; omega) | omega | grind
set_option maxHeartbeats 4000000 in
theorem vc_Mo_of_at_s5002_13_1 (x2 : Int) (x3 : Int) (x4 : Int) (x7 : Int) (x8 : Int) (x9 : Int) (x13 : Int) (x15 : Int) (x19 : Int) (x25 : Int) (fault_0 : Int) (from_0 : Int) (pos_0 : Int) (kind_0 : Int) (gx : Int) (k2 : 99 ≤ x2 ∧ x2 ≤ 99) (k3 : 0 ≤ x3 ∧ x3 ≤ 2000) (k4 : (-1) ≤ x4 ∧ x4 ≤ 48) (k7 : 99 ≤ x7 ∧ x7 ≤ 99) (k8 : (-2147483648) ≤ x8 ∧ x8 ≤ 0) (k9 : 0 ≤ x9 ∧ x9 ≤ 2000) (k13 : 0 ≤ x13 ∧ x13 ≤ 2000) (k15 : 0 ≤ x15 ∧ x15 ≤ 2000) (k19 : 100 ≤ x19 ∧ x19 ≤ 2147483647) (k25 : 0 ≤ x25 ∧ x25 ≤ 2000) (f0 : 1 * x3 + ((-1) * x25 + 0) ≤ (-1)) (f1 : (-1) * x9 + ((-1) * x25 + 0) ≤ (-2001)) (f2 : 1 * x19 + ((-1) * x2 + 0) ≤ 0) (f3 : (-1) * x19 + 0 ≤ 0) (f4 : 1 * x15 + ((-1) * x13 + 0) ≤ 0) (f5 : (-1) * x15 + (1 * x13 + 0) ≤ 0) (f6 : 1 * x3 + ((-1) * x15 + 0) ≤ (-1)) (f7 : (-1) * x9 + ((-1) * x15 + 0) ≤ (-2000)) (f8 : 1 * x3 + ((-1) * x13 + 0) ≤ (-1)) (f9 : (-1) * x9 + ((-1) * x13 + 0) ≤ (-2000)) (f10 : 1 * x8 + ((-1) * x2 + 0) ≤ 0) (f11 : (-1) * x8 + 0 ≤ 0) (f12 : (-1) * x4 + 0 ≤ 0) (f15 : (-1) * fault_0 + 0 ≤ (-1)) (f16 : 1 * from_0 + ((-1) * pos_0 + 0) ≤ 0) (f17 : ((kind_0 = 1) → (pos_0 ≤ (from_0 + 8))) ∧ ((kind_0 = 0) ∨ ((from_0 + 1) ≤ pos_0))) (f18 : 1 * x25 + ((-1) * from_0 + 0) ≤ 0) (f20 : 1 * x3 + ((-1) * x25 + 0) ≤ (-1)) (f21 : (-1) * x9 + ((-1) * x25 + 0) ≤ (-2001)) (f22 : 1 * x19 + ((-1) * x2 + 0) ≤ 0) (f23 : (-1) * x19 + 0 ≤ 0) (f24 : 1 * x15 + ((-1) * x13 + 0) ≤ 0) (f25 : (-1) * x15 + (1 * x13 + 0) ≤ 0) (f26 : 1 * x3 + ((-1) * x15 + 0) ≤ (-1)) (f27 : (-1) * x9 + ((-1) * x15 + 0) ≤ (-2000)) (f28 : 1 * x3 + ((-1) * x13 + 0) ≤ (-1)) (f29 : (-1) * x9 + ((-1) * x13 + 0) ≤ (-2000)) (f30 : 1 * x8 + ((-1) * x2 + 0) ≤ 0) (f31 : (-1) * x8 + 0 ≤ 0) (f32 : (-1) * x4 + 0 ≤ 0) (f34 : 1 * x15 + ((-1) * x13 + 0) ≤ 0) (f35 : (-1) * x15 + (1 * x13 + 0) ≤ 0) (f36 : 1 * x3 + ((-1) * x15 + 0) ≤ (-1)) (f37 : (-1) * x9 + ((-1) * x15 + 0) ≤ (-2000)) (f38 : 1 * x3 + ((-1) * x13 + 0) ≤ (-1)) (f39 : (-1) * x9 + ((-1) * x13 + 0) ≤ (-2000)) (f40 : 1 * x8 + ((-1) * x2 + 0) ≤ 0) (f41 : (-1) * x8 + 0 ≤ 0) (f42 : (-1) * x4 + 0 ≤ 0) (f44 : 1 * x15 + ((-1) * x13 + 0) ≤ 0) (f45 : (-1) * x15 + (1 * x13 + 0) ≤ 0) (f46 : 1 * x3 + ((-1) * x15 + 0) ≤ (-1)) (f47 : (-1) * x9 + ((-1) * x15 + 0) ≤ (-2000)) (f48 : 1 * x3 + ((-1) * x13 + 0) ≤ (-1)) (f49 : (-1) * x9 + ((-1) * x13 + 0) ≤ (-2000)) (f50 : 1 * x8 + ((-1) * x2 + 0) ≤ 0) (f51 : (-1) * x8 + 0 ≤ 0) (f52 : (-1) * x4 + 0 ≤ 0) (f54 : 1 * x3 + ((-1) * x13 + 0) ≤ (-1)) (f55 : (-1) * x9 + ((-1) * x13 + 0) ≤ (-2000)) (f56 : x8 ≤ 0) (f57 : 1 * x8 + ((-1) * x2 + 0) ≤ 0) (f58 : (-1) * x8 + 0 ≤ 0) (f59 : (-1) * x4 + 0 ≤ 0) (f61 : 1 * x8 + ((-1) * x2 + 0) ≤ 0) (f62 : (-1) * x8 + 0 ≤ 0) (f63 : (-1) * x4 + 0 ≤ 0) (kz_0_8 : 0 ≤ fault_0 ∧ fault_0 ≤ 5) (kz_0_11 : 0 ≤ pos_0 ∧ pos_0 ≤ 2000) (kz_0_12 : 0 ≤ kind_0 ∧ kind_0 ≤ 4) (kz_0_15 : 0 ≤ from_0 ∧ from_0 ≤ 2000) (ex2 : gx = 0 + (1 * x9 + 0)) (ex3 : 0 ≤ gx ∧ gx ≤ 2000) : ((kind_0 = 1) → (pos_0 ≤ (from_0 + 8))) ∧ ((kind_0 = 0) ∨ ((from_0 + 1) ≤ pos_0)) := by
  first | assumption | (clear f17; omega) | omega | grind
set_option maxHeartbeats 4000000 in
theorem vc_Mo_of_at_s5002_13_2 (x2 : Int) (x3 : Int) (x4 : Int) (x7 : Int) (x8 : Int) (x9 : Int) (x13 : Int) (x15 : Int) (x19 : Int) (x25 : Int) (fault_0 : Int) (from_0 : Int) (pos_0 : Int) (kind_0 : Int) (gx : Int) (k2 : 99 ≤ x2 ∧ x2 ≤ 99) (k3 : 0 ≤ x3 ∧ x3 ≤ 2000) (k4 : (-1) ≤ x4 ∧ x4 ≤ 48) (k7 : 99 ≤ x7 ∧ x7 ≤ 99) (k8 : (-2147483648) ≤ x8 ∧ x8 ≤ 0) (k9 : 0 ≤ x9 ∧ x9 ≤ 2000) (k13 : 0 ≤ x13 ∧ x13 ≤ 2000) (k15 : 0 ≤ x15 ∧ x15 ≤ 2000) (k19 : 100 ≤ x19 ∧ x19 ≤ 2147483647) (k25 : 0 ≤ x25 ∧ x25 ≤ 2000) (f0 : 1 * x3 + ((-1) * x25 + 0) ≤ (-1)) (f1 : (-1) * x9 + ((-1) * x25 + 0) ≤ (-2001)) (f2 : 1 * x19 + ((-1) * x2 + 0) ≤ 0) (f3 : (-1) * x19 + 0 ≤ 0) (f4 : 1 * x15 + ((-1) * x13 + 0) ≤ 0) (f5 : (-1) * x15 + (1 * x13 + 0) ≤ 0) (f6 : 1 * x3 + ((-1) * x15 + 0) ≤ (-1)) (f7 : (-1) * x9 + ((-1) * x15 + 0) ≤ (-2000)) (f8 : 1 * x3 + ((-1) * x13 + 0) ≤ (-1)) (f9 : (-1) * x9 + ((-1) * x13 + 0) ≤ (-2000)) (f10 : 1 * x8 + ((-1) * x2 + 0) ≤ 0) (f11 : (-1) * x8 + 0 ≤ 0) (f12 : (-1) * x4 + 0 ≤ 0) (f15 : (-1) * fault_0 + 0 ≤ (-1)) (f16 : 1 * from_0 + ((-1) * pos_0 + 0) ≤ 0) (f17 : ((kind_0 = 1) → (pos_0 ≤ (from_0 + 8))) ∧ ((kind_0 = 0) ∨ ((from_0 + 1) ≤ pos_0))) (f18 : 1 * x25 + ((-1) * from_0 + 0) ≤ 0) (f20 : 1 * x3 + ((-1) * x25 + 0) ≤ (-1)) (f21 : (-1) * x9 + ((-1) * x25 + 0) ≤ (-2001)) (f22 : 1 * x19 + ((-1) * x2 + 0) ≤ 0) (f23 : (-1) * x19 + 0 ≤ 0) (f24 : 1 * x15 + ((-1) * x13 + 0) ≤ 0) (f25 : (-1) * x15 + (1 * x13 + 0) ≤ 0) (f26 : 1 * x3 + ((-1) * x15 + 0) ≤ (-1)) (f27 : (-1) * x9 + ((-1) * x15 + 0) ≤ (-2000)) (f28 : 1 * x3 + ((-1) * x13 + 0) ≤ (-1)) (f29 : (-1) * x9 + ((-1) * x13 + 0) ≤ (-2000)) (f30 : 1 * x8 + ((-1) * x2 + 0) ≤ 0) (f31 : (-1) * x8 + 0 ≤ 0) (f32 : (-1) * x4 + 0 ≤ 0) (f34 : 1 * x15 + ((-1) * x13 + 0) ≤ 0) (f35 : (-1) * x15 + (1 * x13 + 0) ≤ 0) (f36 : 1 * x3 + ((-1) * x15 + 0) ≤ (-1)) (f37 : (-1) * x9 + ((-1) * x15 + 0) ≤ (-2000)) (f38 : 1 * x3 + ((-1) * x13 + 0) ≤ (-1)) (f39 : (-1) * x9 + ((-1) * x13 + 0) ≤ (-2000)) (f40 : 1 * x8 + ((-1) * x2 + 0) ≤ 0) (f41 : (-1) * x8 + 0 ≤ 0) (f42 : (-1) * x4 + 0 ≤ 0) (f44 : 1 * x15 + ((-1) * x13 + 0) ≤ 0) (f45 : (-1) * x15 + (1 * x13 + 0) ≤ 0) (f46 : 1 * x3 + ((-1) * x15 + 0) ≤ (-1)) (f47 : (-1) * x9 + ((-1) * x15 + 0) ≤ (-2000)) (f48 : 1 * x3 + ((-1) * x13 + 0) ≤ (-1)) (f49 : (-1) * x9 + ((-1) * x13 + 0) ≤ (-2000)) (f50 : 1 * x8 + ((-1) * x2 + 0) ≤ 0) (f51 : (-1) * x8 + 0 ≤ 0) (f52 : (-1) * x4 + 0 ≤ 0) (f54 : 1 * x3 + ((-1) * x13 + 0) ≤ (-1)) (f55 : (-1) * x9 + ((-1) * x13 + 0) ≤ (-2000)) (f56 : x8 ≤ 0) (f57 : 1 * x8 + ((-1) * x2 + 0) ≤ 0) (f58 : (-1) * x8 + 0 ≤ 0) (f59 : (-1) * x4 + 0 ≤ 0) (f61 : 1 * x8 + ((-1) * x2 + 0) ≤ 0) (f62 : (-1) * x8 + 0 ≤ 0) (f63 : (-1) * x4 + 0 ≤ 0) (kz_0_8 : 0 ≤ fault_0 ∧ fault_0 ≤ 5) (kz_0_11 : 0 ≤ pos_0 ∧ pos_0 ≤ 2000) (kz_0_12 : 0 ≤ kind_0 ∧ kind_0 ≤ 4) (kz_0_15 : 0 ≤ from_0 ∧ from_0 ≤ 2000) (ex2 : gx = 0 + (1 * x9 + 0)) (ex3 : 0 ≤ gx ∧ gx ≤ 2000) : 1 * x3 + ((-1) * pos_0 + 0) ≤ (-1) := by
  first | assumption | (clear f17; omega) | omega | grind
set_option maxHeartbeats 4000000 in
theorem vc_Mo_of_at_s5002_13_3 (x2 : Int) (x3 : Int) (x4 : Int) (x7 : Int) (x8 : Int) (x9 : Int) (x13 : Int) (x15 : Int) (x19 : Int) (x25 : Int) (fault_0 : Int) (from_0 : Int) (pos_0 : Int) (kind_0 : Int) (gx : Int) (k2 : 99 ≤ x2 ∧ x2 ≤ 99) (k3 : 0 ≤ x3 ∧ x3 ≤ 2000) (k4 : (-1) ≤ x4 ∧ x4 ≤ 48) (k7 : 99 ≤ x7 ∧ x7 ≤ 99) (k8 : (-2147483648) ≤ x8 ∧ x8 ≤ 0) (k9 : 0 ≤ x9 ∧ x9 ≤ 2000) (k13 : 0 ≤ x13 ∧ x13 ≤ 2000) (k15 : 0 ≤ x15 ∧ x15 ≤ 2000) (k19 : 100 ≤ x19 ∧ x19 ≤ 2147483647) (k25 : 0 ≤ x25 ∧ x25 ≤ 2000) (f0 : 1 * x3 + ((-1) * x25 + 0) ≤ (-1)) (f1 : (-1) * x9 + ((-1) * x25 + 0) ≤ (-2001)) (f2 : 1 * x19 + ((-1) * x2 + 0) ≤ 0) (f3 : (-1) * x19 + 0 ≤ 0) (f4 : 1 * x15 + ((-1) * x13 + 0) ≤ 0) (f5 : (-1) * x15 + (1 * x13 + 0) ≤ 0) (f6 : 1 * x3 + ((-1) * x15 + 0) ≤ (-1)) (f7 : (-1) * x9 + ((-1) * x15 + 0) ≤ (-2000)) (f8 : 1 * x3 + ((-1) * x13 + 0) ≤ (-1)) (f9 : (-1) * x9 + ((-1) * x13 + 0) ≤ (-2000)) (f10 : 1 * x8 + ((-1) * x2 + 0) ≤ 0) (f11 : (-1) * x8 + 0 ≤ 0) (f12 : (-1) * x4 + 0 ≤ 0) (f15 : (-1) * fault_0 + 0 ≤ (-1)) (f16 : 1 * from_0 + ((-1) * pos_0 + 0) ≤ 0) (f17 : ((kind_0 = 1) → (pos_0 ≤ (from_0 + 8))) ∧ ((kind_0 = 0) ∨ ((from_0 + 1) ≤ pos_0))) (f18 : 1 * x25 + ((-1) * from_0 + 0) ≤ 0) (f20 : 1 * x3 + ((-1) * x25 + 0) ≤ (-1)) (f21 : (-1) * x9 + ((-1) * x25 + 0) ≤ (-2001)) (f22 : 1 * x19 + ((-1) * x2 + 0) ≤ 0) (f23 : (-1) * x19 + 0 ≤ 0) (f24 : 1 * x15 + ((-1) * x13 + 0) ≤ 0) (f25 : (-1) * x15 + (1 * x13 + 0) ≤ 0) (f26 : 1 * x3 + ((-1) * x15 + 0) ≤ (-1)) (f27 : (-1) * x9 + ((-1) * x15 + 0) ≤ (-2000)) (f28 : 1 * x3 + ((-1) * x13 + 0) ≤ (-1)) (f29 : (-1) * x9 + ((-1) * x13 + 0) ≤ (-2000)) (f30 : 1 * x8 + ((-1) * x2 + 0) ≤ 0) (f31 : (-1) * x8 + 0 ≤ 0) (f32 : (-1) * x4 + 0 ≤ 0) (f34 : 1 * x15 + ((-1) * x13 + 0) ≤ 0) (f35 : (-1) * x15 + (1 * x13 + 0) ≤ 0) (f36 : 1 * x3 + ((-1) * x15 + 0) ≤ (-1)) (f37 : (-1) * x9 + ((-1) * x15 + 0) ≤ (-2000)) (f38 : 1 * x3 + ((-1) * x13 + 0) ≤ (-1)) (f39 : (-1) * x9 + ((-1) * x13 + 0) ≤ (-2000)) (f40 : 1 * x8 + ((-1) * x2 + 0) ≤ 0) (f41 : (-1) * x8 + 0 ≤ 0) (f42 : (-1) * x4 + 0 ≤ 0) (f44 : 1 * x15 + ((-1) * x13 + 0) ≤ 0) (f45 : (-1) * x15 + (1 * x13 + 0) ≤ 0) (f46 : 1 * x3 + ((-1) * x15 + 0) ≤ (-1)) (f47 : (-1) * x9 + ((-1) * x15 + 0) ≤ (-2000)) (f48 : 1 * x3 + ((-1) * x13 + 0) ≤ (-1)) (f49 : (-1) * x9 + ((-1) * x13 + 0) ≤ (-2000)) (f50 : 1 * x8 + ((-1) * x2 + 0) ≤ 0) (f51 : (-1) * x8 + 0 ≤ 0) (f52 : (-1) * x4 + 0 ≤ 0) (f54 : 1 * x3 + ((-1) * x13 + 0) ≤ (-1)) (f55 : (-1) * x9 + ((-1) * x13 + 0) ≤ (-2000)) (f56 : x8 ≤ 0) (f57 : 1 * x8 + ((-1) * x2 + 0) ≤ 0) (f58 : (-1) * x8 + 0 ≤ 0) (f59 : (-1) * x4 + 0 ≤ 0) (f61 : 1 * x8 + ((-1) * x2 + 0) ≤ 0) (f62 : (-1) * x8 + 0 ≤ 0) (f63 : (-1) * x4 + 0 ≤ 0) (kz_0_8 : 0 ≤ fault_0 ∧ fault_0 ≤ 5) (kz_0_11 : 0 ≤ pos_0 ∧ pos_0 ≤ 2000) (kz_0_12 : 0 ≤ kind_0 ∧ kind_0 ≤ 4) (kz_0_15 : 0 ≤ from_0 ∧ from_0 ≤ 2000) (ex2 : gx = 0 + (1 * x9 + 0)) (ex3 : 0 ≤ gx ∧ gx ≤ 2000) : 1 * x19 + ((-1) * x2 + 0) ≤ 0 := by
  first | assumption | (clear f17; omega) | omega | grind
set_option maxHeartbeats 4000000 in
theorem vc_Mo_of_at_s5002_13_4 (x2 : Int) (x3 : Int) (x4 : Int) (x7 : Int) (x8 : Int) (x9 : Int) (x13 : Int) (x15 : Int) (x19 : Int) (x25 : Int) (fault_0 : Int) (from_0 : Int) (pos_0 : Int) (kind_0 : Int) (gx : Int) (k2 : 99 ≤ x2 ∧ x2 ≤ 99) (k3 : 0 ≤ x3 ∧ x3 ≤ 2000) (k4 : (-1) ≤ x4 ∧ x4 ≤ 48) (k7 : 99 ≤ x7 ∧ x7 ≤ 99) (k8 : (-2147483648) ≤ x8 ∧ x8 ≤ 0) (k9 : 0 ≤ x9 ∧ x9 ≤ 2000) (k13 : 0 ≤ x13 ∧ x13 ≤ 2000) (k15 : 0 ≤ x15 ∧ x15 ≤ 2000) (k19 : 100 ≤ x19 ∧ x19 ≤ 2147483647) (k25 : 0 ≤ x25 ∧ x25 ≤ 2000) (f0 : 1 * x3 + ((-1) * x25 + 0) ≤ (-1)) (f1 : (-1) * x9 + ((-1) * x25 + 0) ≤ (-2001)) (f2 : 1 * x19 + ((-1) * x2 + 0) ≤ 0) (f3 : (-1) * x19 + 0 ≤ 0) (f4 : 1 * x15 + ((-1) * x13 + 0) ≤ 0) (f5 : (-1) * x15 + (1 * x13 + 0) ≤ 0) (f6 : 1 * x3 + ((-1) * x15 + 0) ≤ (-1)) (f7 : (-1) * x9 + ((-1) * x15 + 0) ≤ (-2000)) (f8 : 1 * x3 + ((-1) * x13 + 0) ≤ (-1)) (f9 : (-1) * x9 + ((-1) * x13 + 0) ≤ (-2000)) (f10 : 1 * x8 + ((-1) * x2 + 0) ≤ 0) (f11 : (-1) * x8 + 0 ≤ 0) (f12 : (-1) * x4 + 0 ≤ 0) (f15 : (-1) * fault_0 + 0 ≤ (-1)) (f16 : 1 * from_0 + ((-1) * pos_0 + 0) ≤ 0) (f17 : ((kind_0 = 1) → (pos_0 ≤ (from_0 + 8))) ∧ ((kind_0 = 0) ∨ ((from_0 + 1) ≤ pos_0))) (f18 : 1 * x25 + ((-1) * from_0 + 0) ≤ 0) (f20 : 1 * x3 + ((-1) * x25 + 0) ≤ (-1)) (f21 : (-1) * x9 + ((-1) * x25 + 0) ≤ (-2001)) (f22 : 1 * x19 + ((-1) * x2 + 0) ≤ 0) (f23 : (-1) * x19 + 0 ≤ 0) (f24 : 1 * x15 + ((-1) * x13 + 0) ≤ 0) (f25 : (-1) * x15 + (1 * x13 + 0) ≤ 0) (f26 : 1 * x3 + ((-1) * x15 + 0) ≤ (-1)) (f27 : (-1) * x9 + ((-1) * x15 + 0) ≤ (-2000)) (f28 : 1 * x3 + ((-1) * x13 + 0) ≤ (-1)) (f29 : (-1) * x9 + ((-1) * x13 + 0) ≤ (-2000)) (f30 : 1 * x8 + ((-1) * x2 + 0) ≤ 0) (f31 : (-1) * x8 + 0 ≤ 0) (f32 : (-1) * x4 + 0 ≤ 0) (f34 : 1 * x15 + ((-1) * x13 + 0) ≤ 0) (f35 : (-1) * x15 + (1 * x13 + 0) ≤ 0) (f36 : 1 * x3 + ((-1) * x15 + 0) ≤ (-1)) (f37 : (-1) * x9 + ((-1) * x15 + 0) ≤ (-2000)) (f38 : 1 * x3 + ((-1) * x13 + 0) ≤ (-1)) (f39 : (-1) * x9 + ((-1) * x13 + 0) ≤ (-2000)) (f40 : 1 * x8 + ((-1) * x2 + 0) ≤ 0) (f41 : (-1) * x8 + 0 ≤ 0) (f42 : (-1) * x4 + 0 ≤ 0) (f44 : 1 * x15 + ((-1) * x13 + 0) ≤ 0) (f45 : (-1) * x15 + (1 * x13 + 0) ≤ 0) (f46 : 1 * x3 + ((-1) * x15 + 0) ≤ (-1)) (f47 : (-1) * x9 + ((-1) * x15 + 0) ≤ (-2000)) (f48 : 1 * x3 + ((-1) * x13 + 0) ≤ (-1)) (f49 : (-1) * x9 + ((-1) * x13 + 0) ≤ (-2000)) (f50 : 1 * x8 + ((-1) * x2 + 0) ≤ 0) (f51 : (-1) * x8 + 0 ≤ 0) (f52 : (-1) * x4 + 0 ≤ 0) (f54 : 1 * x3 + ((-1) * x13 + 0) ≤ (-1)) (f55 : (-1) * x9 + ((-1) * x13 + 0) ≤ (-2000)) (f56 : x8 ≤ 0) (f57 : 1 * x8 + ((-1) * x2 + 0) ≤ 0) (f58 : (-1) * x8 + 0 ≤ 0) (f59 : (-1) * x4 + 0 ≤ 0) (f61 : 1 * x8 + ((-1) * x2 + 0) ≤ 0) (f62 : (-1) * x8 + 0 ≤ 0) (f63 : (-1) * x4 + 0 ≤ 0) (kz_0_8 : 0 ≤ fault_0 ∧ fault_0 ≤ 5) (kz_0_11 : 0 ≤ pos_0 ∧ pos_0 ≤ 2000) (kz_0_12 : 0 ≤ kind_0 ∧ kind_0 ≤ 4) (kz_0_15 : 0 ≤ from_0 ∧ from_0 ≤ 2000) (ex2 : gx = 0 + (1 * x9 + 0)) (ex3 : 0 ≤ gx ∧ gx ≤ 2000) : (-1) * x19 + 0 ≤ 0 := by
  first | assumption | (clear f17; omega) | omega | grind
set_option maxHeartbeats 4000000 in
theorem vc_Mo_of_at_s5002_13_5 (x2 : Int) (x3 : Int) (x4 : Int) (x7 : Int) (x8 : Int) (x9 : Int) (x13 : Int) (x15 : Int) (x19 : Int) (x25 : Int) (fault_0 : Int) (from_0 : Int) (pos_0 : Int) (kind_0 : Int) (gx : Int) (k2 : 99 ≤ x2 ∧ x2 ≤ 99) (k3 : 0 ≤ x3 ∧ x3 ≤ 2000) (k4 : (-1) ≤ x4 ∧ x4 ≤ 48) (k7 : 99 ≤ x7 ∧ x7 ≤ 99) (k8 : (-2147483648) ≤ x8 ∧ x8 ≤ 0) (k9 : 0 ≤ x9 ∧ x9 ≤ 2000) (k13 : 0 ≤ x13 ∧ x13 ≤ 2000) (k15 : 0 ≤ x15 ∧ x15 ≤ 2000) (k19 : 100 ≤ x19 ∧ x19 ≤ 2147483647) (k25 : 0 ≤ x25 ∧ x25 ≤ 2000) (f0 : 1 * x3 + ((-1) * x25 + 0) ≤ (-1)) (f1 : (-1) * x9 + ((-1) * x25 + 0) ≤ (-2001)) (f2 : 1 * x19 + ((-1) * x2 + 0) ≤ 0) (f3 : (-1) * x19 + 0 ≤ 0) (f4 : 1 * x15 + ((-1) * x13 + 0) ≤ 0) (f5 : (-1) * x15 + (1 * x13 + 0) ≤ 0) (f6 : 1 * x3 + ((-1) * x15 + 0) ≤ (-1)) (f7 : (-1) * x9 + ((-1) * x15 + 0) ≤ (-2000)) (f8 : 1 * x3 + ((-1) * x13 + 0) ≤ (-1)) (f9 : (-1) * x9 + ((-1) * x13 + 0) ≤ (-2000)) (f10 : 1 * x8 + ((-1) * x2 + 0) ≤ 0) (f11 : (-1) * x8 + 0 ≤ 0) (f12 : (-1) * x4 + 0 ≤ 0) (f15 : (-1) * fault_0 + 0 ≤ (-1)) (f16 : 1 * from_0 + ((-1) * pos_0 + 0) ≤ 0) (f17 : ((kind_0 = 1) → (pos_0 ≤ (from_0 + 8))) ∧ ((kind_0 = 0) ∨ ((from_0 + 1) ≤ pos_0))) (f18 : 1 * x25 + ((-1) * from_0 + 0) ≤ 0) (f20 : 1 * x3 + ((-1) * x25 + 0) ≤ (-1)) (f21 : (-1) * x9 + ((-1) * x25 + 0) ≤ (-2001)) (f22 : 1 * x19 + ((-1) * x2 + 0) ≤ 0) (f23 : (-1) * x19 + 0 ≤ 0) (f24 : 1 * x15 + ((-1) * x13 + 0) ≤ 0) (f25 : (-1) * x15 + (1 * x13 + 0) ≤ 0) (f26 : 1 * x3 + ((-1) * x15 + 0) ≤ (-1)) (f27 : (-1) * x9 + ((-1) * x15 + 0) ≤ (-2000)) (f28 : 1 * x3 + ((-1) * x13 + 0) ≤ (-1)) (f29 : (-1) * x9 + ((-1) * x13 + 0) ≤ (-2000)) (f30 : 1 * x8 + ((-1) * x2 + 0) ≤ 0) (f31 : (-1) * x8 + 0 ≤ 0) (f32 : (-1) * x4 + 0 ≤ 0) (f34 : 1 * x15 + ((-1) * x13 + 0) ≤ 0) (f35 : (-1) * x15 + (1 * x13 + 0) ≤ 0) (f36 : 1 * x3 + ((-1) * x15 + 0) ≤ (-1)) (f37 : (-1) * x9 + ((-1) * x15 + 0) ≤ (-2000)) (f38 : 1 * x3 + ((-1) * x13 + 0) ≤ (-1)) (f39 : (-1) * x9 + ((-1) * x13 + 0) ≤ (-2000)) (f40 : 1 * x8 + ((-1) * x2 + 0) ≤ 0) (f41 : (-1) * x8 + 0 ≤ 0) (f42 : (-1) * x4 + 0 ≤ 0) (f44 : 1 * x15 + ((-1) * x13 + 0) ≤ 0) (f45 : (-1) * x15 + (1 * x13 + 0) ≤ 0) (f46 : 1 * x3 + ((-1) * x15 + 0) ≤ (-1)) (f47 : (-1) * x9 + ((-1) * x15 + 0) ≤ (-2000)) (f48 : 1 * x3 + ((-1) * x13 + 0) ≤ (-1)) (f49 : (-1) * x9 + ((-1) * x13 + 0) ≤ (-2000)) (f50 : 1 * x8 + ((-1) * x2 + 0) ≤ 0) (f51 : (-1) * x8 + 0 ≤ 0) (f52 : (-1) * x4 + 0 ≤ 0) (f54 : 1 * x3 + ((-1) * x13 + 0) ≤ (-1)) (f55 : (-1) * x9 + ((-1) * x13 + 0) ≤ (-2000)) (f56 : x8 ≤ 0) (f57 : 1 * x8 + ((-1) * x2 + 0) ≤ 0) (f58 : (-1) * x8 + 0 ≤ 0) (f59 : (-1) * x4 + 0 ≤ 0) (f61 : 1 * x8 + ((-1) * x2 + 0) ≤ 0) (f62 : (-1) * x8 + 0 ≤ 0) (f63 : (-1) * x4 + 0 ≤ 0) (kz_0_8 : 0 ≤ fault_0 ∧ fault_0 ≤ 5) (kz_0_11 : 0 ≤ pos_0 ∧ pos_0 ≤ 2000) (kz_0_12 : 0 ≤ kind_0 ∧ kind_0 ≤ 4) (kz_0_15 : 0 ≤ from_0 ∧ from_0 ≤ 2000) (ex2 : gx = 0 + (1 * x9 + 0)) (ex3 : 0 ≤ gx ∧ gx ≤ 2000) : (-1) * x4 + 0 ≤ 0 := by
  first | assumption | (clear f17; omega) | omega | grind
set_option maxHeartbeats 4000000 in
theorem vc_Mo_of_at_s5002_13_6 (x2 : Int) (x3 : Int) (x4 : Int) (x7 : Int) (x8 : Int) (x9 : Int) (x13 : Int) (x15 : Int) (x19 : Int) (x25 : Int) (fault_0 : Int) (from_0 : Int) (pos_0 : Int) (kind_0 : Int) (gx : Int) (k2 : 99 ≤ x2 ∧ x2 ≤ 99) (k3 : 0 ≤ x3 ∧ x3 ≤ 2000) (k4 : (-1) ≤ x4 ∧ x4 ≤ 48) (k7 : 99 ≤ x7 ∧ x7 ≤ 99) (k8 : (-2147483648) ≤ x8 ∧ x8 ≤ 0) (k9 : 0 ≤ x9 ∧ x9 ≤ 2000) (k13 : 0 ≤ x13 ∧ x13 ≤ 2000) (k15 : 0 ≤ x15 ∧ x15 ≤ 2000) (k19 : 100 ≤ x19 ∧ x19 ≤ 2147483647) (k25 : 0 ≤ x25 ∧ x25 ≤ 2000) (f0 : 1 * x3 + ((-1) * x25 + 0) ≤ (-1)) (f1 : (-1) * x9 + ((-1) * x25 + 0) ≤ (-2001)) (f2 : 1 * x19 + ((-1) * x2 + 0) ≤ 0) (f3 : (-1) * x19 + 0 ≤ 0) (f4 : 1 * x15 + ((-1) * x13 + 0) ≤ 0) (f5 : (-1) * x15 + (1 * x13 + 0) ≤ 0) (f6 : 1 * x3 + ((-1) * x15 + 0) ≤ (-1)) (f7 : (-1) * x9 + ((-1) * x15 + 0) ≤ (-2000)) (f8 : 1 * x3 + ((-1) * x13 + 0) ≤ (-1)) (f9 : (-1) * x9 + ((-1) * x13 + 0) ≤ (-2000)) (f10 : 1 * x8 + ((-1) * x2 + 0) ≤ 0) (f11 : (-1) * x8 + 0 ≤ 0) (f12 : (-1) * x4 + 0 ≤ 0) (f15 : (-1) * fault_0 + 0 ≤ (-1)) (f16 : 1 * from_0 + ((-1) * pos_0 + 0) ≤ 0) (f17 : ((kind_0 = 1) → (pos_0 ≤ (from_0 + 8))) ∧ ((kind_0 = 0) ∨ ((from_0 + 1) ≤ pos_0))) (f18 : 1 * x25 + ((-1) * from_0 + 0) ≤ 0) (f20 : 1 * x3 + ((-1) * x25 + 0) ≤ (-1)) (f21 : (-1) * x9 + ((-1) * x25 + 0) ≤ (-2001)) (f22 : 1 * x19 + ((-1) * x2 + 0) ≤ 0) (f23 : (-1) * x19 + 0 ≤ 0) (f24 : 1 * x15 + ((-1) * x13 + 0) ≤ 0) (f25 : (-1) * x15 + (1 * x13 + 0) ≤ 0) (f26 : 1 * x3 + ((-1) * x15 + 0) ≤ (-1)) (f27 : (-1) * x9 + ((-1) * x15 + 0) ≤ (-2000)) (f28 : 1 * x3 + ((-1) * x13 + 0) ≤ (-1)) (f29 : (-1) * x9 + ((-1) * x13 + 0) ≤ (-2000)) (f30 : 1 * x8 + ((-1) * x2 + 0) ≤ 0) (f31 : (-1) * x8 + 0 ≤ 0) (f32 : (-1) * x4 + 0 ≤ 0) (f34 : 1 * x15 + ((-1) * x13 + 0) ≤ 0) (f35 : (-1) * x15 + (1 * x13 + 0) ≤ 0) (f36 : 1 * x3 + ((-1) * x15 + 0) ≤ (-1)) (f37 : (-1) * x9 + ((-1) * x15 + 0) ≤ (-2000)) (f38 : 1 * x3 + ((-1) * x13 + 0) ≤ (-1)) (f39 : (-1) * x9 + ((-1) * x13 + 0) ≤ (-2000)) (f40 : 1 * x8 + ((-1) * x2 + 0) ≤ 0) (f41 : (-1) * x8 + 0 ≤ 0) (f42 : (-1) * x4 + 0 ≤ 0) (f44 : 1 * x15 + ((-1) * x13 + 0) ≤ 0) (f45 : (-1) * x15 + (1 * x13 + 0) ≤ 0) (f46 : 1 * x3 + ((-1) * x15 + 0) ≤ (-1)) (f47 : (-1) * x9 + ((-1) * x15 + 0) ≤ (-2000)) (f48 : 1 * x3 + ((-1) * x13 + 0) ≤ (-1)) (f49 : (-1) * x9 + ((-1) * x13 + 0) ≤ (-2000)) (f50 : 1 * x8 + ((-1) * x2 + 0) ≤ 0) (f51 : (-1) * x8 + 0 ≤ 0) (f52 : (-1) * x4 + 0 ≤ 0) (f54 : 1 * x3 + ((-1) * x13 + 0) ≤ (-1)) (f55 : (-1) * x9 + ((-1) * x13 + 0) ≤ (-2000)) (f56 : x8 ≤ 0) (f57 : 1 * x8 + ((-1) * x2 + 0) ≤ 0) (f58 : (-1) * x8 + 0 ≤ 0) (f59 : (-1) * x4 + 0 ≤ 0) (f61 : 1 * x8 + ((-1) * x2 + 0) ≤ 0) (f62 : (-1) * x8 + 0 ≤ 0) (f63 : (-1) * x4 + 0 ≤ 0) (kz_0_8 : 0 ≤ fault_0 ∧ fault_0 ≤ 5) (kz_0_11 : 0 ≤ pos_0 ∧ pos_0 ≤ 2000) (kz_0_12 : 0 ≤ kind_0 ∧ kind_0 ≤ 4) (kz_0_15 : 0 ≤ from_0 ∧ from_0 ≤ 2000) (ex2 : gx = 0 + (1 * x9 + 0)) (ex3 : 0 ≤ gx ∧ gx ≤ 2000) : (-1) * gx + ((-1) * pos_0 + 0) ≤ (-2001) := by
  first | assumption | (clear f17; omega) | omega | grind
def o_Mo_of_at_s5002_13 : or_T := (139, 26, [(0, (2, 0, 0, [165])), (2, (0, 99, 99, [])), (3, (0, 0, 2000, [])), (4, (0, -1, 48, [])), (5, (2, 0, 0, [165])), (7, (0, 99, 99, [])), (8, (0, -2147483648, 0, [])), (9, (0, 0, 2000, [])), (13, (0, 0, 2000, [])), (15, (0, 0, 2000, [])), (19, (0, 100, 2147483647, [])), (25, (0, 0, 2000, []))], [(23, [3, 25], [-1, 1, -1]), (23, [9, 25], [-2001, -1, -1]), (23, [19, 7], [0, 1, -1]), (23, [19], [0, -1]), (23, [15, 13], [0, 1, -1]), (23, [15, 13], [0, -1, 1]), (23, [3, 15], [-1, 1, -1]), (23, [9, 15], [-2000, -1, -1]), (23, [3, 13], [-1, 1, -1]), (23, [9, 13], [-2000, -1, -1]), (23, [8, 7], [0, 1, -1]), (23, [8], [0, -1]), (23, [4], [0, -1]), (24, [0, 5], []), (24, [2, 7], []), (20, [5], [30, -1, -1, 1, 8]), (20, [5, 5], [30, 0, 1, 1, 15, -1, 1, 11]), (20, [5], [50, 3, 0, 12, 11, 15, 2, 21, 4, 7, 1, 3, 2, 0, 12, 0, 1, 0, 3, 2, 0, 11, 4, 3, 2, 0, 15, 0, 8, 3, 7, 1, 3, 2, 0, 12, 0, 0, 0, 7, 4, 3, 2, 0, 15, 0, 1, 2, 0, 11]), (20, [25, 5], [30, 0, 1, 0, 0, -1, 1, 15]), (102, [25], [0, 165011, 165012, 165013, 165014, 165015]), (23, [3, 25], [-1, 1, -1]), (23, [9, 25], [-2001, -1, -1]), (23, [19, 7], [0, 1, -1]), (23, [19], [0, -1]), (23, [15, 13], [0, 1, -1]), (23, [15, 13], [0, -1, 1]), (23, [3, 15], [-1, 1, -1]), (23, [9, 15], [-2000, -1, -1]), (23, [3, 13], [-1, 1, -1]), (23, [9, 13], [-2000, -1, -1]), (23, [8, 7], [0, 1, -1]), (23, [8], [0, -1]), (23, [4], [0, -1]), (102, [23], [0, 165008, 165009]), (23, [15, 13], [0, 1, -1]), (23, [15, 13], [0, -1, 1]), (23, [3, 15], [-1, 1, -1]), (23, [9, 15], [-2000, -1, -1]), (23, [3, 13], [-1, 1, -1]), (23, [9, 13], [-2000, -1, -1]), (23, [8, 7], [0, 1, -1]), (23, [8], [0, -1]), (23, [4], [0, -1]), (102, [15], [0, 165008, 165009, 165011, 165012, 165013, 165014, 165015]), (23, [15, 13], [0, 1, -1]), (23, [15, 13], [0, -1, 1]), (23, [3, 15], [-1, 1, -1]), (23, [9, 15], [-2000, -1, -1]), (23, [3, 13], [-1, 1, -1]), (23, [9, 13], [-2000, -1, -1]), (23, [8, 7], [0, 1, -1]), (23, [8], [0, -1]), (23, [4], [0, -1]), (102, [13], [0, 165011, 165012, 165013, 165014, 165015]), (23, [3, 13], [-1, 1, -1]), (23, [9, 13], [-2000, -1, -1]), (8, [8], [5]), (23, [8, 7], [0, 1, -1]), (23, [8], [0, -1]), (23, [4], [0, -1]), (102, [11], [0]), (23, [8, 7], [0, 1, -1]), (23, [8], [0, -1]), (23, [4], [0, -1])], [], [(0, 0, 2000, [])], [(20, [5, 5], [30, 0, 1, 1, 15, -1, 1, 11]), (20, [5], [50, 3, 0, 12, 11, 15, 2, 21, 4, 7, 1, 3, 2, 0, 12, 0, 1, 0, 3, 2, 0, 11, 4, 3, 2, 0, 15, 0, 8, 3, 7, 1, 3, 2, 0, 12, 0, 0, 0, 7, 4, 3, 2, 0, 15, 0, 1, 2, 0, 11]), (20, [3, 5], [30, -1, 1, 0, 0, -1, 1, 11]), (23, [19, 7], [0, 1, -1]), (23, [19], [0, -1]), (23, [4], [0, -1]), (20, [26, 5], [30, -2001, -1, 0, 0, -1, 1, 11]), (24, [0, 5], []), (24, [2, 7], [])], [(26, 9, 0, 0)], [])
theorem oo_Mo_of_at_s5002_13 {kA : Nat → ClassId} : or_ok PRD kA GG o_Mo_of_at_s5002_13 := by
  refine or_mk fun A ta ws vs hD hth hl => ?_
  intro t0 r0 t2 k2 t3 k3 t4 k4 t5 r5 t7 k7 t8 k8 t9 k9 t13 k13 t15 k15 t19 k19 t25 k25 f0 f1 f2 f3 f4 f5 f6 f7 f8 f9 f10 f11 f12 f13 f14 f15 f16 f17 f18 ta1 w1 le1 s1 f20 f21 f22 f23 f24 f25 f26 f27 f28 f29 f30 f31 f32 ta2 w2 le2 s2 f34 f35 f36 f37 f38 f39 f40 f41 f42 ta3 w3 le3 s3 f44 f45 f46 f47 f48 f49 f50 f51 f52 ta4 w4 le4 s4 f54 f55 f56 f57 f58 f59 ta5 w5 le5 s5 f61 f62 f63
  replace f0 := shm_211 f0
  replace f1 := shm_1895 f1
  replace f2 := shm_7 f2
  replace f3 := shm_1013 f3
  replace f4 := shm_7 f4
  replace f5 := shm_22 f5
  replace f6 := shm_211 f6
  replace f7 := shm_1894 f7
  replace f8 := shm_211 f8
  replace f9 := shm_1894 f9
  replace f10 := shm_7 f10
  replace f11 := shm_1013 f11
  replace f12 := shm_1013 f12
  replace f13 := shm_5 f13
  replace f14 := shm_5 f14
  replace f15 := shm_144 f15
  replace f16 := shm_1397 f16
  replace f17 := shm_1398 f17
  replace f18 := shm_1396 f18
  replace f20 := shm_211 f20
  replace f21 := shm_1895 f21
  replace f22 := shm_7 f22
  replace f23 := shm_1013 f23
  replace f24 := shm_7 f24
  replace f25 := shm_22 f25
  replace f26 := shm_211 f26
  replace f27 := shm_1894 f27
  replace f28 := shm_211 f28
  replace f29 := shm_1894 f29
  replace f30 := shm_7 f30
  replace f31 := shm_1013 f31
  replace f32 := shm_1013 f32
  replace f34 := shm_7 f34
  replace f35 := shm_22 f35
  replace f36 := shm_211 f36
  replace f37 := shm_1894 f37
  replace f38 := shm_211 f38
  replace f39 := shm_1894 f39
  replace f40 := shm_7 f40
  replace f41 := shm_1013 f41
  replace f42 := shm_1013 f42
  replace f44 := shm_7 f44
  replace f45 := shm_22 f45
  replace f46 := shm_211 f46
  replace f47 := shm_1894 f47
  replace f48 := shm_211 f48
  replace f49 := shm_1894 f49
  replace f50 := shm_7 f50
  replace f51 := shm_1013 f51
  replace f52 := shm_1013 f52
  replace f54 := shm_211 f54
  replace f55 := shm_1894 f55
  replace f56 := shm_142 f56
  replace f57 := shm_7 f57
  replace f58 := shm_1013 f58
  replace f59 := shm_1013 f59
  replace f61 := shm_7 f61
  replace f62 := shm_1013 f62
  replace f63 := shm_1013 f63
  have q5 : n_v vs 5 = n_v vs 0 := f13.symm
  have q7 : n_v vs 7 = n_v vs 2 := f14.symm
  simp only [q7, q5] at f2 f10 f15 f16 f17 f18 f22 f30 f40 f50 f57 f61
  have kz_0_8 := fdq_14 hD hth r0
  have kz_0_11 := fdq_273 hD hth r0
  have kz_0_12 := fdq_186 hD hth r0
  have kz_0_15 := fdq_274 hD hth r0
  obtain ⟨x, ex, hx⟩ := iv_ex (ta := ta) (lo := 0) (hi := 2000) (z := 0 + (1 * v_iv (n_v vs 9) + 0)) (by omega) (by omega) (by omega) (by omega)
  have ex2 : v_iv (Value.int x) = 0 + (1 * v_iv (n_v vs 9) + 0) := ex
  have ex3 : 0 ≤ v_iv (Value.int x) ∧ v_iv (Value.int x) ≤ 2000 := tv_rng hx
  have e_0 : n_v (vs ++ [Value.int x]) 0 = n_v vs 0 := n_v_old (by rw [hl]; decide)
  have e_2 : n_v (vs ++ [Value.int x]) 2 = n_v vs 2 := n_v_old (by rw [hl]; decide)
  have e_3 : n_v (vs ++ [Value.int x]) 3 = n_v vs 3 := n_v_old (by rw [hl]; decide)
  have e_4 : n_v (vs ++ [Value.int x]) 4 = n_v vs 4 := n_v_old (by rw [hl]; decide)
  have e_5 : n_v (vs ++ [Value.int x]) 5 = n_v vs 5 := n_v_old (by rw [hl]; decide)
  have e_7 : n_v (vs ++ [Value.int x]) 7 = n_v vs 7 := n_v_old (by rw [hl]; decide)
  have e_19 : n_v (vs ++ [Value.int x]) 19 = n_v vs 19 := n_v_old (by rw [hl]; decide)
  have e_26 : n_v (vs ++ [Value.int x]) 26 = Value.int x := n_v_new hl
  have nf0 : fc_1 PRD (20, [5, 5], [30, 0, 1, 1, 15, -1, 1, 11]) ws (vs ++ [Value.int x]) := by
    refine ⟨nf_inA hl rfl, sgq_1397 ?_⟩
    · show 1 * w_fi ws (n_v (vs ++ [Value.int x]) 5) 15 + ((-1) * w_fi ws (n_v (vs ++ [Value.int x]) 5) 11 + 0) ≤ 0
      simp only [e_5, q5]
      exact vc_Mo_of_at_s5002_13_0 (v_iv (n_v vs 2)) (v_iv (n_v vs 3)) (v_iv (n_v vs 4)) (v_iv (n_v vs 7)) (v_iv (n_v vs 8)) (v_iv (n_v vs 9)) (v_iv (n_v vs 13)) (v_iv (n_v vs 15)) (v_iv (n_v vs 19)) (v_iv (n_v vs 25)) (w_fi ws (n_v vs 0) 8) (w_fi ws (n_v vs 0) 15) (w_fi ws (n_v vs 0) 11) (w_fi ws (n_v vs 0) 12) (v_iv (Value.int x)) k2 k3 k4 k7 k8 k9 k13 k15 k19 k25 f0 f1 f2 f3 f4 f5 f6 f7 f8 f9 f10 f11 f12 f15 f16 f17 f18 f20 f21 f22 f23 f24 f25 f26 f27 f28 f29 f30 f31 f32 f34 f35 f36 f37 f38 f39 f40 f41 f42 f44 f45 f46 f47 f48 f49 f50 f51 f52 f54 f55 f56 f57 f58 f59 f61 f62 f63 kz_0_8 kz_0_11 kz_0_12 kz_0_15 ex2 ex3
  have nf1 : fc_1 PRD (20, [5], [50, 3, 0, 12, 11, 15, 2, 21, 4, 7, 1, 3, 2, 0, 12, 0, 1, 0, 3, 2, 0, 11, 4, 3, 2, 0, 15, 0, 8, 3, 7, 1, 3, 2, 0, 12, 0, 0, 0, 7, 4, 3, 2, 0, 15, 0, 1, 2, 0, 11]) ws (vs ++ [Value.int x]) := by
    refine ⟨nf_inA hl rfl, sgq_1398 ?_⟩
    · show ((w_fi ws (n_v (vs ++ [Value.int x]) 5) 12 = 1) → (w_fi ws (n_v (vs ++ [Value.int x]) 5) 11 ≤ (w_fi ws (n_v (vs ++ [Value.int x]) 5) 15 + 8))) ∧ ((w_fi ws (n_v (vs ++ [Value.int x]) 5) 12 = 0) ∨ ((w_fi ws (n_v (vs ++ [Value.int x]) 5) 15 + 1) ≤ w_fi ws (n_v (vs ++ [Value.int x]) 5) 11))
      simp only [e_5, q5]
      exact vc_Mo_of_at_s5002_13_1 (v_iv (n_v vs 2)) (v_iv (n_v vs 3)) (v_iv (n_v vs 4)) (v_iv (n_v vs 7)) (v_iv (n_v vs 8)) (v_iv (n_v vs 9)) (v_iv (n_v vs 13)) (v_iv (n_v vs 15)) (v_iv (n_v vs 19)) (v_iv (n_v vs 25)) (w_fi ws (n_v vs 0) 8) (w_fi ws (n_v vs 0) 15) (w_fi ws (n_v vs 0) 11) (w_fi ws (n_v vs 0) 12) (v_iv (Value.int x)) k2 k3 k4 k7 k8 k9 k13 k15 k19 k25 f0 f1 f2 f3 f4 f5 f6 f7 f8 f9 f10 f11 f12 f15 f16 f17 f18 f20 f21 f22 f23 f24 f25 f26 f27 f28 f29 f30 f31 f32 f34 f35 f36 f37 f38 f39 f40 f41 f42 f44 f45 f46 f47 f48 f49 f50 f51 f52 f54 f55 f56 f57 f58 f59 f61 f62 f63 kz_0_8 kz_0_11 kz_0_12 kz_0_15 ex2 ex3
  have nf2 : fc_1 PRD (20, [3, 5], [30, -1, 1, 0, 0, -1, 1, 11]) ws (vs ++ [Value.int x]) := by
    refine ⟨nf_inA hl rfl, sgq_1891 ?_⟩
    · show 1 * v_iv (n_v (vs ++ [Value.int x]) 3) + ((-1) * w_fi ws (n_v (vs ++ [Value.int x]) 5) 11 + 0) ≤ (-1)
      simp only [e_3, e_5, q5]
      exact vc_Mo_of_at_s5002_13_2 (v_iv (n_v vs 2)) (v_iv (n_v vs 3)) (v_iv (n_v vs 4)) (v_iv (n_v vs 7)) (v_iv (n_v vs 8)) (v_iv (n_v vs 9)) (v_iv (n_v vs 13)) (v_iv (n_v vs 15)) (v_iv (n_v vs 19)) (v_iv (n_v vs 25)) (w_fi ws (n_v vs 0) 8) (w_fi ws (n_v vs 0) 15) (w_fi ws (n_v vs 0) 11) (w_fi ws (n_v vs 0) 12) (v_iv (Value.int x)) k2 k3 k4 k7 k8 k9 k13 k15 k19 k25 f0 f1 f2 f3 f4 f5 f6 f7 f8 f9 f10 f11 f12 f15 f16 f17 f18 f20 f21 f22 f23 f24 f25 f26 f27 f28 f29 f30 f31 f32 f34 f35 f36 f37 f38 f39 f40 f41 f42 f44 f45 f46 f47 f48 f49 f50 f51 f52 f54 f55 f56 f57 f58 f59 f61 f62 f63 kz_0_8 kz_0_11 kz_0_12 kz_0_15 ex2 ex3
  have nf3 : fc_1 PRD (23, [19, 7], [0, 1, -1]) ws (vs ++ [Value.int x]) := by
    refine ⟨nf_inA hl rfl, sgq_7 ?_⟩
    · show 1 * v_iv (n_v (vs ++ [Value.int x]) 19) + ((-1) * v_iv (n_v (vs ++ [Value.int x]) 7) + 0) ≤ 0
      simp only [e_7, e_19, q7]
      exact vc_Mo_of_at_s5002_13_3 (v_iv (n_v vs 2)) (v_iv (n_v vs 3)) (v_iv (n_v vs 4)) (v_iv (n_v vs 7)) (v_iv (n_v vs 8)) (v_iv (n_v vs 9)) (v_iv (n_v vs 13)) (v_iv (n_v vs 15)) (v_iv (n_v vs 19)) (v_iv (n_v vs 25)) (w_fi ws (n_v vs 0) 8) (w_fi ws (n_v vs 0) 15) (w_fi ws (n_v vs 0) 11) (w_fi ws (n_v vs 0) 12) (v_iv (Value.int x)) k2 k3 k4 k7 k8 k9 k13 k15 k19 k25 f0 f1 f2 f3 f4 f5 f6 f7 f8 f9 f10 f11 f12 f15 f16 f17 f18 f20 f21 f22 f23 f24 f25 f26 f27 f28 f29 f30 f31 f32 f34 f35 f36 f37 f38 f39 f40 f41 f42 f44 f45 f46 f47 f48 f49 f50 f51 f52 f54 f55 f56 f57 f58 f59 f61 f62 f63 kz_0_8 kz_0_11 kz_0_12 kz_0_15 ex2 ex3
  have nf4 : fc_1 PRD (23, [19], [0, -1]) ws (vs ++ [Value.int x]) := by
    refine ⟨nf_inA hl rfl, sgq_1013 ?_⟩
    · show (-1) * v_iv (n_v (vs ++ [Value.int x]) 19) + 0 ≤ 0
      rw [e_19]
      exact vc_Mo_of_at_s5002_13_4 (v_iv (n_v vs 2)) (v_iv (n_v vs 3)) (v_iv (n_v vs 4)) (v_iv (n_v vs 7)) (v_iv (n_v vs 8)) (v_iv (n_v vs 9)) (v_iv (n_v vs 13)) (v_iv (n_v vs 15)) (v_iv (n_v vs 19)) (v_iv (n_v vs 25)) (w_fi ws (n_v vs 0) 8) (w_fi ws (n_v vs 0) 15) (w_fi ws (n_v vs 0) 11) (w_fi ws (n_v vs 0) 12) (v_iv (Value.int x)) k2 k3 k4 k7 k8 k9 k13 k15 k19 k25 f0 f1 f2 f3 f4 f5 f6 f7 f8 f9 f10 f11 f12 f15 f16 f17 f18 f20 f21 f22 f23 f24 f25 f26 f27 f28 f29 f30 f31 f32 f34 f35 f36 f37 f38 f39 f40 f41 f42 f44 f45 f46 f47 f48 f49 f50 f51 f52 f54 f55 f56 f57 f58 f59 f61 f62 f63 kz_0_8 kz_0_11 kz_0_12 kz_0_15 ex2 ex3
  have nf5 : fc_1 PRD (23, [4], [0, -1]) ws (vs ++ [Value.int x]) := by
    refine ⟨nf_inA hl rfl, sgq_1013 ?_⟩
    · show (-1) * v_iv (n_v (vs ++ [Value.int x]) 4) + 0 ≤ 0
      rw [e_4]
      exact vc_Mo_of_at_s5002_13_5 (v_iv (n_v vs 2)) (v_iv (n_v vs 3)) (v_iv (n_v vs 4)) (v_iv (n_v vs 7)) (v_iv (n_v vs 8)) (v_iv (n_v vs 9)) (v_iv (n_v vs 13)) (v_iv (n_v vs 15)) (v_iv (n_v vs 19)) (v_iv (n_v vs 25)) (w_fi ws (n_v vs 0) 8) (w_fi ws (n_v vs 0) 15) (w_fi ws (n_v vs 0) 11) (w_fi ws (n_v vs 0) 12) (v_iv (Value.int x)) k2 k3 k4 k7 k8 k9 k13 k15 k19 k25 f0 f1 f2 f3 f4 f5 f6 f7 f8 f9 f10 f11 f12 f15 f16 f17 f18 f20 f21 f22 f23 f24 f25 f26 f27 f28 f29 f30 f31 f32 f34 f35 f36 f37 f38 f39 f40 f41 f42 f44 f45 f46 f47 f48 f49 f50 f51 f52 f54 f55 f56 f57 f58 f59 f61 f62 f63 kz_0_8 kz_0_11 kz_0_12 kz_0_15 ex2 ex3
  have nf6 : fc_1 PRD (20, [26, 5], [30, -2001, -1, 0, 0, -1, 1, 11]) ws (vs ++ [Value.int x]) := by
    refine ⟨nf_inA hl rfl, sgq_1896 ?_⟩
    · show (-1) * v_iv (n_v (vs ++ [Value.int x]) 26) + ((-1) * w_fi ws (n_v (vs ++ [Value.int x]) 5) 11 + 0) ≤ (-2001)
      simp only [e_5, e_26, q5]
      exact vc_Mo_of_at_s5002_13_6 (v_iv (n_v vs 2)) (v_iv (n_v vs 3)) (v_iv (n_v vs 4)) (v_iv (n_v vs 7)) (v_iv (n_v vs 8)) (v_iv (n_v vs 9)) (v_iv (n_v vs 13)) (v_iv (n_v vs 15)) (v_iv (n_v vs 19)) (v_iv (n_v vs 25)) (w_fi ws (n_v vs 0) 8) (w_fi ws (n_v vs 0) 15) (w_fi ws (n_v vs 0) 11) (w_fi ws (n_v vs 0) 12) (v_iv (Value.int x)) k2 k3 k4 k7 k8 k9 k13 k15 k19 k25 f0 f1 f2 f3 f4 f5 f6 f7 f8 f9 f10 f11 f12 f15 f16 f17 f18 f20 f21 f22 f23 f24 f25 f26 f27 f28 f29 f30 f31 f32 f34 f35 f36 f37 f38 f39 f40 f41 f42 f44 f45 f46 f47 f48 f49 f50 f51 f52 f54 f55 f56 f57 f58 f59 f61 f62 f63 kz_0_8 kz_0_11 kz_0_12 kz_0_15 ex2 ex3
  have nf7 : fc_1 PRD (24, [0, 5], []) ws (vs ++ [Value.int x]) := by
    refine ⟨nf_inA hl rfl, sgq_5 ?_⟩
    · show n_v (vs ++ [Value.int x]) 0 = n_v (vs ++ [Value.int x]) 5
      first | rfl | simp only [e_0, e_5, q5, q7]
  have nf8 : fc_1 PRD (24, [2, 7], []) ws (vs ++ [Value.int x]) := by
    refine ⟨nf_inA hl rfl, sgq_5 ?_⟩
    · show n_v (vs ++ [Value.int x]) 2 = n_v (vs ++ [Value.int x]) 7
      first | rfl | simp only [e_2, e_7, q5, q7]
  obtain ⟨x0, e0, _, _⟩ := tv_int t9 rfl
  have e1 : v_iv (n_v vs 9) = x0.toInt := by rw [e0]; rfl
  have ho : sy_ofs (vs ++ [Value.int x]) (26, 9, 0, 0) := by
    refine ⟨x, x0, by rw [List.getElem?_append_right (by rw [hl]; decide), hl]; rfl, ?_, ?_, ?_⟩
    · rw [List.getElem?_append_left (by rw [hl]; decide)]; exact n_v_some (by rw [hl]; decide) e0
    · show x0.toInt + 0 ≤ x.toInt; omega
    · show x.toInt ≤ x0.toInt + 0; omega
  exact ⟨(fun _ h => (by cases h)), [Value.int x], ag_one hx, List.forall_mem_cons.mpr ⟨⟨show (20 : Nat) < 100 from by decide, nf0⟩, List.forall_mem_cons.mpr ⟨⟨show (20 : Nat) < 100 from by decide, nf1⟩, List.forall_mem_cons.mpr ⟨⟨show (20 : Nat) < 100 from by decide, nf2⟩, List.forall_mem_cons.mpr ⟨⟨show (23 : Nat) < 100 from by decide, nf3⟩, List.forall_mem_cons.mpr ⟨⟨show (23 : Nat) < 100 from by decide, nf4⟩, List.forall_mem_cons.mpr ⟨⟨show (23 : Nat) < 100 from by decide, nf5⟩, List.forall_mem_cons.mpr ⟨⟨show (20 : Nat) < 100 from by decide, nf6⟩, List.forall_mem_cons.mpr ⟨⟨show (24 : Nat) < 100 from by decide, nf7⟩, List.forall_mem_cons.mpr ⟨⟨show (24 : Nat) < 100 from by decide, nf8⟩, (fun _ h => (by cases h))⟩⟩⟩⟩⟩⟩⟩⟩⟩, List.forall_mem_cons.mpr ⟨ho, (fun _ h => (by cases h))⟩⟩
set_option maxHeartbeats 4000000 in
theorem vc_Mo_of_at_s5002_14_0 (x2 : Int) (x3 : Int) (x7 : Int) (x8 : Int) (x9 : Int) (x13 : Int) (x15 : Int) (x16 : Int) (x17 : Int) (x18 : Int) (x19 : Int) (value_0 : Int) (fault_0 : Int) (kind_0 : Int) (from_0 : Int) (pos_0 : Int) (k2 : 99 ≤ x2 ∧ x2 ≤ 99) (k3 : 0 ≤ x3 ∧ x3 ≤ 2000) (k7 : 99 ≤ x7 ∧ x7 ≤ 99) (k8 : (-2147483648) ≤ x8 ∧ x8 ≤ 0) (k9 : 0 ≤ x9 ∧ x9 ≤ 2000) (k13 : 0 ≤ x13 ∧ x13 ≤ 2000) (k15 : 0 ≤ x15 ∧ x15 ≤ 2000) (k16 : 0 ≤ x16 ∧ x16 ≤ 0) (k17 : 2 ≤ x17 ∧ x17 ≤ 2) (k18 : 2 ≤ x18 ∧ x18 ≤ 2) (k19 : 1 ≤ x19 ∧ x19 ≤ 99) (g0 : x19 = value_0) (f1 : x16 ≤ 0) (g2 : x16 = fault_0) (f3 : x16 = 0) (f4 : x17 = x18) (g5 : x17 = kind_0) (f6 : x16 = 0) (f7 : 1 * x15 + ((-1) * x13 + 0) ≤ 0) (f8 : (-1) * x15 + (1 * x13 + 0) ≤ 0) (f9 : 1 * x3 + ((-1) * x15 + 0) ≤ (-1)) (f10 : (-1) * x9 + ((-1) * x15 + 0) ≤ (-2000)) (f11 : 1 * x3 + ((-1) * x13 + 0) ≤ (-1)) (f12 : (-1) * x9 + ((-1) * x13 + 0) ≤ (-2000)) (f13 : 1 * x8 + ((-1) * x2 + 0) ≤ 0) (f14 : (-1) * x8 + 0 ≤ 0) (f17 : 1 * from_0 + ((-1) * pos_0 + 0) ≤ 0) (f18 : ((kind_0 = 1) → (pos_0 ≤ (from_0 + 8))) ∧ ((kind_0 = 0) ∨ ((from_0 + 1) ≤ pos_0))) (f19 : 1 * x15 + ((-1) * pos_0 + 0) ≤ 0) (f20 : (1 ≤ fault_0) ∨ ((x15 + 1) ≤ pos_0)) (f22 : 1 * x15 + ((-1) * x13 + 0) ≤ 0) (f23 : (-1) * x15 + (1 * x13 + 0) ≤ 0) (f24 : 1 * x3 + ((-1) * x15 + 0) ≤ (-1)) (f25 : (-1) * x9 + ((-1) * x15 + 0) ≤ (-2000)) (f26 : 1 * x3 + ((-1) * x13 + 0) ≤ (-1)) (f27 : (-1) * x9 + ((-1) * x13 + 0) ≤ (-2000)) (f28 : 1 * x8 + ((-1) * x2 + 0) ≤ 0) (f29 : (-1) * x8 + 0 ≤ 0) (f31 : 1 * x3 + ((-1) * x13 + 0) ≤ (-1)) (f32 : (-1) * x9 + ((-1) * x13 + 0) ≤ (-2000)) (f33 : x8 ≤ 0) (f34 : 1 * x8 + ((-1) * x2 + 0) ≤ 0) (f35 : (-1) * x8 + 0 ≤ 0) (f37 : 1 * x8 + ((-1) * x2 + 0) ≤ 0) (f38 : (-1) * x8 + 0 ≤ 0) (kz_0_8 : 0 ≤ fault_0 ∧ fault_0 ≤ 5) (kz_0_11 : 0 ≤ pos_0 ∧ pos_0 ≤ 2000) (kz_0_12 : 0 ≤ kind_0 ∧ kind_0 ≤ 4) (kz_0_14 : (-2147483648) ≤ value_0 ∧ value_0 ≤ 2147483647) (kz_0_15 : 0 ≤ from_0 ∧ from_0 ≤ 2000) : 1 * x19 + ((-1) * x2 + 0) ≤ 0 := by
  first | assumption | (clear f18 f20; omega) | omega | grind
set_option maxHeartbeats 4000000 in
theorem vc_Mo_of_at_s5002_14_1 (x2 : Int) (x3 : Int) (x7 : Int) (x8 : Int) (x9 : Int) (x13 : Int) (x15 : Int) (x16 : Int) (x17 : Int) (x18 : Int) (x19 : Int) (value_0 : Int) (fault_0 : Int) (kind_0 : Int) (from_0 : Int) (pos_0 : Int) (k2 : 99 ≤ x2 ∧ x2 ≤ 99) (k3 : 0 ≤ x3 ∧ x3 ≤ 2000) (k7 : 99 ≤ x7 ∧ x7 ≤ 99) (k8 : (-2147483648) ≤ x8 ∧ x8 ≤ 0) (k9 : 0 ≤ x9 ∧ x9 ≤ 2000) (k13 : 0 ≤ x13 ∧ x13 ≤ 2000) (k15 : 0 ≤ x15 ∧ x15 ≤ 2000) (k16 : 0 ≤ x16 ∧ x16 ≤ 0) (k17 : 2 ≤ x17 ∧ x17 ≤ 2) (k18 : 2 ≤ x18 ∧ x18 ≤ 2) (k19 : 1 ≤ x19 ∧ x19 ≤ 99) (g0 : x19 = value_0) (f1 : x16 ≤ 0) (g2 : x16 = fault_0) (f3 : x16 = 0) (f4 : x17 = x18) (g5 : x17 = kind_0) (f6 : x16 = 0) (f7 : 1 * x15 + ((-1) * x13 + 0) ≤ 0) (f8 : (-1) * x15 + (1 * x13 + 0) ≤ 0) (f9 : 1 * x3 + ((-1) * x15 + 0) ≤ (-1)) (f10 : (-1) * x9 + ((-1) * x15 + 0) ≤ (-2000)) (f11 : 1 * x3 + ((-1) * x13 + 0) ≤ (-1)) (f12 : (-1) * x9 + ((-1) * x13 + 0) ≤ (-2000)) (f13 : 1 * x8 + ((-1) * x2 + 0) ≤ 0) (f14 : (-1) * x8 + 0 ≤ 0) (f17 : 1 * from_0 + ((-1) * pos_0 + 0) ≤ 0) (f18 : ((kind_0 = 1) → (pos_0 ≤ (from_0 + 8))) ∧ ((kind_0 = 0) ∨ ((from_0 + 1) ≤ pos_0))) (f19 : 1 * x15 + ((-1) * pos_0 + 0) ≤ 0) (f20 : (1 ≤ fault_0) ∨ ((x15 + 1) ≤ pos_0)) (f22 : 1 * x15 + ((-1) * x13 + 0) ≤ 0) (f23 : (-1) * x15 + (1 * x13 + 0) ≤ 0) (f24 : 1 * x3 + ((-1) * x15 + 0) ≤ (-1)) (f25 : (-1) * x9 + ((-1) * x15 + 0) ≤ (-2000)) (f26 : 1 * x3 + ((-1) * x13 + 0) ≤ (-1)) (f27 : (-1) * x9 + ((-1) * x13 + 0) ≤ (-2000)) (f28 : 1 * x8 + ((-1) * x2 + 0) ≤ 0) (f29 : (-1) * x8 + 0 ≤ 0) (f31 : 1 * x3 + ((-1) * x13 + 0) ≤ (-1)) (f32 : (-1) * x9 + ((-1) * x13 + 0) ≤ (-2000)) (f33 : x8 ≤ 0) (f34 : 1 * x8 + ((-1) * x2 + 0) ≤ 0) (f35 : (-1) * x8 + 0 ≤ 0) (f37 : 1 * x8 + ((-1) * x2 + 0) ≤ 0) (f38 : (-1) * x8 + 0 ≤ 0) (kz_0_8 : 0 ≤ fault_0 ∧ fault_0 ≤ 5) (kz_0_11 : 0 ≤ pos_0 ∧ pos_0 ≤ 2000) (kz_0_12 : 0 ≤ kind_0 ∧ kind_0 ≤ 4) (kz_0_14 : (-2147483648) ≤ value_0 ∧ value_0 ≤ 2147483647) (kz_0_15 : 0 ≤ from_0 ∧ from_0 ≤ 2000) : (-1) * x19 + 0 ≤ 0 := by
  first | assumption | (clear f18 f20; omega) | omega | grind
def o_Mo_of_at_s5002_14 : or_T := (135, 22, [(0, (2, 0, 0, [165])), (2, (0, 99, 99, [])), (3, (0, 0, 2000, [])), (7, (0, 99, 99, [])), (8, (0, -2147483648, 0, [])), (9, (0, 0, 2000, [])), (13, (0, 0, 2000, [])), (15, (0, 0, 2000, [])), (16, (0, 0, 0, [])), (17, (0, 2, 2, [])), (18, (0, 2, 2, [])), (19, (0, 1, 99, []))], [(9, [19, 5], [14]), (8, [16], [5]), (9, [16, 5], [8]), (8, [16], [0]), (7, [17, 18], [0]), (9, [17, 5], [12]), (8, [16], [0]), (23, [15, 13], [0, 1, -1]), (23, [15, 13], [0, -1, 1]), (23, [3, 15], [-1, 1, -1]), (23, [9, 15], [-2000, -1, -1]), (23, [3, 13], [-1, 1, -1]), (23, [9, 13], [-2000, -1, -1]), (23, [8, 7], [0, 1, -1]), (23, [8], [0, -1]), (24, [0, 5], []), (24, [2, 7], []), (20, [5, 5], [30, 0, 1, 1, 15, -1, 1, 11]), (20, [5], [50, 3, 0, 12, 11, 15, 2, 21, 4, 7, 1, 3, 2, 0, 12, 0, 1, 0, 3, 2, 0, 11, 4, 3, 2, 0, 15, 0, 8, 3, 7, 1, 3, 2, 0, 12, 0, 0, 0, 7, 4, 3, 2, 0, 15, 0, 1, 2, 0, 11]), (20, [15, 5], [30, 0, 1, 0, 0, -1, 1, 11]), (20, [5, 15], [50, 2, 0, 8, 11, 3, 7, 0, 2, 0, 1, 2, 0, 8, 0, 6, 4, 2, 1, 1, 0, 1, 2, 0, 11]), (102, [15], [0, 165008, 165009, 165011, 165012, 165013, 165014, 165015]), (23, [15, 13], [0, 1, -1]), (23, [15, 13], [0, -1, 1]), (23, [3, 15], [-1, 1, -1]), (23, [9, 15], [-2000, -1, -1]), (23, [3, 13], [-1, 1, -1]), (23, [9, 13], [-2000, -1, -1]), (23, [8, 7], [0, 1, -1]), (23, [8], [0, -1]), (102, [13], [0, 165011, 165012, 165013, 165014, 165015]), (23, [3, 13], [-1, 1, -1]), (23, [9, 13], [-2000, -1, -1]), (8, [8], [5]), (23, [8, 7], [0, 1, -1]), (23, [8], [0, -1]), (102, [11], [0]), (23, [8, 7], [0, 1, -1]), (23, [8], [0, -1])], [], [], [(23, [19, 7], [0, 1, -1]), (23, [19], [0, -1])], [], [])
theorem oo_Mo_of_at_s5002_14 {kA : Nat → ClassId} : or_ok PRD kA GG o_Mo_of_at_s5002_14 := by
  refine or_mk fun A ta ws vs hD hth hl => ?_
  intro t0 r0 t2 k2 t3 k3 t7 k7 t8 k8 t9 k9 t13 k13 t15 k15 t16 k16 t17 k17 t18 k18 t19 k19 f0 f1 f2 f3 f4 f5 f6 f7 f8 f9 f10 f11 f12 f13 f14 f15 f16 f17 f18 f19 f20 ta1 w1 le1 s1 f22 f23 f24 f25 f26 f27 f28 f29 ta2 w2 le2 s2 f31 f32 f33 f34 f35 ta3 w3 le3 s3 f37 f38
  replace f0 := shm_116 f0
  replace f1 := shm_142 f1
  replace f2 := shm_143 f2
  replace f3 := shm_210 f3
  replace f4 := shm_37 f4
  replace f5 := shm_103 f5
  replace f6 := shm_210 f6
  replace f7 := shm_7 f7
  replace f8 := shm_22 f8
  replace f9 := shm_211 f9
  replace f10 := shm_1894 f10
  replace f11 := shm_211 f11
  replace f12 := shm_1894 f12
  replace f13 := shm_7 f13
  replace f14 := shm_1013 f14
  replace f15 := shm_5 f15
  replace f16 := shm_5 f16
  replace f17 := shm_1397 f17
  replace f18 := shm_1398 f18
  replace f19 := shm_1395 f19
  replace f20 := shm_1659 f20
  replace f22 := shm_7 f22
  replace f23 := shm_22 f23
  replace f24 := shm_211 f24
  replace f25 := shm_1894 f25
  replace f26 := shm_211 f26
  replace f27 := shm_1894 f27
  replace f28 := shm_7 f28
  replace f29 := shm_1013 f29
  replace f31 := shm_211 f31
  replace f32 := shm_1894 f32
  replace f33 := shm_142 f33
  replace f34 := shm_7 f34
  replace f35 := shm_1013 f35
  replace f37 := shm_7 f37
  replace f38 := shm_1013 f38
  have q5 : n_v vs 5 = n_v vs 0 := f15.symm
  have q7 : n_v vs 7 = n_v vs 2 := f16.symm
  simp only [q5, q7] at f0 f2 f5 f13 f17 f18 f19 f20 f28 f34 f37
  have g0 : v_iv (n_v vs 19) = w_fi ws (n_v vs 0) 14 := congrArg v_iv f0
  have g2 : v_iv (n_v vs 16) = w_fi ws (n_v vs 0) 8 := congrArg v_iv f2
  have g5 : v_iv (n_v vs 17) = w_fi ws (n_v vs 0) 12 := congrArg v_iv f5
  have kz_0_8 := fdq_14 hD hth r0
  have kz_0_11 := fdq_273 hD hth r0
  have kz_0_12 := fdq_186 hD hth r0
  have kz_0_14 := fdq_311 hD hth r0
  have kz_0_15 := fdq_274 hD hth r0
  have nf0 : fc_1 PRD (23, [19, 7], [0, 1, -1]) ws (vs) := by
    refine ⟨nf_in hl rfl, sgq_7 ?_⟩
    · show 1 * v_iv (n_v vs 19) + ((-1) * v_iv (n_v vs 7) + 0) ≤ 0
      rw [q7]
      exact vc_Mo_of_at_s5002_14_0 (v_iv (n_v vs 2)) (v_iv (n_v vs 3)) (v_iv (n_v vs 7)) (v_iv (n_v vs 8)) (v_iv (n_v vs 9)) (v_iv (n_v vs 13)) (v_iv (n_v vs 15)) (v_iv (n_v vs 16)) (v_iv (n_v vs 17)) (v_iv (n_v vs 18)) (v_iv (n_v vs 19)) (w_fi ws (n_v vs 0) 14) (w_fi ws (n_v vs 0) 8) (w_fi ws (n_v vs 0) 12) (w_fi ws (n_v vs 0) 15) (w_fi ws (n_v vs 0) 11) k2 k3 k7 k8 k9 k13 k15 k16 k17 k18 k19 g0 f1 g2 f3 f4 g5 f6 f7 f8 f9 f10 f11 f12 f13 f14 f17 f18 f19 f20 f22 f23 f24 f25 f26 f27 f28 f29 f31 f32 f33 f34 f35 f37 f38 kz_0_8 kz_0_11 kz_0_12 kz_0_14 kz_0_15
  have nf1 : fc_1 PRD (23, [19], [0, -1]) ws (vs) := ⟨nf_in hl rfl, sgq_1013 (vc_Mo_of_at_s5002_14_1 (v_iv (n_v vs 2)) (v_iv (n_v vs 3)) (v_iv (n_v vs 7)) (v_iv (n_v vs 8)) (v_iv (n_v vs 9)) (v_iv (n_v vs 13)) (v_iv (n_v vs 15)) (v_iv (n_v vs 16)) (v_iv (n_v vs 17)) (v_iv (n_v vs 18)) (v_iv (n_v vs 19)) (w_fi ws (n_v vs 0) 14) (w_fi ws (n_v vs 0) 8) (w_fi ws (n_v vs 0) 12) (w_fi ws (n_v vs 0) 15) (w_fi ws (n_v vs 0) 11) k2 k3 k7 k8 k9 k13 k15 k16 k17 k18 k19 g0 f1 g2 f3 f4 g5 f6 f7 f8 f9 f10 f11 f12 f13 f14 f17 f18 f19 f20 f22 f23 f24 f25 f26 f27 f28 f29 f31 f32 f33 f34 f35 f37 f38 kz_0_8 kz_0_11 kz_0_12 kz_0_14 kz_0_15)⟩
  refine ⟨(fun _ h => (by cases h)), [], trivial, ?_, (fun _ h => (by cases h))⟩
  rw [List.append_nil]
  exact List.forall_mem_cons.mpr ⟨⟨show (23 : Nat) < 100 from by decide, nf0⟩, List.forall_mem_cons.mpr ⟨⟨show (23 : Nat) < 100 from by decide, nf1⟩, (fun _ h => (by cases h))⟩⟩
set_option maxHeartbeats 4000000 in
theorem vc_Mo_of_at_s5002_15_0 (x2 : Int) (x3 : Int) (x7 : Int) (x9 : Int) (x13 : Int) (x15 : Int) (x16 : Int) (x17 : Int) (x18 : Int) (fault_0 : Int) (kind_0 : Int) (from_0 : Int) (pos_0 : Int) (gx : Int) (k2 : 99 ≤ x2 ∧ x2 ≤ 99) (k3 : 0 ≤ x3 ∧ x3 ≤ 2000) (k7 : 99 ≤ x7 ∧ x7 ≤ 99) (k9 : 0 ≤ x9 ∧ x9 ≤ 2000) (k13 : 0 ≤ x13 ∧ x13 ≤ 2000) (k15 : 0 ≤ x15 ∧ x15 ≤ 2000) (k16 : 0 ≤ x16 ∧ x16 ≤ 0) (k17 : 2 ≤ x17 ∧ x17 ≤ 2) (k18 : 2 ≤ x18 ∧ x18 ≤ 2) (f0 : x16 ≤ 0) (g1 : x16 = fault_0) (f2 : x16 = 0) (f3 : x17 = x18) (g4 : x17 = kind_0) (f5 : x16 = 0) (f6 : 1 * x15 + ((-1) * x13 + 0) ≤ 0) (f7 : (-1) * x15 + (1 * x13 + 0) ≤ 0) (f8 : 1 * x3 + ((-1) * x15 + 0) ≤ (-1)) (f9 : (-1) * x9 + ((-1) * x15 + 0) ≤ (-2000)) (f10 : 1 * x3 + ((-1) * x13 + 0) ≤ (-1)) (f11 : (-1) * x9 + ((-1) * x13 + 0) ≤ (-2000)) (f14 : 1 * from_0 + ((-1) * pos_0 + 0) ≤ 0) (f15 : ((kind_0 = 1) → (pos_0 ≤ (from_0 + 8))) ∧ ((kind_0 = 0) ∨ ((from_0 + 1) ≤ pos_0))) (f16 : 1 * x15 + ((-1) * pos_0 + 0) ≤ 0) (f17 : (1 ≤ fault_0) ∨ ((x15 + 1) ≤ pos_0)) (f19 : 1 * x15 + ((-1) * x13 + 0) ≤ 0) (f20 : (-1) * x15 + (1 * x13 + 0) ≤ 0) (f21 : 1 * x3 + ((-1) * x15 + 0) ≤ (-1)) (f22 : (-1) * x9 + ((-1) * x15 + 0) ≤ (-2000)) (f23 : 1 * x3 + ((-1) * x13 + 0) ≤ (-1)) (f24 : (-1) * x9 + ((-1) * x13 + 0) ≤ (-2000)) (f26 : 1 * x3 + ((-1) * x13 + 0) ≤ (-1)) (f27 : (-1) * x9 + ((-1) * x13 + 0) ≤ (-2000)) (kz_0_8 : 0 ≤ fault_0 ∧ fault_0 ≤ 5) (kz_0_11 : 0 ≤ pos_0 ∧ pos_0 ≤ 2000) (kz_0_12 : 0 ≤ kind_0 ∧ kind_0 ≤ 4) (kz_0_15 : 0 ≤ from_0 ∧ from_0 ≤ 2000) (ex2 : gx = pos_0) (ex3 : 0 ≤ gx ∧ gx ≤ 2000) : 1 * gx + ((-1) * pos_0 + 0) ≤ 0 := by
  first | assumption | (clear f15 f17; omega) | omega | grind
set_option maxHeartbeats 4000000 in
theorem vc_Mo_of_at_s5002_15_1 (x2 : Int) (x3 : Int) (x7 : Int) (x9 : Int) (x13 : Int) (x15 : Int) (x16 : Int) (x17 : Int) (x18 : Int) (fault_0 : Int) (kind_0 : Int) (from_0 : Int) (pos_0 : Int) (gx : Int) (k2 : 99 ≤ x2 ∧ x2 ≤ 99) (k3 : 0 ≤ x3 ∧ x3 ≤ 2000) (k7 : 99 ≤ x7 ∧ x7 ≤ 99) (k9 : 0 ≤ x9 ∧ x9 ≤ 2000) (k13 : 0 ≤ x13 ∧ x13 ≤ 2000) (k15 : 0 ≤ x15 ∧ x15 ≤ 2000) (k16 : 0 ≤ x16 ∧ x16 ≤ 0) (k17 : 2 ≤ x17 ∧ x17 ≤ 2) (k18 : 2 ≤ x18 ∧ x18 ≤ 2) (f0 : x16 ≤ 0) (g1 : x16 = fault_0) (f2 : x16 = 0) (f3 : x17 = x18) (g4 : x17 = kind_0) (f5 : x16 = 0) (f6 : 1 * x15 + ((-1) * x13 + 0) ≤ 0) (f7 : (-1) * x15 + (1 * x13 + 0) ≤ 0) (f8 : 1 * x3 + ((-1) * x15 + 0) ≤ (-1)) (f9 : (-1) * x9 + ((-1) * x15 + 0) ≤ (-2000)) (f10 : 1 * x3 + ((-1) * x13 + 0) ≤ (-1)) (f11 : (-1) * x9 + ((-1) * x13 + 0) ≤ (-2000)) (f14 : 1 * from_0 + ((-1) * pos_0 + 0) ≤ 0) (f15 : ((kind_0 = 1) → (pos_0 ≤ (from_0 + 8))) ∧ ((kind_0 = 0) ∨ ((from_0 + 1) ≤ pos_0))) (f16 : 1 * x15 + ((-1) * pos_0 + 0) ≤ 0) (f17 : (1 ≤ fault_0) ∨ ((x15 + 1) ≤ pos_0)) (f19 : 1 * x15 + ((-1) * x13 + 0) ≤ 0) (f20 : (-1) * x15 + (1 * x13 + 0) ≤ 0) (f21 : 1 * x3 + ((-1) * x15 + 0) ≤ (-1)) (f22 : (-1) * x9 + ((-1) * x15 + 0) ≤ (-2000)) (f23 : 1 * x3 + ((-1) * x13 + 0) ≤ (-1)) (f24 : (-1) * x9 + ((-1) * x13 + 0) ≤ (-2000)) (f26 : 1 * x3 + ((-1) * x13 + 0) ≤ (-1)) (f27 : (-1) * x9 + ((-1) * x13 + 0) ≤ (-2000)) (kz_0_8 : 0 ≤ fault_0 ∧ fault_0 ≤ 5) (kz_0_11 : 0 ≤ pos_0 ∧ pos_0 ≤ 2000) (kz_0_12 : 0 ≤ kind_0 ∧ kind_0 ≤ 4) (kz_0_15 : 0 ≤ from_0 ∧ from_0 ≤ 2000) (ex2 : gx = pos_0) (ex3 : 0 ≤ gx ∧ gx ≤ 2000) : 1 * x3 + ((-1) * gx + 0) ≤ (-1) := by
  first | assumption | (clear f15 f17; omega) | omega | grind
set_option maxHeartbeats 4000000 in
theorem vc_Mo_of_at_s5002_15_2 (x2 : Int) (x3 : Int) (x7 : Int) (x9 : Int) (x13 : Int) (x15 : Int) (x16 : Int) (x17 : Int) (x18 : Int) (fault_0 : Int) (kind_0 : Int) (from_0 : Int) (pos_0 : Int) (gx : Int) (k2 : 99 ≤ x2 ∧ x2 ≤ 99) (k3 : 0 ≤ x3 ∧ x3 ≤ 2000) (k7 : 99 ≤ x7 ∧ x7 ≤ 99) (k9 : 0 ≤ x9 ∧ x9 ≤ 2000) (k13 : 0 ≤ x13 ∧ x13 ≤ 2000) (k15 : 0 ≤ x15 ∧ x15 ≤ 2000) (k16 : 0 ≤ x16 ∧ x16 ≤ 0) (k17 : 2 ≤ x17 ∧ x17 ≤ 2) (k18 : 2 ≤ x18 ∧ x18 ≤ 2) (f0 : x16 ≤ 0) (g1 : x16 = fault_0) (f2 : x16 = 0) (f3 : x17 = x18) (g4 : x17 = kind_0) (f5 : x16 = 0) (f6 : 1 * x15 + ((-1) * x13 + 0) ≤ 0) (f7 : (-1) * x15 + (1 * x13 + 0) ≤ 0) (f8 : 1 * x3 + ((-1) * x15 + 0) ≤ (-1)) (f9 : (-1) * x9 + ((-1) * x15 + 0) ≤ (-2000)) (f10 : 1 * x3 + ((-1) * x13 + 0) ≤ (-1)) (f11 : (-1) * x9 + ((-1) * x13 + 0) ≤ (-2000)) (f14 : 1 * from_0 + ((-1) * pos_0 + 0) ≤ 0) (f15 : ((kind_0 = 1) → (pos_0 ≤ (from_0 + 8))) ∧ ((kind_0 = 0) ∨ ((from_0 + 1) ≤ pos_0))) (f16 : 1 * x15 + ((-1) * pos_0 + 0) ≤ 0) (f17 : (1 ≤ fault_0) ∨ ((x15 + 1) ≤ pos_0)) (f19 : 1 * x15 + ((-1) * x13 + 0) ≤ 0) (f20 : (-1) * x15 + (1 * x13 + 0) ≤ 0) (f21 : 1 * x3 + ((-1) * x15 + 0) ≤ (-1)) (f22 : (-1) * x9 + ((-1) * x15 + 0) ≤ (-2000)) (f23 : 1 * x3 + ((-1) * x13 + 0) ≤ (-1)) (f24 : (-1) * x9 + ((-1) * x13 + 0) ≤ (-2000)) (f26 : 1 * x3 + ((-1) * x13 + 0) ≤ (-1)) (f27 : (-1) * x9 + ((-1) * x13 + 0) ≤ (-2000)) (kz_0_8 : 0 ≤ fault_0 ∧ fault_0 ≤ 5) (kz_0_11 : 0 ≤ pos_0 ∧ pos_0 ≤ 2000) (kz_0_12 : 0 ≤ kind_0 ∧ kind_0 ≤ 4) (kz_0_15 : 0 ≤ from_0 ∧ from_0 ≤ 2000) (ex2 : gx = pos_0) (ex3 : 0 ≤ gx ∧ gx ≤ 2000) : (-1) * x9 + ((-1) * gx + 0) ≤ (-2001) := by
  first | assumption | (clear f15 f17; omega) | omega | grind
def o_Mo_of_at_s5002_15 : or_T := (136, 22, [(0, (2, 0, 0, [165])), (2, (0, 99, 99, [])), (3, (0, 0, 2000, [])), (7, (0, 99, 99, [])), (9, (0, 0, 2000, [])), (13, (0, 0, 2000, [])), (15, (0, 0, 2000, [])), (16, (0, 0, 0, [])), (17, (0, 2, 2, [])), (18, (0, 2, 2, []))], [(8, [16], [5]), (9, [16, 5], [8]), (8, [16], [0]), (7, [17, 18], [0]), (9, [17, 5], [12]), (8, [16], [0]), (23, [15, 13], [0, 1, -1]), (23, [15, 13], [0, -1, 1]), (23, [3, 15], [-1, 1, -1]), (23, [9, 15], [-2000, -1, -1]), (23, [3, 13], [-1, 1, -1]), (23, [9, 13], [-2000, -1, -1]), (24, [0, 5], []), (20, [5, 5], [30, 0, 1, 1, 15, -1, 1, 11]), (20, [5], [50, 3, 0, 12, 11, 15, 2, 21, 4, 7, 1, 3, 2, 0, 12, 0, 1, 0, 3, 2, 0, 11, 4, 3, 2, 0, 15, 0, 8, 3, 7, 1, 3, 2, 0, 12, 0, 0, 0, 7, 4, 3, 2, 0, 15, 0, 1, 2, 0, 11]), (20, [15, 5], [30, 0, 1, 0, 0, -1, 1, 11]), (20, [5, 15], [50, 2, 0, 8, 11, 3, 7, 0, 2, 0, 1, 2, 0, 8, 0, 6, 4, 2, 1, 1, 0, 1, 2, 0, 11]), (102, [15], [0, 165008, 165009, 165011, 165012, 165013, 165014, 165015]), (23, [15, 13], [0, 1, -1]), (23, [15, 13], [0, -1, 1]), (23, [3, 15], [-1, 1, -1]), (23, [9, 15], [-2000, -1, -1]), (23, [3, 13], [-1, 1, -1]), (23, [9, 13], [-2000, -1, -1]), (102, [13], [0, 165011, 165012, 165013, 165014, 165015]), (23, [3, 13], [-1, 1, -1]), (23, [9, 13], [-2000, -1, -1])], [], [(0, 0, 2000, [])], [(20, [22, 5], [30, 0, 1, 0, 0, -1, 1, 11]), (23, [3, 22], [-1, 1, -1]), (23, [9, 22], [-2001, -1, -1])], [], [])
theorem oo_Mo_of_at_s5002_15 {kA : Nat → ClassId} : or_ok PRD kA GG o_Mo_of_at_s5002_15 := by
  refine or_mk fun A ta ws vs hD hth hl => ?_
  intro t0 r0 t2 k2 t3 k3 t7 k7 t9 k9 t13 k13 t15 k15 t16 k16 t17 k17 t18 k18 f0 f1 f2 f3 f4 f5 f6 f7 f8 f9 f10 f11 f12 f14 f15 f16 f17 ta1 w1 le1 s1 f19 f20 f21 f22 f23 f24 ta2 w2 le2 s2 f26 f27
  replace f0 := shm_142 f0
  replace f1 := shm_143 f1
  replace f2 := shm_210 f2
  replace f3 := shm_37 f3
  replace f4 := shm_103 f4
  replace f5 := shm_210 f5
  replace f6 := shm_7 f6
  replace f7 := shm_22 f7
  replace f8 := shm_211 f8
  replace f9 := shm_1894 f9
  replace f10 := shm_211 f10
  replace f11 := shm_1894 f11
  replace f12 := shm_5 f12
  replace f14 := shm_1397 f14
  replace f15 := shm_1398 f15
  replace f16 := shm_1395 f16
  replace f17 := shm_1659 f17
  replace f19 := shm_7 f19
  replace f20 := shm_22 f20
  replace f21 := shm_211 f21
  replace f22 := shm_1894 f22
  replace f23 := shm_211 f23
  replace f24 := shm_1894 f24
  replace f26 := shm_211 f26
  replace f27 := shm_1894 f27
  have q5 : n_v vs 5 = n_v vs 0 := f12.symm
  simp only [q5] at f1 f4 f14 f15 f16 f17
  have g1 : v_iv (n_v vs 16) = w_fi ws (n_v vs 0) 8 := congrArg v_iv f1
  have g4 : v_iv (n_v vs 17) = w_fi ws (n_v vs 0) 12 := congrArg v_iv f4
  have kz_0_8 := fdq_14 hD hth r0
  have kz_0_11 := fdq_273 hD hth r0
  have kz_0_12 := fdq_186 hD hth r0
  have kz_0_15 := fdq_274 hD hth r0
  obtain ⟨x, ex, hx⟩ := iv_ex (ta := ta) (lo := 0) (hi := 2000) (z := w_fi ws (n_v vs 0) 11) (by omega) (by omega) (by omega) (by omega)
  have ex2 : v_iv (Value.int x) = w_fi ws (n_v vs 0) 11 := ex
  have ex3 : 0 ≤ v_iv (Value.int x) ∧ v_iv (Value.int x) ≤ 2000 := tv_rng hx
  have e_3 : n_v (vs ++ [Value.int x]) 3 = n_v vs 3 := n_v_old (by rw [hl]; decide)
  have e_5 : n_v (vs ++ [Value.int x]) 5 = n_v vs 5 := n_v_old (by rw [hl]; decide)
  have e_9 : n_v (vs ++ [Value.int x]) 9 = n_v vs 9 := n_v_old (by rw [hl]; decide)
  have e_22 : n_v (vs ++ [Value.int x]) 22 = Value.int x := n_v_new hl
  have nf0 : fc_1 PRD (20, [22, 5], [30, 0, 1, 0, 0, -1, 1, 11]) ws (vs ++ [Value.int x]) := by
    refine ⟨nf_inA hl rfl, sgq_1395 ?_⟩
    · show 1 * v_iv (n_v (vs ++ [Value.int x]) 22) + ((-1) * w_fi ws (n_v (vs ++ [Value.int x]) 5) 11 + 0) ≤ 0
      simp only [e_5, e_22, q5]
      exact vc_Mo_of_at_s5002_15_0 (v_iv (n_v vs 2)) (v_iv (n_v vs 3)) (v_iv (n_v vs 7)) (v_iv (n_v vs 9)) (v_iv (n_v vs 13)) (v_iv (n_v vs 15)) (v_iv (n_v vs 16)) (v_iv (n_v vs 17)) (v_iv (n_v vs 18)) (w_fi ws (n_v vs 0) 8) (w_fi ws (n_v vs 0) 12) (w_fi ws (n_v vs 0) 15) (w_fi ws (n_v vs 0) 11) (v_iv (Value.int x)) k2 k3 k7 k9 k13 k15 k16 k17 k18 f0 g1 f2 f3 g4 f5 f6 f7 f8 f9 f10 f11 f14 f15 f16 f17 f19 f20 f21 f22 f23 f24 f26 f27 kz_0_8 kz_0_11 kz_0_12 kz_0_15 ex2 ex3
  have nf1 : fc_1 PRD (23, [3, 22], [-1, 1, -1]) ws (vs ++ [Value.int x]) := by
    refine ⟨nf_inA hl rfl, sgq_211 ?_⟩
    · show 1 * v_iv (n_v (vs ++ [Value.int x]) 3) + ((-1) * v_iv (n_v (vs ++ [Value.int x]) 22) + 0) ≤ (-1)
      simp only [e_3, e_22]
      exact vc_Mo_of_at_s5002_15_1 (v_iv (n_v vs 2)) (v_iv (n_v vs 3)) (v_iv (n_v vs 7)) (v_iv (n_v vs 9)) (v_iv (n_v vs 13)) (v_iv (n_v vs 15)) (v_iv (n_v vs 16)) (v_iv (n_v vs 17)) (v_iv (n_v vs 18)) (w_fi ws (n_v vs 0) 8) (w_fi ws (n_v vs 0) 12) (w_fi ws (n_v vs 0) 15) (w_fi ws (n_v vs 0) 11) (v_iv (Value.int x)) k2 k3 k7 k9 k13 k15 k16 k17 k18 f0 g1 f2 f3 g4 f5 f6 f7 f8 f9 f10 f11 f14 f15 f16 f17 f19 f20 f21 f22 f23 f24 f26 f27 kz_0_8 kz_0_11 kz_0_12 kz_0_15 ex2 ex3
  have nf2 : fc_1 PRD (23, [9, 22], [-2001, -1, -1]) ws (vs ++ [Value.int x]) := by
    refine ⟨nf_inA hl rfl, sgq_1895 ?_⟩
    · show (-1) * v_iv (n_v (vs ++ [Value.int x]) 9) + ((-1) * v_iv (n_v (vs ++ [Value.int x]) 22) + 0) ≤ (-2001)
      simp only [e_9, e_22]
      exact vc_Mo_of_at_s5002_15_2 (v_iv (n_v vs 2)) (v_iv (n_v vs 3)) (v_iv (n_v vs 7)) (v_iv (n_v vs 9)) (v_iv (n_v vs 13)) (v_iv (n_v vs 15)) (v_iv (n_v vs 16)) (v_iv (n_v vs 17)) (v_iv (n_v vs 18)) (w_fi ws (n_v vs 0) 8) (w_fi ws (n_v vs 0) 12) (w_fi ws (n_v vs 0) 15) (w_fi ws (n_v vs 0) 11) (v_iv (Value.int x)) k2 k3 k7 k9 k13 k15 k16 k17 k18 f0 g1 f2 f3 g4 f5 f6 f7 f8 f9 f10 f11 f14 f15 f16 f17 f19 f20 f21 f22 f23 f24 f26 f27 kz_0_8 kz_0_11 kz_0_12 kz_0_15 ex2 ex3
  exact ⟨(fun _ h => (by cases h)), [Value.int x], ag_one hx, List.forall_mem_cons.mpr ⟨⟨show (20 : Nat) < 100 from by decide, nf0⟩, List.forall_mem_cons.mpr ⟨⟨show (23 : Nat) < 100 from by decide, nf1⟩, List.forall_mem_cons.mpr ⟨⟨show (23 : Nat) < 100 from by decide, nf2⟩, (fun _ h => (by cases h))⟩⟩⟩, (fun _ h => (by cases h))⟩
set_option maxHeartbeats 4000000 in
theorem vc_Mo_of_at_s5002_16_0 (x2 : Int) (x3 : Int) (x4 : Int) (x7 : Int) (x8 : Int) (x9 : Int) (x13 : Int) (x15 : Int) (x19 : Int) (x22 : Int) (from_0 : Int) (pos_0 : Int) (kind_0 : Int) (gx : Int) (k2 : 99 ≤ x2 ∧ x2 ≤ 99) (k3 : 0 ≤ x3 ∧ x3 ≤ 2000) (k4 : (-1) ≤ x4 ∧ x4 ≤ 48) (k7 : 99 ≤ x7 ∧ x7 ≤ 99) (k8 : (-2147483648) ≤ x8 ∧ x8 ≤ 0) (k9 : 0 ≤ x9 ∧ x9 ≤ 2000) (k13 : 0 ≤ x13 ∧ x13 ≤ 2000) (k15 : 0 ≤ x15 ∧ x15 ≤ 2000) (k19 : 1 ≤ x19 ∧ x19 ≤ 99) (k22 : 0 ≤ x22 ∧ x22 ≤ 2000) (f0 : 1 * x3 + ((-1) * x22 + 0) ≤ (-1)) (f1 : (-1) * x9 + ((-1) * x22 + 0) ≤ (-2001)) (f2 : 1 * x19 + ((-1) * x2 + 0) ≤ 0) (f3 : (-1) * x19 + 0 ≤ 0) (f4 : 1 * x15 + ((-1) * x13 + 0) ≤ 0) (f5 : (-1) * x15 + (1 * x13 + 0) ≤ 0) (f6 : 1 * x3 + ((-1) * x15 + 0) ≤ (-1)) (f7 : (-1) * x9 + ((-1) * x15 + 0) ≤ (-2000)) (f8 : 1 * x3 + ((-1) * x13 + 0) ≤ (-1)) (f9 : (-1) * x9 + ((-1) * x13 + 0) ≤ (-2000)) (f10 : 1 * x8 + ((-1) * x2 + 0) ≤ 0) (f11 : (-1) * x8 + 0 ≤ 0) (f12 : (-1) * x4 + 0 ≤ 0) (f15 : 1 * from_0 + ((-1) * pos_0 + 0) ≤ 0) (f16 : ((kind_0 = 1) → (pos_0 ≤ (from_0 + 8))) ∧ ((kind_0 = 0) ∨ ((from_0 + 1) ≤ pos_0))) (f17 : 1 * x22 + ((-1) * from_0 + 0) ≤ 0) (f19 : 1 * x3 + ((-1) * x22 + 0) ≤ (-1)) (f20 : (-1) * x9 + ((-1) * x22 + 0) ≤ (-2001)) (f21 : 1 * x19 + ((-1) * x2 + 0) ≤ 0) (f22 : (-1) * x19 + 0 ≤ 0) (f23 : 1 * x15 + ((-1) * x13 + 0) ≤ 0) (f24 : (-1) * x15 + (1 * x13 + 0) ≤ 0) (f25 : 1 * x3 + ((-1) * x15 + 0) ≤ (-1)) (f26 : (-1) * x9 + ((-1) * x15 + 0) ≤ (-2000)) (f27 : 1 * x3 + ((-1) * x13 + 0) ≤ (-1)) (f28 : (-1) * x9 + ((-1) * x13 + 0) ≤ (-2000)) (f29 : 1 * x8 + ((-1) * x2 + 0) ≤ 0) (f30 : (-1) * x8 + 0 ≤ 0) (f31 : (-1) * x4 + 0 ≤ 0) (f33 : 1 * x15 + ((-1) * x13 + 0) ≤ 0) (f34 : (-1) * x15 + (1 * x13 + 0) ≤ 0) (f35 : 1 * x3 + ((-1) * x15 + 0) ≤ (-1)) (f36 : (-1) * x9 + ((-1) * x15 + 0) ≤ (-2000)) (f37 : 1 * x3 + ((-1) * x13 + 0) ≤ (-1)) (f38 : (-1) * x9 + ((-1) * x13 + 0) ≤ (-2000)) (f39 : 1 * x8 + ((-1) * x2 + 0) ≤ 0) (f40 : (-1) * x8 + 0 ≤ 0) (f41 : (-1) * x4 + 0 ≤ 0) (f43 : 1 * x3 + ((-1) * x13 + 0) ≤ (-1)) (f44 : (-1) * x9 + ((-1) * x13 + 0) ≤ (-2000)) (f45 : x8 ≤ 0) (f46 : 1 * x8 + ((-1) * x2 + 0) ≤ 0) (f47 : (-1) * x8 + 0 ≤ 0) (f48 : (-1) * x4 + 0 ≤ 0) (f50 : 1 * x8 + ((-1) * x2 + 0) ≤ 0) (f51 : (-1) * x8 + 0 ≤ 0) (f52 : (-1) * x4 + 0 ≤ 0) (kz_0_11 : 0 ≤ pos_0 ∧ pos_0 ≤ 2000) (kz_0_12 : 0 ≤ kind_0 ∧ kind_0 ≤ 4) (kz_0_15 : 0 ≤ from_0 ∧ from_0 ≤ 2000) (ex2 : gx = 0 + (1 * x9 + 0)) (ex3 : 0 ≤ gx ∧ gx ≤ 2000) : 1 * from_0 + ((-1) * pos_0 + 0) ≤ 0 := by
  first | assumption | (clear f16; omega) | omega | grind
set_option maxHeartbeats 4000000 in
theorem vc_Mo_of_at_s5002_16_1 (x2 : Int) (x3 : Int) (x4 : Int) (x7 : Int) (x8 : Int) (x9 : Int) (x13 : Int) (x15 : Int) (x19 : Int) (x22 : Int) (from_0 : Int) (pos_0 : Int) (kind_0 : Int) (gx : Int) (k2 : 99 ≤ x2 ∧ x2 ≤ 99) (k3 : 0 ≤ x3 ∧ x3 ≤ 2000) (k4 : (-1) ≤ x4 ∧ x4 ≤ 48) (k7 : 99 ≤ x7 ∧ x7 ≤ 99) (k8 : (-2147483648) ≤ x8 ∧ x8 ≤ 0) (k9 : 0 ≤ x9 ∧ x9 ≤ 2000) (k13 : 0 ≤ x13 ∧ x13 ≤ 2000) (k15 : 0 ≤ x15 ∧ x15 ≤ 2000) (k19 : 1 ≤ x19 ∧ x19 ≤ 99) (k22 : 0 ≤ x22 ∧ x22 ≤ 2000) (f0 : 1 * x3 + ((-1) * x22 + 0) ≤ (-1)) (f1 : (-1) * x9 + ((-1) * x22 + 0) ≤ (-2001)) (f2 : 1 * x19 + ((-1) * x2 + 0) ≤ 0) (f3 : (-1) * x19 + 0 ≤ 0) (f4 : 1 * x15 + ((-1) * x13 + 0) ≤ 0) (f5 : (-1) * x15 + (1 * x13 + 0) ≤ 0) (f6 : 1 * x3 + ((-1) * x15 + 0) ≤ (-1)) (f7 : (-1) * x9 + ((-1) * x15 + 0) ≤ (-2000)) (f8 : 1 * x3 + ((-1) * x13 + 0) ≤ (-1)) (f9 : (-1) * x9 + ((-1) * x13 + 0) ≤ (-2000)) (f10 : 1 * x8 + ((-1) * x2 + 0) ≤ 0) (f11 : (-1) * x8 + 0 ≤ 0) (f12 : (-1) * x4 + 0 ≤ 0) (f15 : 1 * from_0 + ((-1) * pos_0 + 0) ≤ 0) (f16 : ((kind_0 = 1) → (pos_0 ≤ (from_0 + 8))) ∧ ((kind_0 = 0) ∨ ((from_0 + 1) ≤ pos_0))) (f17 : 1 * x22 + ((-1) * from_0 + 0) ≤ 0) (f19 : 1 * x3 + ((-1) * x22 + 0) ≤ (-1)) (f20 : (-1) * x9 + ((-1) * x22 + 0) ≤ (-2001)) (f21 : 1 * x19 + ((-1) * x2 + 0) ≤ 0) (f22 : (-1) * x19 + 0 ≤ 0) (f23 : 1 * x15 + ((-1) * x13 + 0) ≤ 0) (f24 : (-1) * x15 + (1 * x13 + 0) ≤ 0) (f25 : 1 * x3 + ((-1) * x15 + 0) ≤ (-1)) (f26 : (-1) * x9 + ((-1) * x15 + 0) ≤ (-2000)) (f27 : 1 * x3 + ((-1) * x13 + 0) ≤ (-1)) (f28 : (-1) * x9 + ((-1) * x13 + 0) ≤ (-2000)) (f29 : 1 * x8 + ((-1) * x2 + 0) ≤ 0) (f30 : (-1) * x8 + 0 ≤ 0) (f31 : (-1) * x4 + 0 ≤ 0) (f33 : 1 * x15 + ((-1) * x13 + 0) ≤ 0) (f34 : (-1) * x15 + (1 * x13 + 0) ≤ 0) (f35 : 1 * x3 + ((-1) * x15 + 0) ≤ (-1)) (f36 : (-1) * x9 + ((-1) * x15 + 0) ≤ (-2000)) (f37 : 1 * x3 + ((-1) * x13 + 0) ≤ (-1)) (f38 : (-1) * x9 + ((-1) * x13 + 0) ≤ (-2000)) (f39 : 1 * x8 + ((-1) * x2 + 0) ≤ 0) (f40 : (-1) * x8 + 0 ≤ 0) (f41 : (-1) * x4 + 0 ≤ 0) (f43 : 1 * x3 + ((-1) * x13 + 0) ≤ (-1)) (f44 : (-1) * x9 + ((-1) * x13 + 0) ≤ (-2000)) (f45 : x8 ≤ 0) (f46 : 1 * x8 + ((-1) * x2 + 0) ≤ 0) (f47 : (-1) * x8 + 0 ≤ 0) (f48 : (-1) * x4 + 0 ≤ 0) (f50 : 1 * x8 + ((-1) * x2 + 0) ≤ 0) (f51 : (-1) * x8 + 0 ≤ 0) (f52 : (-1) * x4 + 0 ≤ 0) (kz_0_11 : 0 ≤ pos_0 ∧ pos_0 ≤ 2000) (kz_0_12 : 0 ≤ kind_0 ∧ kind_0 ≤ 4) (kz_0_15 : 0 ≤ from_0 ∧ from_0 ≤ 2000) (ex2 : gx = 0 + (1 * x9 + 0)) (ex3 : 0 ≤ gx ∧ gx ≤ 2000) : ((kind_0 = 1) → (pos_0 ≤ (from_0 + 8))) ∧ ((kind_0 = 0) ∨ ((from_0 + 1) ≤ pos_0)) := by
  first | assumption | (clear f16; omega) | omega | grind
set_option maxHeartbeats 4000000 in
theorem vc_Mo_of_at_s5002_16_2 (x2 : Int) (x3 : Int) (x4 : Int) (x7 : Int) (x8 : Int) (x9 : Int) (x13 : Int) (x15 : Int) (x19 : Int) (x22 : Int) (from_0 : Int) (pos_0 : Int) (kind_0 : Int) (gx : Int) (k2 : 99 ≤ x2 ∧ x2 ≤ 99) (k3 : 0 ≤ x3 ∧ x3 ≤ 2000) (k4 : (-1) ≤ x4 ∧ x4 ≤ 48) (k7 : 99 ≤ x7 ∧ x7 ≤ 99) (k8 : (-2147483648) ≤ x8 ∧ x8 ≤ 0) (k9 : 0 ≤ x9 ∧ x9 ≤ 2000) (k13 : 0 ≤ x13 ∧ x13 ≤ 2000) (k15 : 0 ≤ x15 ∧ x15 ≤ 2000) (k19 : 1 ≤ x19 ∧ x19 ≤ 99) (k22 : 0 ≤ x22 ∧ x22 ≤ 2000) (f0 : 1 * x3 + ((-1) * x22 + 0) ≤ (-1)) (f1 : (-1) * x9 + ((-1) * x22 + 0) ≤ (-2001)) (f2 : 1 * x19 + ((-1) * x2 + 0) ≤ 0) (f3 : (-1) * x19 + 0 ≤ 0) (f4 : 1 * x15 + ((-1) * x13 + 0) ≤ 0) (f5 : (-1) * x15 + (1 * x13 + 0) ≤ 0) (f6 : 1 * x3 + ((-1) * x15 + 0) ≤ (-1)) (f7 : (-1) * x9 + ((-1) * x15 + 0) ≤ (-2000)) (f8 : 1 * x3 + ((-1) * x13 + 0) ≤ (-1)) (f9 : (-1) * x9 + ((-1) * x13 + 0) ≤ (-2000)) (f10 : 1 * x8 + ((-1) * x2 + 0) ≤ 0) (f11 : (-1) * x8 + 0 ≤ 0) (f12 : (-1) * x4 + 0 ≤ 0) (f15 : 1 * from_0 + ((-1) * pos_0 + 0) ≤ 0) (f16 : ((kind_0 = 1) → (pos_0 ≤ (from_0 + 8))) ∧ ((kind_0 = 0) ∨ ((from_0 + 1) ≤ pos_0))) (f17 : 1 * x22 + ((-1) * from_0 + 0) ≤ 0) (f19 : 1 * x3 + ((-1) * x22 + 0) ≤ (-1)) (f20 : (-1) * x9 + ((-1) * x22 + 0) ≤ (-2001)) (f21 : 1 * x19 + ((-1) * x2 + 0) ≤ 0) (f22 : (-1) * x19 + 0 ≤ 0) (f23 : 1 * x15 + ((-1) * x13 + 0) ≤ 0) (f24 : (-1) * x15 + (1 * x13 + 0) ≤ 0) (f25 : 1 * x3 + ((-1) * x15 + 0) ≤ (-1)) (f26 : (-1) * x9 + ((-1) * x15 + 0) ≤ (-2000)) (f27 : 1 * x3 + ((-1) * x13 + 0) ≤ (-1)) (f28 : (-1) * x9 + ((-1) * x13 + 0) ≤ (-2000)) (f29 : 1 * x8 + ((-1) * x2 + 0) ≤ 0) (f30 : (-1) * x8 + 0 ≤ 0) (f31 : (-1) * x4 + 0 ≤ 0) (f33 : 1 * x15 + ((-1) * x13 + 0) ≤ 0) (f34 : (-1) * x15 + (1 * x13 + 0) ≤ 0) (f35 : 1 * x3 + ((-1) * x15 + 0) ≤ (-1)) (f36 : (-1) * x9 + ((-1) * x15 + 0) ≤ (-2000)) (f37 : 1 * x3 + ((-1) * x13 + 0) ≤ (-1)) (f38 : (-1) * x9 + ((-1) * x13 + 0) ≤ (-2000)) (f39 : 1 * x8 + ((-1) * x2 + 0) ≤ 0) (f40 : (-1) * x8 + 0 ≤ 0) (f41 : (-1) * x4 + 0 ≤ 0) (f43 : 1 * x3 + ((-1) * x13 + 0) ≤ (-1)) (f44 : (-1) * x9 + ((-1) * x13 + 0) ≤ (-2000)) (f45 : x8 ≤ 0) (f46 : 1 * x8 + ((-1) * x2 + 0) ≤ 0) (f47 : (-1) * x8 + 0 ≤ 0) (f48 : (-1) * x4 + 0 ≤ 0) (f50 : 1 * x8 + ((-1) * x2 + 0) ≤ 0) (f51 : (-1) * x8 + 0 ≤ 0) (f52 : (-1) * x4 + 0 ≤ 0) (kz_0_11 : 0 ≤ pos_0 ∧ pos_0 ≤ 2000) (kz_0_12 : 0 ≤ kind_0 ∧ kind_0 ≤ 4) (kz_0_15 : 0 ≤ from_0 ∧ from_0 ≤ 2000) (ex2 : gx = 0 + (1 * x9 + 0)) (ex3 : 0 ≤ gx ∧ gx ≤ 2000) : 1 * x3 + ((-1) * pos_0 + 0) ≤ (-1) := by
  first | assumption | (clear f16; omega) | omega | grind
set_option maxHeartbeats 4000000 in
theorem vc_Mo_of_at_s5002_16_3 (x2 : Int) (x3 : Int) (x4 : Int) (x7 : Int) (x8 : Int) (x9 : Int) (x13 : Int) (x15 : Int) (x19 : Int) (x22 : Int) (from_0 : Int) (pos_0 : Int) (kind_0 : Int) (gx : Int) (k2 : 99 ≤ x2 ∧ x2 ≤ 99) (k3 : 0 ≤ x3 ∧ x3 ≤ 2000) (k4 : (-1) ≤ x4 ∧ x4 ≤ 48) (k7 : 99 ≤ x7 ∧ x7 ≤ 99) (k8 : (-2147483648) ≤ x8 ∧ x8 ≤ 0) (k9 : 0 ≤ x9 ∧ x9 ≤ 2000) (k13 : 0 ≤ x13 ∧ x13 ≤ 2000) (k15 : 0 ≤ x15 ∧ x15 ≤ 2000) (k19 : 1 ≤ x19 ∧ x19 ≤ 99) (k22 : 0 ≤ x22 ∧ x22 ≤ 2000) (f0 : 1 * x3 + ((-1) * x22 + 0) ≤ (-1)) (f1 : (-1) * x9 + ((-1) * x22 + 0) ≤ (-2001)) (f2 : 1 * x19 + ((-1) * x2 + 0) ≤ 0) (f3 : (-1) * x19 + 0 ≤ 0) (f4 : 1 * x15 + ((-1) * x13 + 0) ≤ 0) (f5 : (-1) * x15 + (1 * x13 + 0) ≤ 0) (f6 : 1 * x3 + ((-1) * x15 + 0) ≤ (-1)) (f7 : (-1) * x9 + ((-1) * x15 + 0) ≤ (-2000)) (f8 : 1 * x3 + ((-1) * x13 + 0) ≤ (-1)) (f9 : (-1) * x9 + ((-1) * x13 + 0) ≤ (-2000)) (f10 : 1 * x8 + ((-1) * x2 + 0) ≤ 0) (f11 : (-1) * x8 + 0 ≤ 0) (f12 : (-1) * x4 + 0 ≤ 0) (f15 : 1 * from_0 + ((-1) * pos_0 + 0) ≤ 0) (f16 : ((kind_0 = 1) → (pos_0 ≤ (from_0 + 8))) ∧ ((kind_0 = 0) ∨ ((from_0 + 1) ≤ pos_0))) (f17 : 1 * x22 + ((-1) * from_0 + 0) ≤ 0) (f19 : 1 * x3 + ((-1) * x22 + 0) ≤ (-1)) (f20 : (-1) * x9 + ((-1) * x22 + 0) ≤ (-2001)) (f21 : 1 * x19 + ((-1) * x2 + 0) ≤ 0) (f22 : (-1) * x19 + 0 ≤ 0) (f23 : 1 * x15 + ((-1) * x13 + 0) ≤ 0) (f24 : (-1) * x15 + (1 * x13 + 0) ≤ 0) (f25 : 1 * x3 + ((-1) * x15 + 0) ≤ (-1)) (f26 : (-1) * x9 + ((-1) * x15 + 0) ≤ (-2000)) (f27 : 1 * x3 + ((-1) * x13 + 0) ≤ (-1)) (f28 : (-1) * x9 + ((-1) * x13 + 0) ≤ (-2000)) (f29 : 1 * x8 + ((-1) * x2 + 0) ≤ 0) (f30 : (-1) * x8 + 0 ≤ 0) (f31 : (-1) * x4 + 0 ≤ 0) (f33 : 1 * x15 + ((-1) * x13 + 0) ≤ 0) (f34 : (-1) * x15 + (1 * x13 + 0) ≤ 0) (f35 : 1 * x3 + ((-1) * x15 + 0) ≤ (-1)) (f36 : (-1) * x9 + ((-1) * x15 + 0) ≤ (-2000)) (f37 : 1 * x3 + ((-1) * x13 + 0) ≤ (-1)) (f38 : (-1) * x9 + ((-1) * x13 + 0) ≤ (-2000)) (f39 : 1 * x8 + ((-1) * x2 + 0) ≤ 0) (f40 : (-1) * x8 + 0 ≤ 0) (f41 : (-1) * x4 + 0 ≤ 0) (f43 : 1 * x3 + ((-1) * x13 + 0) ≤ (-1)) (f44 : (-1) * x9 + ((-1) * x13 + 0) ≤ (-2000)) (f45 : x8 ≤ 0) (f46 : 1 * x8 + ((-1) * x2 + 0) ≤ 0) (f47 : (-1) * x8 + 0 ≤ 0) (f48 : (-1) * x4 + 0 ≤ 0) (f50 : 1 * x8 + ((-1) * x2 + 0) ≤ 0) (f51 : (-1) * x8 + 0 ≤ 0) (f52 : (-1) * x4 + 0 ≤ 0) (kz_0_11 : 0 ≤ pos_0 ∧ pos_0 ≤ 2000) (kz_0_12 : 0 ≤ kind_0 ∧ kind_0 ≤ 4) (kz_0_15 : 0 ≤ from_0 ∧ from_0 ≤ 2000) (ex2 : gx = 0 + (1 * x9 + 0)) (ex3 : 0 ≤ gx ∧ gx ≤ 2000) : 1 * x19 + ((-1) * x2 + 0) ≤ 0 := by
  first | assumption | (clear f16; omega) | omega | grind
set_option maxHeartbeats 4000000 in
theorem vc_Mo_of_at_s5002_16_4 (x2 : Int) (x3 : Int) (x4 : Int) (x7 : Int) (x8 : Int) (x9 : Int) (x13 : Int) (x15 : Int) (x19 : Int) (x22 : Int) (from_0 : Int) (pos_0 : Int) (kind_0 : Int) (gx : Int) (k2 : 99 ≤ x2 ∧ x2 ≤ 99) (k3 : 0 ≤ x3 ∧ x3 ≤ 2000) (k4 : (-1) ≤ x4 ∧ x4 ≤ 48) (k7 : 99 ≤ x7 ∧ x7 ≤ 99) (k8 : (-2147483648) ≤ x8 ∧ x8 ≤ 0) (k9 : 0 ≤ x9 ∧ x9 ≤ 2000) (k13 : 0 ≤ x13 ∧ x13 ≤ 2000) (k15 : 0 ≤ x15 ∧ x15 ≤ 2000) (k19 : 1 ≤ x19 ∧ x19 ≤ 99) (k22 : 0 ≤ x22 ∧ x22 ≤ 2000) (f0 : 1 * x3 + ((-1) * x22 + 0) ≤ (-1)) (f1 : (-1) * x9 + ((-1) * x22 + 0) ≤ (-2001)) (f2 : 1 * x19 + ((-1) * x2 + 0) ≤ 0) (f3 : (-1) * x19 + 0 ≤ 0) (f4 : 1 * x15 + ((-1) * x13 + 0) ≤ 0) (f5 : (-1) * x15 + (1 * x13 + 0) ≤ 0) (f6 : 1 * x3 + ((-1) * x15 + 0) ≤ (-1)) (f7 : (-1) * x9 + ((-1) * x15 + 0) ≤ (-2000)) (f8 : 1 * x3 + ((-1) * x13 + 0) ≤ (-1)) (f9 : (-1) * x9 + ((-1) * x13 + 0) ≤ (-2000)) (f10 : 1 * x8 + ((-1) * x2 + 0) ≤ 0) (f11 : (-1) * x8 + 0 ≤ 0) (f12 : (-1) * x4 + 0 ≤ 0) (f15 : 1 * from_0 + ((-1) * pos_0 + 0) ≤ 0) (f16 : ((kind_0 = 1) → (pos_0 ≤ (from_0 + 8))) ∧ ((kind_0 = 0) ∨ ((from_0 + 1) ≤ pos_0))) (f17 : 1 * x22 + ((-1) * from_0 + 0) ≤ 0) (f19 : 1 * x3 + ((-1) * x22 + 0) ≤ (-1)) (f20 : (-1) * x9 + ((-1) * x22 + 0) ≤ (-2001)) (f21 : 1 * x19 + ((-1) * x2 + 0) ≤ 0) (f22 : (-1) * x19 + 0 ≤ 0) (f23 : 1 * x15 + ((-1) * x13 + 0) ≤ 0) (f24 : (-1) * x15 + (1 * x13 + 0) ≤ 0) (f25 : 1 * x3 + ((-1) * x15 + 0) ≤ (-1)) (f26 : (-1) * x9 + ((-1) * x15 + 0) ≤ (-2000)) (f27 : 1 * x3 + ((-1) * x13 + 0) ≤ (-1)) (f28 : (-1) * x9 + ((-1) * x13 + 0) ≤ (-2000)) (f29 : 1 * x8 + ((-1) * x2 + 0) ≤ 0) (f30 : (-1) * x8 + 0 ≤ 0) (f31 : (-1) * x4 + 0 ≤ 0) (f33 : 1 * x15 + ((-1) * x13 + 0) ≤ 0) (f34 : (-1) * x15 + (1 * x13 + 0) ≤ 0) (f35 : 1 * x3 + ((-1) * x15 + 0) ≤ (-1)) (f36 : (-1) * x9 + ((-1) * x15 + 0) ≤ (-2000)) (f37 : 1 * x3 + ((-1) * x13 + 0) ≤ (-1)) (f38 : (-1) * x9 + ((-1) * x13 + 0) ≤ (-2000)) (f39 : 1 * x8 + ((-1) * x2 + 0) ≤ 0) (f40 : (-1) * x8 + 0 ≤ 0) (f41 : (-1) * x4 + 0 ≤ 0) (f43 : 1 * x3 + ((-1) * x13 + 0) ≤ (-1)) (f44 : (-1) * x9 + ((-1) * x13 + 0) ≤ (-2000)) (f45 : x8 ≤ 0) (f46 : 1 * x8 + ((-1) * x2 + 0) ≤ 0) (f47 : (-1) * x8 + 0 ≤ 0) (f48 : (-1) * x4 + 0 ≤ 0) (f50 : 1 * x8 + ((-1) * x2 + 0) ≤ 0) (f51 : (-1) * x8 + 0 ≤ 0) (f52 : (-1) * x4 + 0 ≤ 0) (kz_0_11 : 0 ≤ pos_0 ∧ pos_0 ≤ 2000) (kz_0_12 : 0 ≤ kind_0 ∧ kind_0 ≤ 4) (kz_0_15 : 0 ≤ from_0 ∧ from_0 ≤ 2000) (ex2 : gx = 0 + (1 * x9 + 0)) (ex3 : 0 ≤ gx ∧ gx ≤ 2000) : (-1) * x19 + 0 ≤ 0 := by
  first | assumption | (clear f16; omega) | omega | grind
set_option maxHeartbeats 4000000 in
theorem vc_Mo_of_at_s5002_16_5 (x2 : Int) (x3 : Int) (x4 : Int) (x7 : Int) (x8 : Int) (x9 : Int) (x13 : Int) (x15 : Int) (x19 : Int) (x22 : Int) (from_0 : Int) (pos_0 : Int) (kind_0 : Int) (gx : Int) (k2 : 99 ≤ x2 ∧ x2 ≤ 99) (k3 : 0 ≤ x3 ∧ x3 ≤ 2000) (k4 : (-1) ≤ x4 ∧ x4 ≤ 48) (k7 : 99 ≤ x7 ∧ x7 ≤ 99) (k8 : (-2147483648) ≤ x8 ∧ x8 ≤ 0) (k9 : 0 ≤ x9 ∧ x9 ≤ 2000) (k13 : 0 ≤ x13 ∧ x13 ≤ 2000) (k15 : 0 ≤ x15 ∧ x15 ≤ 2000) (k19 : 1 ≤ x19 ∧ x19 ≤ 99) (k22 : 0 ≤ x22 ∧ x22 ≤ 2000) (f0 : 1 * x3 + ((-1) * x22 + 0) ≤ (-1)) (f1 : (-1) * x9 + ((-1) * x22 + 0) ≤ (-2001)) (f2 : 1 * x19 + ((-1) * x2 + 0) ≤ 0) (f3 : (-1) * x19 + 0 ≤ 0) (f4 : 1 * x15 + ((-1) * x13 + 0) ≤ 0) (f5 : (-1) * x15 + (1 * x13 + 0) ≤ 0) (f6 : 1 * x3 + ((-1) * x15 + 0) ≤ (-1)) (f7 : (-1) * x9 + ((-1) * x15 + 0) ≤ (-2000)) (f8 : 1 * x3 + ((-1) * x13 + 0) ≤ (-1)) (f9 : (-1) * x9 + ((-1) * x13 + 0) ≤ (-2000)) (f10 : 1 * x8 + ((-1) * x2 + 0) ≤ 0) (f11 : (-1) * x8 + 0 ≤ 0) (f12 : (-1) * x4 + 0 ≤ 0) (f15 : 1 * from_0 + ((-1) * pos_0 + 0) ≤ 0) (f16 : ((kind_0 = 1) → (pos_0 ≤ (from_0 + 8))) ∧ ((kind_0 = 0) ∨ ((from_0 + 1) ≤ pos_0))) (f17 : 1 * x22 + ((-1) * from_0 + 0) ≤ 0) (f19 : 1 * x3 + ((-1) * x22 + 0) ≤ (-1)) (f20 : (-1) * x9 + ((-1) * x22 + 0) ≤ (-2001)) (f21 : 1 * x19 + ((-1) * x2 + 0) ≤ 0) (f22 : (-1) * x19 + 0 ≤ 0) (f23 : 1 * x15 + ((-1) * x13 + 0) ≤ 0) (f24 : (-1) * x15 + (1 * x13 + 0) ≤ 0) (f25 : 1 * x3 + ((-1) * x15 + 0) ≤ (-1)) (f26 : (-1) * x9 + ((-1) * x15 + 0) ≤ (-2000)) (f27 : 1 * x3 + ((-1) * x13 + 0) ≤ (-1)) (f28 : (-1) * x9 + ((-1) * x13 + 0) ≤ (-2000)) (f29 : 1 * x8 + ((-1) * x2 + 0) ≤ 0) (f30 : (-1) * x8 + 0 ≤ 0) (f31 : (-1) * x4 + 0 ≤ 0) (f33 : 1 * x15 + ((-1) * x13 + 0) ≤ 0) (f34 : (-1) * x15 + (1 * x13 + 0) ≤ 0) (f35 : 1 * x3 + ((-1) * x15 + 0) ≤ (-1)) (f36 : (-1) * x9 + ((-1) * x15 + 0) ≤ (-2000)) (f37 : 1 * x3 + ((-1) * x13 + 0) ≤ (-1)) (f38 : (-1) * x9 + ((-1) * x13 + 0) ≤ (-2000)) (f39 : 1 * x8 + ((-1) * x2 + 0) ≤ 0) (f40 : (-1) * x8 + 0 ≤ 0) (f41 : (-1) * x4 + 0 ≤ 0) (f43 : 1 * x3 + ((-1) * x13 + 0) ≤ (-1)) (f44 : (-1) * x9 + ((-1) * x13 + 0) ≤ (-2000)) (f45 : x8 ≤ 0) (f46 : 1 * x8 + ((-1) * x2 + 0) ≤ 0) (f47 : (-1) * x8 + 0 ≤ 0) (f48 : (-1) * x4 + 0 ≤ 0) (f50 : 1 * x8 + ((-1) * x2 + 0) ≤ 0) (f51 : (-1) * x8 + 0 ≤ 0) (f52 : (-1) * x4 + 0 ≤ 0) (kz_0_11 : 0 ≤ pos_0 ∧ pos_0 ≤ 2000) (kz_0_12 : 0 ≤ kind_0 ∧ kind_0 ≤ 4) (kz_0_15 : 0 ≤ from_0 ∧ from_0 ≤ 2000) (ex2 : gx = 0 + (1 * x9 + 0)) (ex3 : 0 ≤ gx ∧ gx ≤ 2000) : (-1) * x4 + 0 ≤ 0 := by
  first | assumption | (clear f16; omega) | omega | grind
set_option maxHeartbeats 4000000 in
theorem vc_Mo_of_at_s5002_16_6 (x2 : Int) (x3 : Int) (x4 : Int) (x7 : Int) (x8 : Int) (x9 : Int) (x13 : Int) (x15 : Int) (x19 : Int) (x22 : Int) (from_0 : Int) (pos_0 : Int) (kind_0 : Int) (gx : Int) (k2 : 99 ≤ x2 ∧ x2 ≤ 99) (k3 : 0 ≤ x3 ∧ x3 ≤ 2000) (k4 : (-1) ≤ x4 ∧ x4 ≤ 48) (k7 : 99 ≤ x7 ∧ x7 ≤ 99) (k8 : (-2147483648) ≤ x8 ∧ x8 ≤ 0) (k9 : 0 ≤ x9 ∧ x9 ≤ 2000) (k13 : 0 ≤ x13 ∧ x13 ≤ 2000) (k15 : 0 ≤ x15 ∧ x15 ≤ 2000) (k19 : 1 ≤ x19 ∧ x19 ≤ 99) (k22 : 0 ≤ x22 ∧ x22 ≤ 2000) (f0 : 1 * x3 + ((-1) * x22 + 0) ≤ (-1)) (f1 : (-1) * x9 + ((-1) * x22 + 0) ≤ (-2001)) (f2 : 1 * x19 + ((-1) * x2 + 0) ≤ 0) (f3 : (-1) * x19 + 0 ≤ 0) (f4 : 1 * x15 + ((-1) * x13 + 0) ≤ 0) (f5 : (-1) * x15 + (1 * x13 + 0) ≤ 0) (f6 : 1 * x3 + ((-1) * x15 + 0) ≤ (-1)) (f7 : (-1) * x9 + ((-1) * x15 + 0) ≤ (-2000)) (f8 : 1 * x3 + ((-1) * x13 + 0) ≤ (-1)) (f9 : (-1) * x9 + ((-1) * x13 + 0) ≤ (-2000)) (f10 : 1 * x8 + ((-1) * x2 + 0) ≤ 0) (f11 : (-1) * x8 + 0 ≤ 0) (f12 : (-1) * x4 + 0 ≤ 0) (f15 : 1 * from_0 + ((-1) * pos_0 + 0) ≤ 0) (f16 : ((kind_0 = 1) → (pos_0 ≤ (from_0 + 8))) ∧ ((kind_0 = 0) ∨ ((from_0 + 1) ≤ pos_0))) (f17 : 1 * x22 + ((-1) * from_0 + 0) ≤ 0) (f19 : 1 * x3 + ((-1) * x22 + 0) ≤ (-1)) (f20 : (-1) * x9 + ((-1) * x22 + 0) ≤ (-2001)) (f21 : 1 * x19 + ((-1) * x2 + 0) ≤ 0) (f22 : (-1) * x19 + 0 ≤ 0) (f23 : 1 * x15 + ((-1) * x13 + 0) ≤ 0) (f24 : (-1) * x15 + (1 * x13 + 0) ≤ 0) (f25 : 1 * x3 + ((-1) * x15 + 0) ≤ (-1)) (f26 : (-1) * x9 + ((-1) * x15 + 0) ≤ (-2000)) (f27 : 1 * x3 + ((-1) * x13 + 0) ≤ (-1)) (f28 : (-1) * x9 + ((-1) * x13 + 0) ≤ (-2000)) (f29 : 1 * x8 + ((-1) * x2 + 0) ≤ 0) (f30 : (-1) * x8 + 0 ≤ 0) (f31 : (-1) * x4 + 0 ≤ 0) (f33 : 1 * x15 + ((-1) * x13 + 0) ≤ 0) (f34 : (-1) * x15 + (1 * x13 + 0) ≤ 0) (f35 : 1 * x3 + ((-1) * x15 + 0) ≤ (-1)) (f36 : (-1) * x9 + ((-1) * x15 + 0) ≤ (-2000)) (f37 : 1 * x3 + ((-1) * x13 + 0) ≤ (-1)) (f38 : (-1) * x9 + ((-1) * x13 + 0) ≤ (-2000)) (f39 : 1 * x8 + ((-1) * x2 + 0) ≤ 0) (f40 : (-1) * x8 + 0 ≤ 0) (f41 : (-1) * x4 + 0 ≤ 0) (f43 : 1 * x3 + ((-1) * x13 + 0) ≤ (-1)) (f44 : (-1) * x9 + ((-1) * x13 + 0) ≤ (-2000)) (f45 : x8 ≤ 0) (f46 : 1 * x8 + ((-1) * x2 + 0) ≤ 0) (f47 : (-1) * x8 + 0 ≤ 0) (f48 : (-1) * x4 + 0 ≤ 0) (f50 : 1 * x8 + ((-1) * x2 + 0) ≤ 0) (f51 : (-1) * x8 + 0 ≤ 0) (f52 : (-1) * x4 + 0 ≤ 0) (kz_0_11 : 0 ≤ pos_0 ∧ pos_0 ≤ 2000) (kz_0_12 : 0 ≤ kind_0 ∧ kind_0 ≤ 4) (kz_0_15 : 0 ≤ from_0 ∧ from_0 ≤ 2000) (ex2 : gx = 0 + (1 * x9 + 0)) (ex3 : 0 ≤ gx ∧ gx ≤ 2000) : (-1) * gx + ((-1) * pos_0 + 0) ≤ (-2001) := by
  first | assumption | (clear f16; omega) | omega | grind
def o_Mo_of_at_s5002_16 : or_T := (139, 23, [(0, (2, 0, 0, [165])), (2, (0, 99, 99, [])), (3, (0, 0, 2000, [])), (4, (0, -1, 48, [])), (5, (2, 0, 0, [165])), (7, (0, 99, 99, [])), (8, (0, -2147483648, 0, [])), (9, (0, 0, 2000, [])), (13, (0, 0, 2000, [])), (15, (0, 0, 2000, [])), (19, (0, 1, 99, [])), (22, (0, 0, 2000, []))], [(23, [3, 22], [-1, 1, -1]), (23, [9, 22], [-2001, -1, -1]), (23, [19, 7], [0, 1, -1]), (23, [19], [0, -1]), (23, [15, 13], [0, 1, -1]), (23, [15, 13], [0, -1, 1]), (23, [3, 15], [-1, 1, -1]), (23, [9, 15], [-2000, -1, -1]), (23, [3, 13], [-1, 1, -1]), (23, [9, 13], [-2000, -1, -1]), (23, [8, 7], [0, 1, -1]), (23, [8], [0, -1]), (23, [4], [0, -1]), (24, [0, 5], []), (24, [2, 7], []), (20, [5, 5], [30, 0, 1, 1, 15, -1, 1, 11]), (20, [5], [50, 3, 0, 12, 11, 15, 2, 21, 4, 7, 1, 3, 2, 0, 12, 0, 1, 0, 3, 2, 0, 11, 4, 3, 2, 0, 15, 0, 8, 3, 7, 1, 3, 2, 0, 12, 0, 0, 0, 7, 4, 3, 2, 0, 15, 0, 1, 2, 0, 11]), (20, [22, 5], [30, 0, 1, 0, 0, -1, 1, 15]), (102, [22], [0, 165011, 165012, 165013, 165014, 165015]), (23, [3, 22], [-1, 1, -1]), (23, [9, 22], [-2001, -1, -1]), (23, [19, 7], [0, 1, -1]), (23, [19], [0, -1]), (23, [15, 13], [0, 1, -1]), (23, [15, 13], [0, -1, 1]), (23, [3, 15], [-1, 1, -1]), (23, [9, 15], [-2000, -1, -1]), (23, [3, 13], [-1, 1, -1]), (23, [9, 13], [-2000, -1, -1]), (23, [8, 7], [0, 1, -1]), (23, [8], [0, -1]), (23, [4], [0, -1]), (102, [15], [0, 165008, 165009, 165011, 165012, 165013, 165014, 165015]), (23, [15, 13], [0, 1, -1]), (23, [15, 13], [0, -1, 1]), (23, [3, 15], [-1, 1, -1]), (23, [9, 15], [-2000, -1, -1]), (23, [3, 13], [-1, 1, -1]), (23, [9, 13], [-2000, -1, -1]), (23, [8, 7], [0, 1, -1]), (23, [8], [0, -1]), (23, [4], [0, -1]), (102, [13], [0, 165011, 165012, 165013, 165014, 165015]), (23, [3, 13], [-1, 1, -1]), (23, [9, 13], [-2000, -1, -1]), (8, [8], [5]), (23, [8, 7], [0, 1, -1]), (23, [8], [0, -1]), (23, [4], [0, -1]), (102, [11], [0]), (23, [8, 7], [0, 1, -1]), (23, [8], [0, -1]), (23, [4], [0, -1])], [], [(0, 0, 2000, [])], [(20, [5, 5], [30, 0, 1, 1, 15, -1, 1, 11]), (20, [5], [50, 3, 0, 12, 11, 15, 2, 21, 4, 7, 1, 3, 2, 0, 12, 0, 1, 0, 3, 2, 0, 11, 4, 3, 2, 0, 15, 0, 8, 3, 7, 1, 3, 2, 0, 12, 0, 0, 0, 7, 4, 3, 2, 0, 15, 0, 1, 2, 0, 11]), (20, [3, 5], [30, -1, 1, 0, 0, -1, 1, 11]), (23, [19, 7], [0, 1, -1]), (23, [19], [0, -1]), (23, [4], [0, -1]), (20, [23, 5], [30, -2001, -1, 0, 0, -1, 1, 11]), (24, [0, 5], []), (24, [2, 7], [])], [(23, 9, 0, 0)], [])
theorem oo_Mo_of_at_s5002_16 {kA : Nat → ClassId} : or_ok PRD kA GG o_Mo_of_at_s5002_16 := by
  refine or_mk fun A ta ws vs hD hth hl => ?_
  intro t0 r0 t2 k2 t3 k3 t4 k4 t5 r5 t7 k7 t8 k8 t9 k9 t13 k13 t15 k15 t19 k19 t22 k22 f0 f1 f2 f3 f4 f5 f6 f7 f8 f9 f10 f11 f12 f13 f14 f15 f16 f17 ta1 w1 le1 s1 f19 f20 f21 f22 f23 f24 f25 f26 f27 f28 f29 f30 f31 ta2 w2 le2 s2 f33 f34 f35 f36 f37 f38 f39 f40 f41 ta3 w3 le3 s3 f43 f44 f45 f46 f47 f48 ta4 w4 le4 s4 f50 f51 f52
  replace f0 := shm_211 f0
  replace f1 := shm_1895 f1
  replace f2 := shm_7 f2
  replace f3 := shm_1013 f3
  replace f4 := shm_7 f4
  replace f5 := shm_22 f5
  replace f6 := shm_211 f6
  replace f7 := shm_1894 f7
  replace f8 := shm_211 f8
  replace f9 := shm_1894 f9
  replace f10 := shm_7 f10
  replace f11 := shm_1013 f11
  replace f12 := shm_1013 f12
  replace f13 := shm_5 f13
  replace f14 := shm_5 f14
  replace f15 := shm_1397 f15
  replace f16 := shm_1398 f16
  replace f17 := shm_1396 f17
  replace f19 := shm_211 f19
  replace f20 := shm_1895 f20
  replace f21 := shm_7 f21
  replace f22 := shm_1013 f22
  replace f23 := shm_7 f23
  replace f24 := shm_22 f24
  replace f25 := shm_211 f25
  replace f26 := shm_1894 f26
  replace f27 := shm_211 f27
  replace f28 := shm_1894 f28
  replace f29 := shm_7 f29
  replace f30 := shm_1013 f30
  replace f31 := shm_1013 f31
  replace f33 := shm_7 f33
  replace f34 := shm_22 f34
  replace f35 := shm_211 f35
  replace f36 := shm_1894 f36
  replace f37 := shm_211 f37
  replace f38 := shm_1894 f38
  replace f39 := shm_7 f39
  replace f40 := shm_1013 f40
  replace f41 := shm_1013 f41
  replace f43 := shm_211 f43
  replace f44 := shm_1894 f44
  replace f45 := shm_142 f45
  replace f46 := shm_7 f46
  replace f47 := shm_1013 f47
  replace f48 := shm_1013 f48
  replace f50 := shm_7 f50
  replace f51 := shm_1013 f51
  replace f52 := shm_1013 f52
  have q5 : n_v vs 5 = n_v vs 0 := f13.symm
  have q7 : n_v vs 7 = n_v vs 2 := f14.symm
  simp only [q7, q5] at f2 f10 f15 f16 f17 f21 f29 f39 f46 f50
  have kz_0_11 := fdq_273 hD hth r0
  have kz_0_12 := fdq_186 hD hth r0
  have kz_0_15 := fdq_274 hD hth r0
  obtain ⟨x, ex, hx⟩ := iv_ex (ta := ta) (lo := 0) (hi := 2000) (z := 0 + (1 * v_iv (n_v vs 9) + 0)) (by omega) (by omega) (by omega) (by omega)
  have ex2 : v_iv (Value.int x) = 0 + (1 * v_iv (n_v vs 9) + 0) := ex
  have ex3 : 0 ≤ v_iv (Value.int x) ∧ v_iv (Value.int x) ≤ 2000 := tv_rng hx
  have e_0 : n_v (vs ++ [Value.int x]) 0 = n_v vs 0 := n_v_old (by rw [hl]; decide)
  have e_2 : n_v (vs ++ [Value.int x]) 2 = n_v vs 2 := n_v_old (by rw [hl]; decide)
  have e_3 : n_v (vs ++ [Value.int x]) 3 = n_v vs 3 := n_v_old (by rw [hl]; decide)
  have e_4 : n_v (vs ++ [Value.int x]) 4 = n_v vs 4 := n_v_old (by rw [hl]; decide)
  have e_5 : n_v (vs ++ [Value.int x]) 5 = n_v vs 5 := n_v_old (by rw [hl]; decide)
  have e_7 : n_v (vs ++ [Value.int x]) 7 = n_v vs 7 := n_v_old (by rw [hl]; decide)
  have e_19 : n_v (vs ++ [Value.int x]) 19 = n_v vs 19 := n_v_old (by rw [hl]; decide)
  have e_23 : n_v (vs ++ [Value.int x]) 23 = Value.int x := n_v_new hl
  have nf0 : fc_1 PRD (20, [5, 5], [30, 0, 1, 1, 15, -1, 1, 11]) ws (vs ++ [Value.int x]) := by
    refine ⟨nf_inA hl rfl, sgq_1397 ?_⟩
    · show 1 * w_fi ws (n_v (vs ++ [Value.int x]) 5) 15 + ((-1) * w_fi ws (n_v (vs ++ [Value.int x]) 5) 11 + 0) ≤ 0
      simp only [e_5, q5]
      exact vc_Mo_of_at_s5002_16_0 (v_iv (n_v vs 2)) (v_iv (n_v vs 3)) (v_iv (n_v vs 4)) (v_iv (n_v vs 7)) (v_iv (n_v vs 8)) (v_iv (n_v vs 9)) (v_iv (n_v vs 13)) (v_iv (n_v vs 15)) (v_iv (n_v vs 19)) (v_iv (n_v vs 22)) (w_fi ws (n_v vs 0) 15) (w_fi ws (n_v vs 0) 11) (w_fi ws (n_v vs 0) 12) (v_iv (Value.int x)) k2 k3 k4 k7 k8 k9 k13 k15 k19 k22 f0 f1 f2 f3 f4 f5 f6 f7 f8 f9 f10 f11 f12 f15 f16 f17 f19 f20 f21 f22 f23 f24 f25 f26 f27 f28 f29 f30 f31 f33 f34 f35 f36 f37 f38 f39 f40 f41 f43 f44 f45 f46 f47 f48 f50 f51 f52 kz_0_11 kz_0_12 kz_0_15 ex2 ex3
  have nf1 : fc_1 PRD (20, [5], [50, 3, 0, 12, 11, 15, 2, 21, 4, 7, 1, 3, 2, 0, 12, 0, 1, 0, 3, 2, 0, 11, 4, 3, 2, 0, 15, 0, 8, 3, 7, 1, 3, 2, 0, 12, 0, 0, 0, 7, 4, 3, 2, 0, 15, 0, 1, 2, 0, 11]) ws (vs ++ [Value.int x]) := by
    refine ⟨nf_inA hl rfl, sgq_1398 ?_⟩
    · show ((w_fi ws (n_v (vs ++ [Value.int x]) 5) 12 = 1) → (w_fi ws (n_v (vs ++ [Value.int x]) 5) 11 ≤ (w_fi ws (n_v (vs ++ [Value.int x]) 5) 15 + 8))) ∧ ((w_fi ws (n_v (vs ++ [Value.int x]) 5) 12 = 0) ∨ ((w_fi ws (n_v (vs ++ [Value.int x]) 5) 15 + 1) ≤ w_fi ws (n_v (vs ++ [Value.int x]) 5) 11))
      simp only [e_5, q5]
      exact vc_Mo_of_at_s5002_16_1 (v_iv (n_v vs 2)) (v_iv (n_v vs 3)) (v_iv (n_v vs 4)) (v_iv (n_v vs 7)) (v_iv (n_v vs 8)) (v_iv (n_v vs 9)) (v_iv (n_v vs 13)) (v_iv (n_v vs 15)) (v_iv (n_v vs 19)) (v_iv (n_v vs 22)) (w_fi ws (n_v vs 0) 15) (w_fi ws (n_v vs 0) 11) (w_fi ws (n_v vs 0) 12) (v_iv (Value.int x)) k2 k3 k4 k7 k8 k9 k13 k15 k19 k22 f0 f1 f2 f3 f4 f5 f6 f7 f8 f9 f10 f11 f12 f15 f16 f17 f19 f20 f21 f22 f23 f24 f25 f26 f27 f28 f29 f30 f31 f33 f34 f35 f36 f37 f38 f39 f40 f41 f43 f44 f45 f46 f47 f48 f50 f51 f52 kz_0_11 kz_0_12 kz_0_15 ex2 ex3
  have nf2 : fc_1 PRD (20, [3, 5], [30, -1, 1, 0, 0, -1, 1, 11]) ws (vs ++ [Value.int x]) := by
    refine ⟨nf_inA hl rfl, sgq_1891 ?_⟩
    · show 1 * v_iv (n_v (vs ++ [Value.int x]) 3) + ((-1) * w_fi ws (n_v (vs ++ [Value.int x]) 5) 11 + 0) ≤ (-1)
      simp only [e_3, e_5, q5]
      exact vc_Mo_of_at_s5002_16_2 (v_iv (n_v vs 2)) (v_iv (n_v vs 3)) (v_iv (n_v vs 4)) (v_iv (n_v vs 7)) (v_iv (n_v vs 8)) (v_iv (n_v vs 9)) (v_iv (n_v vs 13)) (v_iv (n_v vs 15)) (v_iv (n_v vs 19)) (v_iv (n_v vs 22)) (w_fi ws (n_v vs 0) 15) (w_fi ws (n_v vs 0) 11) (w_fi ws (n_v vs 0) 12) (v_iv (Value.int x)) k2 k3 k4 k7 k8 k9 k13 k15 k19 k22 f0 f1 f2 f3 f4 f5 f6 f7 f8 f9 f10 f11 f12 f15 f16 f17 f19 f20 f21 f22 f23 f24 f25 f26 f27 f28 f29 f30 f31 f33 f34 f35 f36 f37 f38 f39 f40 f41 f43 f44 f45 f46 f47 f48 f50 f51 f52 kz_0_11 kz_0_12 kz_0_15 ex2 ex3
  have nf3 : fc_1 PRD (23, [19, 7], [0, 1, -1]) ws (vs ++ [Value.int x]) := by
    refine ⟨nf_inA hl rfl, sgq_7 ?_⟩
    · show 1 * v_iv (n_v (vs ++ [Value.int x]) 19) + ((-1) * v_iv (n_v (vs ++ [Value.int x]) 7) + 0) ≤ 0
      simp only [e_7, e_19, q7]
      exact vc_Mo_of_at_s5002_16_3 (v_iv (n_v vs 2)) (v_iv (n_v vs 3)) (v_iv (n_v vs 4)) (v_iv (n_v vs 7)) (v_iv (n_v vs 8)) (v_iv (n_v vs 9)) (v_iv (n_v vs 13)) (v_iv (n_v vs 15)) (v_iv (n_v vs 19)) (v_iv (n_v vs 22)) (w_fi ws (n_v vs 0) 15) (w_fi ws (n_v vs 0) 11) (w_fi ws (n_v vs 0) 12) (v_iv (Value.int x)) k2 k3 k4 k7 k8 k9 k13 k15 k19 k22 f0 f1 f2 f3 f4 f5 f6 f7 f8 f9 f10 f11 f12 f15 f16 f17 f19 f20 f21 f22 f23 f24 f25 f26 f27 f28 f29 f30 f31 f33 f34 f35 f36 f37 f38 f39 f40 f41 f43 f44 f45 f46 f47 f48 f50 f51 f52 kz_0_11 kz_0_12 kz_0_15 ex2 ex3
  have nf4 : fc_1 PRD (23, [19], [0, -1]) ws (vs ++ [Value.int x]) := by
    refine ⟨nf_inA hl rfl, sgq_1013 ?_⟩
    · show (-1) * v_iv (n_v (vs ++ [Value.int x]) 19) + 0 ≤ 0
      rw [e_19]
      exact vc_Mo_of_at_s5002_16_4 (v_iv (n_v vs 2)) (v_iv (n_v vs 3)) (v_iv (n_v vs 4)) (v_iv (n_v vs 7)) (v_iv (n_v vs 8)) (v_iv (n_v vs 9)) (v_iv (n_v vs 13)) (v_iv (n_v vs 15)) (v_iv (n_v vs 19)) (v_iv (n_v vs 22)) (w_fi ws (n_v vs 0) 15) (w_fi ws (n_v vs 0) 11) (w_fi ws (n_v vs 0) 12) (v_iv (Value.int x)) k2 k3 k4 k7 k8 k9 k13 k15 k19 k22 f0 f1 f2 f3 f4 f5 f6 f7 f8 f9 f10 f11 f12 f15 f16 f17 f19 f20 f21 f22 f23 f24 f25 f26 f27 f28 f29 f30 f31 f33 f34 f35 f36 f37 f38 f39 f40 f41 f43 f44 f45 f46 f47 f48 f50 f51 f52 kz_0_11 kz_0_12 kz_0_15 ex2 ex3
  have nf5 : fc_1 PRD (23, [4], [0, -1]) ws (vs ++ [Value.int x]) := by
    refine ⟨nf_inA hl rfl, sgq_1013 ?_⟩
    · show (-1) * v_iv (n_v (vs ++ [Value.int x]) 4) + 0 ≤ 0
      rw [e_4]
      exact vc_Mo_of_at_s5002_16_5 (v_iv (n_v vs 2)) (v_iv (n_v vs 3)) (v_iv (n_v vs 4)) (v_iv (n_v vs 7)) (v_iv (n_v vs 8)) (v_iv (n_v vs 9)) (v_iv (n_v vs 13)) (v_iv (n_v vs 15)) (v_iv (n_v vs 19)) (v_iv (n_v vs 22)) (w_fi ws (n_v vs 0) 15) (w_fi ws (n_v vs 0) 11) (w_fi ws (n_v vs 0) 12) (v_iv (Value.int x)) k2 k3 k4 k7 k8 k9 k13 k15 k19 k22 f0 f1 f2 f3 f4 f5 f6 f7 f8 f9 f10 f11 f12 f15 f16 f17 f19 f20 f21 f22 f23 f24 f25 f26 f27 f28 f29 f30 f31 f33 f34 f35 f36 f37 f38 f39 f40 f41 f43 f44 f45 f46 f47 f48 f50 f51 f52 kz_0_11 kz_0_12 kz_0_15 ex2 ex3
  have nf6 : fc_1 PRD (20, [23, 5], [30, -2001, -1, 0, 0, -1, 1, 11]) ws (vs ++ [Value.int x]) := by
    refine ⟨nf_inA hl rfl, sgq_1896 ?_⟩
    · show (-1) * v_iv (n_v (vs ++ [Value.int x]) 23) + ((-1) * w_fi ws (n_v (vs ++ [Value.int x]) 5) 11 + 0) ≤ (-2001)
      simp only [e_5, e_23, q5]
      exact vc_Mo_of_at_s5002_16_6 (v_iv (n_v vs 2)) (v_iv (n_v vs 3)) (v_iv (n_v vs 4)) (v_iv (n_v vs 7)) (v_iv (n_v vs 8)) (v_iv (n_v vs 9)) (v_iv (n_v vs 13)) (v_iv (n_v vs 15)) (v_iv (n_v vs 19)) (v_iv (n_v vs 22)) (w_fi ws (n_v vs 0) 15) (w_fi ws (n_v vs 0) 11) (w_fi ws (n_v vs 0) 12) (v_iv (Value.int x)) k2 k3 k4 k7 k8 k9 k13 k15 k19 k22 f0 f1 f2 f3 f4 f5 f6 f7 f8 f9 f10 f11 f12 f15 f16 f17 f19 f20 f21 f22 f23 f24 f25 f26 f27 f28 f29 f30 f31 f33 f34 f35 f36 f37 f38 f39 f40 f41 f43 f44 f45 f46 f47 f48 f50 f51 f52 kz_0_11 kz_0_12 kz_0_15 ex2 ex3
  have nf7 : fc_1 PRD (24, [0, 5], []) ws (vs ++ [Value.int x]) := by
    refine ⟨nf_inA hl rfl, sgq_5 ?_⟩
    · show n_v (vs ++ [Value.int x]) 0 = n_v (vs ++ [Value.int x]) 5
      first | rfl | simp only [e_0, e_5, q5, q7]
  have nf8 : fc_1 PRD (24, [2, 7], []) ws (vs ++ [Value.int x]) := by
    refine ⟨nf_inA hl rfl, sgq_5 ?_⟩
    · show n_v (vs ++ [Value.int x]) 2 = n_v (vs ++ [Value.int x]) 7
      first | rfl | simp only [e_2, e_7, q5, q7]
  obtain ⟨x0, e0, _, _⟩ := tv_int t9 rfl
  have e1 : v_iv (n_v vs 9) = x0.toInt := by rw [e0]; rfl
  have ho : sy_ofs (vs ++ [Value.int x]) (23, 9, 0, 0) := by
    refine ⟨x, x0, by rw [List.getElem?_append_right (by rw [hl]; decide), hl]; rfl, ?_, ?_, ?_⟩
    · rw [List.getElem?_append_left (by rw [hl]; decide)]; exact n_v_some (by rw [hl]; decide) e0
    · show x0.toInt + 0 ≤ x.toInt; omega
    · show x.toInt ≤ x0.toInt + 0; omega
  exact ⟨(fun _ h => (by cases h)), [Value.int x], ag_one hx, List.forall_mem_cons.mpr ⟨⟨show (20 : Nat) < 100 from by decide, nf0⟩, List.forall_mem_cons.mpr ⟨⟨show (20 : Nat) < 100 from by decide, nf1⟩, List.forall_mem_cons.mpr ⟨⟨show (20 : Nat) < 100 from by decide, nf2⟩, List.forall_mem_cons.mpr ⟨⟨show (23 : Nat) < 100 from by decide, nf3⟩, List.forall_mem_cons.mpr ⟨⟨show (23 : Nat) < 100 from by decide, nf4⟩, List.forall_mem_cons.mpr ⟨⟨show (23 : Nat) < 100 from by decide, nf5⟩, List.forall_mem_cons.mpr ⟨⟨show (20 : Nat) < 100 from by decide, nf6⟩, List.forall_mem_cons.mpr ⟨⟨show (24 : Nat) < 100 from by decide, nf7⟩, List.forall_mem_cons.mpr ⟨⟨show (24 : Nat) < 100 from by decide, nf8⟩, (fun _ h => (by cases h))⟩⟩⟩⟩⟩⟩⟩⟩⟩, List.forall_mem_cons.mpr ⟨ho, (fun _ h => (by cases h))⟩⟩
set_option maxHeartbeats 4000000 in
theorem vc_Mo_of_at_s5002_17_0 (x2 : Int) (x3 : Int) (x4 : Int) (x7 : Int) (x9 : Int) (x13 : Int) (x15 : Int) (x21 : Int) (x22 : Int) (fault_0 : Int) (from_0 : Int) (pos_0 : Int) (kind_0 : Int) (k2 : 99 ≤ x2 ∧ x2 ≤ 99) (k3 : 0 ≤ x3 ∧ x3 ≤ 2000) (k4 : (-1) ≤ x4 ∧ x4 ≤ 48) (k7 : 99 ≤ x7 ∧ x7 ≤ 99) (k9 : 0 ≤ x9 ∧ x9 ≤ 2000) (k13 : 0 ≤ x13 ∧ x13 ≤ 2000) (k15 : 0 ≤ x15 ∧ x15 ≤ 2000) (k21 : 1 ≤ x21 ∧ x21 ≤ 5) (k22 : 0 ≤ x22 ∧ x22 ≤ 0) (f0 : 0 < x21) (g1 : x21 = fault_0) (f2 : x21 ≠ 0) (f3 : 1 * x15 + ((-1) * x13 + 0) ≤ 0) (f4 : (-1) * x15 + (1 * x13 + 0) ≤ 0) (f5 : 1 * x3 + ((-1) * x15 + 0) ≤ (-1)) (f6 : (-1) * x9 + ((-1) * x15 + 0) ≤ (-2000)) (f7 : 1 * x3 + ((-1) * x13 + 0) ≤ (-1)) (f8 : (-1) * x9 + ((-1) * x13 + 0) ≤ (-2000)) (f9 : (-1) * x4 + 0 ≤ 0) (f12 : 1 * from_0 + ((-1) * pos_0 + 0) ≤ 0) (f13 : ((kind_0 = 1) → (pos_0 ≤ (from_0 + 8))) ∧ ((kind_0 = 0) ∨ ((from_0 + 1) ≤ pos_0))) (f14 : 1 * x15 + ((-1) * pos_0 + 0) ≤ 0) (f15 : (-1) * fault_0 + 0 ≤ (-1)) (f17 : 1 * x15 + ((-1) * x13 + 0) ≤ 0) (f18 : (-1) * x15 + (1 * x13 + 0) ≤ 0) (f19 : 1 * x3 + ((-1) * x15 + 0) ≤ (-1)) (f20 : (-1) * x9 + ((-1) * x15 + 0) ≤ (-2000)) (f21 : 1 * x3 + ((-1) * x13 + 0) ≤ (-1)) (f22 : (-1) * x9 + ((-1) * x13 + 0) ≤ (-2000)) (f23 : (-1) * x4 + 0 ≤ 0) (f25 : 1 * x15 + ((-1) * x13 + 0) ≤ 0) (f26 : (-1) * x15 + (1 * x13 + 0) ≤ 0) (f27 : 1 * x3 + ((-1) * x15 + 0) ≤ (-1)) (f28 : (-1) * x9 + ((-1) * x15 + 0) ≤ (-2000)) (f29 : 1 * x3 + ((-1) * x13 + 0) ≤ (-1)) (f30 : (-1) * x9 + ((-1) * x13 + 0) ≤ (-2000)) (f31 : (-1) * x4 + 0 ≤ 0) (f33 : 1 * x3 + ((-1) * x13 + 0) ≤ (-1)) (f34 : (-1) * x9 + ((-1) * x13 + 0) ≤ (-2000)) (f35 : (-1) * x4 + 0 ≤ 0) (f37 : (-1) * x4 + 0 ≤ 0) (kz_0_8 : 0 ≤ fault_0 ∧ fault_0 ≤ 5) (kz_0_11 : 0 ≤ pos_0 ∧ pos_0 ≤ 2000) (kz_0_12 : 0 ≤ kind_0 ∧ kind_0 ≤ 4) (kz_0_15 : 0 ≤ from_0 ∧ from_0 ≤ 2000) : 1 * from_0 + ((-1) * pos_0 + 0) ≤ 0 := by
  first | assumption | (clear f13; omega) | omega | grind
set_option maxHeartbeats 4000000 in
theorem vc_Mo_of_at_s5002_17_1 (x2 : Int) (x3 : Int) (x4 : Int) (x7 : Int) (x9 : Int) (x13 : Int) (x15 : Int) (x21 : Int) (x22 : Int) (fault_0 : Int) (from_0 : Int) (pos_0 : Int) (kind_0 : Int) (k2 : 99 ≤ x2 ∧ x2 ≤ 99) (k3 : 0 ≤ x3 ∧ x3 ≤ 2000) (k4 : (-1) ≤ x4 ∧ x4 ≤ 48) (k7 : 99 ≤ x7 ∧ x7 ≤ 99) (k9 : 0 ≤ x9 ∧ x9 ≤ 2000) (k13 : 0 ≤ x13 ∧ x13 ≤ 2000) (k15 : 0 ≤ x15 ∧ x15 ≤ 2000) (k21 : 1 ≤ x21 ∧ x21 ≤ 5) (k22 : 0 ≤ x22 ∧ x22 ≤ 0) (f0 : 0 < x21) (g1 : x21 = fault_0) (f2 : x21 ≠ 0) (f3 : 1 * x15 + ((-1) * x13 + 0) ≤ 0) (f4 : (-1) * x15 + (1 * x13 + 0) ≤ 0) (f5 : 1 * x3 + ((-1) * x15 + 0) ≤ (-1)) (f6 : (-1) * x9 + ((-1) * x15 + 0) ≤ (-2000)) (f7 : 1 * x3 + ((-1) * x13 + 0) ≤ (-1)) (f8 : (-1) * x9 + ((-1) * x13 + 0) ≤ (-2000)) (f9 : (-1) * x4 + 0 ≤ 0) (f12 : 1 * from_0 + ((-1) * pos_0 + 0) ≤ 0) (f13 : ((kind_0 = 1) → (pos_0 ≤ (from_0 + 8))) ∧ ((kind_0 = 0) ∨ ((from_0 + 1) ≤ pos_0))) (f14 : 1 * x15 + ((-1) * pos_0 + 0) ≤ 0) (f15 : (-1) * fault_0 + 0 ≤ (-1)) (f17 : 1 * x15 + ((-1) * x13 + 0) ≤ 0) (f18 : (-1) * x15 + (1 * x13 + 0) ≤ 0) (f19 : 1 * x3 + ((-1) * x15 + 0) ≤ (-1)) (f20 : (-1) * x9 + ((-1) * x15 + 0) ≤ (-2000)) (f21 : 1 * x3 + ((-1) * x13 + 0) ≤ (-1)) (f22 : (-1) * x9 + ((-1) * x13 + 0) ≤ (-2000)) (f23 : (-1) * x4 + 0 ≤ 0) (f25 : 1 * x15 + ((-1) * x13 + 0) ≤ 0) (f26 : (-1) * x15 + (1 * x13 + 0) ≤ 0) (f27 : 1 * x3 + ((-1) * x15 + 0) ≤ (-1)) (f28 : (-1) * x9 + ((-1) * x15 + 0) ≤ (-2000)) (f29 : 1 * x3 + ((-1) * x13 + 0) ≤ (-1)) (f30 : (-1) * x9 + ((-1) * x13 + 0) ≤ (-2000)) (f31 : (-1) * x4 + 0 ≤ 0) (f33 : 1 * x3 + ((-1) * x13 + 0) ≤ (-1)) (f34 : (-1) * x9 + ((-1) * x13 + 0) ≤ (-2000)) (f35 : (-1) * x4 + 0 ≤ 0) (f37 : (-1) * x4 + 0 ≤ 0) (kz_0_8 : 0 ≤ fault_0 ∧ fault_0 ≤ 5) (kz_0_11 : 0 ≤ pos_0 ∧ pos_0 ≤ 2000) (kz_0_12 : 0 ≤ kind_0 ∧ kind_0 ≤ 4) (kz_0_15 : 0 ≤ from_0 ∧ from_0 ≤ 2000) : ((kind_0 = 1) → (pos_0 ≤ (from_0 + 8))) ∧ ((kind_0 = 0) ∨ ((from_0 + 1) ≤ pos_0)) := by
  first | assumption | (clear f13; omega) | omega | grind
set_option maxHeartbeats 4000000 in
theorem vc_Mo_of_at_s5002_17_2 (x2 : Int) (x3 : Int) (x4 : Int) (x7 : Int) (x9 : Int) (x13 : Int) (x15 : Int) (x21 : Int) (x22 : Int) (fault_0 : Int) (from_0 : Int) (pos_0 : Int) (kind_0 : Int) (k2 : 99 ≤ x2 ∧ x2 ≤ 99) (k3 : 0 ≤ x3 ∧ x3 ≤ 2000) (k4 : (-1) ≤ x4 ∧ x4 ≤ 48) (k7 : 99 ≤ x7 ∧ x7 ≤ 99) (k9 : 0 ≤ x9 ∧ x9 ≤ 2000) (k13 : 0 ≤ x13 ∧ x13 ≤ 2000) (k15 : 0 ≤ x15 ∧ x15 ≤ 2000) (k21 : 1 ≤ x21 ∧ x21 ≤ 5) (k22 : 0 ≤ x22 ∧ x22 ≤ 0) (f0 : 0 < x21) (g1 : x21 = fault_0) (f2 : x21 ≠ 0) (f3 : 1 * x15 + ((-1) * x13 + 0) ≤ 0) (f4 : (-1) * x15 + (1 * x13 + 0) ≤ 0) (f5 : 1 * x3 + ((-1) * x15 + 0) ≤ (-1)) (f6 : (-1) * x9 + ((-1) * x15 + 0) ≤ (-2000)) (f7 : 1 * x3 + ((-1) * x13 + 0) ≤ (-1)) (f8 : (-1) * x9 + ((-1) * x13 + 0) ≤ (-2000)) (f9 : (-1) * x4 + 0 ≤ 0) (f12 : 1 * from_0 + ((-1) * pos_0 + 0) ≤ 0) (f13 : ((kind_0 = 1) → (pos_0 ≤ (from_0 + 8))) ∧ ((kind_0 = 0) ∨ ((from_0 + 1) ≤ pos_0))) (f14 : 1 * x15 + ((-1) * pos_0 + 0) ≤ 0) (f15 : (-1) * fault_0 + 0 ≤ (-1)) (f17 : 1 * x15 + ((-1) * x13 + 0) ≤ 0) (f18 : (-1) * x15 + (1 * x13 + 0) ≤ 0) (f19 : 1 * x3 + ((-1) * x15 + 0) ≤ (-1)) (f20 : (-1) * x9 + ((-1) * x15 + 0) ≤ (-2000)) (f21 : 1 * x3 + ((-1) * x13 + 0) ≤ (-1)) (f22 : (-1) * x9 + ((-1) * x13 + 0) ≤ (-2000)) (f23 : (-1) * x4 + 0 ≤ 0) (f25 : 1 * x15 + ((-1) * x13 + 0) ≤ 0) (f26 : (-1) * x15 + (1 * x13 + 0) ≤ 0) (f27 : 1 * x3 + ((-1) * x15 + 0) ≤ (-1)) (f28 : (-1) * x9 + ((-1) * x15 + 0) ≤ (-2000)) (f29 : 1 * x3 + ((-1) * x13 + 0) ≤ (-1)) (f30 : (-1) * x9 + ((-1) * x13 + 0) ≤ (-2000)) (f31 : (-1) * x4 + 0 ≤ 0) (f33 : 1 * x3 + ((-1) * x13 + 0) ≤ (-1)) (f34 : (-1) * x9 + ((-1) * x13 + 0) ≤ (-2000)) (f35 : (-1) * x4 + 0 ≤ 0) (f37 : (-1) * x4 + 0 ≤ 0) (kz_0_8 : 0 ≤ fault_0 ∧ fault_0 ≤ 5) (kz_0_11 : 0 ≤ pos_0 ∧ pos_0 ≤ 2000) (kz_0_12 : 0 ≤ kind_0 ∧ kind_0 ≤ 4) (kz_0_15 : 0 ≤ from_0 ∧ from_0 ≤ 2000) : 1 * x3 + ((-1) * pos_0 + 0) ≤ 0 := by
  first | assumption | (clear f13; omega) | omega | grind
set_option maxHeartbeats 4000000 in
theorem vc_Mo_of_at_s5002_17_3 (x2 : Int) (x3 : Int) (x4 : Int) (x7 : Int) (x9 : Int) (x13 : Int) (x15 : Int) (x21 : Int) (x22 : Int) (fault_0 : Int) (from_0 : Int) (pos_0 : Int) (kind_0 : Int) (k2 : 99 ≤ x2 ∧ x2 ≤ 99) (k3 : 0 ≤ x3 ∧ x3 ≤ 2000) (k4 : (-1) ≤ x4 ∧ x4 ≤ 48) (k7 : 99 ≤ x7 ∧ x7 ≤ 99) (k9 : 0 ≤ x9 ∧ x9 ≤ 2000) (k13 : 0 ≤ x13 ∧ x13 ≤ 2000) (k15 : 0 ≤ x15 ∧ x15 ≤ 2000) (k21 : 1 ≤ x21 ∧ x21 ≤ 5) (k22 : 0 ≤ x22 ∧ x22 ≤ 0) (f0 : 0 < x21) (g1 : x21 = fault_0) (f2 : x21 ≠ 0) (f3 : 1 * x15 + ((-1) * x13 + 0) ≤ 0) (f4 : (-1) * x15 + (1 * x13 + 0) ≤ 0) (f5 : 1 * x3 + ((-1) * x15 + 0) ≤ (-1)) (f6 : (-1) * x9 + ((-1) * x15 + 0) ≤ (-2000)) (f7 : 1 * x3 + ((-1) * x13 + 0) ≤ (-1)) (f8 : (-1) * x9 + ((-1) * x13 + 0) ≤ (-2000)) (f9 : (-1) * x4 + 0 ≤ 0) (f12 : 1 * from_0 + ((-1) * pos_0 + 0) ≤ 0) (f13 : ((kind_0 = 1) → (pos_0 ≤ (from_0 + 8))) ∧ ((kind_0 = 0) ∨ ((from_0 + 1) ≤ pos_0))) (f14 : 1 * x15 + ((-1) * pos_0 + 0) ≤ 0) (f15 : (-1) * fault_0 + 0 ≤ (-1)) (f17 : 1 * x15 + ((-1) * x13 + 0) ≤ 0) (f18 : (-1) * x15 + (1 * x13 + 0) ≤ 0) (f19 : 1 * x3 + ((-1) * x15 + 0) ≤ (-1)) (f20 : (-1) * x9 + ((-1) * x15 + 0) ≤ (-2000)) (f21 : 1 * x3 + ((-1) * x13 + 0) ≤ (-1)) (f22 : (-1) * x9 + ((-1) * x13 + 0) ≤ (-2000)) (f23 : (-1) * x4 + 0 ≤ 0) (f25 : 1 * x15 + ((-1) * x13 + 0) ≤ 0) (f26 : (-1) * x15 + (1 * x13 + 0) ≤ 0) (f27 : 1 * x3 + ((-1) * x15 + 0) ≤ (-1)) (f28 : (-1) * x9 + ((-1) * x15 + 0) ≤ (-2000)) (f29 : 1 * x3 + ((-1) * x13 + 0) ≤ (-1)) (f30 : (-1) * x9 + ((-1) * x13 + 0) ≤ (-2000)) (f31 : (-1) * x4 + 0 ≤ 0) (f33 : 1 * x3 + ((-1) * x13 + 0) ≤ (-1)) (f34 : (-1) * x9 + ((-1) * x13 + 0) ≤ (-2000)) (f35 : (-1) * x4 + 0 ≤ 0) (f37 : (-1) * x4 + 0 ≤ 0) (kz_0_8 : 0 ≤ fault_0 ∧ fault_0 ≤ 5) (kz_0_11 : 0 ≤ pos_0 ∧ pos_0 ≤ 2000) (kz_0_12 : 0 ≤ kind_0 ∧ kind_0 ≤ 4) (kz_0_15 : 0 ≤ from_0 ∧ from_0 ≤ 2000) : (1 ≤ fault_0) ∨ ((kind_0 = 0) ∨ ((x3 + 1) ≤ pos_0)) := by
  first | assumption | (clear f13; omega) | omega | grind
set_option maxHeartbeats 4000000 in
theorem vc_Mo_of_at_s5002_17_4 (x2 : Int) (x3 : Int) (x4 : Int) (x7 : Int) (x9 : Int) (x13 : Int) (x15 : Int) (x21 : Int) (x22 : Int) (fault_0 : Int) (from_0 : Int) (pos_0 : Int) (kind_0 : Int) (k2 : 99 ≤ x2 ∧ x2 ≤ 99) (k3 : 0 ≤ x3 ∧ x3 ≤ 2000) (k4 : (-1) ≤ x4 ∧ x4 ≤ 48) (k7 : 99 ≤ x7 ∧ x7 ≤ 99) (k9 : 0 ≤ x9 ∧ x9 ≤ 2000) (k13 : 0 ≤ x13 ∧ x13 ≤ 2000) (k15 : 0 ≤ x15 ∧ x15 ≤ 2000) (k21 : 1 ≤ x21 ∧ x21 ≤ 5) (k22 : 0 ≤ x22 ∧ x22 ≤ 0) (f0 : 0 < x21) (g1 : x21 = fault_0) (f2 : x21 ≠ 0) (f3 : 1 * x15 + ((-1) * x13 + 0) ≤ 0) (f4 : (-1) * x15 + (1 * x13 + 0) ≤ 0) (f5 : 1 * x3 + ((-1) * x15 + 0) ≤ (-1)) (f6 : (-1) * x9 + ((-1) * x15 + 0) ≤ (-2000)) (f7 : 1 * x3 + ((-1) * x13 + 0) ≤ (-1)) (f8 : (-1) * x9 + ((-1) * x13 + 0) ≤ (-2000)) (f9 : (-1) * x4 + 0 ≤ 0) (f12 : 1 * from_0 + ((-1) * pos_0 + 0) ≤ 0) (f13 : ((kind_0 = 1) → (pos_0 ≤ (from_0 + 8))) ∧ ((kind_0 = 0) ∨ ((from_0 + 1) ≤ pos_0))) (f14 : 1 * x15 + ((-1) * pos_0 + 0) ≤ 0) (f15 : (-1) * fault_0 + 0 ≤ (-1)) (f17 : 1 * x15 + ((-1) * x13 + 0) ≤ 0) (f18 : (-1) * x15 + (1 * x13 + 0) ≤ 0) (f19 : 1 * x3 + ((-1) * x15 + 0) ≤ (-1)) (f20 : (-1) * x9 + ((-1) * x15 + 0) ≤ (-2000)) (f21 : 1 * x3 + ((-1) * x13 + 0) ≤ (-1)) (f22 : (-1) * x9 + ((-1) * x13 + 0) ≤ (-2000)) (f23 : (-1) * x4 + 0 ≤ 0) (f25 : 1 * x15 + ((-1) * x13 + 0) ≤ 0) (f26 : (-1) * x15 + (1 * x13 + 0) ≤ 0) (f27 : 1 * x3 + ((-1) * x15 + 0) ≤ (-1)) (f28 : (-1) * x9 + ((-1) * x15 + 0) ≤ (-2000)) (f29 : 1 * x3 + ((-1) * x13 + 0) ≤ (-1)) (f30 : (-1) * x9 + ((-1) * x13 + 0) ≤ (-2000)) (f31 : (-1) * x4 + 0 ≤ 0) (f33 : 1 * x3 + ((-1) * x13 + 0) ≤ (-1)) (f34 : (-1) * x9 + ((-1) * x13 + 0) ≤ (-2000)) (f35 : (-1) * x4 + 0 ≤ 0) (f37 : (-1) * x4 + 0 ≤ 0) (kz_0_8 : 0 ≤ fault_0 ∧ fault_0 ≤ 5) (kz_0_11 : 0 ≤ pos_0 ∧ pos_0 ≤ 2000) (kz_0_12 : 0 ≤ kind_0 ∧ kind_0 ≤ 4) (kz_0_15 : 0 ≤ from_0 ∧ from_0 ≤ 2000) : (1 ≤ fault_0) ∨ (0 ≤ x4) := by
  first | assumption | (clear f13; omega) | omega | grind
set_option maxHeartbeats 4000000 in
theorem vc_Mo_of_at_s5002_17_5 (x2 : Int) (x3 : Int) (x4 : Int) (x7 : Int) (x9 : Int) (x13 : Int) (x15 : Int) (x21 : Int) (x22 : Int) (fault_0 : Int) (from_0 : Int) (pos_0 : Int) (kind_0 : Int) (k2 : 99 ≤ x2 ∧ x2 ≤ 99) (k3 : 0 ≤ x3 ∧ x3 ≤ 2000) (k4 : (-1) ≤ x4 ∧ x4 ≤ 48) (k7 : 99 ≤ x7 ∧ x7 ≤ 99) (k9 : 0 ≤ x9 ∧ x9 ≤ 2000) (k13 : 0 ≤ x13 ∧ x13 ≤ 2000) (k15 : 0 ≤ x15 ∧ x15 ≤ 2000) (k21 : 1 ≤ x21 ∧ x21 ≤ 5) (k22 : 0 ≤ x22 ∧ x22 ≤ 0) (f0 : 0 < x21) (g1 : x21 = fault_0) (f2 : x21 ≠ 0) (f3 : 1 * x15 + ((-1) * x13 + 0) ≤ 0) (f4 : (-1) * x15 + (1 * x13 + 0) ≤ 0) (f5 : 1 * x3 + ((-1) * x15 + 0) ≤ (-1)) (f6 : (-1) * x9 + ((-1) * x15 + 0) ≤ (-2000)) (f7 : 1 * x3 + ((-1) * x13 + 0) ≤ (-1)) (f8 : (-1) * x9 + ((-1) * x13 + 0) ≤ (-2000)) (f9 : (-1) * x4 + 0 ≤ 0) (f12 : 1 * from_0 + ((-1) * pos_0 + 0) ≤ 0) (f13 : ((kind_0 = 1) → (pos_0 ≤ (from_0 + 8))) ∧ ((kind_0 = 0) ∨ ((from_0 + 1) ≤ pos_0))) (f14 : 1 * x15 + ((-1) * pos_0 + 0) ≤ 0) (f15 : (-1) * fault_0 + 0 ≤ (-1)) (f17 : 1 * x15 + ((-1) * x13 + 0) ≤ 0) (f18 : (-1) * x15 + (1 * x13 + 0) ≤ 0) (f19 : 1 * x3 + ((-1) * x15 + 0) ≤ (-1)) (f20 : (-1) * x9 + ((-1) * x15 + 0) ≤ (-2000)) (f21 : 1 * x3 + ((-1) * x13 + 0) ≤ (-1)) (f22 : (-1) * x9 + ((-1) * x13 + 0) ≤ (-2000)) (f23 : (-1) * x4 + 0 ≤ 0) (f25 : 1 * x15 + ((-1) * x13 + 0) ≤ 0) (f26 : (-1) * x15 + (1 * x13 + 0) ≤ 0) (f27 : 1 * x3 + ((-1) * x15 + 0) ≤ (-1)) (f28 : (-1) * x9 + ((-1) * x15 + 0) ≤ (-2000)) (f29 : 1 * x3 + ((-1) * x13 + 0) ≤ (-1)) (f30 : (-1) * x9 + ((-1) * x13 + 0) ≤ (-2000)) (f31 : (-1) * x4 + 0 ≤ 0) (f33 : 1 * x3 + ((-1) * x13 + 0) ≤ (-1)) (f34 : (-1) * x9 + ((-1) * x13 + 0) ≤ (-2000)) (f35 : (-1) * x4 + 0 ≤ 0) (f37 : (-1) * x4 + 0 ≤ 0) (kz_0_8 : 0 ≤ fault_0 ∧ fault_0 ≤ 5) (kz_0_11 : 0 ≤ pos_0 ∧ pos_0 ≤ 2000) (kz_0_12 : 0 ≤ kind_0 ∧ kind_0 ≤ 4) (kz_0_15 : 0 ≤ from_0 ∧ from_0 ≤ 2000) : 1 * x22 + ((-1) * x2 + 0) ≤ 0 := by
  first | assumption | (clear f13; omega) | omega | grind
set_option maxHeartbeats 4000000 in
theorem vc_Mo_of_at_s5002_17_6 (x2 : Int) (x3 : Int) (x4 : Int) (x7 : Int) (x9 : Int) (x13 : Int) (x15 : Int) (x21 : Int) (x22 : Int) (fault_0 : Int) (from_0 : Int) (pos_0 : Int) (kind_0 : Int) (k2 : 99 ≤ x2 ∧ x2 ≤ 99) (k3 : 0 ≤ x3 ∧ x3 ≤ 2000) (k4 : (-1) ≤ x4 ∧ x4 ≤ 48) (k7 : 99 ≤ x7 ∧ x7 ≤ 99) (k9 : 0 ≤ x9 ∧ x9 ≤ 2000) (k13 : 0 ≤ x13 ∧ x13 ≤ 2000) (k15 : 0 ≤ x15 ∧ x15 ≤ 2000) (k21 : 1 ≤ x21 ∧ x21 ≤ 5) (k22 : 0 ≤ x22 ∧ x22 ≤ 0) (f0 : 0 < x21) (g1 : x21 = fault_0) (f2 : x21 ≠ 0) (f3 : 1 * x15 + ((-1) * x13 + 0) ≤ 0) (f4 : (-1) * x15 + (1 * x13 + 0) ≤ 0) (f5 : 1 * x3 + ((-1) * x15 + 0) ≤ (-1)) (f6 : (-1) * x9 + ((-1) * x15 + 0) ≤ (-2000)) (f7 : 1 * x3 + ((-1) * x13 + 0) ≤ (-1)) (f8 : (-1) * x9 + ((-1) * x13 + 0) ≤ (-2000)) (f9 : (-1) * x4 + 0 ≤ 0) (f12 : 1 * from_0 + ((-1) * pos_0 + 0) ≤ 0) (f13 : ((kind_0 = 1) → (pos_0 ≤ (from_0 + 8))) ∧ ((kind_0 = 0) ∨ ((from_0 + 1) ≤ pos_0))) (f14 : 1 * x15 + ((-1) * pos_0 + 0) ≤ 0) (f15 : (-1) * fault_0 + 0 ≤ (-1)) (f17 : 1 * x15 + ((-1) * x13 + 0) ≤ 0) (f18 : (-1) * x15 + (1 * x13 + 0) ≤ 0) (f19 : 1 * x3 + ((-1) * x15 + 0) ≤ (-1)) (f20 : (-1) * x9 + ((-1) * x15 + 0) ≤ (-2000)) (f21 : 1 * x3 + ((-1) * x13 + 0) ≤ (-1)) (f22 : (-1) * x9 + ((-1) * x13 + 0) ≤ (-2000)) (f23 : (-1) * x4 + 0 ≤ 0) (f25 : 1 * x15 + ((-1) * x13 + 0) ≤ 0) (f26 : (-1) * x15 + (1 * x13 + 0) ≤ 0) (f27 : 1 * x3 + ((-1) * x15 + 0) ≤ (-1)) (f28 : (-1) * x9 + ((-1) * x15 + 0) ≤ (-2000)) (f29 : 1 * x3 + ((-1) * x13 + 0) ≤ (-1)) (f30 : (-1) * x9 + ((-1) * x13 + 0) ≤ (-2000)) (f31 : (-1) * x4 + 0 ≤ 0) (f33 : 1 * x3 + ((-1) * x13 + 0) ≤ (-1)) (f34 : (-1) * x9 + ((-1) * x13 + 0) ≤ (-2000)) (f35 : (-1) * x4 + 0 ≤ 0) (f37 : (-1) * x4 + 0 ≤ 0) (kz_0_8 : 0 ≤ fault_0 ∧ fault_0 ≤ 5) (kz_0_11 : 0 ≤ pos_0 ∧ pos_0 ≤ 2000) (kz_0_12 : 0 ≤ kind_0 ∧ kind_0 ≤ 4) (kz_0_15 : 0 ≤ from_0 ∧ from_0 ≤ 2000) : (-1) * x22 + 0 ≤ 0 := by
  first | assumption | (clear f13; omega) | omega | grind
def o_Mo_of_at_s5002_17 : or_T := (129, 23, [(0, (2, 0, 0, [165])), (2, (0, 99, 99, [])), (3, (0, 0, 2000, [])), (4, (0, -1, 48, [])), (7, (0, 99, 99, [])), (9, (0, 0, 2000, [])), (13, (0, 0, 2000, [])), (15, (0, 0, 2000, [])), (21, (0, 1, 5, [])), (22, (0, 0, 0, []))], [(8, [21], [4]), (9, [21, 5], [8]), (8, [21], [1]), (23, [15, 13], [0, 1, -1]), (23, [15, 13], [0, -1, 1]), (23, [3, 15], [-1, 1, -1]), (23, [9, 15], [-2000, -1, -1]), (23, [3, 13], [-1, 1, -1]), (23, [9, 13], [-2000, -1, -1]), (23, [4], [0, -1]), (24, [0, 5], []), (20, [5, 5], [30, 0, 1, 1, 15, -1, 1, 11]), (20, [5], [50, 3, 0, 12, 11, 15, 2, 21, 4, 7, 1, 3, 2, 0, 12, 0, 1, 0, 3, 2, 0, 11, 4, 3, 2, 0, 15, 0, 8, 3, 7, 1, 3, 2, 0, 12, 0, 0, 0, 7, 4, 3, 2, 0, 15, 0, 1, 2, 0, 11]), (20, [15, 5], [30, 0, 1, 0, 0, -1, 1, 11]), (20, [5], [30, -1, -1, 1, 8]), (102, [20], [0, 165008, 165009]), (23, [15, 13], [0, 1, -1]), (23, [15, 13], [0, -1, 1]), (23, [3, 15], [-1, 1, -1]), (23, [9, 15], [-2000, -1, -1]), (23, [3, 13], [-1, 1, -1]), (23, [9, 13], [-2000, -1, -1]), (23, [4], [0, -1]), (102, [15], [0, 165008, 165009, 165011, 165012, 165013, 165014, 165015]), (23, [15, 13], [0, 1, -1]), (23, [15, 13], [0, -1, 1]), (23, [3, 15], [-1, 1, -1]), (23, [9, 15], [-2000, -1, -1]), (23, [3, 13], [-1, 1, -1]), (23, [9, 13], [-2000, -1, -1]), (23, [4], [0, -1]), (102, [13], [0, 165011, 165012, 165013, 165014, 165015]), (23, [3, 13], [-1, 1, -1]), (23, [9, 13], [-2000, -1, -1]), (23, [4], [0, -1]), (102, [11], [0]), (23, [4], [0, -1])], [], [], [(20, [0, 0], [30, 0, 1, 1, 15, -1, 1, 11]), (20, [0], [50, 3, 0, 12, 11, 15, 2, 21, 4, 7, 1, 3, 2, 0, 12, 0, 1, 0, 3, 2, 0, 11, 4, 3, 2, 0, 15, 0, 8, 3, 7, 1, 3, 2, 0, 12, 0, 0, 0, 7, 4, 3, 2, 0, 15, 0, 1, 2, 0, 11]), (20, [3, 0], [30, 0, 1, 0, 0, -1, 1, 11]), (20, [0, 3], [50, 3, 0, 8, 12, 11, 3, 7, 0, 2, 0, 1, 2, 0, 8, 3, 7, 1, 3, 2, 0, 12, 0, 0, 0, 6, 4, 2, 1, 1, 0, 1, 2, 0, 11]), (20, [0, 4], [50, 1, 0, 8, 3, 7, 0, 2, 0, 1, 2, 0, 8, 0, 2, 0, 0, 1, 1]), (20, [22, 2], [30, 0, 1, 0, 0, -1, 0, 0]), (20, [22], [30, 0, -1, 0, 0])], [], [])
theorem oo_Mo_of_at_s5002_17 {kA : Nat → ClassId} : or_ok PRD kA GG o_Mo_of_at_s5002_17 := by
  refine or_mk fun A ta ws vs hD hth hl => ?_
  intro t0 r0 t2 k2 t3 k3 t4 k4 t7 k7 t9 k9 t13 k13 t15 k15 t21 k21 t22 k22 f0 f1 f2 f3 f4 f5 f6 f7 f8 f9 f10 f12 f13 f14 f15 ta1 w1 le1 s1 f17 f18 f19 f20 f21 f22 f23 ta2 w2 le2 s2 f25 f26 f27 f28 f29 f30 f31 ta3 w3 le3 s3 f33 f34 f35 ta4 w4 le4 s4 f37
  replace f1 := shm_143 f1
  replace f10 := shm_5 f10
  replace f12 := shm_1397 f12
  replace f13 := shm_1398 f13
  replace f14 := shm_1395 f14
  replace f15 := shm_144 f15
  have q5 : n_v vs 5 = n_v vs 0 := f10.symm
  simp only [q5] at f1 f12 f13 f14 f15
  have g1 : v_iv (n_v vs 21) = w_fi ws (n_v vs 0) 8 := congrArg v_iv f1
  have kz_0_8 := fdq_14 hD hth r0
  have kz_0_11 := fdq_273 hD hth r0
  have kz_0_12 := fdq_186 hD hth r0
  have kz_0_15 := fdq_274 hD hth r0
  have nf0 : fc_1 PRD (20, [0, 0], [30, 0, 1, 1, 15, -1, 1, 11]) ws (vs) := ⟨nf_in hl rfl, sgq_1397 (vc_Mo_of_at_s5002_17_0 (v_iv (n_v vs 2)) (v_iv (n_v vs 3)) (v_iv (n_v vs 4)) (v_iv (n_v vs 7)) (v_iv (n_v vs 9)) (v_iv (n_v vs 13)) (v_iv (n_v vs 15)) (v_iv (n_v vs 21)) (v_iv (n_v vs 22)) (w_fi ws (n_v vs 0) 8) (w_fi ws (n_v vs 0) 15) (w_fi ws (n_v vs 0) 11) (w_fi ws (n_v vs 0) 12) k2 k3 k4 k7 k9 k13 k15 k21 k22 (shm_145 f0) g1 (shm_154 f2) (shm_7 f3) (shm_22 f4) (shm_211 f5) (shm_1894 f6) (shm_211 f7) (shm_1894 f8) (shm_1013 f9) f12 f13 f14 f15 (shm_7 f17) (shm_22 f18) (shm_211 f19) (shm_1894 f20) (shm_211 f21) (shm_1894 f22) (shm_1013 f23) (shm_7 f25) (shm_22 f26) (shm_211 f27) (shm_1894 f28) (shm_211 f29) (shm_1894 f30) (shm_1013 f31) (shm_211 f33) (shm_1894 f34) (shm_1013 f35) (shm_1013 f37) kz_0_8 kz_0_11 kz_0_12 kz_0_15)⟩
  have nf1 : fc_1 PRD (20, [0], [50, 3, 0, 12, 11, 15, 2, 21, 4, 7, 1, 3, 2, 0, 12, 0, 1, 0, 3, 2, 0, 11, 4, 3, 2, 0, 15, 0, 8, 3, 7, 1, 3, 2, 0, 12, 0, 0, 0, 7, 4, 3, 2, 0, 15, 0, 1, 2, 0, 11]) ws (vs) := ⟨nf_in hl rfl, sgq_1398 (vc_Mo_of_at_s5002_17_1 (v_iv (n_v vs 2)) (v_iv (n_v vs 3)) (v_iv (n_v vs 4)) (v_iv (n_v vs 7)) (v_iv (n_v vs 9)) (v_iv (n_v vs 13)) (v_iv (n_v vs 15)) (v_iv (n_v vs 21)) (v_iv (n_v vs 22)) (w_fi ws (n_v vs 0) 8) (w_fi ws (n_v vs 0) 15) (w_fi ws (n_v vs 0) 11) (w_fi ws (n_v vs 0) 12) k2 k3 k4 k7 k9 k13 k15 k21 k22 (shm_145 f0) g1 (shm_154 f2) (shm_7 f3) (shm_22 f4) (shm_211 f5) (shm_1894 f6) (shm_211 f7) (shm_1894 f8) (shm_1013 f9) f12 f13 f14 f15 (shm_7 f17) (shm_22 f18) (shm_211 f19) (shm_1894 f20) (shm_211 f21) (shm_1894 f22) (shm_1013 f23) (shm_7 f25) (shm_22 f26) (shm_211 f27) (shm_1894 f28) (shm_211 f29) (shm_1894 f30) (shm_1013 f31) (shm_211 f33) (shm_1894 f34) (shm_1013 f35) (shm_1013 f37) kz_0_8 kz_0_11 kz_0_12 kz_0_15)⟩
  have nf2 : fc_1 PRD (20, [3, 0], [30, 0, 1, 0, 0, -1, 1, 11]) ws (vs) := ⟨nf_in hl rfl, sgq_1395 (vc_Mo_of_at_s5002_17_2 (v_iv (n_v vs 2)) (v_iv (n_v vs 3)) (v_iv (n_v vs 4)) (v_iv (n_v vs 7)) (v_iv (n_v vs 9)) (v_iv (n_v vs 13)) (v_iv (n_v vs 15)) (v_iv (n_v vs 21)) (v_iv (n_v vs 22)) (w_fi ws (n_v vs 0) 8) (w_fi ws (n_v vs 0) 15) (w_fi ws (n_v vs 0) 11) (w_fi ws (n_v vs 0) 12) k2 k3 k4 k7 k9 k13 k15 k21 k22 (shm_145 f0) g1 (shm_154 f2) (shm_7 f3) (shm_22 f4) (shm_211 f5) (shm_1894 f6) (shm_211 f7) (shm_1894 f8) (shm_1013 f9) f12 f13 f14 f15 (shm_7 f17) (shm_22 f18) (shm_211 f19) (shm_1894 f20) (shm_211 f21) (shm_1894 f22) (shm_1013 f23) (shm_7 f25) (shm_22 f26) (shm_211 f27) (shm_1894 f28) (shm_211 f29) (shm_1894 f30) (shm_1013 f31) (shm_211 f33) (shm_1894 f34) (shm_1013 f35) (shm_1013 f37) kz_0_8 kz_0_11 kz_0_12 kz_0_15)⟩
  have nf3 : fc_1 PRD (20, [0, 3], [50, 3, 0, 8, 12, 11, 3, 7, 0, 2, 0, 1, 2, 0, 8, 3, 7, 1, 3, 2, 0, 12, 0, 0, 0, 6, 4, 2, 1, 1, 0, 1, 2, 0, 11]) ws (vs) := ⟨nf_in hl rfl, sgq_1660 (vc_Mo_of_at_s5002_17_3 (v_iv (n_v vs 2)) (v_iv (n_v vs 3)) (v_iv (n_v vs 4)) (v_iv (n_v vs 7)) (v_iv (n_v vs 9)) (v_iv (n_v vs 13)) (v_iv (n_v vs 15)) (v_iv (n_v vs 21)) (v_iv (n_v vs 22)) (w_fi ws (n_v vs 0) 8) (w_fi ws (n_v vs 0) 15) (w_fi ws (n_v vs 0) 11) (w_fi ws (n_v vs 0) 12) k2 k3 k4 k7 k9 k13 k15 k21 k22 (shm_145 f0) g1 (shm_154 f2) (shm_7 f3) (shm_22 f4) (shm_211 f5) (shm_1894 f6) (shm_211 f7) (shm_1894 f8) (shm_1013 f9) f12 f13 f14 f15 (shm_7 f17) (shm_22 f18) (shm_211 f19) (shm_1894 f20) (shm_211 f21) (shm_1894 f22) (shm_1013 f23) (shm_7 f25) (shm_22 f26) (shm_211 f27) (shm_1894 f28) (shm_211 f29) (shm_1894 f30) (shm_1013 f31) (shm_211 f33) (shm_1894 f34) (shm_1013 f35) (shm_1013 f37) kz_0_8 kz_0_11 kz_0_12 kz_0_15)⟩
  have nf4 : fc_1 PRD (20, [0, 4], [50, 1, 0, 8, 3, 7, 0, 2, 0, 1, 2, 0, 8, 0, 2, 0, 0, 1, 1]) ws (vs) := ⟨nf_in hl rfl, sgq_1889 (vc_Mo_of_at_s5002_17_4 (v_iv (n_v vs 2)) (v_iv (n_v vs 3)) (v_iv (n_v vs 4)) (v_iv (n_v vs 7)) (v_iv (n_v vs 9)) (v_iv (n_v vs 13)) (v_iv (n_v vs 15)) (v_iv (n_v vs 21)) (v_iv (n_v vs 22)) (w_fi ws (n_v vs 0) 8) (w_fi ws (n_v vs 0) 15) (w_fi ws (n_v vs 0) 11) (w_fi ws (n_v vs 0) 12) k2 k3 k4 k7 k9 k13 k15 k21 k22 (shm_145 f0) g1 (shm_154 f2) (shm_7 f3) (shm_22 f4) (shm_211 f5) (shm_1894 f6) (shm_211 f7) (shm_1894 f8) (shm_1013 f9) f12 f13 f14 f15 (shm_7 f17) (shm_22 f18) (shm_211 f19) (shm_1894 f20) (shm_211 f21) (shm_1894 f22) (shm_1013 f23) (shm_7 f25) (shm_22 f26) (shm_211 f27) (shm_1894 f28) (shm_211 f29) (shm_1894 f30) (shm_1013 f31) (shm_211 f33) (shm_1894 f34) (shm_1013 f35) (shm_1013 f37) kz_0_8 kz_0_11 kz_0_12 kz_0_15)⟩
  have nf5 : fc_1 PRD (20, [22, 2], [30, 0, 1, 0, 0, -1, 0, 0]) ws (vs) := ⟨nf_in hl rfl, sgq_219 (vc_Mo_of_at_s5002_17_5 (v_iv (n_v vs 2)) (v_iv (n_v vs 3)) (v_iv (n_v vs 4)) (v_iv (n_v vs 7)) (v_iv (n_v vs 9)) (v_iv (n_v vs 13)) (v_iv (n_v vs 15)) (v_iv (n_v vs 21)) (v_iv (n_v vs 22)) (w_fi ws (n_v vs 0) 8) (w_fi ws (n_v vs 0) 15) (w_fi ws (n_v vs 0) 11) (w_fi ws (n_v vs 0) 12) k2 k3 k4 k7 k9 k13 k15 k21 k22 (shm_145 f0) g1 (shm_154 f2) (shm_7 f3) (shm_22 f4) (shm_211 f5) (shm_1894 f6) (shm_211 f7) (shm_1894 f8) (shm_1013 f9) f12 f13 f14 f15 (shm_7 f17) (shm_22 f18) (shm_211 f19) (shm_1894 f20) (shm_211 f21) (shm_1894 f22) (shm_1013 f23) (shm_7 f25) (shm_22 f26) (shm_211 f27) (shm_1894 f28) (shm_211 f29) (shm_1894 f30) (shm_1013 f31) (shm_211 f33) (shm_1894 f34) (shm_1013 f35) (shm_1013 f37) kz_0_8 kz_0_11 kz_0_12 kz_0_15)⟩
  have nf6 : fc_1 PRD (20, [22], [30, 0, -1, 0, 0]) ws (vs) := ⟨nf_in hl rfl, sgq_1890 (vc_Mo_of_at_s5002_17_6 (v_iv (n_v vs 2)) (v_iv (n_v vs 3)) (v_iv (n_v vs 4)) (v_iv (n_v vs 7)) (v_iv (n_v vs 9)) (v_iv (n_v vs 13)) (v_iv (n_v vs 15)) (v_iv (n_v vs 21)) (v_iv (n_v vs 22)) (w_fi ws (n_v vs 0) 8) (w_fi ws (n_v vs 0) 15) (w_fi ws (n_v vs 0) 11) (w_fi ws (n_v vs 0) 12) k2 k3 k4 k7 k9 k13 k15 k21 k22 (shm_145 f0) g1 (shm_154 f2) (shm_7 f3) (shm_22 f4) (shm_211 f5) (shm_1894 f6) (shm_211 f7) (shm_1894 f8) (shm_1013 f9) f12 f13 f14 f15 (shm_7 f17) (shm_22 f18) (shm_211 f19) (shm_1894 f20) (shm_211 f21) (shm_1894 f22) (shm_1013 f23) (shm_7 f25) (shm_22 f26) (shm_211 f27) (shm_1894 f28) (shm_211 f29) (shm_1894 f30) (shm_1013 f31) (shm_211 f33) (shm_1894 f34) (shm_1013 f35) (shm_1013 f37) kz_0_8 kz_0_11 kz_0_12 kz_0_15)⟩
  refine ⟨(fun _ h => (by cases h)), [], trivial, ?_, (fun _ h => (by cases h))⟩
  rw [List.append_nil]
  exact List.forall_mem_cons.mpr ⟨⟨show (20 : Nat) < 100 from by decide, nf0⟩, List.forall_mem_cons.mpr ⟨⟨show (20 : Nat) < 100 from by decide, nf1⟩, List.forall_mem_cons.mpr ⟨⟨show (20 : Nat) < 100 from by decide, nf2⟩, List.forall_mem_cons.mpr ⟨⟨show (20 : Nat) < 100 from by decide, nf3⟩, List.forall_mem_cons.mpr ⟨⟨show (20 : Nat) < 100 from by decide, nf4⟩, List.forall_mem_cons.mpr ⟨⟨show (20 : Nat) < 100 from by decide, nf5⟩, List.forall_mem_cons.mpr ⟨⟨show (20 : Nat) < 100 from by decide, nf6⟩, (fun _ h => (by cases h))⟩⟩⟩⟩⟩⟩⟩
set_option maxHeartbeats 4000000 in
theorem vc_Mo_of_at_s5002_18_0 (x2 : Int) (x3 : Int) (x7 : Int) (x8 : Int) (x9 : Int) (x13 : Int) (x15 : Int) (x22 : Int) (x26 : Int) (value_0 : Int) (fault_0 : Int) (from_0 : Int) (pos_0 : Int) (kind_0 : Int) (k2 : 99 ≤ x2 ∧ x2 ≤ 99) (k3 : 0 ≤ x3 ∧ x3 ≤ 2000) (k7 : 99 ≤ x7 ∧ x7 ≤ 99) (k8 : (-2147483648) ≤ x8 ∧ x8 ≤ 0) (k9 : 0 ≤ x9 ∧ x9 ≤ 2000) (k13 : 0 ≤ x13 ∧ x13 ≤ 2000) (k15 : 0 ≤ x15 ∧ x15 ≤ 2000) (k22 : (-2147483648) ≤ x22 ∧ x22 ≤ 0) (k26 : 0 ≤ x26 ∧ x26 ≤ 0) (g0 : x22 = value_0) (f1 : x26 ≤ 0) (g2 : x26 = fault_0) (f3 : 1 * x15 + ((-1) * x13 + 0) ≤ 0) (f4 : (-1) * x15 + (1 * x13 + 0) ≤ 0) (f5 : 1 * x3 + ((-1) * x15 + 0) ≤ (-1)) (f6 : (-1) * x9 + ((-1) * x15 + 0) ≤ (-2000)) (f7 : 1 * x3 + ((-1) * x13 + 0) ≤ (-1)) (f8 : (-1) * x9 + ((-1) * x13 + 0) ≤ (-2000)) (f9 : 1 * x8 + ((-1) * x2 + 0) ≤ 0) (f10 : (-1) * x8 + 0 ≤ 0) (f13 : 1 * from_0 + ((-1) * pos_0 + 0) ≤ 0) (f14 : ((kind_0 = 1) → (pos_0 ≤ (from_0 + 8))) ∧ ((kind_0 = 0) ∨ ((from_0 + 1) ≤ pos_0))) (f15 : 1 * x15 + ((-1) * pos_0 + 0) ≤ 0) (f16 : (-1) * fault_0 + 0 ≤ (-1)) (f18 : 1 * x15 + ((-1) * x13 + 0) ≤ 0) (f19 : (-1) * x15 + (1 * x13 + 0) ≤ 0) (f20 : 1 * x3 + ((-1) * x15 + 0) ≤ (-1)) (f21 : (-1) * x9 + ((-1) * x15 + 0) ≤ (-2000)) (f22 : 1 * x3 + ((-1) * x13 + 0) ≤ (-1)) (f23 : (-1) * x9 + ((-1) * x13 + 0) ≤ (-2000)) (f24 : 1 * x8 + ((-1) * x2 + 0) ≤ 0) (f25 : (-1) * x8 + 0 ≤ 0) (f27 : 1 * x15 + ((-1) * x13 + 0) ≤ 0) (f28 : (-1) * x15 + (1 * x13 + 0) ≤ 0) (f29 : 1 * x3 + ((-1) * x15 + 0) ≤ (-1)) (f30 : (-1) * x9 + ((-1) * x15 + 0) ≤ (-2000)) (f31 : 1 * x3 + ((-1) * x13 + 0) ≤ (-1)) (f32 : (-1) * x9 + ((-1) * x13 + 0) ≤ (-2000)) (f33 : 1 * x8 + ((-1) * x2 + 0) ≤ 0) (f34 : (-1) * x8 + 0 ≤ 0) (f36 : 1 * x15 + ((-1) * x13 + 0) ≤ 0) (f37 : (-1) * x15 + (1 * x13 + 0) ≤ 0) (f38 : 1 * x3 + ((-1) * x15 + 0) ≤ (-1)) (f39 : (-1) * x9 + ((-1) * x15 + 0) ≤ (-2000)) (f40 : 1 * x3 + ((-1) * x13 + 0) ≤ (-1)) (f41 : (-1) * x9 + ((-1) * x13 + 0) ≤ (-2000)) (f42 : 1 * x8 + ((-1) * x2 + 0) ≤ 0) (f43 : (-1) * x8 + 0 ≤ 0) (f45 : 1 * x3 + ((-1) * x13 + 0) ≤ (-1)) (f46 : (-1) * x9 + ((-1) * x13 + 0) ≤ (-2000)) (f47 : x8 ≤ 0) (f48 : 1 * x8 + ((-1) * x2 + 0) ≤ 0) (f49 : (-1) * x8 + 0 ≤ 0) (f51 : 1 * x8 + ((-1) * x2 + 0) ≤ 0) (f52 : (-1) * x8 + 0 ≤ 0) (kz_0_8 : 0 ≤ fault_0 ∧ fault_0 ≤ 5) (kz_0_11 : 0 ≤ pos_0 ∧ pos_0 ≤ 2000) (kz_0_12 : 0 ≤ kind_0 ∧ kind_0 ≤ 4) (kz_0_14 : (-2147483648) ≤ value_0 ∧ value_0 ≤ 2147483647) (kz_0_15 : 0 ≤ from_0 ∧ from_0 ≤ 2000) : 1 * x22 + ((-1) * x2 + 0) ≤ 0 := by
  first | assumption | (clear f14; omega) | omega | grind
set_option maxHeartbeats 4000000 in
theorem vc_Mo_of_at_s5002_18_1 (x2 : Int) (x3 : Int) (x7 : Int) (x8 : Int) (x9 : Int) (x13 : Int) (x15 : Int) (x22 : Int) (x26 : Int) (value_0 : Int) (fault_0 : Int) (from_0 : Int) (pos_0 : Int) (kind_0 : Int) (k2 : 99 ≤ x2 ∧ x2 ≤ 99) (k3 : 0 ≤ x3 ∧ x3 ≤ 2000) (k7 : 99 ≤ x7 ∧ x7 ≤ 99) (k8 : (-2147483648) ≤ x8 ∧ x8 ≤ 0) (k9 : 0 ≤ x9 ∧ x9 ≤ 2000) (k13 : 0 ≤ x13 ∧ x13 ≤ 2000) (k15 : 0 ≤ x15 ∧ x15 ≤ 2000) (k22 : (-2147483648) ≤ x22 ∧ x22 ≤ 0) (k26 : 0 ≤ x26 ∧ x26 ≤ 0) (g0 : x22 = value_0) (f1 : x26 ≤ 0) (g2 : x26 = fault_0) (f3 : 1 * x15 + ((-1) * x13 + 0) ≤ 0) (f4 : (-1) * x15 + (1 * x13 + 0) ≤ 0) (f5 : 1 * x3 + ((-1) * x15 + 0) ≤ (-1)) (f6 : (-1) * x9 + ((-1) * x15 + 0) ≤ (-2000)) (f7 : 1 * x3 + ((-1) * x13 + 0) ≤ (-1)) (f8 : (-1) * x9 + ((-1) * x13 + 0) ≤ (-2000)) (f9 : 1 * x8 + ((-1) * x2 + 0) ≤ 0) (f10 : (-1) * x8 + 0 ≤ 0) (f13 : 1 * from_0 + ((-1) * pos_0 + 0) ≤ 0) (f14 : ((kind_0 = 1) → (pos_0 ≤ (from_0 + 8))) ∧ ((kind_0 = 0) ∨ ((from_0 + 1) ≤ pos_0))) (f15 : 1 * x15 + ((-1) * pos_0 + 0) ≤ 0) (f16 : (-1) * fault_0 + 0 ≤ (-1)) (f18 : 1 * x15 + ((-1) * x13 + 0) ≤ 0) (f19 : (-1) * x15 + (1 * x13 + 0) ≤ 0) (f20 : 1 * x3 + ((-1) * x15 + 0) ≤ (-1)) (f21 : (-1) * x9 + ((-1) * x15 + 0) ≤ (-2000)) (f22 : 1 * x3 + ((-1) * x13 + 0) ≤ (-1)) (f23 : (-1) * x9 + ((-1) * x13 + 0) ≤ (-2000)) (f24 : 1 * x8 + ((-1) * x2 + 0) ≤ 0) (f25 : (-1) * x8 + 0 ≤ 0) (f27 : 1 * x15 + ((-1) * x13 + 0) ≤ 0) (f28 : (-1) * x15 + (1 * x13 + 0) ≤ 0) (f29 : 1 * x3 + ((-1) * x15 + 0) ≤ (-1)) (f30 : (-1) * x9 + ((-1) * x15 + 0) ≤ (-2000)) (f31 : 1 * x3 + ((-1) * x13 + 0) ≤ (-1)) (f32 : (-1) * x9 + ((-1) * x13 + 0) ≤ (-2000)) (f33 : 1 * x8 + ((-1) * x2 + 0) ≤ 0) (f34 : (-1) * x8 + 0 ≤ 0) (f36 : 1 * x15 + ((-1) * x13 + 0) ≤ 0) (f37 : (-1) * x15 + (1 * x13 + 0) ≤ 0) (f38 : 1 * x3 + ((-1) * x15 + 0) ≤ (-1)) (f39 : (-1) * x9 + ((-1) * x15 + 0) ≤ (-2000)) (f40 : 1 * x3 + ((-1) * x13 + 0) ≤ (-1)) (f41 : (-1) * x9 + ((-1) * x13 + 0) ≤ (-2000)) (f42 : 1 * x8 + ((-1) * x2 + 0) ≤ 0) (f43 : (-1) * x8 + 0 ≤ 0) (f45 : 1 * x3 + ((-1) * x13 + 0) ≤ (-1)) (f46 : (-1) * x9 + ((-1) * x13 + 0) ≤ (-2000)) (f47 : x8 ≤ 0) (f48 : 1 * x8 + ((-1) * x2 + 0) ≤ 0) (f49 : (-1) * x8 + 0 ≤ 0) (f51 : 1 * x8 + ((-1) * x2 + 0) ≤ 0) (f52 : (-1) * x8 + 0 ≤ 0) (kz_0_8 : 0 ≤ fault_0 ∧ fault_0 ≤ 5) (kz_0_11 : 0 ≤ pos_0 ∧ pos_0 ≤ 2000) (kz_0_12 : 0 ≤ kind_0 ∧ kind_0 ≤ 4) (kz_0_14 : (-2147483648) ≤ value_0 ∧ value_0 ≤ 2147483647) (kz_0_15 : 0 ≤ from_0 ∧ from_0 ≤ 2000) : (-1) * x22 + 0 ≤ 0 := by
  first | assumption | (clear f14; omega) | omega | grind
def o_Mo_of_at_s5002_18 : or_T := (135, 27, [(0, (2, 0, 0, [165])), (2, (0, 99, 99, [])), (3, (0, 0, 2000, [])), (5, (2, 0, 0, [165])), (7, (0, 99, 99, [])), (8, (0, -2147483648, 0, [])), (9, (0, 0, 2000, [])), (13, (0, 0, 2000, [])), (15, (0, 0, 2000, [])), (22, (0, -2147483648, 0, [])), (26, (0, 0, 0, []))], [(9, [22, 5], [14]), (8, [26], [5]), (9, [26, 5], [8]), (23, [15, 13], [0, 1, -1]), (23, [15, 13], [0, -1, 1]), (23, [3, 15], [-1, 1, -1]), (23, [9, 15], [-2000, -1, -1]), (23, [3, 13], [-1, 1, -1]), (23, [9, 13], [-2000, -1, -1]), (23, [8, 7], [0, 1, -1]), (23, [8], [0, -1]), (24, [0, 5], []), (24, [2, 7], []), (20, [5, 5], [30, 0, 1, 1, 15, -1, 1, 11]), (20, [5], [50, 3, 0, 12, 11, 15, 2, 21, 4, 7, 1, 3, 2, 0, 12, 0, 1, 0, 3, 2, 0, 11, 4, 3, 2, 0, 15, 0, 8, 3, 7, 1, 3, 2, 0, 12, 0, 0, 0, 7, 4, 3, 2, 0, 15, 0, 1, 2, 0, 11]), (20, [15, 5], [30, 0, 1, 0, 0, -1, 1, 11]), (20, [5], [30, -1, -1, 1, 8]), (102, [25], [0, 165008, 165009]), (23, [15, 13], [0, 1, -1]), (23, [15, 13], [0, -1, 1]), (23, [3, 15], [-1, 1, -1]), (23, [9, 15], [-2000, -1, -1]), (23, [3, 13], [-1, 1, -1]), (23, [9, 13], [-2000, -1, -1]), (23, [8, 7], [0, 1, -1]), (23, [8], [0, -1]), (102, [20], [0, 165008, 165009]), (23, [15, 13], [0, 1, -1]), (23, [15, 13], [0, -1, 1]), (23, [3, 15], [-1, 1, -1]), (23, [9, 15], [-2000, -1, -1]), (23, [3, 13], [-1, 1, -1]), (23, [9, 13], [-2000, -1, -1]), (23, [8, 7], [0, 1, -1]), (23, [8], [0, -1]), (102, [15], [0, 165008, 165009, 165011, 165012, 165013, 165014, 165015]), (23, [15, 13], [0, 1, -1]), (23, [15, 13], [0, -1, 1]), (23, [3, 15], [-1, 1, -1]), (23, [9, 15], [-2000, -1, -1]), (23, [3, 13], [-1, 1, -1]), (23, [9, 13], [-2000, -1, -1]), (23, [8, 7], [0, 1, -1]), (23, [8], [0, -1]), (102, [13], [0, 165011, 165012, 165013, 165014, 165015]), (23, [3, 13], [-1, 1, -1]), (23, [9, 13], [-2000, -1, -1]), (8, [8], [5]), (23, [8, 7], [0, 1, -1]), (23, [8], [0, -1]), (102, [11], [0]), (23, [8, 7], [0, 1, -1]), (23, [8], [0, -1])], [], [], [(23, [22, 7], [0, 1, -1]), (23, [22], [0, -1])], [], [])
theorem oo_Mo_of_at_s5002_18 {kA : Nat → ClassId} : or_ok PRD kA GG o_Mo_of_at_s5002_18 := by
  refine or_mk fun A ta ws vs hD hth hl => ?_
  intro t0 r0 t2 k2 t3 k3 t5 r5 t7 k7 t8 k8 t9 k9 t13 k13 t15 k15 t22 k22 t26 k26 f0 f1 f2 f3 f4 f5 f6 f7 f8 f9 f10 f11 f12 f13 f14 f15 f16 ta1 w1 le1 s1 f18 f19 f20 f21 f22 f23 f24 f25 ta2 w2 le2 s2 f27 f28 f29 f30 f31 f32 f33 f34 ta3 w3 le3 s3 f36 f37 f38 f39 f40 f41 f42 f43 ta4 w4 le4 s4 f45 f46 f47 f48 f49 ta5 w5 le5 s5 f51 f52
  replace f0 := shm_116 f0
  replace f1 := shm_142 f1
  replace f2 := shm_143 f2
  replace f3 := shm_7 f3
  replace f4 := shm_22 f4
  replace f5 := shm_211 f5
  replace f6 := shm_1894 f6
  replace f7 := shm_211 f7
  replace f8 := shm_1894 f8
  replace f9 := shm_7 f9
  replace f10 := shm_1013 f10
  replace f11 := shm_5 f11
  replace f12 := shm_5 f12
  replace f13 := shm_1397 f13
  replace f14 := shm_1398 f14
  replace f15 := shm_1395 f15
  replace f16 := shm_144 f16
  replace f18 := shm_7 f18
  replace f19 := shm_22 f19
  replace f20 := shm_211 f20
  replace f21 := shm_1894 f21
  replace f22 := shm_211 f22
  replace f23 := shm_1894 f23
  replace f24 := shm_7 f24
  replace f25 := shm_1013 f25
  replace f27 := shm_7 f27
  replace f28 := shm_22 f28
  replace f29 := shm_211 f29
  replace f30 := shm_1894 f30
  replace f31 := shm_211 f31
  replace f32 := shm_1894 f32
  replace f33 := shm_7 f33
  replace f34 := shm_1013 f34
  replace f36 := shm_7 f36
  replace f37 := shm_22 f37
  replace f38 := shm_211 f38
  replace f39 := shm_1894 f39
  replace f40 := shm_211 f40
  replace f41 := shm_1894 f41
  replace f42 := shm_7 f42
  replace f43 := shm_1013 f43
  replace f45 := shm_211 f45
  replace f46 := shm_1894 f46
  replace f47 := shm_142 f47
  replace f48 := shm_7 f48
  replace f49 := shm_1013 f49
  replace f51 := shm_7 f51
  replace f52 := shm_1013 f52
  have q5 : n_v vs 5 = n_v vs 0 := f11.symm
  have q7 : n_v vs 7 = n_v vs 2 := f12.symm
  simp only [q5, q7] at f0 f2 f9 f13 f14 f15 f16 f24 f33 f42 f48 f51
  have g0 : v_iv (n_v vs 22) = w_fi ws (n_v vs 0) 14 := congrArg v_iv f0
  have g2 : v_iv (n_v vs 26) = w_fi ws (n_v vs 0) 8 := congrArg v_iv f2
  have kz_0_8 := fdq_14 hD hth r0
  have kz_0_11 := fdq_273 hD hth r0
  have kz_0_12 := fdq_186 hD hth r0
  have kz_0_14 := fdq_311 hD hth r0
  have kz_0_15 := fdq_274 hD hth r0
  have nf0 : fc_1 PRD (23, [22, 7], [0, 1, -1]) ws (vs) := by
    refine ⟨nf_in hl rfl, sgq_7 ?_⟩
    · show 1 * v_iv (n_v vs 22) + ((-1) * v_iv (n_v vs 7) + 0) ≤ 0
      rw [q7]
      exact vc_Mo_of_at_s5002_18_0 (v_iv (n_v vs 2)) (v_iv (n_v vs 3)) (v_iv (n_v vs 7)) (v_iv (n_v vs 8)) (v_iv (n_v vs 9)) (v_iv (n_v vs 13)) (v_iv (n_v vs 15)) (v_iv (n_v vs 22)) (v_iv (n_v vs 26)) (w_fi ws (n_v vs 0) 14) (w_fi ws (n_v vs 0) 8) (w_fi ws (n_v vs 0) 15) (w_fi ws (n_v vs 0) 11) (w_fi ws (n_v vs 0) 12) k2 k3 k7 k8 k9 k13 k15 k22 k26 g0 f1 g2 f3 f4 f5 f6 f7 f8 f9 f10 f13 f14 f15 f16 f18 f19 f20 f21 f22 f23 f24 f25 f27 f28 f29 f30 f31 f32 f33 f34 f36 f37 f38 f39 f40 f41 f42 f43 f45 f46 f47 f48 f49 f51 f52 kz_0_8 kz_0_11 kz_0_12 kz_0_14 kz_0_15
  have nf1 : fc_1 PRD (23, [22], [0, -1]) ws (vs) := ⟨nf_in hl rfl, sgq_1013 (vc_Mo_of_at_s5002_18_1 (v_iv (n_v vs 2)) (v_iv (n_v vs 3)) (v_iv (n_v vs 7)) (v_iv (n_v vs 8)) (v_iv (n_v vs 9)) (v_iv (n_v vs 13)) (v_iv (n_v vs 15)) (v_iv (n_v vs 22)) (v_iv (n_v vs 26)) (w_fi ws (n_v vs 0) 14) (w_fi ws (n_v vs 0) 8) (w_fi ws (n_v vs 0) 15) (w_fi ws (n_v vs 0) 11) (w_fi ws (n_v vs 0) 12) k2 k3 k7 k8 k9 k13 k15 k22 k26 g0 f1 g2 f3 f4 f5 f6 f7 f8 f9 f10 f13 f14 f15 f16 f18 f19 f20 f21 f22 f23 f24 f25 f27 f28 f29 f30 f31 f32 f33 f34 f36 f37 f38 f39 f40 f41 f42 f43 f45 f46 f47 f48 f49 f51 f52 kz_0_8 kz_0_11 kz_0_12 kz_0_14 kz_0_15)⟩
  refine ⟨(fun _ h => (by cases h)), [], trivial, ?_, (fun _ h => (by cases h))⟩
  rw [List.append_nil]
  exact List.forall_mem_cons.mpr ⟨⟨show (23 : Nat) < 100 from by decide, nf0⟩, List.forall_mem_cons.mpr ⟨⟨show (23 : Nat) < 100 from by decide, nf1⟩, (fun _ h => (by cases h))⟩⟩
set_option maxHeartbeats 4000000 in
theorem vc_Mo_of_at_s5002_19_0 (x2 : Int) (x3 : Int) (x7 : Int) (x9 : Int) (x13 : Int) (x15 : Int) (x26 : Int) (fault_0 : Int) (from_0 : Int) (pos_0 : Int) (kind_0 : Int) (gx : Int) (k2 : 99 ≤ x2 ∧ x2 ≤ 99) (k3 : 0 ≤ x3 ∧ x3 ≤ 2000) (k7 : 99 ≤ x7 ∧ x7 ≤ 99) (k9 : 0 ≤ x9 ∧ x9 ≤ 2000) (k13 : 0 ≤ x13 ∧ x13 ≤ 2000) (k15 : 0 ≤ x15 ∧ x15 ≤ 2000) (k26 : 0 ≤ x26 ∧ x26 ≤ 0) (f0 : x26 ≤ 0) (g1 : x26 = fault_0) (f2 : 1 * x15 + ((-1) * x13 + 0) ≤ 0) (f3 : (-1) * x15 + (1 * x13 + 0) ≤ 0) (f4 : 1 * x3 + ((-1) * x15 + 0) ≤ (-1)) (f5 : (-1) * x9 + ((-1) * x15 + 0) ≤ (-2000)) (f6 : 1 * x3 + ((-1) * x13 + 0) ≤ (-1)) (f7 : (-1) * x9 + ((-1) * x13 + 0) ≤ (-2000)) (f10 : 1 * from_0 + ((-1) * pos_0 + 0) ≤ 0) (f11 : ((kind_0 = 1) → (pos_0 ≤ (from_0 + 8))) ∧ ((kind_0 = 0) ∨ ((from_0 + 1) ≤ pos_0))) (f12 : 1 * x15 + ((-1) * pos_0 + 0) ≤ 0) (f13 : (-1) * fault_0 + 0 ≤ (-1)) (f15 : 1 * x15 + ((-1) * x13 + 0) ≤ 0) (f16 : (-1) * x15 + (1 * x13 + 0) ≤ 0) (f17 : 1 * x3 + ((-1) * x15 + 0) ≤ (-1)) (f18 : (-1) * x9 + ((-1) * x15 + 0) ≤ (-2000)) (f19 : 1 * x3 + ((-1) * x13 + 0) ≤ (-1)) (f20 : (-1) * x9 + ((-1) * x13 + 0) ≤ (-2000)) (f22 : 1 * x15 + ((-1) * x13 + 0) ≤ 0) (f23 : (-1) * x15 + (1 * x13 + 0) ≤ 0) (f24 : 1 * x3 + ((-1) * x15 + 0) ≤ (-1)) (f25 : (-1) * x9 + ((-1) * x15 + 0) ≤ (-2000)) (f26 : 1 * x3 + ((-1) * x13 + 0) ≤ (-1)) (f27 : (-1) * x9 + ((-1) * x13 + 0) ≤ (-2000)) (f29 : 1 * x15 + ((-1) * x13 + 0) ≤ 0) (f30 : (-1) * x15 + (1 * x13 + 0) ≤ 0) (f31 : 1 * x3 + ((-1) * x15 + 0) ≤ (-1)) (f32 : (-1) * x9 + ((-1) * x15 + 0) ≤ (-2000)) (f33 : 1 * x3 + ((-1) * x13 + 0) ≤ (-1)) (f34 : (-1) * x9 + ((-1) * x13 + 0) ≤ (-2000)) (f36 : 1 * x3 + ((-1) * x13 + 0) ≤ (-1)) (f37 : (-1) * x9 + ((-1) * x13 + 0) ≤ (-2000)) (kz_0_8 : 0 ≤ fault_0 ∧ fault_0 ≤ 5) (kz_0_11 : 0 ≤ pos_0 ∧ pos_0 ≤ 2000) (kz_0_12 : 0 ≤ kind_0 ∧ kind_0 ≤ 4) (kz_0_15 : 0 ≤ from_0 ∧ from_0 ≤ 2000) (ex2 : gx = pos_0) (ex3 : 0 ≤ gx ∧ gx ≤ 2000) : 1 * gx + ((-1) * pos_0 + 0) ≤ 0 := by
  first | assumption | (clear f11; omega) | omega | grind
set_option maxHeartbeats 4000000 in
theorem vc_Mo_of_at_s5002_19_1 (x2 : Int) (x3 : Int) (x7 : Int) (x9 : Int) (x13 : Int) (x15 : Int) (x26 : Int) (fault_0 : Int) (from_0 : Int) (pos_0 : Int) (kind_0 : Int) (gx : Int) (k2 : 99 ≤ x2 ∧ x2 ≤ 99) (k3 : 0 ≤ x3 ∧ x3 ≤ 2000) (k7 : 99 ≤ x7 ∧ x7 ≤ 99) (k9 : 0 ≤ x9 ∧ x9 ≤ 2000) (k13 : 0 ≤ x13 ∧ x13 ≤ 2000) (k15 : 0 ≤ x15 ∧ x15 ≤ 2000) (k26 : 0 ≤ x26 ∧ x26 ≤ 0) (f0 : x26 ≤ 0) (g1 : x26 = fault_0) (f2 : 1 * x15 + ((-1) * x13 + 0) ≤ 0) (f3 : (-1) * x15 + (1 * x13 + 0) ≤ 0) (f4 : 1 * x3 + ((-1) * x15 + 0) ≤ (-1)) (f5 : (-1) * x9 + ((-1) * x15 + 0) ≤ (-2000)) (f6 : 1 * x3 + ((-1) * x13 + 0) ≤ (-1)) (f7 : (-1) * x9 + ((-1) * x13 + 0) ≤ (-2000)) (f10 : 1 * from_0 + ((-1) * pos_0 + 0) ≤ 0) (f11 : ((kind_0 = 1) → (pos_0 ≤ (from_0 + 8))) ∧ ((kind_0 = 0) ∨ ((from_0 + 1) ≤ pos_0))) (f12 : 1 * x15 + ((-1) * pos_0 + 0) ≤ 0) (f13 : (-1) * fault_0 + 0 ≤ (-1)) (f15 : 1 * x15 + ((-1) * x13 + 0) ≤ 0) (f16 : (-1) * x15 + (1 * x13 + 0) ≤ 0) (f17 : 1 * x3 + ((-1) * x15 + 0) ≤ (-1)) (f18 : (-1) * x9 + ((-1) * x15 + 0) ≤ (-2000)) (f19 : 1 * x3 + ((-1) * x13 + 0) ≤ (-1)) (f20 : (-1) * x9 + ((-1) * x13 + 0) ≤ (-2000)) (f22 : 1 * x15 + ((-1) * x13 + 0) ≤ 0) (f23 : (-1) * x15 + (1 * x13 + 0) ≤ 0) (f24 : 1 * x3 + ((-1) * x15 + 0) ≤ (-1)) (f25 : (-1) * x9 + ((-1) * x15 + 0) ≤ (-2000)) (f26 : 1 * x3 + ((-1) * x13 + 0) ≤ (-1)) (f27 : (-1) * x9 + ((-1) * x13 + 0) ≤ (-2000)) (f29 : 1 * x15 + ((-1) * x13 + 0) ≤ 0) (f30 : (-1) * x15 + (1 * x13 + 0) ≤ 0) (f31 : 1 * x3 + ((-1) * x15 + 0) ≤ (-1)) (f32 : (-1) * x9 + ((-1) * x15 + 0) ≤ (-2000)) (f33 : 1 * x3 + ((-1) * x13 + 0) ≤ (-1)) (f34 : (-1) * x9 + ((-1) * x13 + 0) ≤ (-2000)) (f36 : 1 * x3 + ((-1) * x13 + 0) ≤ (-1)) (f37 : (-1) * x9 + ((-1) * x13 + 0) ≤ (-2000)) (kz_0_8 : 0 ≤ fault_0 ∧ fault_0 ≤ 5) (kz_0_11 : 0 ≤ pos_0 ∧ pos_0 ≤ 2000) (kz_0_12 : 0 ≤ kind_0 ∧ kind_0 ≤ 4) (kz_0_15 : 0 ≤ from_0 ∧ from_0 ≤ 2000) (ex2 : gx = pos_0) (ex3 : 0 ≤ gx ∧ gx ≤ 2000) : 1 * x3 + ((-1) * gx + 0) ≤ (-1) := by
  first | assumption | (clear f11; omega) | omega | grind
set_option maxHeartbeats 4000000 in
theorem vc_Mo_of_at_s5002_19_2 (x2 : Int) (x3 : Int) (x7 : Int) (x9 : Int) (x13 : Int) (x15 : Int) (x26 : Int) (fault_0 : Int) (from_0 : Int) (pos_0 : Int) (kind_0 : Int) (gx : Int) (k2 : 99 ≤ x2 ∧ x2 ≤ 99) (k3 : 0 ≤ x3 ∧ x3 ≤ 2000) (k7 : 99 ≤ x7 ∧ x7 ≤ 99) (k9 : 0 ≤ x9 ∧ x9 ≤ 2000) (k13 : 0 ≤ x13 ∧ x13 ≤ 2000) (k15 : 0 ≤ x15 ∧ x15 ≤ 2000) (k26 : 0 ≤ x26 ∧ x26 ≤ 0) (f0 : x26 ≤ 0) (g1 : x26 = fault_0) (f2 : 1 * x15 + ((-1) * x13 + 0) ≤ 0) (f3 : (-1) * x15 + (1 * x13 + 0) ≤ 0) (f4 : 1 * x3 + ((-1) * x15 + 0) ≤ (-1)) (f5 : (-1) * x9 + ((-1) * x15 + 0) ≤ (-2000)) (f6 : 1 * x3 + ((-1) * x13 + 0) ≤ (-1)) (f7 : (-1) * x9 + ((-1) * x13 + 0) ≤ (-2000)) (f10 : 1 * from_0 + ((-1) * pos_0 + 0) ≤ 0) (f11 : ((kind_0 = 1) → (pos_0 ≤ (from_0 + 8))) ∧ ((kind_0 = 0) ∨ ((from_0 + 1) ≤ pos_0))) (f12 : 1 * x15 + ((-1) * pos_0 + 0) ≤ 0) (f13 : (-1) * fault_0 + 0 ≤ (-1)) (f15 : 1 * x15 + ((-1) * x13 + 0) ≤ 0) (f16 : (-1) * x15 + (1 * x13 + 0) ≤ 0) (f17 : 1 * x3 + ((-1) * x15 + 0) ≤ (-1)) (f18 : (-1) * x9 + ((-1) * x15 + 0) ≤ (-2000)) (f19 : 1 * x3 + ((-1) * x13 + 0) ≤ (-1)) (f20 : (-1) * x9 + ((-1) * x13 + 0) ≤ (-2000)) (f22 : 1 * x15 + ((-1) * x13 + 0) ≤ 0) (f23 : (-1) * x15 + (1 * x13 + 0) ≤ 0) (f24 : 1 * x3 + ((-1) * x15 + 0) ≤ (-1)) (f25 : (-1) * x9 + ((-1) * x15 + 0) ≤ (-2000)) (f26 : 1 * x3 + ((-1) * x13 + 0) ≤ (-1)) (f27 : (-1) * x9 + ((-1) * x13 + 0) ≤ (-2000)) (f29 : 1 * x15 + ((-1) * x13 + 0) ≤ 0) (f30 : (-1) * x15 + (1 * x13 + 0) ≤ 0) (f31 : 1 * x3 + ((-1) * x15 + 0) ≤ (-1)) (f32 : (-1) * x9 + ((-1) * x15 + 0) ≤ (-2000)) (f33 : 1 * x3 + ((-1) * x13 + 0) ≤ (-1)) (f34 : (-1) * x9 + ((-1) * x13 + 0) ≤ (-2000)) (f36 : 1 * x3 + ((-1) * x13 + 0) ≤ (-1)) (f37 : (-1) * x9 + ((-1) * x13 + 0) ≤ (-2000)) (kz_0_8 : 0 ≤ fault_0 ∧ fault_0 ≤ 5) (kz_0_11 : 0 ≤ pos_0 ∧ pos_0 ≤ 2000) (kz_0_12 : 0 ≤ kind_0 ∧ kind_0 ≤ 4) (kz_0_15 : 0 ≤ from_0 ∧ from_0 ≤ 2000) (ex2 : gx = pos_0) (ex3 : 0 ≤ gx ∧ gx ≤ 2000) : (-1) * x9 + ((-1) * gx + 0) ≤ (-2001) := by
  first | assumption | (clear f11; omega) | omega | grind
def o_Mo_of_at_s5002_19 : or_T := (136, 27, [(0, (2, 0, 0, [165])), (2, (0, 99, 99, [])), (3, (0, 0, 2000, [])), (7, (0, 99, 99, [])), (9, (0, 0, 2000, [])), (13, (0, 0, 2000, [])), (15, (0, 0, 2000, [])), (26, (0, 0, 0, []))], [(8, [26], [5]), (9, [26, 5], [8]), (23, [15, 13], [0, 1, -1]), (23, [15, 13], [0, -1, 1]), (23, [3, 15], [-1, 1, -1]), (23, [9, 15], [-2000, -1, -1]), (23, [3, 13], [-1, 1, -1]), (23, [9, 13], [-2000, -1, -1]), (24, [0, 5], []), (20, [5, 5], [30, 0, 1, 1, 15, -1, 1, 11]), (20, [5], [50, 3, 0, 12, 11, 15, 2, 21, 4, 7, 1, 3, 2, 0, 12, 0, 1, 0, 3, 2, 0, 11, 4, 3, 2, 0, 15, 0, 8, 3, 7, 1, 3, 2, 0, 12, 0, 0, 0, 7, 4, 3, 2, 0, 15, 0, 1, 2, 0, 11]), (20, [15, 5], [30, 0, 1, 0, 0, -1, 1, 11]), (20, [5], [30, -1, -1, 1, 8]), (102, [25], [0, 165008, 165009]), (23, [15, 13], [0, 1, -1]), (23, [15, 13], [0, -1, 1]), (23, [3, 15], [-1, 1, -1]), (23, [9, 15], [-2000, -1, -1]), (23, [3, 13], [-1, 1, -1]), (23, [9, 13], [-2000, -1, -1]), (102, [20], [0, 165008, 165009]), (23, [15, 13], [0, 1, -1]), (23, [15, 13], [0, -1, 1]), (23, [3, 15], [-1, 1, -1]), (23, [9, 15], [-2000, -1, -1]), (23, [3, 13], [-1, 1, -1]), (23, [9, 13], [-2000, -1, -1]), (102, [15], [0, 165008, 165009, 165011, 165012, 165013, 165014, 165015]), (23, [15, 13], [0, 1, -1]), (23, [15, 13], [0, -1, 1]), (23, [3, 15], [-1, 1, -1]), (23, [9, 15], [-2000, -1, -1]), (23, [3, 13], [-1, 1, -1]), (23, [9, 13], [-2000, -1, -1]), (102, [13], [0, 165011, 165012, 165013, 165014, 165015]), (23, [3, 13], [-1, 1, -1]), (23, [9, 13], [-2000, -1, -1])], [], [(0, 0, 2000, [])], [(20, [27, 5], [30, 0, 1, 0, 0, -1, 1, 11]), (23, [3, 27], [-1, 1, -1]), (23, [9, 27], [-2001, -1, -1])], [], [])
theorem oo_Mo_of_at_s5002_19 {kA : Nat → ClassId} : or_ok PRD kA GG o_Mo_of_at_s5002_19 := by
  refine or_mk fun A ta ws vs hD hth hl => ?_
  intro t0 r0 t2 k2 t3 k3 t7 k7 t9 k9 t13 k13 t15 k15 t26 k26 f0 f1 f2 f3 f4 f5 f6 f7 f8 f10 f11 f12 f13 ta1 w1 le1 s1 f15 f16 f17 f18 f19 f20 ta2 w2 le2 s2 f22 f23 f24 f25 f26 f27 ta3 w3 le3 s3 f29 f30 f31 f32 f33 f34 ta4 w4 le4 s4 f36 f37
  replace f0 := shm_142 f0
  replace f1 := shm_143 f1
  replace f2 := shm_7 f2
  replace f3 := shm_22 f3
  replace f4 := shm_211 f4
  replace f5 := shm_1894 f5
  replace f6 := shm_211 f6
  replace f7 := shm_1894 f7
  replace f8 := shm_5 f8
  replace f10 := shm_1397 f10
  replace f11 := shm_1398 f11
  replace f12 := shm_1395 f12
  replace f13 := shm_144 f13
  replace f15 := shm_7 f15
  replace f16 := shm_22 f16
  replace f17 := shm_211 f17
  replace f18 := shm_1894 f18
  replace f19 := shm_211 f19
  replace f20 := shm_1894 f20
  replace f22 := shm_7 f22
  replace f23 := shm_22 f23
  replace f24 := shm_211 f24
  replace f25 := shm_1894 f25
  replace f26 := shm_211 f26
  replace f27 := shm_1894 f27
  replace f29 := shm_7 f29
  replace f30 := shm_22 f30
  replace f31 := shm_211 f31
  replace f32 := shm_1894 f32
  replace f33 := shm_211 f33
  replace f34 := shm_1894 f34
  replace f36 := shm_211 f36
  replace f37 := shm_1894 f37
  have q5 : n_v vs 5 = n_v vs 0 := f8.symm
  simp only [q5] at f1 f10 f11 f12 f13
  have g1 : v_iv (n_v vs 26) = w_fi ws (n_v vs 0) 8 := congrArg v_iv f1
  have kz_0_8 := fdq_14 hD hth r0
  have kz_0_11 := fdq_273 hD hth r0
  have kz_0_12 := fdq_186 hD hth r0
  have kz_0_15 := fdq_274 hD hth r0
  obtain ⟨x, ex, hx⟩ := iv_ex (ta := ta) (lo := 0) (hi := 2000) (z := w_fi ws (n_v vs 0) 11) (by omega) (by omega) (by omega) (by omega)
  have ex2 : v_iv (Value.int x) = w_fi ws (n_v vs 0) 11 := ex
  have ex3 : 0 ≤ v_iv (Value.int x) ∧ v_iv (Value.int x) ≤ 2000 := tv_rng hx
  have e_3 : n_v (vs ++ [Value.int x]) 3 = n_v vs 3 := n_v_old (by rw [hl]; decide)
  have e_5 : n_v (vs ++ [Value.int x]) 5 = n_v vs 5 := n_v_old (by rw [hl]; decide)
  have e_9 : n_v (vs ++ [Value.int x]) 9 = n_v vs 9 := n_v_old (by rw [hl]; decide)
  have e_27 : n_v (vs ++ [Value.int x]) 27 = Value.int x := n_v_new hl
  have nf0 : fc_1 PRD (20, [27, 5], [30, 0, 1, 0, 0, -1, 1, 11]) ws (vs ++ [Value.int x]) := by
    refine ⟨nf_inA hl rfl, sgq_1395 ?_⟩
    · show 1 * v_iv (n_v (vs ++ [Value.int x]) 27) + ((-1) * w_fi ws (n_v (vs ++ [Value.int x]) 5) 11 + 0) ≤ 0
      simp only [e_5, e_27, q5]
      exact vc_Mo_of_at_s5002_19_0 (v_iv (n_v vs 2)) (v_iv (n_v vs 3)) (v_iv (n_v vs 7)) (v_iv (n_v vs 9)) (v_iv (n_v vs 13)) (v_iv (n_v vs 15)) (v_iv (n_v vs 26)) (w_fi ws (n_v vs 0) 8) (w_fi ws (n_v vs 0) 15) (w_fi ws (n_v vs 0) 11) (w_fi ws (n_v vs 0) 12) (v_iv (Value.int x)) k2 k3 k7 k9 k13 k15 k26 f0 g1 f2 f3 f4 f5 f6 f7 f10 f11 f12 f13 f15 f16 f17 f18 f19 f20 f22 f23 f24 f25 f26 f27 f29 f30 f31 f32 f33 f34 f36 f37 kz_0_8 kz_0_11 kz_0_12 kz_0_15 ex2 ex3
  have nf1 : fc_1 PRD (23, [3, 27], [-1, 1, -1]) ws (vs ++ [Value.int x]) := by
    refine ⟨nf_inA hl rfl, sgq_211 ?_⟩
    · show 1 * v_iv (n_v (vs ++ [Value.int x]) 3) + ((-1) * v_iv (n_v (vs ++ [Value.int x]) 27) + 0) ≤ (-1)
      simp only [e_3, e_27]
      exact vc_Mo_of_at_s5002_19_1 (v_iv (n_v vs 2)) (v_iv (n_v vs 3)) (v_iv (n_v vs 7)) (v_iv (n_v vs 9)) (v_iv (n_v vs 13)) (v_iv (n_v vs 15)) (v_iv (n_v vs 26)) (w_fi ws (n_v vs 0) 8) (w_fi ws (n_v vs 0) 15) (w_fi ws (n_v vs 0) 11) (w_fi ws (n_v vs 0) 12) (v_iv (Value.int x)) k2 k3 k7 k9 k13 k15 k26 f0 g1 f2 f3 f4 f5 f6 f7 f10 f11 f12 f13 f15 f16 f17 f18 f19 f20 f22 f23 f24 f25 f26 f27 f29 f30 f31 f32 f33 f34 f36 f37 kz_0_8 kz_0_11 kz_0_12 kz_0_15 ex2 ex3
  have nf2 : fc_1 PRD (23, [9, 27], [-2001, -1, -1]) ws (vs ++ [Value.int x]) := by
    refine ⟨nf_inA hl rfl, sgq_1895 ?_⟩
    · show (-1) * v_iv (n_v (vs ++ [Value.int x]) 9) + ((-1) * v_iv (n_v (vs ++ [Value.int x]) 27) + 0) ≤ (-2001)
      simp only [e_9, e_27]
      exact vc_Mo_of_at_s5002_19_2 (v_iv (n_v vs 2)) (v_iv (n_v vs 3)) (v_iv (n_v vs 7)) (v_iv (n_v vs 9)) (v_iv (n_v vs 13)) (v_iv (n_v vs 15)) (v_iv (n_v vs 26)) (w_fi ws (n_v vs 0) 8) (w_fi ws (n_v vs 0) 15) (w_fi ws (n_v vs 0) 11) (w_fi ws (n_v vs 0) 12) (v_iv (Value.int x)) k2 k3 k7 k9 k13 k15 k26 f0 g1 f2 f3 f4 f5 f6 f7 f10 f11 f12 f13 f15 f16 f17 f18 f19 f20 f22 f23 f24 f25 f26 f27 f29 f30 f31 f32 f33 f34 f36 f37 kz_0_8 kz_0_11 kz_0_12 kz_0_15 ex2 ex3
  exact ⟨(fun _ h => (by cases h)), [Value.int x], ag_one hx, List.forall_mem_cons.mpr ⟨⟨show (20 : Nat) < 100 from by decide, nf0⟩, List.forall_mem_cons.mpr ⟨⟨show (23 : Nat) < 100 from by decide, nf1⟩, List.forall_mem_cons.mpr ⟨⟨show (23 : Nat) < 100 from by decide, nf2⟩, (fun _ h => (by cases h))⟩⟩⟩, (fun _ h => (by cases h))⟩
set_option maxHeartbeats 4000000 in
theorem vc_Mo_of_at_s5002_20_0 (x2 : Int) (x3 : Int) (x4 : Int) (x7 : Int) (x8 : Int) (x9 : Int) (x13 : Int) (x15 : Int) (x22 : Int) (x27 : Int) (fault_0 : Int) (from_0 : Int) (pos_0 : Int) (kind_0 : Int) (gx : Int) (k2 : 99 ≤ x2 ∧ x2 ≤ 99) (k3 : 0 ≤ x3 ∧ x3 ≤ 2000) (k4 : (-1) ≤ x4 ∧ x4 ≤ 48) (k7 : 99 ≤ x7 ∧ x7 ≤ 99) (k8 : (-2147483648) ≤ x8 ∧ x8 ≤ 0) (k9 : 0 ≤ x9 ∧ x9 ≤ 2000) (k13 : 0 ≤ x13 ∧ x13 ≤ 2000) (k15 : 0 ≤ x15 ∧ x15 ≤ 2000) (k22 : (-2147483648) ≤ x22 ∧ x22 ≤ 0) (k27 : 0 ≤ x27 ∧ x27 ≤ 2000) (f0 : 1 * x3 + ((-1) * x27 + 0) ≤ (-1)) (f1 : (-1) * x9 + ((-1) * x27 + 0) ≤ (-2001)) (f2 : 1 * x22 + ((-1) * x2 + 0) ≤ 0) (f3 : (-1) * x22 + 0 ≤ 0) (f4 : 1 * x15 + ((-1) * x13 + 0) ≤ 0) (f5 : (-1) * x15 + (1 * x13 + 0) ≤ 0) (f6 : 1 * x3 + ((-1) * x15 + 0) ≤ (-1)) (f7 : (-1) * x9 + ((-1) * x15 + 0) ≤ (-2000)) (f8 : 1 * x3 + ((-1) * x13 + 0) ≤ (-1)) (f9 : (-1) * x9 + ((-1) * x13 + 0) ≤ (-2000)) (f10 : 1 * x8 + ((-1) * x2 + 0) ≤ 0) (f11 : (-1) * x8 + 0 ≤ 0) (f12 : (-1) * x4 + 0 ≤ 0) (f15 : (-1) * fault_0 + 0 ≤ (-1)) (f16 : 1 * from_0 + ((-1) * pos_0 + 0) ≤ 0) (f17 : ((kind_0 = 1) → (pos_0 ≤ (from_0 + 8))) ∧ ((kind_0 = 0) ∨ ((from_0 + 1) ≤ pos_0))) (f18 : 1 * x27 + ((-1) * from_0 + 0) ≤ 0) (f20 : 1 * x3 + ((-1) * x27 + 0) ≤ (-1)) (f21 : (-1) * x9 + ((-1) * x27 + 0) ≤ (-2001)) (f22 : 1 * x22 + ((-1) * x2 + 0) ≤ 0) (f23 : (-1) * x22 + 0 ≤ 0) (f24 : 1 * x15 + ((-1) * x13 + 0) ≤ 0) (f25 : (-1) * x15 + (1 * x13 + 0) ≤ 0) (f26 : 1 * x3 + ((-1) * x15 + 0) ≤ (-1)) (f27 : (-1) * x9 + ((-1) * x15 + 0) ≤ (-2000)) (f28 : 1 * x3 + ((-1) * x13 + 0) ≤ (-1)) (f29 : (-1) * x9 + ((-1) * x13 + 0) ≤ (-2000)) (f30 : 1 * x8 + ((-1) * x2 + 0) ≤ 0) (f31 : (-1) * x8 + 0 ≤ 0) (f32 : (-1) * x4 + 0 ≤ 0) (f34 : 1 * x15 + ((-1) * x13 + 0) ≤ 0) (f35 : (-1) * x15 + (1 * x13 + 0) ≤ 0) (f36 : 1 * x3 + ((-1) * x15 + 0) ≤ (-1)) (f37 : (-1) * x9 + ((-1) * x15 + 0) ≤ (-2000)) (f38 : 1 * x3 + ((-1) * x13 + 0) ≤ (-1)) (f39 : (-1) * x9 + ((-1) * x13 + 0) ≤ (-2000)) (f40 : 1 * x8 + ((-1) * x2 + 0) ≤ 0) (f41 : (-1) * x8 + 0 ≤ 0) (f42 : (-1) * x4 + 0 ≤ 0) (f44 : 1 * x15 + ((-1) * x13 + 0) ≤ 0) (f45 : (-1) * x15 + (1 * x13 + 0) ≤ 0) (f46 : 1 * x3 + ((-1) * x15 + 0) ≤ (-1)) (f47 : (-1) * x9 + ((-1) * x15 + 0) ≤ (-2000)) (f48 : 1 * x3 + ((-1) * x13 + 0) ≤ (-1)) (f49 : (-1) * x9 + ((-1) * x13 + 0) ≤ (-2000)) (f50 : 1 * x8 + ((-1) * x2 + 0) ≤ 0) (f51 : (-1) * x8 + 0 ≤ 0) (f52 : (-1) * x4 + 0 ≤ 0) (f54 : 1 * x15 + ((-1) * x13 + 0) ≤ 0) (f55 : (-1) * x15 + (1 * x13 + 0) ≤ 0) (f56 : 1 * x3 + ((-1) * x15 + 0) ≤ (-1)) (f57 : (-1) * x9 + ((-1) * x15 + 0) ≤ (-2000)) (f58 : 1 * x3 + ((-1) * x13 + 0) ≤ (-1)) (f59 : (-1) * x9 + ((-1) * x13 + 0) ≤ (-2000)) (f60 : 1 * x8 + ((-1) * x2 + 0) ≤ 0) (f61 : (-1) * x8 + 0 ≤ 0) (f62 : (-1) * x4 + 0 ≤ 0) (f64 : 1 * x3 + ((-1) * x13 + 0) ≤ (-1)) (f65 : (-1) * x9 + ((-1) * x13 + 0) ≤ (-2000)) (f66 : x8 ≤ 0) (f67 : 1 * x8 + ((-1) * x2 + 0) ≤ 0) (f68 : (-1) * x8 + 0 ≤ 0) (f69 : (-1) * x4 + 0 ≤ 0) (f71 : 1 * x8 + ((-1) * x2 + 0) ≤ 0) (f72 : (-1) * x8 + 0 ≤ 0) (f73 : (-1) * x4 + 0 ≤ 0) (kz_0_8 : 0 ≤ fault_0 ∧ fault_0 ≤ 5) (kz_0_11 : 0 ≤ pos_0 ∧ pos_0 ≤ 2000) (kz_0_12 : 0 ≤ kind_0 ∧ kind_0 ≤ 4) (kz_0_15 : 0 ≤ from_0 ∧ from_0 ≤ 2000) (ex2 : gx = 0 + (1 * x9 + 0)) (ex3 : 0 ≤ gx ∧ gx ≤ 2000) : 1 * from_0 + ((-1) * pos_0 + 0) ≤ 0 := by
  first | assumption | (clear f17; omega) | omega | grind
set_option maxHeartbeats 4000000 in
theorem vc_Mo_of_at_s5002_20_1 (x2 : Int) (x3 : Int) (x4 : Int) (x7 : Int) (x8 : Int) (x9 : Int) (x13 : Int) (x15 : Int) (x22 : Int) (x27 : Int) (fault_0 : Int) (from_0 : Int) (pos_0 : Int) (kind_0 : Int) (gx : Int) (k2 : 99 ≤ x2 ∧ x2 ≤ 99) (k3 : 0 ≤ x3 ∧ x3 ≤ 2000) (k4 : (-1) ≤ x4 ∧ x4 ≤ 48) (k7 : 99 ≤ x7 ∧ x7 ≤ 99) (k8 : (-2147483648) ≤ x8 ∧ x8 ≤ 0) (k9 : 0 ≤ x9 ∧ x9 ≤ 2000) (k13 : 0 ≤ x13 ∧ x13 ≤ 2000) (k15 : 0 ≤ x15 ∧ x15 ≤ 2000) (k22 : (-2147483648) ≤ x22 ∧ x22 ≤ 0) (k27 : 0 ≤ x27 ∧ x27 ≤ 2000) (f0 : 1 * x3 + ((-1) * x27 + 0) ≤ (-1)) (f1 : (-1) * x9 + ((-1) * x27 + 0) ≤ (-2001)) (f2 : 1 * x22 + ((-1) * x2 + 0) ≤ 0) (f3 : (-1) * x22 + 0 ≤ 0) (f4 : 1 * x15 + ((-1) * x13 + 0) ≤ 0) (f5 : (-1) * x15 + (1 * x13 + 0) ≤ 0) (f6 : 1 * x3 + ((-1) * x15 + 0) ≤ (-1)) (f7 : (-1) * x9 + ((-1) * x15 + 0) ≤ (-2000)) (f8 : 1 * x3 + ((-1) * x13 + 0) ≤ (-1)) (f9 : (-1) * x9 + ((-1) * x13 + 0) ≤ (-2000)) (f10 : 1 * x8 + ((-1) * x2 + 0) ≤ 0) (f11 : (-1) * x8 + 0 ≤ 0) (f12 : (-1) * x4 + 0 ≤ 0) (f15 : (-1) * fault_0 + 0 ≤ (-1)) (f16 : 1 * from_0 + ((-1) * pos_0 + 0) ≤ 0) (f17 : ((kind_0 = 1) → (pos_0 ≤ (from_0 + 8))) ∧ ((kind_0 = 0) ∨ ((from_0 + 1) ≤ pos_0))) (f18 : 1 * x27 + ((-1) * from_0 + 0) ≤ 0) (f20 : 1 * x3 + ((-1) * x27 + 0) ≤ (-1)) (f21 : (-1) * x9 + ((-1) * x27 + 0) ≤ (-2001)) (f22 : 1 * x22 + ((-1) * x2 + 0) ≤ 0) (f23 : (-1) * x22 + 0 ≤ 0) (f24 : 1 * x15 + ((-1) * x13 + 0) ≤ 0) (f25 : (-1) * x15 + (1 * x13 + 0) ≤ 0) (f26 : 1 * x3 + ((-1) * x15 + 0) ≤ (-1)) (f27 : (-1) * x9 + ((-1) * x15 + 0) ≤ (-2000)) (f28 : 1 * x3 + ((-1) * x13 + 0) ≤ (-1)) (f29 : (-1) * x9 + ((-1) * x13 + 0) ≤ (-2000)) (f30 : 1 * x8 + ((-1) * x2 + 0) ≤ 0) (f31 : (-1) * x8 + 0 ≤ 0) (f32 : (-1) * x4 + 0 ≤ 0) (f34 : 1 * x15 + ((-1) * x13 + 0) ≤ 0) (f35 : (-1) * x15 + (1 * x13 + 0) ≤ 0) (f36 : 1 * x3 + ((-1) * x15 + 0) ≤ (-1)) (f37 : (-1) * x9 + ((-1) * x15 + 0) ≤ (-2000)) (f38 : 1 * x3 + ((-1) * x13 + 0) ≤ (-1)) (f39 : (-1) * x9 + ((-1) * x13 + 0) ≤ (-2000)) (f40 : 1 * x8 + ((-1) * x2 + 0) ≤ 0) (f41 : (-1) * x8 + 0 ≤ 0) (f42 : (-1) * x4 + 0 ≤ 0) (f44 : 1 * x15 + ((-1) * x13 + 0) ≤ 0) (f45 : (-1) * x15 + (1 * x13 + 0) ≤ 0) (f46 : 1 * x3 + ((-1) * x15 + 0) ≤ (-1)) (f47 : (-1) * x9 + ((-1) * x15 + 0) ≤ (-2000)) (f48 : 1 * x3 + ((-1) * x13 + 0) ≤ (-1)) (f49 : (-1) * x9 + ((-1) * x13 + 0) ≤ (-2000)) (f50 : 1 * x8 + ((-1) * x2 + 0) ≤ 0) (f51 : (-1) * x8 + 0 ≤ 0) (f52 : (-1) * x4 + 0 ≤ 0) (f54 : 1 * x15 + ((-1) * x13 + 0) ≤ 0) (f55 : (-1) * x15 + (1 * x13 + 0) ≤ 0) (f56 : 1 * x3 + ((-1) * x15 + 0) ≤ (-1)) (f57 : (-1) * x9 + ((-1) * x15 + 0) ≤ (-2000)) (f58 : 1 * x3 + ((-1) * x13 + 0) ≤ (-1)) (f59 : (-1) * x9 + ((-1) * x13 + 0) ≤ (-2000)) (f60 : 1 * x8 + ((-1) * x2 + 0) ≤ 0) (f61 : (-1) * x8 + 0 ≤ 0) (f62 : (-1) * x4 + 0 ≤ 0) (f64 : 1 * x3 + ((-1) * x13 + 0) ≤ (-1)) (f65 : (-1) * x9 + ((-1) * x13 + 0) ≤ (-2000)) (f66 : x8 ≤ 0) (f67 : 1 * x8 + ((-1) * x2 + 0) ≤ 0) (f68 : (-1) * x8 + 0 ≤ 0) (f69 : (-1) * x4 + 0 ≤ 0) (f71 : 1 * x8 + ((-1) * x2 + 0) ≤ 0) (f72 : (-1) * x8 + 0 ≤ 0) (f73 : (-1) * x4 + 0 ≤ 0) (kz_0_8 : 0 ≤ fault_0 ∧ fault_0 ≤ 5) (kz_0_11 : 0 ≤ pos_0 ∧ pos_0 ≤ 2000) (kz_0_12 : 0 ≤ kind_0 ∧ kind_0 ≤ 4) (kz_0_15 : 0 ≤ from_0 ∧ from_0 ≤ 2000) (ex2 : gx = 0 + (1 * x9 + 0)) (ex3 : 0 ≤ gx ∧ gx ≤ 2000) : ((kind_0 = 1) → (pos_0 ≤ (from_0 + 8))) ∧ ((kind_0 = 0) ∨ ((from_0 + 1) ≤ pos_0)) := by
  first | assumption | (clear f17; omega) | omega | grind
set_option maxHeartbeats 4000000 in
theorem vc_Mo_of_at_s5002_20_2 (x2 : Int) (x3 : Int) (x4 : Int) (x7 : Int) (x8 : Int) (x9 : Int) (x13 : Int) (x15 : Int) (x22 : Int) (x27 : Int) (fault_0 : Int) (from_0 : Int) (pos_0 : Int) (kind_0 : Int) (gx : Int) (k2 : 99 ≤ x2 ∧ x2 ≤ 99) (k3 : 0 ≤ x3 ∧ x3 ≤ 2000) (k4 : (-1) ≤ x4 ∧ x4 ≤ 48) (k7 : 99 ≤ x7 ∧ x7 ≤ 99) (k8 : (-2147483648) ≤ x8 ∧ x8 ≤ 0) (k9 : 0 ≤ x9 ∧ x9 ≤ 2000) (k13 : 0 ≤ x13 ∧ x13 ≤ 2000) (k15 : 0 ≤ x15 ∧ x15 ≤ 2000) (k22 : (-2147483648) ≤ x22 ∧ x22 ≤ 0) (k27 : 0 ≤ x27 ∧ x27 ≤ 2000) (f0 : 1 * x3 + ((-1) * x27 + 0) ≤ (-1)) (f1 : (-1) * x9 + ((-1) * x27 + 0) ≤ (-2001)) (f2 : 1 * x22 + ((-1) * x2 + 0) ≤ 0) (f3 : (-1) * x22 + 0 ≤ 0) (f4 : 1 * x15 + ((-1) * x13 + 0) ≤ 0) (f5 : (-1) * x15 + (1 * x13 + 0) ≤ 0) (f6 : 1 * x3 + ((-1) * x15 + 0) ≤ (-1)) (f7 : (-1) * x9 + ((-1) * x15 + 0) ≤ (-2000)) (f8 : 1 * x3 + ((-1) * x13 + 0) ≤ (-1)) (f9 : (-1) * x9 + ((-1) * x13 + 0) ≤ (-2000)) (f10 : 1 * x8 + ((-1) * x2 + 0) ≤ 0) (f11 : (-1) * x8 + 0 ≤ 0) (f12 : (-1) * x4 + 0 ≤ 0) (f15 : (-1) * fault_0 + 0 ≤ (-1)) (f16 : 1 * from_0 + ((-1) * pos_0 + 0) ≤ 0) (f17 : ((kind_0 = 1) → (pos_0 ≤ (from_0 + 8))) ∧ ((kind_0 = 0) ∨ ((from_0 + 1) ≤ pos_0))) (f18 : 1 * x27 + ((-1) * from_0 + 0) ≤ 0) (f20 : 1 * x3 + ((-1) * x27 + 0) ≤ (-1)) (f21 : (-1) * x9 + ((-1) * x27 + 0) ≤ (-2001)) (f22 : 1 * x22 + ((-1) * x2 + 0) ≤ 0) (f23 : (-1) * x22 + 0 ≤ 0) (f24 : 1 * x15 + ((-1) * x13 + 0) ≤ 0) (f25 : (-1) * x15 + (1 * x13 + 0) ≤ 0) (f26 : 1 * x3 + ((-1) * x15 + 0) ≤ (-1)) (f27 : (-1) * x9 + ((-1) * x15 + 0) ≤ (-2000)) (f28 : 1 * x3 + ((-1) * x13 + 0) ≤ (-1)) (f29 : (-1) * x9 + ((-1) * x13 + 0) ≤ (-2000)) (f30 : 1 * x8 + ((-1) * x2 + 0) ≤ 0) (f31 : (-1) * x8 + 0 ≤ 0) (f32 : (-1) * x4 + 0 ≤ 0) (f34 : 1 * x15 + ((-1) * x13 + 0) ≤ 0) (f35 : (-1) * x15 + (1 * x13 + 0) ≤ 0) (f36 : 1 * x3 + ((-1) * x15 + 0) ≤ (-1)) (f37 : (-1) * x9 + ((-1) * x15 + 0) ≤ (-2000)) (f38 : 1 * x3 + ((-1) * x13 + 0) ≤ (-1)) (f39 : (-1) * x9 + ((-1) * x13 + 0) ≤ (-2000)) (f40 : 1 * x8 + ((-1) * x2 + 0) ≤ 0) (f41 : (-1) * x8 + 0 ≤ 0) (f42 : (-1) * x4 + 0 ≤ 0) (f44 : 1 * x15 + ((-1) * x13 + 0) ≤ 0) (f45 : (-1) * x15 + (1 * x13 + 0) ≤ 0) (f46 : 1 * x3 + ((-1) * x15 + 0) ≤ (-1)) (f47 : (-1) * x9 + ((-1) * x15 + 0) ≤ (-2000)) (f48 : 1 * x3 + ((-1) * x13 + 0) ≤ (-1)) (f49 : (-1) * x9 + ((-1) * x13 + 0) ≤ (-2000)) (f50 : 1 * x8 + ((-1) * x2 + 0) ≤ 0) (f51 : (-1) * x8 + 0 ≤ 0) (f52 : (-1) * x4 + 0 ≤ 0) (f54 : 1 * x15 + ((-1) * x13 + 0) ≤ 0) (f55 : (-1) * x15 + (1 * x13 + 0) ≤ 0) (f56 : 1 * x3 + ((-1) * x15 + 0) ≤ (-1)) (f57 : (-1) * x9 + ((-1) * x15 + 0) ≤ (-2000)) (f58 : 1 * x3 + ((-1) * x13 + 0) ≤ (-1)) (f59 : (-1) * x9 + ((-1) * x13 + 0) ≤ (-2000)) (f60 : 1 * x8 + ((-1) * x2 + 0) ≤ 0) (f61 : (-1) * x8 + 0 ≤ 0) (f62 : (-1) * x4 + 0 ≤ 0) (f64 : 1 * x3 + ((-1) * x13 + 0) ≤ (-1)) (f65 : (-1) * x9 + ((-1) * x13 + 0) ≤ (-2000)) (f66 : x8 ≤ 0) (f67 : 1 * x8 + ((-1) * x2 + 0) ≤ 0) (f68 : (-1) * x8 + 0 ≤ 0) (f69 : (-1) * x4 + 0 ≤ 0) (f71 : 1 * x8 + ((-1) * x2 + 0) ≤ 0) (f72 : (-1) * x8 + 0 ≤ 0) (f73 : (-1) * x4 + 0 ≤ 0) (kz_0_8 : 0 ≤ fault_0 ∧ fault_0 ≤ 5) (kz_0_11 : 0 ≤ pos_0 ∧ pos_0 ≤ 2000) (kz_0_12 : 0 ≤ kind_0 ∧ kind_0 ≤ 4) (kz_0_15 : 0 ≤ from_0 ∧ from_0 ≤ 2000) (ex2 : gx = 0 + (1 * x9 + 0)) (ex3 : 0 ≤ gx ∧ gx ≤ 2000) : 1 * x3 + ((-1) * pos_0 + 0) ≤ (-1) := by
  first | assumption | (clear f17; omega) | omega | grind
set_option maxHeartbeats 4000000 in
theorem vc_Mo_of_at_s5002_20_3 (x2 : Int) (x3 : Int) (x4 : Int) (x7 : Int) (x8 : Int) (x9 : Int) (x13 : Int) (x15 : Int) (x22 : Int) (x27 : Int) (fault_0 : Int) (from_0 : Int) (pos_0 : Int) (kind_0 : Int) (gx : Int) (k2 : 99 ≤ x2 ∧ x2 ≤ 99) (k3 : 0 ≤ x3 ∧ x3 ≤ 2000) (k4 : (-1) ≤ x4 ∧ x4 ≤ 48) (k7 : 99 ≤ x7 ∧ x7 ≤ 99) (k8 : (-2147483648) ≤ x8 ∧ x8 ≤ 0) (k9 : 0 ≤ x9 ∧ x9 ≤ 2000) (k13 : 0 ≤ x13 ∧ x13 ≤ 2000) (k15 : 0 ≤ x15 ∧ x15 ≤ 2000) (k22 : (-2147483648) ≤ x22 ∧ x22 ≤ 0) (k27 : 0 ≤ x27 ∧ x27 ≤ 2000) (f0 : 1 * x3 + ((-1) * x27 + 0) ≤ (-1)) (f1 : (-1) * x9 + ((-1) * x27 + 0) ≤ (-2001)) (f2 : 1 * x22 + ((-1) * x2 + 0) ≤ 0) (f3 : (-1) * x22 + 0 ≤ 0) (f4 : 1 * x15 + ((-1) * x13 + 0) ≤ 0) (f5 : (-1) * x15 + (1 * x13 + 0) ≤ 0) (f6 : 1 * x3 + ((-1) * x15 + 0) ≤ (-1)) (f7 : (-1) * x9 + ((-1) * x15 + 0) ≤ (-2000)) (f8 : 1 * x3 + ((-1) * x13 + 0) ≤ (-1)) (f9 : (-1) * x9 + ((-1) * x13 + 0) ≤ (-2000)) (f10 : 1 * x8 + ((-1) * x2 + 0) ≤ 0) (f11 : (-1) * x8 + 0 ≤ 0) (f12 : (-1) * x4 + 0 ≤ 0) (f15 : (-1) * fault_0 + 0 ≤ (-1)) (f16 : 1 * from_0 + ((-1) * pos_0 + 0) ≤ 0) (f17 : ((kind_0 = 1) → (pos_0 ≤ (from_0 + 8))) ∧ ((kind_0 = 0) ∨ ((from_0 + 1) ≤ pos_0))) (f18 : 1 * x27 + ((-1) * from_0 + 0) ≤ 0) (f20 : 1 * x3 + ((-1) * x27 + 0) ≤ (-1)) (f21 : (-1) * x9 + ((-1) * x27 + 0) ≤ (-2001)) (f22 : 1 * x22 + ((-1) * x2 + 0) ≤ 0) (f23 : (-1) * x22 + 0 ≤ 0) (f24 : 1 * x15 + ((-1) * x13 + 0) ≤ 0) (f25 : (-1) * x15 + (1 * x13 + 0) ≤ 0) (f26 : 1 * x3 + ((-1) * x15 + 0) ≤ (-1)) (f27 : (-1) * x9 + ((-1) * x15 + 0) ≤ (-2000)) (f28 : 1 * x3 + ((-1) * x13 + 0) ≤ (-1)) (f29 : (-1) * x9 + ((-1) * x13 + 0) ≤ (-2000)) (f30 : 1 * x8 + ((-1) * x2 + 0) ≤ 0) (f31 : (-1) * x8 + 0 ≤ 0) (f32 : (-1) * x4 + 0 ≤ 0) (f34 : 1 * x15 + ((-1) * x13 + 0) ≤ 0) (f35 : (-1) * x15 + (1 * x13 + 0) ≤ 0) (f36 : 1 * x3 + ((-1) * x15 + 0) ≤ (-1)) (f37 : (-1) * x9 + ((-1) * x15 + 0) ≤ (-2000)) (f38 : 1 * x3 + ((-1) * x13 + 0) ≤ (-1)) (f39 : (-1) * x9 + ((-1) * x13 + 0) ≤ (-2000)) (f40 : 1 * x8 + ((-1) * x2 + 0) ≤ 0) (f41 : (-1) * x8 + 0 ≤ 0) (f42 : (-1) * x4 + 0 ≤ 0) (f44 : 1 * x15 + ((-1) * x13 + 0) ≤ 0) (f45 : (-1) * x15 + (1 * x13 + 0) ≤ 0) (f46 : 1 * x3 + ((-1) * x15 + 0) ≤ (-1)) (f47 : (-1) * x9 + ((-1) * x15 + 0) ≤ (-2000)) (f48 : 1 * x3 + ((-1) * x13 + 0) ≤ (-1)) (f49 : (-1) * x9 + ((-1) * x13 + 0) ≤ (-2000)) (f50 : 1 * x8 + ((-1) * x2 + 0) ≤ 0) (f51 : (-1) * x8 + 0 ≤ 0) (f52 : (-1) * x4 + 0 ≤ 0) (f54 : 1 * x15 + ((-1) * x13 + 0) ≤ 0) (f55 : (-1) * x15 + (1 * x13 + 0) ≤ 0) (f56 : 1 * x3 + ((-1) * x15 + 0) ≤ (-1)) (f57 : (-1) * x9 + ((-1) * x15 + 0) ≤ (-2000)) (f58 : 1 * x3 + ((-1) * x13 + 0) ≤ (-1)) (f59 : (-1) * x9 + ((-1) * x13 + 0) ≤ (-2000)) (f60 : 1 * x8 + ((-1) * x2 + 0) ≤ 0) (f61 : (-1) * x8 + 0 ≤ 0) (f62 : (-1) * x4 + 0 ≤ 0) (f64 : 1 * x3 + ((-1) * x13 + 0) ≤ (-1)) (f65 : (-1) * x9 + ((-1) * x13 + 0) ≤ (-2000)) (f66 : x8 ≤ 0) (f67 : 1 * x8 + ((-1) * x2 + 0) ≤ 0) (f68 : (-1) * x8 + 0 ≤ 0) (f69 : (-1) * x4 + 0 ≤ 0) (f71 : 1 * x8 + ((-1) * x2 + 0) ≤ 0) (f72 : (-1) * x8 + 0 ≤ 0) (f73 : (-1) * x4 + 0 ≤ 0) (kz_0_8 : 0 ≤ fault_0 ∧ fault_0 ≤ 5) (kz_0_11 : 0 ≤ pos_0 ∧ pos_0 ≤ 2000) (kz_0_12 : 0 ≤ kind_0 ∧ kind_0 ≤ 4) (kz_0_15 : 0 ≤ from_0 ∧ from_0 ≤ 2000) (ex2 : gx = 0 + (1 * x9 + 0)) (ex3 : 0 ≤ gx ∧ gx ≤ 2000) : 1 * x22 + ((-1) * x2 + 0) ≤ 0 := by
  first | assumption | (clear f17; omega) | omega | grind
set_option maxHeartbeats 4000000 in
theorem vc_Mo_of_at_s5002_20_4 (x2 : Int) (x3 : Int) (x4 : Int) (x7 : Int) (x8 : Int) (x9 : Int) (x13 : Int) (x15 : Int) (x22 : Int) (x27 : Int) (fault_0 : Int) (from_0 : Int) (pos_0 : Int) (kind_0 : Int) (gx : Int) (k2 : 99 ≤ x2 ∧ x2 ≤ 99) (k3 : 0 ≤ x3 ∧ x3 ≤ 2000) (k4 : (-1) ≤ x4 ∧ x4 ≤ 48) (k7 : 99 ≤ x7 ∧ x7 ≤ 99) (k8 : (-2147483648) ≤ x8 ∧ x8 ≤ 0) (k9 : 0 ≤ x9 ∧ x9 ≤ 2000) (k13 : 0 ≤ x13 ∧ x13 ≤ 2000) (k15 : 0 ≤ x15 ∧ x15 ≤ 2000) (k22 : (-2147483648) ≤ x22 ∧ x22 ≤ 0) (k27 : 0 ≤ x27 ∧ x27 ≤ 2000) (f0 : 1 * x3 + ((-1) * x27 + 0) ≤ (-1)) (f1 : (-1) * x9 + ((-1) * x27 + 0) ≤ (-2001)) (f2 : 1 * x22 + ((-1) * x2 + 0) ≤ 0) (f3 : (-1) * x22 + 0 ≤ 0) (f4 : 1 * x15 + ((-1) * x13 + 0) ≤ 0) (f5 : (-1) * x15 + (1 * x13 + 0) ≤ 0) (f6 : 1 * x3 + ((-1) * x15 + 0) ≤ (-1)) (f7 : (-1) * x9 + ((-1) * x15 + 0) ≤ (-2000)) (f8 : 1 * x3 + ((-1) * x13 + 0) ≤ (-1)) (f9 : (-1) * x9 + ((-1) * x13 + 0) ≤ (-2000)) (f10 : 1 * x8 + ((-1) * x2 + 0) ≤ 0) (f11 : (-1) * x8 + 0 ≤ 0) (f12 : (-1) * x4 + 0 ≤ 0) (f15 : (-1) * fault_0 + 0 ≤ (-1)) (f16 : 1 * from_0 + ((-1) * pos_0 + 0) ≤ 0) (f17 : ((kind_0 = 1) → (pos_0 ≤ (from_0 + 8))) ∧ ((kind_0 = 0) ∨ ((from_0 + 1) ≤ pos_0))) (f18 : 1 * x27 + ((-1) * from_0 + 0) ≤ 0) (f20 : 1 * x3 + ((-1) * x27 + 0) ≤ (-1)) (f21 : (-1) * x9 + ((-1) * x27 + 0) ≤ (-2001)) (f22 : 1 * x22 + ((-1) * x2 + 0) ≤ 0) (f23 : (-1) * x22 + 0 ≤ 0) (f24 : 1 * x15 + ((-1) * x13 + 0) ≤ 0) (f25 : (-1) * x15 + (1 * x13 + 0) ≤ 0) (f26 : 1 * x3 + ((-1) * x15 + 0) ≤ (-1)) (f27 : (-1) * x9 + ((-1) * x15 + 0) ≤ (-2000)) (f28 : 1 * x3 + ((-1) * x13 + 0) ≤ (-1)) (f29 : (-1) * x9 + ((-1) * x13 + 0) ≤ (-2000)) (f30 : 1 * x8 + ((-1) * x2 + 0) ≤ 0) (f31 : (-1) * x8 + 0 ≤ 0) (f32 : (-1) * x4 + 0 ≤ 0) (f34 : 1 * x15 + ((-1) * x13 + 0) ≤ 0) (f35 : (-1) * x15 + (1 * x13 + 0) ≤ 0) (f36 : 1 * x3 + ((-1) * x15 + 0) ≤ (-1)) (f37 : (-1) * x9 + ((-1) * x15 + 0) ≤ (-2000)) (f38 : 1 * x3 + ((-1) * x13 + 0) ≤ (-1)) (f39 : (-1) * x9 + ((-1) * x13 + 0) ≤ (-2000)) (f40 : 1 * x8 + ((-1) * x2 + 0) ≤ 0) (f41 : (-1) * x8 + 0 ≤ 0) (f42 : (-1) * x4 + 0 ≤ 0) (f44 : 1 * x15 + ((-1) * x13 + 0) ≤ 0) (f45 : (-1) * x15 + (1 * x13 + 0) ≤ 0) (f46 : 1 * x3 + ((-1) * x15 + 0) ≤ (-1)) (f47 : (-1) * x9 + ((-1) * x15 + 0) ≤ (-2000)) (f48 : 1 * x3 + ((-1) * x13 + 0) ≤ (-1)) (f49 : (-1) * x9 + ((-1) * x13 + 0) ≤ (-2000)) (f50 : 1 * x8 + ((-1) * x2 + 0) ≤ 0) (f51 : (-1) * x8 + 0 ≤ 0) (f52 : (-1) * x4 + 0 ≤ 0) (f54 : 1 * x15 + ((-1) * x13 + 0) ≤ 0) (f55 : (-1) * x15 + (1 * x13 + 0) ≤ 0) (f56 : 1 * x3 + ((-1) * x15 + 0) ≤ (-1)) (f57 : (-1) * x9 + ((-1) * x15 + 0) ≤ (-2000)) (f58 : 1 * x3 + ((-1) * x13 + 0) ≤ (-1)) (f59 : (-1) * x9 + ((-1) * x13 + 0) ≤ (-2000)) (f60 : 1 * x8 + ((-1) * x2 + 0) ≤ 0) (f61 : (-1) * x8 + 0 ≤ 0) (f62 : (-1) * x4 + 0 ≤ 0) (f64 : 1 * x3 + ((-1) * x13 + 0) ≤ (-1)) (f65 : (-1) * x9 + ((-1) * x13 + 0) ≤ (-2000)) (f66 : x8 ≤ 0) (f67 : 1 * x8 + ((-1) * x2 + 0) ≤ 0) (f68 : (-1) * x8 + 0 ≤ 0) (f69 : (-1) * x4 + 0 ≤ 0) (f71 : 1 * x8 + ((-1) * x2 + 0) ≤ 0) (f72 : (-1) * x8 + 0 ≤ 0) (f73 : (-1) * x4 + 0 ≤ 0) (kz_0_8 : 0 ≤ fault_0 ∧ fault_0 ≤ 5) (kz_0_11 : 0 ≤ pos_0 ∧ pos_0 ≤ 2000) (kz_0_12 : 0 ≤ kind_0 ∧ kind_0 ≤ 4) (kz_0_15 : 0 ≤ from_0 ∧ from_0 ≤ 2000) (ex2 : gx = 0 + (1 * x9 + 0)) (ex3 : 0 ≤ gx ∧ gx ≤ 2000) : (-1) * x22 + 0 ≤ 0 := by
  first | assumption | (clear f17; omega) | omega | grind
set_option maxHeartbeats 4000000 in
theorem vc_Mo_of_at_s5002_20_5 (x2 : Int) (x3 : Int) (x4 : Int) (x7 : Int) (x8 : Int) (x9 : Int) (x13 : Int) (x15 : Int) (x22 : Int) (x27 : Int) (fault_0 : Int) (from_0 : Int) (pos_0 : Int) (kind_0 : Int) (gx : Int) (k2 : 99 ≤ x2 ∧ x2 ≤ 99) (k3 : 0 ≤ x3 ∧ x3 ≤ 2000) (k4 : (-1) ≤ x4 ∧ x4 ≤ 48) (k7 : 99 ≤ x7 ∧ x7 ≤ 99) (k8 : (-2147483648) ≤ x8 ∧ x8 ≤ 0) (k9 : 0 ≤ x9 ∧ x9 ≤ 2000) (k13 : 0 ≤ x13 ∧ x13 ≤ 2000) (k15 : 0 ≤ x15 ∧ x15 ≤ 2000) (k22 : (-2147483648) ≤ x22 ∧ x22 ≤ 0) (k27 : 0 ≤ x27 ∧ x27 ≤ 2000) (f0 : 1 * x3 + ((-1) * x27 + 0) ≤ (-1)) (f1 : (-1) * x9 + ((-1) * x27 + 0) ≤ (-2001)) (f2 : 1 * x22 + ((-1) * x2 + 0) ≤ 0) (f3 : (-1) * x22 + 0 ≤ 0) (f4 : 1 * x15 + ((-1) * x13 + 0) ≤ 0) (f5 : (-1) * x15 + (1 * x13 + 0) ≤ 0) (f6 : 1 * x3 + ((-1) * x15 + 0) ≤ (-1)) (f7 : (-1) * x9 + ((-1) * x15 + 0) ≤ (-2000)) (f8 : 1 * x3 + ((-1) * x13 + 0) ≤ (-1)) (f9 : (-1) * x9 + ((-1) * x13 + 0) ≤ (-2000)) (f10 : 1 * x8 + ((-1) * x2 + 0) ≤ 0) (f11 : (-1) * x8 + 0 ≤ 0) (f12 : (-1) * x4 + 0 ≤ 0) (f15 : (-1) * fault_0 + 0 ≤ (-1)) (f16 : 1 * from_0 + ((-1) * pos_0 + 0) ≤ 0) (f17 : ((kind_0 = 1) → (pos_0 ≤ (from_0 + 8))) ∧ ((kind_0 = 0) ∨ ((from_0 + 1) ≤ pos_0))) (f18 : 1 * x27 + ((-1) * from_0 + 0) ≤ 0) (f20 : 1 * x3 + ((-1) * x27 + 0) ≤ (-1)) (f21 : (-1) * x9 + ((-1) * x27 + 0) ≤ (-2001)) (f22 : 1 * x22 + ((-1) * x2 + 0) ≤ 0) (f23 : (-1) * x22 + 0 ≤ 0) (f24 : 1 * x15 + ((-1) * x13 + 0) ≤ 0) (f25 : (-1) * x15 + (1 * x13 + 0) ≤ 0) (f26 : 1 * x3 + ((-1) * x15 + 0) ≤ (-1)) (f27 : (-1) * x9 + ((-1) * x15 + 0) ≤ (-2000)) (f28 : 1 * x3 + ((-1) * x13 + 0) ≤ (-1)) (f29 : (-1) * x9 + ((-1) * x13 + 0) ≤ (-2000)) (f30 : 1 * x8 + ((-1) * x2 + 0) ≤ 0) (f31 : (-1) * x8 + 0 ≤ 0) (f32 : (-1) * x4 + 0 ≤ 0) (f34 : 1 * x15 + ((-1) * x13 + 0) ≤ 0) (f35 : (-1) * x15 + (1 * x13 + 0) ≤ 0) (f36 : 1 * x3 + ((-1) * x15 + 0) ≤ (-1)) (f37 : (-1) * x9 + ((-1) * x15 + 0) ≤ (-2000)) (f38 : 1 * x3 + ((-1) * x13 + 0) ≤ (-1)) (f39 : (-1) * x9 + ((-1) * x13 + 0) ≤ (-2000)) (f40 : 1 * x8 + ((-1) * x2 + 0) ≤ 0) (f41 : (-1) * x8 + 0 ≤ 0) (f42 : (-1) * x4 + 0 ≤ 0) (f44 : 1 * x15 + ((-1) * x13 + 0) ≤ 0) (f45 : (-1) * x15 + (1 * x13 + 0) ≤ 0) (f46 : 1 * x3 + ((-1) * x15 + 0) ≤ (-1)) (f47 : (-1) * x9 + ((-1) * x15 + 0) ≤ (-2000)) (f48 : 1 * x3 + ((-1) * x13 + 0) ≤ (-1)) (f49 : (-1) * x9 + ((-1) * x13 + 0) ≤ (-2000)) (f50 : 1 * x8 + ((-1) * x2 + 0) ≤ 0) (f51 : (-1) * x8 + 0 ≤ 0) (f52 : (-1) * x4 + 0 ≤ 0) (f54 : 1 * x15 + ((-1) * x13 + 0) ≤ 0) (f55 : (-1) * x15 + (1 * x13 + 0) ≤ 0) (f56 : 1 * x3 + ((-1) * x15 + 0) ≤ (-1)) (f57 : (-1) * x9 + ((-1) * x15 + 0) ≤ (-2000)) (f58 : 1 * x3 + ((-1) * x13 + 0) ≤ (-1)) (f59 : (-1) * x9 + ((-1) * x13 + 0) ≤ (-2000)) (f60 : 1 * x8 + ((-1) * x2 + 0) ≤ 0) (f61 : (-1) * x8 + 0 ≤ 0) (f62 : (-1) * x4 + 0 ≤ 0) (f64 : 1 * x3 + ((-1) * x13 + 0) ≤ (-1)) (f65 : (-1) * x9 + ((-1) * x13 + 0) ≤ (-2000)) (f66 : x8 ≤ 0) (f67 : 1 * x8 + ((-1) * x2 + 0) ≤ 0) (f68 : (-1) * x8 + 0 ≤ 0) (f69 : (-1) * x4 + 0 ≤ 0) (f71 : 1 * x8 + ((-1) * x2 + 0) ≤ 0) (f72 : (-1) * x8 + 0 ≤ 0) (f73 : (-1) * x4 + 0 ≤ 0) (kz_0_8 : 0 ≤ fault_0 ∧ fault_0 ≤ 5) (kz_0_11 : 0 ≤ pos_0 ∧ pos_0 ≤ 2000) (kz_0_12 : 0 ≤ kind_0 ∧ kind_0 ≤ 4) (kz_0_15 : 0 ≤ from_0 ∧ from_0 ≤ 2000) (ex2 : gx = 0 + (1 * x9 + 0)) (ex3 : 0 ≤ gx ∧ gx ≤ 2000) : (-1) * x4 + 0 ≤ 0 := by
  first | assumption | (clear f17; omega) | omega | grind
set_option maxHeartbeats 4000000 in
theorem vc_Mo_of_at_s5002_20_6 (x2 : Int) (x3 : Int) (x4 : Int) (x7 : Int) (x8 : Int) (x9 : Int) (x13 : Int) (x15 : Int) (x22 : Int) (x27 : Int) (fault_0 : Int) (from_0 : Int) (pos_0 : Int) (kind_0 : Int) (gx : Int) (k2 : 99 ≤ x2 ∧ x2 ≤ 99) (k3 : 0 ≤ x3 ∧ x3 ≤ 2000) (k4 : (-1) ≤ x4 ∧ x4 ≤ 48) (k7 : 99 ≤ x7 ∧ x7 ≤ 99) (k8 : (-2147483648) ≤ x8 ∧ x8 ≤ 0) (k9 : 0 ≤ x9 ∧ x9 ≤ 2000) (k13 : 0 ≤ x13 ∧ x13 ≤ 2000) (k15 : 0 ≤ x15 ∧ x15 ≤ 2000) (k22 : (-2147483648) ≤ x22 ∧ x22 ≤ 0) (k27 : 0 ≤ x27 ∧ x27 ≤ 2000) (f0 : 1 * x3 + ((-1) * x27 + 0) ≤ (-1)) (f1 : (-1) * x9 + ((-1) * x27 + 0) ≤ (-2001)) (f2 : 1 * x22 + ((-1) * x2 + 0) ≤ 0) (f3 : (-1) * x22 + 0 ≤ 0) (f4 : 1 * x15 + ((-1) * x13 + 0) ≤ 0) (f5 : (-1) * x15 + (1 * x13 + 0) ≤ 0) (f6 : 1 * x3 + ((-1) * x15 + 0) ≤ (-1)) (f7 : (-1) * x9 + ((-1) * x15 + 0) ≤ (-2000)) (f8 : 1 * x3 + ((-1) * x13 + 0) ≤ (-1)) (f9 : (-1) * x9 + ((-1) * x13 + 0) ≤ (-2000)) (f10 : 1 * x8 + ((-1) * x2 + 0) ≤ 0) (f11 : (-1) * x8 + 0 ≤ 0) (f12 : (-1) * x4 + 0 ≤ 0) (f15 : (-1) * fault_0 + 0 ≤ (-1)) (f16 : 1 * from_0 + ((-1) * pos_0 + 0) ≤ 0) (f17 : ((kind_0 = 1) → (pos_0 ≤ (from_0 + 8))) ∧ ((kind_0 = 0) ∨ ((from_0 + 1) ≤ pos_0))) (f18 : 1 * x27 + ((-1) * from_0 + 0) ≤ 0) (f20 : 1 * x3 + ((-1) * x27 + 0) ≤ (-1)) (f21 : (-1) * x9 + ((-1) * x27 + 0) ≤ (-2001)) (f22 : 1 * x22 + ((-1) * x2 + 0) ≤ 0) (f23 : (-1) * x22 + 0 ≤ 0) (f24 : 1 * x15 + ((-1) * x13 + 0) ≤ 0) (f25 : (-1) * x15 + (1 * x13 + 0) ≤ 0) (f26 : 1 * x3 + ((-1) * x15 + 0) ≤ (-1)) (f27 : (-1) * x9 + ((-1) * x15 + 0) ≤ (-2000)) (f28 : 1 * x3 + ((-1) * x13 + 0) ≤ (-1)) (f29 : (-1) * x9 + ((-1) * x13 + 0) ≤ (-2000)) (f30 : 1 * x8 + ((-1) * x2 + 0) ≤ 0) (f31 : (-1) * x8 + 0 ≤ 0) (f32 : (-1) * x4 + 0 ≤ 0) (f34 : 1 * x15 + ((-1) * x13 + 0) ≤ 0) (f35 : (-1) * x15 + (1 * x13 + 0) ≤ 0) (f36 : 1 * x3 + ((-1) * x15 + 0) ≤ (-1)) (f37 : (-1) * x9 + ((-1) * x15 + 0) ≤ (-2000)) (f38 : 1 * x3 + ((-1) * x13 + 0) ≤ (-1)) (f39 : (-1) * x9 + ((-1) * x13 + 0) ≤ (-2000)) (f40 : 1 * x8 + ((-1) * x2 + 0) ≤ 0) (f41 : (-1) * x8 + 0 ≤ 0) (f42 : (-1) * x4 + 0 ≤ 0) (f44 : 1 * x15 + ((-1) * x13 + 0) ≤ 0) (f45 : (-1) * x15 + (1 * x13 + 0) ≤ 0) (f46 : 1 * x3 + ((-1) * x15 + 0) ≤ (-1)) (f47 : (-1) * x9 + ((-1) * x15 + 0) ≤ (-2000)) (f48 : 1 * x3 + ((-1) * x13 + 0) ≤ (-1)) (f49 : (-1) * x9 + ((-1) * x13 + 0) ≤ (-2000)) (f50 : 1 * x8 + ((-1) * x2 + 0) ≤ 0) (f51 : (-1) * x8 + 0 ≤ 0) (f52 : (-1) * x4 + 0 ≤ 0) (f54 : 1 * x15 + ((-1) * x13 + 0) ≤ 0) (f55 : (-1) * x15 + (1 * x13 + 0) ≤ 0) (f56 : 1 * x3 + ((-1) * x15 + 0) ≤ (-1)) (f57 : (-1) * x9 + ((-1) * x15 + 0) ≤ (-2000)) (f58 : 1 * x3 + ((-1) * x13 + 0) ≤ (-1)) (f59 : (-1) * x9 + ((-1) * x13 + 0) ≤ (-2000)) (f60 : 1 * x8 + ((-1) * x2 + 0) ≤ 0) (f61 : (-1) * x8 + 0 ≤ 0) (f62 : (-1) * x4 + 0 ≤ 0) (f64 : 1 * x3 + ((-1) * x13 + 0) ≤ (-1)) (f65 : (-1) * x9 + ((-1) * x13 + 0) ≤ (-2000)) (f66 : x8 ≤ 0) (f67 : 1 * x8 + ((-1) * x2 + 0) ≤ 0) (f68 : (-1) * x8 + 0 ≤ 0) (f69 : (-1) * x4 + 0 ≤ 0) (f71 : 1 * x8 + ((-1) * x2 + 0) ≤ 0) (f72 : (-1) * x8 + 0 ≤ 0) (f73 : (-1) * x4 + 0 ≤ 0) (kz_0_8 : 0 ≤ fault_0 ∧ fault_0 ≤ 5) (kz_0_11 : 0 ≤ pos_0 ∧ pos_0 ≤ 2000) (kz_0_12 : 0 ≤ kind_0 ∧ kind_0 ≤ 4) (kz_0_15 : 0 ≤ from_0 ∧ from_0 ≤ 2000) (ex2 : gx = 0 + (1 * x9 + 0)) (ex3 : 0 ≤ gx ∧ gx ≤ 2000) : (-1) * gx + ((-1) * pos_0 + 0) ≤ (-2001) := by
  first | assumption | (clear f17; omega) | omega | grind
def o_Mo_of_at_s5002_20 : or_T := (139, 28, [(0, (2, 0, 0, [165])), (2, (0, 99, 99, [])), (3, (0, 0, 2000, [])), (4, (0, -1, 48, [])), (5, (2, 0, 0, [165])), (7, (0, 99, 99, [])), (8, (0, -2147483648, 0, [])), (9, (0, 0, 2000, [])), (13, (0, 0, 2000, [])), (15, (0, 0, 2000, [])), (22, (0, -2147483648, 0, [])), (27, (0, 0, 2000, []))], [(23, [3, 27], [-1, 1, -1]), (23, [9, 27], [-2001, -1, -1]), (23, [22, 7], [0, 1, -1]), (23, [22], [0, -1]), (23, [15, 13], [0, 1, -1]), (23, [15, 13], [0, -1, 1]), (23, [3, 15], [-1, 1, -1]), (23, [9, 15], [-2000, -1, -1]), (23, [3, 13], [-1, 1, -1]), (23, [9, 13], [-2000, -1, -1]), (23, [8, 7], [0, 1, -1]), (23, [8], [0, -1]), (23, [4], [0, -1]), (24, [0, 5], []), (24, [2, 7], []), (20, [5], [30, -1, -1, 1, 8]), (20, [5, 5], [30, 0, 1, 1, 15, -1, 1, 11]), (20, [5], [50, 3, 0, 12, 11, 15, 2, 21, 4, 7, 1, 3, 2, 0, 12, 0, 1, 0, 3, 2, 0, 11, 4, 3, 2, 0, 15, 0, 8, 3, 7, 1, 3, 2, 0, 12, 0, 0, 0, 7, 4, 3, 2, 0, 15, 0, 1, 2, 0, 11]), (20, [27, 5], [30, 0, 1, 0, 0, -1, 1, 15]), (102, [27], [0, 165011, 165012, 165013, 165014, 165015]), (23, [3, 27], [-1, 1, -1]), (23, [9, 27], [-2001, -1, -1]), (23, [22, 7], [0, 1, -1]), (23, [22], [0, -1]), (23, [15, 13], [0, 1, -1]), (23, [15, 13], [0, -1, 1]), (23, [3, 15], [-1, 1, -1]), (23, [9, 15], [-2000, -1, -1]), (23, [3, 13], [-1, 1, -1]), (23, [9, 13], [-2000, -1, -1]), (23, [8, 7], [0, 1, -1]), (23, [8], [0, -1]), (23, [4], [0, -1]), (102, [25], [0, 165008, 165009]), (23, [15, 13], [0, 1, -1]), (23, [15, 13], [0, -1, 1]), (23, [3, 15], [-1, 1, -1]), (23, [9, 15], [-2000, -1, -1]), (23, [3, 13], [-1, 1, -1]), (23, [9, 13], [-2000, -1, -1]), (23, [8, 7], [0, 1, -1]), (23, [8], [0, -1]), (23, [4], [0, -1]), (102, [20], [0, 165008, 165009]), (23, [15, 13], [0, 1, -1]), (23, [15, 13], [0, -1, 1]), (23, [3, 15], [-1, 1, -1]), (23, [9, 15], [-2000, -1, -1]), (23, [3, 13], [-1, 1, -1]), (23, [9, 13], [-2000, -1, -1]), (23, [8, 7], [0, 1, -1]), (23, [8], [0, -1]), (23, [4], [0, -1]), (102, [15], [0, 165008, 165009, 165011, 165012, 165013, 165014, 165015]), (23, [15, 13], [0, 1, -1]), (23, [15, 13], [0, -1, 1]), (23, [3, 15], [-1, 1, -1]), (23, [9, 15], [-2000, -1, -1]), (23, [3, 13], [-1, 1, -1]), (23, [9, 13], [-2000, -1, -1]), (23, [8, 7], [0, 1, -1]), (23, [8], [0, -1]), (23, [4], [0, -1]), (102, [13], [0, 165011, 165012, 165013, 165014, 165015]), (23, [3, 13], [-1, 1, -1]), (23, [9, 13], [-2000, -1, -1]), (8, [8], [5]), (23, [8, 7], [0, 1, -1]), (23, [8], [0, -1]), (23, [4], [0, -1]), (102, [11], [0]), (23, [8, 7], [0, 1, -1]), (23, [8], [0, -1]), (23, [4], [0, -1])], [], [(0, 0, 2000, [])], [(20, [5, 5], [30, 0, 1, 1, 15, -1, 1, 11]), (20, [5], [50, 3, 0, 12, 11, 15, 2, 21, 4, 7, 1, 3, 2, 0, 12, 0, 1, 0, 3, 2, 0, 11, 4, 3, 2, 0, 15, 0, 8, 3, 7, 1, 3, 2, 0, 12, 0, 0, 0, 7, 4, 3, 2, 0, 15, 0, 1, 2, 0, 11]), (20, [3, 5], [30, -1, 1, 0, 0, -1, 1, 11]), (23, [22, 7], [0, 1, -1]), (23, [22], [0, -1]), (23, [4], [0, -1]), (20, [28, 5], [30, -2001, -1, 0, 0, -1, 1, 11]), (24, [0, 5], []), (24, [2, 7], [])], [(28, 9, 0, 0)], [])
theorem oo_Mo_of_at_s5002_20 {kA : Nat → ClassId} : or_ok PRD kA GG o_Mo_of_at_s5002_20 := by
  refine or_mk fun A ta ws vs hD hth hl => ?_
  intro t0 r0 t2 k2 t3 k3 t4 k4 t5 r5 t7 k7 t8 k8 t9 k9 t13 k13 t15 k15 t22 k22 t27 k27 f0 f1 f2 f3 f4 f5 f6 f7 f8 f9 f10 f11 f12 f13 f14 f15 f16 f17 f18 ta1 w1 le1 s1 f20 f21 f22 f23 f24 f25 f26 f27 f28 f29 f30 f31 f32 ta2 w2 le2 s2 f34 f35 f36 f37 f38 f39 f40 f41 f42 ta3 w3 le3 s3 f44 f45 f46 f47 f48 f49 f50 f51 f52 ta4 w4 le4 s4 f54 f55 f56 f57 f58 f59 f60 f61 f62 ta5 w5 le5 s5 f64 f65 f66 f67 f68 f69 ta6 w6 le6 s6 f71 f72 f73
  replace f0 := shm_211 f0
  replace f1 := shm_1895 f1
  replace f2 := shm_7 f2
  replace f3 := shm_1013 f3
  replace f4 := shm_7 f4
  replace f5 := shm_22 f5
  replace f6 := shm_211 f6
  replace f7 := shm_1894 f7
  replace f8 := shm_211 f8
  replace f9 := shm_1894 f9
  replace f10 := shm_7 f10
  replace f11 := shm_1013 f11
  replace f12 := shm_1013 f12
  replace f13 := shm_5 f13
  replace f14 := shm_5 f14
  replace f15 := shm_144 f15
  replace f16 := shm_1397 f16
  replace f17 := shm_1398 f17
  replace f18 := shm_1396 f18
  replace f20 := shm_211 f20
  replace f21 := shm_1895 f21
  replace f22 := shm_7 f22
  replace f23 := shm_1013 f23
  replace f24 := shm_7 f24
  replace f25 := shm_22 f25
  replace f26 := shm_211 f26
  replace f27 := shm_1894 f27
  replace f28 := shm_211 f28
  replace f29 := shm_1894 f29
  replace f30 := shm_7 f30
  replace f31 := shm_1013 f31
  replace f32 := shm_1013 f32
  replace f34 := shm_7 f34
  replace f35 := shm_22 f35
  replace f36 := shm_211 f36
  replace f37 := shm_1894 f37
  replace f38 := shm_211 f38
  replace f39 := shm_1894 f39
  replace f40 := shm_7 f40
  replace f41 := shm_1013 f41
  replace f42 := shm_1013 f42
  replace f44 := shm_7 f44
  replace f45 := shm_22 f45
  replace f46 := shm_211 f46
  replace f47 := shm_1894 f47
  replace f48 := shm_211 f48
  replace f49 := shm_1894 f49
  replace f50 := shm_7 f50
  replace f51 := shm_1013 f51
  replace f52 := shm_1013 f52
  replace f54 := shm_7 f54
  replace f55 := shm_22 f55
  replace f56 := shm_211 f56
  replace f57 := shm_1894 f57
  replace f58 := shm_211 f58
  replace f59 := shm_1894 f59
  replace f60 := shm_7 f60
  replace f61 := shm_1013 f61
  replace f62 := shm_1013 f62
  replace f64 := shm_211 f64
  replace f65 := shm_1894 f65
  replace f66 := shm_142 f66
  replace f67 := shm_7 f67
  replace f68 := shm_1013 f68
  replace f69 := shm_1013 f69
  replace f71 := shm_7 f71
  replace f72 := shm_1013 f72
  replace f73 := shm_1013 f73
  have q5 : n_v vs 5 = n_v vs 0 := f13.symm
  have q7 : n_v vs 7 = n_v vs 2 := f14.symm
  simp only [q7, q5] at f2 f10 f15 f16 f17 f18 f22 f30 f40 f50 f60 f67 f71
  have kz_0_8 := fdq_14 hD hth r0
  have kz_0_11 := fdq_273 hD hth r0
  have kz_0_12 := fdq_186 hD hth r0
  have kz_0_15 := fdq_274 hD hth r0
  obtain ⟨x, ex, hx⟩ := iv_ex (ta := ta) (lo := 0) (hi := 2000) (z := 0 + (1 * v_iv (n_v vs 9) + 0)) (by omega) (by omega) (by omega) (by omega)
  have ex2 : v_iv (Value.int x) = 0 + (1 * v_iv (n_v vs 9) + 0) := ex
  have ex3 : 0 ≤ v_iv (Value.int x) ∧ v_iv (Value.int x) ≤ 2000 := tv_rng hx
  have e_0 : n_v (vs ++ [Value.int x]) 0 = n_v vs 0 := n_v_old (by rw [hl]; decide)
  have e_2 : n_v (vs ++ [Value.int x]) 2 = n_v vs 2 := n_v_old (by rw [hl]; decide)
  have e_3 : n_v (vs ++ [Value.int x]) 3 = n_v vs 3 := n_v_old (by rw [hl]; decide)
  have e_4 : n_v (vs ++ [Value.int x]) 4 = n_v vs 4 := n_v_old (by rw [hl]; decide)
  have e_5 : n_v (vs ++ [Value.int x]) 5 = n_v vs 5 := n_v_old (by rw [hl]; decide)
  have e_7 : n_v (vs ++ [Value.int x]) 7 = n_v vs 7 := n_v_old (by rw [hl]; decide)
  have e_22 : n_v (vs ++ [Value.int x]) 22 = n_v vs 22 := n_v_old (by rw [hl]; decide)
  have e_28 : n_v (vs ++ [Value.int x]) 28 = Value.int x := n_v_new hl
  have nf0 : fc_1 PRD (20, [5, 5], [30, 0, 1, 1, 15, -1, 1, 11]) ws (vs ++ [Value.int x]) := by
    refine ⟨nf_inA hl rfl, sgq_1397 ?_⟩
    · show 1 * w_fi ws (n_v (vs ++ [Value.int x]) 5) 15 + ((-1) * w_fi ws (n_v (vs ++ [Value.int x]) 5) 11 + 0) ≤ 0
      simp only [e_5, q5]
      exact vc_Mo_of_at_s5002_20_0 (v_iv (n_v vs 2)) (v_iv (n_v vs 3)) (v_iv (n_v vs 4)) (v_iv (n_v vs 7)) (v_iv (n_v vs 8)) (v_iv (n_v vs 9)) (v_iv (n_v vs 13)) (v_iv (n_v vs 15)) (v_iv (n_v vs 22)) (v_iv (n_v vs 27)) (w_fi ws (n_v vs 0) 8) (w_fi ws (n_v vs 0) 15) (w_fi ws (n_v vs 0) 11) (w_fi ws (n_v vs 0) 12) (v_iv (Value.int x)) k2 k3 k4 k7 k8 k9 k13 k15 k22 k27 f0 f1 f2 f3 f4 f5 f6 f7 f8 f9 f10 f11 f12 f15 f16 f17 f18 f20 f21 f22 f23 f24 f25 f26 f27 f28 f29 f30 f31 f32 f34 f35 f36 f37 f38 f39 f40 f41 f42 f44 f45 f46 f47 f48 f49 f50 f51 f52 f54 f55 f56 f57 f58 f59 f60 f61 f62 f64 f65 f66 f67 f68 f69 f71 f72 f73 kz_0_8 kz_0_11 kz_0_12 kz_0_15 ex2 ex3
  have nf1 : fc_1 PRD (20, [5], [50, 3, 0, 12, 11, 15, 2, 21, 4, 7, 1, 3, 2, 0, 12, 0, 1, 0, 3, 2, 0, 11, 4, 3, 2, 0, 15, 0, 8, 3, 7, 1, 3, 2, 0, 12, 0, 0, 0, 7, 4, 3, 2, 0, 15, 0, 1, 2, 0, 11]) ws (vs ++ [Value.int x]) := by
    refine ⟨nf_inA hl rfl, sgq_1398 ?_⟩
    · show ((w_fi ws (n_v (vs ++ [Value.int x]) 5) 12 = 1) → (w_fi ws (n_v (vs ++ [Value.int x]) 5) 11 ≤ (w_fi ws (n_v (vs ++ [Value.int x]) 5) 15 + 8))) ∧ ((w_fi ws (n_v (vs ++ [Value.int x]) 5) 12 = 0) ∨ ((w_fi ws (n_v (vs ++ [Value.int x]) 5) 15 + 1) ≤ w_fi ws (n_v (vs ++ [Value.int x]) 5) 11))
      simp only [e_5, q5]
      exact vc_Mo_of_at_s5002_20_1 (v_iv (n_v vs 2)) (v_iv (n_v vs 3)) (v_iv (n_v vs 4)) (v_iv (n_v vs 7)) (v_iv (n_v vs 8)) (v_iv (n_v vs 9)) (v_iv (n_v vs 13)) (v_iv (n_v vs 15)) (v_iv (n_v vs 22)) (v_iv (n_v vs 27)) (w_fi ws (n_v vs 0) 8) (w_fi ws (n_v vs 0) 15) (w_fi ws (n_v vs 0) 11) (w_fi ws (n_v vs 0) 12) (v_iv (Value.int x)) k2 k3 k4 k7 k8 k9 k13 k15 k22 k27 f0 f1 f2 f3 f4 f5 f6 f7 f8 f9 f10 f11 f12 f15 f16 f17 f18 f20 f21 f22 f23 f24 f25 f26 f27 f28 f29 f30 f31 f32 f34 f35 f36 f37 f38 f39 f40 f41 f42 f44 f45 f46 f47 f48 f49 f50 f51 f52 f54 f55 f56 f57 f58 f59 f60 f61 f62 f64 f65 f66 f67 f68 f69 f71 f72 f73 kz_0_8 kz_0_11 kz_0_12 kz_0_15 ex2 ex3
  have nf2 : fc_1 PRD (20, [3, 5], [30, -1, 1, 0, 0, -1, 1, 11]) ws (vs ++ [Value.int x]) := by
    refine ⟨nf_inA hl rfl, sgq_1891 ?_⟩
    · show 1 * v_iv (n_v (vs ++ [Value.int x]) 3) + ((-1) * w_fi ws (n_v (vs ++ [Value.int x]) 5) 11 + 0) ≤ (-1)
      simp only [e_3, e_5, q5]
      exact vc_Mo_of_at_s5002_20_2 (v_iv (n_v vs 2)) (v_iv (n_v vs 3)) (v_iv (n_v vs 4)) (v_iv (n_v vs 7)) (v_iv (n_v vs 8)) (v_iv (n_v vs 9)) (v_iv (n_v vs 13)) (v_iv (n_v vs 15)) (v_iv (n_v vs 22)) (v_iv (n_v vs 27)) (w_fi ws (n_v vs 0) 8) (w_fi ws (n_v vs 0) 15) (w_fi ws (n_v vs 0) 11) (w_fi ws (n_v vs 0) 12) (v_iv (Value.int x)) k2 k3 k4 k7 k8 k9 k13 k15 k22 k27 f0 f1 f2 f3 f4 f5 f6 f7 f8 f9 f10 f11 f12 f15 f16 f17 f18 f20 f21 f22 f23 f24 f25 f26 f27 f28 f29 f30 f31 f32 f34 f35 f36 f37 f38 f39 f40 f41 f42 f44 f45 f46 f47 f48 f49 f50 f51 f52 f54 f55 f56 f57 f58 f59 f60 f61 f62 f64 f65 f66 f67 f68 f69 f71 f72 f73 kz_0_8 kz_0_11 kz_0_12 kz_0_15 ex2 ex3
  have nf3 : fc_1 PRD (23, [22, 7], [0, 1, -1]) ws (vs ++ [Value.int x]) := by
    refine ⟨nf_inA hl rfl, sgq_7 ?_⟩
    · show 1 * v_iv (n_v (vs ++ [Value.int x]) 22) + ((-1) * v_iv (n_v (vs ++ [Value.int x]) 7) + 0) ≤ 0
      simp only [e_7, e_22, q7]
      exact vc_Mo_of_at_s5002_20_3 (v_iv (n_v vs 2)) (v_iv (n_v vs 3)) (v_iv (n_v vs 4)) (v_iv (n_v vs 7)) (v_iv (n_v vs 8)) (v_iv (n_v vs 9)) (v_iv (n_v vs 13)) (v_iv (n_v vs 15)) (v_iv (n_v vs 22)) (v_iv (n_v vs 27)) (w_fi ws (n_v vs 0) 8) (w_fi ws (n_v vs 0) 15) (w_fi ws (n_v vs 0) 11) (w_fi ws (n_v vs 0) 12) (v_iv (Value.int x)) k2 k3 k4 k7 k8 k9 k13 k15 k22 k27 f0 f1 f2 f3 f4 f5 f6 f7 f8 f9 f10 f11 f12 f15 f16 f17 f18 f20 f21 f22 f23 f24 f25 f26 f27 f28 f29 f30 f31 f32 f34 f35 f36 f37 f38 f39 f40 f41 f42 f44 f45 f46 f47 f48 f49 f50 f51 f52 f54 f55 f56 f57 f58 f59 f60 f61 f62 f64 f65 f66 f67 f68 f69 f71 f72 f73 kz_0_8 kz_0_11 kz_0_12 kz_0_15 ex2 ex3
  have nf4 : fc_1 PRD (23, [22], [0, -1]) ws (vs ++ [Value.int x]) := by
    refine ⟨nf_inA hl rfl, sgq_1013 ?_⟩
    · show (-1) * v_iv (n_v (vs ++ [Value.int x]) 22) + 0 ≤ 0
      rw [e_22]
      exact vc_Mo_of_at_s5002_20_4 (v_iv (n_v vs 2)) (v_iv (n_v vs 3)) (v_iv (n_v vs 4)) (v_iv (n_v vs 7)) (v_iv (n_v vs 8)) (v_iv (n_v vs 9)) (v_iv (n_v vs 13)) (v_iv (n_v vs 15)) (v_iv (n_v vs 22)) (v_iv (n_v vs 27)) (w_fi ws (n_v vs 0) 8) (w_fi ws (n_v vs 0) 15) (w_fi ws (n_v vs 0) 11) (w_fi ws (n_v vs 0) 12) (v_iv (Value.int x)) k2 k3 k4 k7 k8 k9 k13 k15 k22 k27 f0 f1 f2 f3 f4 f5 f6 f7 f8 f9 f10 f11 f12 f15 f16 f17 f18 f20 f21 f22 f23 f24 f25 f26 f27 f28 f29 f30 f31 f32 f34 f35 f36 f37 f38 f39 f40 f41 f42 f44 f45 f46 f47 f48 f49 f50 f51 f52 f54 f55 f56 f57 f58 f59 f60 f61 f62 f64 f65 f66 f67 f68 f69 f71 f72 f73 kz_0_8 kz_0_11 kz_0_12 kz_0_15 ex2 ex3
  have nf5 : fc_1 PRD (23, [4], [0, -1]) ws (vs ++ [Value.int x]) := by
    refine ⟨nf_inA hl rfl, sgq_1013 ?_⟩
    · show (-1) * v_iv (n_v (vs ++ [Value.int x]) 4) + 0 ≤ 0
      rw [e_4]
      exact vc_Mo_of_at_s5002_20_5 (v_iv (n_v vs 2)) (v_iv (n_v vs 3)) (v_iv (n_v vs 4)) (v_iv (n_v vs 7)) (v_iv (n_v vs 8)) (v_iv (n_v vs 9)) (v_iv (n_v vs 13)) (v_iv (n_v vs 15)) (v_iv (n_v vs 22)) (v_iv (n_v vs 27)) (w_fi ws (n_v vs 0) 8) (w_fi ws (n_v vs 0) 15) (w_fi ws (n_v vs 0) 11) (w_fi ws (n_v vs 0) 12) (v_iv (Value.int x)) k2 k3 k4 k7 k8 k9 k13 k15 k22 k27 f0 f1 f2 f3 f4 f5 f6 f7 f8 f9 f10 f11 f12 f15 f16 f17 f18 f20 f21 f22 f23 f24 f25 f26 f27 f28 f29 f30 f31 f32 f34 f35 f36 f37 f38 f39 f40 f41 f42 f44 f45 f46 f47 f48 f49 f50 f51 f52 f54 f55 f56 f57 f58 f59 f60 f61 f62 f64 f65 f66 f67 f68 f69 f71 f72 f73 kz_0_8 kz_0_11 kz_0_12 kz_0_15 ex2 ex3
  have nf6 : fc_1 PRD (20, [28, 5], [30, -2001, -1, 0, 0, -1, 1, 11]) ws (vs ++ [Value.int x]) := by
    refine ⟨nf_inA hl rfl, sgq_1896 ?_⟩
    · show (-1) * v_iv (n_v (vs ++ [Value.int x]) 28) + ((-1) * w_fi ws (n_v (vs ++ [Value.int x]) 5) 11 + 0) ≤ (-2001)
      simp only [e_5, e_28, q5]
      exact vc_Mo_of_at_s5002_20_6 (v_iv (n_v vs 2)) (v_iv (n_v vs 3)) (v_iv (n_v vs 4)) (v_iv (n_v vs 7)) (v_iv (n_v vs 8)) (v_iv (n_v vs 9)) (v_iv (n_v vs 13)) (v_iv (n_v vs 15)) (v_iv (n_v vs 22)) (v_iv (n_v vs 27)) (w_fi ws (n_v vs 0) 8) (w_fi ws (n_v vs 0) 15) (w_fi ws (n_v vs 0) 11) (w_fi ws (n_v vs 0) 12) (v_iv (Value.int x)) k2 k3 k4 k7 k8 k9 k13 k15 k22 k27 f0 f1 f2 f3 f4 f5 f6 f7 f8 f9 f10 f11 f12 f15 f16 f17 f18 f20 f21 f22 f23 f24 f25 f26 f27 f28 f29 f30 f31 f32 f34 f35 f36 f37 f38 f39 f40 f41 f42 f44 f45 f46 f47 f48 f49 f50 f51 f52 f54 f55 f56 f57 f58 f59 f60 f61 f62 f64 f65 f66 f67 f68 f69 f71 f72 f73 kz_0_8 kz_0_11 kz_0_12 kz_0_15 ex2 ex3
  have nf7 : fc_1 PRD (24, [0, 5], []) ws (vs ++ [Value.int x]) := by
    refine ⟨nf_inA hl rfl, sgq_5 ?_⟩
    · show n_v (vs ++ [Value.int x]) 0 = n_v (vs ++ [Value.int x]) 5
      first | rfl | simp only [e_0, e_5, q5, q7]
  have nf8 : fc_1 PRD (24, [2, 7], []) ws (vs ++ [Value.int x]) := by
    refine ⟨nf_inA hl rfl, sgq_5 ?_⟩
    · show n_v (vs ++ [Value.int x]) 2 = n_v (vs ++ [Value.int x]) 7
      first | rfl | simp only [e_2, e_7, q5, q7]
  obtain ⟨x0, e0, _, _⟩ := tv_int t9 rfl
  have e1 : v_iv (n_v vs 9) = x0.toInt := by rw [e0]; rfl
  have ho : sy_ofs (vs ++ [Value.int x]) (28, 9, 0, 0) := by
    refine ⟨x, x0, by rw [List.getElem?_append_right (by rw [hl]; decide), hl]; rfl, ?_, ?_, ?_⟩
    · rw [List.getElem?_append_left (by rw [hl]; decide)]; exact n_v_some (by rw [hl]; decide) e0
    · show x0.toInt + 0 ≤ x.toInt; omega
    · show x.toInt ≤ x0.toInt + 0; omega
  exact ⟨(fun _ h => (by cases h)), [Value.int x], ag_one hx, List.forall_mem_cons.mpr ⟨⟨show (20 : Nat) < 100 from by decide, nf0⟩, List.forall_mem_cons.mpr ⟨⟨show (20 : Nat) < 100 from by decide, nf1⟩, List.forall_mem_cons.mpr ⟨⟨show (20 : Nat) < 100 from by decide, nf2⟩, List.forall_mem_cons.mpr ⟨⟨show (23 : Nat) < 100 from by decide, nf3⟩, List.forall_mem_cons.mpr ⟨⟨show (23 : Nat) < 100 from by decide, nf4⟩, List.forall_mem_cons.mpr ⟨⟨show (23 : Nat) < 100 from by decide, nf5⟩, List.forall_mem_cons.mpr ⟨⟨show (20 : Nat) < 100 from by decide, nf6⟩, List.forall_mem_cons.mpr ⟨⟨show (24 : Nat) < 100 from by decide, nf7⟩, List.forall_mem_cons.mpr ⟨⟨show (24 : Nat) < 100 from by decide, nf8⟩, (fun _ h => (by cases h))⟩⟩⟩⟩⟩⟩⟩⟩⟩, List.forall_mem_cons.mpr ⟨ho, (fun _ h => (by cases h))⟩⟩
set_option maxHeartbeats 4000000 in
theorem vc_Mo_of_at_s5002_21_0 (x2 : Int) (x3 : Int) (x4 : Int) (x7 : Int) (x9 : Int) (x13 : Int) (x15 : Int) (x26 : Int) (x27 : Int) (fault_0 : Int) (from_0 : Int) (pos_0 : Int) (kind_0 : Int) (k2 : 99 ≤ x2 ∧ x2 ≤ 99) (k3 : 0 ≤ x3 ∧ x3 ≤ 2000) (k4 : (-1) ≤ x4 ∧ x4 ≤ 48) (k7 : 99 ≤ x7 ∧ x7 ≤ 99) (k9 : 0 ≤ x9 ∧ x9 ≤ 2000) (k13 : 0 ≤ x13 ∧ x13 ≤ 2000) (k15 : 0 ≤ x15 ∧ x15 ≤ 2000) (k26 : 1 ≤ x26 ∧ x26 ≤ 5) (k27 : 0 ≤ x27 ∧ x27 ≤ 0) (f0 : 0 < x26) (g1 : x26 = fault_0) (f2 : 1 * x15 + ((-1) * x13 + 0) ≤ 0) (f3 : (-1) * x15 + (1 * x13 + 0) ≤ 0) (f4 : 1 * x3 + ((-1) * x15 + 0) ≤ (-1)) (f5 : (-1) * x9 + ((-1) * x15 + 0) ≤ (-2000)) (f6 : 1 * x3 + ((-1) * x13 + 0) ≤ (-1)) (f7 : (-1) * x9 + ((-1) * x13 + 0) ≤ (-2000)) (f8 : (-1) * x4 + 0 ≤ 0) (f11 : 1 * from_0 + ((-1) * pos_0 + 0) ≤ 0) (f12 : ((kind_0 = 1) → (pos_0 ≤ (from_0 + 8))) ∧ ((kind_0 = 0) ∨ ((from_0 + 1) ≤ pos_0))) (f13 : 1 * x15 + ((-1) * pos_0 + 0) ≤ 0) (f14 : (-1) * fault_0 + 0 ≤ (-1)) (f16 : 1 * x15 + ((-1) * x13 + 0) ≤ 0) (f17 : (-1) * x15 + (1 * x13 + 0) ≤ 0) (f18 : 1 * x3 + ((-1) * x15 + 0) ≤ (-1)) (f19 : (-1) * x9 + ((-1) * x15 + 0) ≤ (-2000)) (f20 : 1 * x3 + ((-1) * x13 + 0) ≤ (-1)) (f21 : (-1) * x9 + ((-1) * x13 + 0) ≤ (-2000)) (f22 : (-1) * x4 + 0 ≤ 0) (f24 : 1 * x15 + ((-1) * x13 + 0) ≤ 0) (f25 : (-1) * x15 + (1 * x13 + 0) ≤ 0) (f26 : 1 * x3 + ((-1) * x15 + 0) ≤ (-1)) (f27 : (-1) * x9 + ((-1) * x15 + 0) ≤ (-2000)) (f28 : 1 * x3 + ((-1) * x13 + 0) ≤ (-1)) (f29 : (-1) * x9 + ((-1) * x13 + 0) ≤ (-2000)) (f30 : (-1) * x4 + 0 ≤ 0) (f32 : 1 * x15 + ((-1) * x13 + 0) ≤ 0) (f33 : (-1) * x15 + (1 * x13 + 0) ≤ 0) (f34 : 1 * x3 + ((-1) * x15 + 0) ≤ (-1)) (f35 : (-1) * x9 + ((-1) * x15 + 0) ≤ (-2000)) (f36 : 1 * x3 + ((-1) * x13 + 0) ≤ (-1)) (f37 : (-1) * x9 + ((-1) * x13 + 0) ≤ (-2000)) (f38 : (-1) * x4 + 0 ≤ 0) (f40 : 1 * x3 + ((-1) * x13 + 0) ≤ (-1)) (f41 : (-1) * x9 + ((-1) * x13 + 0) ≤ (-2000)) (f42 : (-1) * x4 + 0 ≤ 0) (f44 : (-1) * x4 + 0 ≤ 0) (kz_0_8 : 0 ≤ fault_0 ∧ fault_0 ≤ 5) (kz_0_11 : 0 ≤ pos_0 ∧ pos_0 ≤ 2000) (kz_0_12 : 0 ≤ kind_0 ∧ kind_0 ≤ 4) (kz_0_15 : 0 ≤ from_0 ∧ from_0 ≤ 2000) : 1 * from_0 + ((-1) * pos_0 + 0) ≤ 0 := by
  first | assumption | (clear f12; omega) | omega | grind
set_option maxHeartbeats 4000000 in
theorem vc_Mo_of_at_s5002_21_1 (x2 : Int) (x3 : Int) (x4 : Int) (x7 : Int) (x9 : Int) (x13 : Int) (x15 : Int) (x26 : Int) (x27 : Int) (fault_0 : Int) (from_0 : Int) (pos_0 : Int) (kind_0 : Int) (k2 : 99 ≤ x2 ∧ x2 ≤ 99) (k3 : 0 ≤ x3 ∧ x3 ≤ 2000) (k4 : (-1) ≤ x4 ∧ x4 ≤ 48) (k7 : 99 ≤ x7 ∧ x7 ≤ 99) (k9 : 0 ≤ x9 ∧ x9 ≤ 2000) (k13 : 0 ≤ x13 ∧ x13 ≤ 2000) (k15 : 0 ≤ x15 ∧ x15 ≤ 2000) (k26 : 1 ≤ x26 ∧ x26 ≤ 5) (k27 : 0 ≤ x27 ∧ x27 ≤ 0) (f0 : 0 < x26) (g1 : x26 = fault_0) (f2 : 1 * x15 + ((-1) * x13 + 0) ≤ 0) (f3 : (-1) * x15 + (1 * x13 + 0) ≤ 0) (f4 : 1 * x3 + ((-1) * x15 + 0) ≤ (-1)) (f5 : (-1) * x9 + ((-1) * x15 + 0) ≤ (-2000)) (f6 : 1 * x3 + ((-1) * x13 + 0) ≤ (-1)) (f7 : (-1) * x9 + ((-1) * x13 + 0) ≤ (-2000)) (f8 : (-1) * x4 + 0 ≤ 0) (f11 : 1 * from_0 + ((-1) * pos_0 + 0) ≤ 0) (f12 : ((kind_0 = 1) → (pos_0 ≤ (from_0 + 8))) ∧ ((kind_0 = 0) ∨ ((from_0 + 1) ≤ pos_0))) (f13 : 1 * x15 + ((-1) * pos_0 + 0) ≤ 0) (f14 : (-1) * fault_0 + 0 ≤ (-1)) (f16 : 1 * x15 + ((-1) * x13 + 0) ≤ 0) (f17 : (-1) * x15 + (1 * x13 + 0) ≤ 0) (f18 : 1 * x3 + ((-1) * x15 + 0) ≤ (-1)) (f19 : (-1) * x9 + ((-1) * x15 + 0) ≤ (-2000)) (f20 : 1 * x3 + ((-1) * x13 + 0) ≤ (-1)) (f21 : (-1) * x9 + ((-1) * x13 + 0) ≤ (-2000)) (f22 : (-1) * x4 + 0 ≤ 0) (f24 : 1 * x15 + ((-1) * x13 + 0) ≤ 0) (f25 : (-1) * x15 + (1 * x13 + 0) ≤ 0) (f26 : 1 * x3 + ((-1) * x15 + 0) ≤ (-1)) (f27 : (-1) * x9 + ((-1) * x15 + 0) ≤ (-2000)) (f28 : 1 * x3 + ((-1) * x13 + 0) ≤ (-1)) (f29 : (-1) * x9 + ((-1) * x13 + 0) ≤ (-2000)) (f30 : (-1) * x4 + 0 ≤ 0) (f32 : 1 * x15 + ((-1) * x13 + 0) ≤ 0) (f33 : (-1) * x15 + (1 * x13 + 0) ≤ 0) (f34 : 1 * x3 + ((-1) * x15 + 0) ≤ (-1)) (f35 : (-1) * x9 + ((-1) * x15 + 0) ≤ (-2000)) (f36 : 1 * x3 + ((-1) * x13 + 0) ≤ (-1)) (f37 : (-1) * x9 + ((-1) * x13 + 0) ≤ (-2000)) (f38 : (-1) * x4 + 0 ≤ 0) (f40 : 1 * x3 + ((-1) * x13 + 0) ≤ (-1)) (f41 : (-1) * x9 + ((-1) * x13 + 0) ≤ (-2000)) (f42 : (-1) * x4 + 0 ≤ 0) (f44 : (-1) * x4 + 0 ≤ 0) (kz_0_8 : 0 ≤ fault_0 ∧ fault_0 ≤ 5) (kz_0_11 : 0 ≤ pos_0 ∧ pos_0 ≤ 2000) (kz_0_12 : 0 ≤ kind_0 ∧ kind_0 ≤ 4) (kz_0_15 : 0 ≤ from_0 ∧ from_0 ≤ 2000) : ((kind_0 = 1) → (pos_0 ≤ (from_0 + 8))) ∧ ((kind_0 = 0) ∨ ((from_0 + 1) ≤ pos_0)) := by
  first | assumption | (clear f12; omega) | omega | grind
set_option maxHeartbeats 4000000 in
theorem vc_Mo_of_at_s5002_21_2 (x2 : Int) (x3 : Int) (x4 : Int) (x7 : Int) (x9 : Int) (x13 : Int) (x15 : Int) (x26 : Int) (x27 : Int) (fault_0 : Int) (from_0 : Int) (pos_0 : Int) (kind_0 : Int) (k2 : 99 ≤ x2 ∧ x2 ≤ 99) (k3 : 0 ≤ x3 ∧ x3 ≤ 2000) (k4 : (-1) ≤ x4 ∧ x4 ≤ 48) (k7 : 99 ≤ x7 ∧ x7 ≤ 99) (k9 : 0 ≤ x9 ∧ x9 ≤ 2000) (k13 : 0 ≤ x13 ∧ x13 ≤ 2000) (k15 : 0 ≤ x15 ∧ x15 ≤ 2000) (k26 : 1 ≤ x26 ∧ x26 ≤ 5) (k27 : 0 ≤ x27 ∧ x27 ≤ 0) (f0 : 0 < x26) (g1 : x26 = fault_0) (f2 : 1 * x15 + ((-1) * x13 + 0) ≤ 0) (f3 : (-1) * x15 + (1 * x13 + 0) ≤ 0) (f4 : 1 * x3 + ((-1) * x15 + 0) ≤ (-1)) (f5 : (-1) * x9 + ((-1) * x15 + 0) ≤ (-2000)) (f6 : 1 * x3 + ((-1) * x13 + 0) ≤ (-1)) (f7 : (-1) * x9 + ((-1) * x13 + 0) ≤ (-2000)) (f8 : (-1) * x4 + 0 ≤ 0) (f11 : 1 * from_0 + ((-1) * pos_0 + 0) ≤ 0) (f12 : ((kind_0 = 1) → (pos_0 ≤ (from_0 + 8))) ∧ ((kind_0 = 0) ∨ ((from_0 + 1) ≤ pos_0))) (f13 : 1 * x15 + ((-1) * pos_0 + 0) ≤ 0) (f14 : (-1) * fault_0 + 0 ≤ (-1)) (f16 : 1 * x15 + ((-1) * x13 + 0) ≤ 0) (f17 : (-1) * x15 + (1 * x13 + 0) ≤ 0) (f18 : 1 * x3 + ((-1) * x15 + 0) ≤ (-1)) (f19 : (-1) * x9 + ((-1) * x15 + 0) ≤ (-2000)) (f20 : 1 * x3 + ((-1) * x13 + 0) ≤ (-1)) (f21 : (-1) * x9 + ((-1) * x13 + 0) ≤ (-2000)) (f22 : (-1) * x4 + 0 ≤ 0) (f24 : 1 * x15 + ((-1) * x13 + 0) ≤ 0) (f25 : (-1) * x15 + (1 * x13 + 0) ≤ 0) (f26 : 1 * x3 + ((-1) * x15 + 0) ≤ (-1)) (f27 : (-1) * x9 + ((-1) * x15 + 0) ≤ (-2000)) (f28 : 1 * x3 + ((-1) * x13 + 0) ≤ (-1)) (f29 : (-1) * x9 + ((-1) * x13 + 0) ≤ (-2000)) (f30 : (-1) * x4 + 0 ≤ 0) (f32 : 1 * x15 + ((-1) * x13 + 0) ≤ 0) (f33 : (-1) * x15 + (1 * x13 + 0) ≤ 0) (f34 : 1 * x3 + ((-1) * x15 + 0) ≤ (-1)) (f35 : (-1) * x9 + ((-1) * x15 + 0) ≤ (-2000)) (f36 : 1 * x3 + ((-1) * x13 + 0) ≤ (-1)) (f37 : (-1) * x9 + ((-1) * x13 + 0) ≤ (-2000)) (f38 : (-1) * x4 + 0 ≤ 0) (f40 : 1 * x3 + ((-1) * x13 + 0) ≤ (-1)) (f41 : (-1) * x9 + ((-1) * x13 + 0) ≤ (-2000)) (f42 : (-1) * x4 + 0 ≤ 0) (f44 : (-1) * x4 + 0 ≤ 0) (kz_0_8 : 0 ≤ fault_0 ∧ fault_0 ≤ 5) (kz_0_11 : 0 ≤ pos_0 ∧ pos_0 ≤ 2000) (kz_0_12 : 0 ≤ kind_0 ∧ kind_0 ≤ 4) (kz_0_15 : 0 ≤ from_0 ∧ from_0 ≤ 2000) : 1 * x3 + ((-1) * pos_0 + 0) ≤ 0 := by
  first | assumption | (clear f12; omega) | omega | grind
set_option maxHeartbeats 4000000 in
theorem vc_Mo_of_at_s5002_21_3 (x2 : Int) (x3 : Int) (x4 : Int) (x7 : Int) (x9 : Int) (x13 : Int) (x15 : Int) (x26 : Int) (x27 : Int) (fault_0 : Int) (from_0 : Int) (pos_0 : Int) (kind_0 : Int) (k2 : 99 ≤ x2 ∧ x2 ≤ 99) (k3 : 0 ≤ x3 ∧ x3 ≤ 2000) (k4 : (-1) ≤ x4 ∧ x4 ≤ 48) (k7 : 99 ≤ x7 ∧ x7 ≤ 99) (k9 : 0 ≤ x9 ∧ x9 ≤ 2000) (k13 : 0 ≤ x13 ∧ x13 ≤ 2000) (k15 : 0 ≤ x15 ∧ x15 ≤ 2000) (k26 : 1 ≤ x26 ∧ x26 ≤ 5) (k27 : 0 ≤ x27 ∧ x27 ≤ 0) (f0 : 0 < x26) (g1 : x26 = fault_0) (f2 : 1 * x15 + ((-1) * x13 + 0) ≤ 0) (f3 : (-1) * x15 + (1 * x13 + 0) ≤ 0) (f4 : 1 * x3 + ((-1) * x15 + 0) ≤ (-1)) (f5 : (-1) * x9 + ((-1) * x15 + 0) ≤ (-2000)) (f6 : 1 * x3 + ((-1) * x13 + 0) ≤ (-1)) (f7 : (-1) * x9 + ((-1) * x13 + 0) ≤ (-2000)) (f8 : (-1) * x4 + 0 ≤ 0) (f11 : 1 * from_0 + ((-1) * pos_0 + 0) ≤ 0) (f12 : ((kind_0 = 1) → (pos_0 ≤ (from_0 + 8))) ∧ ((kind_0 = 0) ∨ ((from_0 + 1) ≤ pos_0))) (f13 : 1 * x15 + ((-1) * pos_0 + 0) ≤ 0) (f14 : (-1) * fault_0 + 0 ≤ (-1)) (f16 : 1 * x15 + ((-1) * x13 + 0) ≤ 0) (f17 : (-1) * x15 + (1 * x13 + 0) ≤ 0) (f18 : 1 * x3 + ((-1) * x15 + 0) ≤ (-1)) (f19 : (-1) * x9 + ((-1) * x15 + 0) ≤ (-2000)) (f20 : 1 * x3 + ((-1) * x13 + 0) ≤ (-1)) (f21 : (-1) * x9 + ((-1) * x13 + 0) ≤ (-2000)) (f22 : (-1) * x4 + 0 ≤ 0) (f24 : 1 * x15 + ((-1) * x13 + 0) ≤ 0) (f25 : (-1) * x15 + (1 * x13 + 0) ≤ 0) (f26 : 1 * x3 + ((-1) * x15 + 0) ≤ (-1)) (f27 : (-1) * x9 + ((-1) * x15 + 0) ≤ (-2000)) (f28 : 1 * x3 + ((-1) * x13 + 0) ≤ (-1)) (f29 : (-1) * x9 + ((-1) * x13 + 0) ≤ (-2000)) (f30 : (-1) * x4 + 0 ≤ 0) (f32 : 1 * x15 + ((-1) * x13 + 0) ≤ 0) (f33 : (-1) * x15 + (1 * x13 + 0) ≤ 0) (f34 : 1 * x3 + ((-1) * x15 + 0) ≤ (-1)) (f35 : (-1) * x9 + ((-1) * x15 + 0) ≤ (-2000)) (f36 : 1 * x3 + ((-1) * x13 + 0) ≤ (-1)) (f37 : (-1) * x9 + ((-1) * x13 + 0) ≤ (-2000)) (f38 : (-1) * x4 + 0 ≤ 0) (f40 : 1 * x3 + ((-1) * x13 + 0) ≤ (-1)) (f41 : (-1) * x9 + ((-1) * x13 + 0) ≤ (-2000)) (f42 : (-1) * x4 + 0 ≤ 0) (f44 : (-1) * x4 + 0 ≤ 0) (kz_0_8 : 0 ≤ fault_0 ∧ fault_0 ≤ 5) (kz_0_11 : 0 ≤ pos_0 ∧ pos_0 ≤ 2000) (kz_0_12 : 0 ≤ kind_0 ∧ kind_0 ≤ 4) (kz_0_15 : 0 ≤ from_0 ∧ from_0 ≤ 2000) : (1 ≤ fault_0) ∨ ((kind_0 = 0) ∨ ((x3 + 1) ≤ pos_0)) := by
  first | assumption | (clear f12; omega) | omega | grind
set_option maxHeartbeats 4000000 in
theorem vc_Mo_of_at_s5002_21_4 (x2 : Int) (x3 : Int) (x4 : Int) (x7 : Int) (x9 : Int) (x13 : Int) (x15 : Int) (x26 : Int) (x27 : Int) (fault_0 : Int) (from_0 : Int) (pos_0 : Int) (kind_0 : Int) (k2 : 99 ≤ x2 ∧ x2 ≤ 99) (k3 : 0 ≤ x3 ∧ x3 ≤ 2000) (k4 : (-1) ≤ x4 ∧ x4 ≤ 48) (k7 : 99 ≤ x7 ∧ x7 ≤ 99) (k9 : 0 ≤ x9 ∧ x9 ≤ 2000) (k13 : 0 ≤ x13 ∧ x13 ≤ 2000) (k15 : 0 ≤ x15 ∧ x15 ≤ 2000) (k26 : 1 ≤ x26 ∧ x26 ≤ 5) (k27 : 0 ≤ x27 ∧ x27 ≤ 0) (f0 : 0 < x26) (g1 : x26 = fault_0) (f2 : 1 * x15 + ((-1) * x13 + 0) ≤ 0) (f3 : (-1) * x15 + (1 * x13 + 0) ≤ 0) (f4 : 1 * x3 + ((-1) * x15 + 0) ≤ (-1)) (f5 : (-1) * x9 + ((-1) * x15 + 0) ≤ (-2000)) (f6 : 1 * x3 + ((-1) * x13 + 0) ≤ (-1)) (f7 : (-1) * x9 + ((-1) * x13 + 0) ≤ (-2000)) (f8 : (-1) * x4 + 0 ≤ 0) (f11 : 1 * from_0 + ((-1) * pos_0 + 0) ≤ 0) (f12 : ((kind_0 = 1) → (pos_0 ≤ (from_0 + 8))) ∧ ((kind_0 = 0) ∨ ((from_0 + 1) ≤ pos_0))) (f13 : 1 * x15 + ((-1) * pos_0 + 0) ≤ 0) (f14 : (-1) * fault_0 + 0 ≤ (-1)) (f16 : 1 * x15 + ((-1) * x13 + 0) ≤ 0) (f17 : (-1) * x15 + (1 * x13 + 0) ≤ 0) (f18 : 1 * x3 + ((-1) * x15 + 0) ≤ (-1)) (f19 : (-1) * x9 + ((-1) * x15 + 0) ≤ (-2000)) (f20 : 1 * x3 + ((-1) * x13 + 0) ≤ (-1)) (f21 : (-1) * x9 + ((-1) * x13 + 0) ≤ (-2000)) (f22 : (-1) * x4 + 0 ≤ 0) (f24 : 1 * x15 + ((-1) * x13 + 0) ≤ 0) (f25 : (-1) * x15 + (1 * x13 + 0) ≤ 0) (f26 : 1 * x3 + ((-1) * x15 + 0) ≤ (-1)) (f27 : (-1) * x9 + ((-1) * x15 + 0) ≤ (-2000)) (f28 : 1 * x3 + ((-1) * x13 + 0) ≤ (-1)) (f29 : (-1) * x9 + ((-1) * x13 + 0) ≤ (-2000)) (f30 : (-1) * x4 + 0 ≤ 0) (f32 : 1 * x15 + ((-1) * x13 + 0) ≤ 0) (f33 : (-1) * x15 + (1 * x13 + 0) ≤ 0) (f34 : 1 * x3 + ((-1) * x15 + 0) ≤ (-1)) (f35 : (-1) * x9 + ((-1) * x15 + 0) ≤ (-2000)) (f36 : 1 * x3 + ((-1) * x13 + 0) ≤ (-1)) (f37 : (-1) * x9 + ((-1) * x13 + 0) ≤ (-2000)) (f38 : (-1) * x4 + 0 ≤ 0) (f40 : 1 * x3 + ((-1) * x13 + 0) ≤ (-1)) (f41 : (-1) * x9 + ((-1) * x13 + 0) ≤ (-2000)) (f42 : (-1) * x4 + 0 ≤ 0) (f44 : (-1) * x4 + 0 ≤ 0) (kz_0_8 : 0 ≤ fault_0 ∧ fault_0 ≤ 5) (kz_0_11 : 0 ≤ pos_0 ∧ pos_0 ≤ 2000) (kz_0_12 : 0 ≤ kind_0 ∧ kind_0 ≤ 4) (kz_0_15 : 0 ≤ from_0 ∧ from_0 ≤ 2000) : (1 ≤ fault_0) ∨ (0 ≤ x4) := by
  first | assumption | (clear f12; omega) | omega | grind
set_option maxHeartbeats 4000000 in
theorem vc_Mo_of_at_s5002_21_5 (x2 : Int) (x3 : Int) (x4 : Int) (x7 : Int) (x9 : Int) (x13 : Int) (x15 : Int) (x26 : Int) (x27 : Int) (fault_0 : Int) (from_0 : Int) (pos_0 : Int) (kind_0 : Int) (k2 : 99 ≤ x2 ∧ x2 ≤ 99) (k3 : 0 ≤ x3 ∧ x3 ≤ 2000) (k4 : (-1) ≤ x4 ∧ x4 ≤ 48) (k7 : 99 ≤ x7 ∧ x7 ≤ 99) (k9 : 0 ≤ x9 ∧ x9 ≤ 2000) (k13 : 0 ≤ x13 ∧ x13 ≤ 2000) (k15 : 0 ≤ x15 ∧ x15 ≤ 2000) (k26 : 1 ≤ x26 ∧ x26 ≤ 5) (k27 : 0 ≤ x27 ∧ x27 ≤ 0) (f0 : 0 < x26) (g1 : x26 = fault_0) (f2 : 1 * x15 + ((-1) * x13 + 0) ≤ 0) (f3 : (-1) * x15 + (1 * x13 + 0) ≤ 0) (f4 : 1 * x3 + ((-1) * x15 + 0) ≤ (-1)) (f5 : (-1) * x9 + ((-1) * x15 + 0) ≤ (-2000)) (f6 : 1 * x3 + ((-1) * x13 + 0) ≤ (-1)) (f7 : (-1) * x9 + ((-1) * x13 + 0) ≤ (-2000)) (f8 : (-1) * x4 + 0 ≤ 0) (f11 : 1 * from_0 + ((-1) * pos_0 + 0) ≤ 0) (f12 : ((kind_0 = 1) → (pos_0 ≤ (from_0 + 8))) ∧ ((kind_0 = 0) ∨ ((from_0 + 1) ≤ pos_0))) (f13 : 1 * x15 + ((-1) * pos_0 + 0) ≤ 0) (f14 : (-1) * fault_0 + 0 ≤ (-1)) (f16 : 1 * x15 + ((-1) * x13 + 0) ≤ 0) (f17 : (-1) * x15 + (1 * x13 + 0) ≤ 0) (f18 : 1 * x3 + ((-1) * x15 + 0) ≤ (-1)) (f19 : (-1) * x9 + ((-1) * x15 + 0) ≤ (-2000)) (f20 : 1 * x3 + ((-1) * x13 + 0) ≤ (-1)) (f21 : (-1) * x9 + ((-1) * x13 + 0) ≤ (-2000)) (f22 : (-1) * x4 + 0 ≤ 0) (f24 : 1 * x15 + ((-1) * x13 + 0) ≤ 0) (f25 : (-1) * x15 + (1 * x13 + 0) ≤ 0) (f26 : 1 * x3 + ((-1) * x15 + 0) ≤ (-1)) (f27 : (-1) * x9 + ((-1) * x15 + 0) ≤ (-2000)) (f28 : 1 * x3 + ((-1) * x13 + 0) ≤ (-1)) (f29 : (-1) * x9 + ((-1) * x13 + 0) ≤ (-2000)) (f30 : (-1) * x4 + 0 ≤ 0) (f32 : 1 * x15 + ((-1) * x13 + 0) ≤ 0) (f33 : (-1) * x15 + (1 * x13 + 0) ≤ 0) (f34 : 1 * x3 + ((-1) * x15 + 0) ≤ (-1)) (f35 : (-1) * x9 + ((-1) * x15 + 0) ≤ (-2000)) (f36 : 1 * x3 + ((-1) * x13 + 0) ≤ (-1)) (f37 : (-1) * x9 + ((-1) * x13 + 0) ≤ (-2000)) (f38 : (-1) * x4 + 0 ≤ 0) (f40 : 1 * x3 + ((-1) * x13 + 0) ≤ (-1)) (f41 : (-1) * x9 + ((-1) * x13 + 0) ≤ (-2000)) (f42 : (-1) * x4 + 0 ≤ 0) (f44 : (-1) * x4 + 0 ≤ 0) (kz_0_8 : 0 ≤ fault_0 ∧ fault_0 ≤ 5) (kz_0_11 : 0 ≤ pos_0 ∧ pos_0 ≤ 2000) (kz_0_12 : 0 ≤ kind_0 ∧ kind_0 ≤ 4) (kz_0_15 : 0 ≤ from_0 ∧ from_0 ≤ 2000) : 1 * x27 + ((-1) * x2 + 0) ≤ 0 := by
  first | assumption | (clear f12; omega) | omega | grind
set_option maxHeartbeats 4000000 in
theorem vc_Mo_of_at_s5002_21_6 (x2 : Int) (x3 : Int) (x4 : Int) (x7 : Int) (x9 : Int) (x13 : Int) (x15 : Int) (x26 : Int) (x27 : Int) (fault_0 : Int) (from_0 : Int) (pos_0 : Int) (kind_0 : Int) (k2 : 99 ≤ x2 ∧ x2 ≤ 99) (k3 : 0 ≤ x3 ∧ x3 ≤ 2000) (k4 : (-1) ≤ x4 ∧ x4 ≤ 48) (k7 : 99 ≤ x7 ∧ x7 ≤ 99) (k9 : 0 ≤ x9 ∧ x9 ≤ 2000) (k13 : 0 ≤ x13 ∧ x13 ≤ 2000) (k15 : 0 ≤ x15 ∧ x15 ≤ 2000) (k26 : 1 ≤ x26 ∧ x26 ≤ 5) (k27 : 0 ≤ x27 ∧ x27 ≤ 0) (f0 : 0 < x26) (g1 : x26 = fault_0) (f2 : 1 * x15 + ((-1) * x13 + 0) ≤ 0) (f3 : (-1) * x15 + (1 * x13 + 0) ≤ 0) (f4 : 1 * x3 + ((-1) * x15 + 0) ≤ (-1)) (f5 : (-1) * x9 + ((-1) * x15 + 0) ≤ (-2000)) (f6 : 1 * x3 + ((-1) * x13 + 0) ≤ (-1)) (f7 : (-1) * x9 + ((-1) * x13 + 0) ≤ (-2000)) (f8 : (-1) * x4 + 0 ≤ 0) (f11 : 1 * from_0 + ((-1) * pos_0 + 0) ≤ 0) (f12 : ((kind_0 = 1) → (pos_0 ≤ (from_0 + 8))) ∧ ((kind_0 = 0) ∨ ((from_0 + 1) ≤ pos_0))) (f13 : 1 * x15 + ((-1) * pos_0 + 0) ≤ 0) (f14 : (-1) * fault_0 + 0 ≤ (-1)) (f16 : 1 * x15 + ((-1) * x13 + 0) ≤ 0) (f17 : (-1) * x15 + (1 * x13 + 0) ≤ 0) (f18 : 1 * x3 + ((-1) * x15 + 0) ≤ (-1)) (f19 : (-1) * x9 + ((-1) * x15 + 0) ≤ (-2000)) (f20 : 1 * x3 + ((-1) * x13 + 0) ≤ (-1)) (f21 : (-1) * x9 + ((-1) * x13 + 0) ≤ (-2000)) (f22 : (-1) * x4 + 0 ≤ 0) (f24 : 1 * x15 + ((-1) * x13 + 0) ≤ 0) (f25 : (-1) * x15 + (1 * x13 + 0) ≤ 0) (f26 : 1 * x3 + ((-1) * x15 + 0) ≤ (-1)) (f27 : (-1) * x9 + ((-1) * x15 + 0) ≤ (-2000)) (f28 : 1 * x3 + ((-1) * x13 + 0) ≤ (-1)) (f29 : (-1) * x9 + ((-1) * x13 + 0) ≤ (-2000)) (f30 : (-1) * x4 + 0 ≤ 0) (f32 : 1 * x15 + ((-1) * x13 + 0) ≤ 0) (f33 : (-1) * x15 + (1 * x13 + 0) ≤ 0) (f34 : 1 * x3 + ((-1) * x15 + 0) ≤ (-1)) (f35 : (-1) * x9 + ((-1) * x15 + 0) ≤ (-2000)) (f36 : 1 * x3 + ((-1) * x13 + 0) ≤ (-1)) (f37 : (-1) * x9 + ((-1) * x13 + 0) ≤ (-2000)) (f38 : (-1) * x4 + 0 ≤ 0) (f40 : 1 * x3 + ((-1) * x13 + 0) ≤ (-1)) (f41 : (-1) * x9 + ((-1) * x13 + 0) ≤ (-2000)) (f42 : (-1) * x4 + 0 ≤ 0) (f44 : (-1) * x4 + 0 ≤ 0) (kz_0_8 : 0 ≤ fault_0 ∧ fault_0 ≤ 5) (kz_0_11 : 0 ≤ pos_0 ∧ pos_0 ≤ 2000) (kz_0_12 : 0 ≤ kind_0 ∧ kind_0 ≤ 4) (kz_0_15 : 0 ≤ from_0 ∧ from_0 ≤ 2000) : (-1) * x27 + 0 ≤ 0 := by
  first | assumption | (clear f12; omega) | omega | grind
def o_Mo_of_at_s5002_21 : or_T := (129, 28, [(0, (2, 0, 0, [165])), (2, (0, 99, 99, [])), (3, (0, 0, 2000, [])), (4, (0, -1, 48, [])), (7, (0, 99, 99, [])), (9, (0, 0, 2000, [])), (13, (0, 0, 2000, [])), (15, (0, 0, 2000, [])), (26, (0, 1, 5, [])), (27, (0, 0, 0, []))], [(8, [26], [4]), (9, [26, 5], [8]), (23, [15, 13], [0, 1, -1]), (23, [15, 13], [0, -1, 1]), (23, [3, 15], [-1, 1, -1]), (23, [9, 15], [-2000, -1, -1]), (23, [3, 13], [-1, 1, -1]), (23, [9, 13], [-2000, -1, -1]), (23, [4], [0, -1]), (24, [0, 5], []), (20, [5, 5], [30, 0, 1, 1, 15, -1, 1, 11]), (20, [5], [50, 3, 0, 12, 11, 15, 2, 21, 4, 7, 1, 3, 2, 0, 12, 0, 1, 0, 3, 2, 0, 11, 4, 3, 2, 0, 15, 0, 8, 3, 7, 1, 3, 2, 0, 12, 0, 0, 0, 7, 4, 3, 2, 0, 15, 0, 1, 2, 0, 11]), (20, [15, 5], [30, 0, 1, 0, 0, -1, 1, 11]), (20, [5], [30, -1, -1, 1, 8]), (102, [25], [0, 165008, 165009]), (23, [15, 13], [0, 1, -1]), (23, [15, 13], [0, -1, 1]), (23, [3, 15], [-1, 1, -1]), (23, [9, 15], [-2000, -1, -1]), (23, [3, 13], [-1, 1, -1]), (23, [9, 13], [-2000, -1, -1]), (23, [4], [0, -1]), (102, [20], [0, 165008, 165009]), (23, [15, 13], [0, 1, -1]), (23, [15, 13], [0, -1, 1]), (23, [3, 15], [-1, 1, -1]), (23, [9, 15], [-2000, -1, -1]), (23, [3, 13], [-1, 1, -1]), (23, [9, 13], [-2000, -1, -1]), (23, [4], [0, -1]), (102, [15], [0, 165008, 165009, 165011, 165012, 165013, 165014, 165015]), (23, [15, 13], [0, 1, -1]), (23, [15, 13], [0, -1, 1]), (23, [3, 15], [-1, 1, -1]), (23, [9, 15], [-2000, -1, -1]), (23, [3, 13], [-1, 1, -1]), (23, [9, 13], [-2000, -1, -1]), (23, [4], [0, -1]), (102, [13], [0, 165011, 165012, 165013, 165014, 165015]), (23, [3, 13], [-1, 1, -1]), (23, [9, 13], [-2000, -1, -1]), (23, [4], [0, -1]), (102, [11], [0]), (23, [4], [0, -1])], [], [], [(20, [0, 0], [30, 0, 1, 1, 15, -1, 1, 11]), (20, [0], [50, 3, 0, 12, 11, 15, 2, 21, 4, 7, 1, 3, 2, 0, 12, 0, 1, 0, 3, 2, 0, 11, 4, 3, 2, 0, 15, 0, 8, 3, 7, 1, 3, 2, 0, 12, 0, 0, 0, 7, 4, 3, 2, 0, 15, 0, 1, 2, 0, 11]), (20, [3, 0], [30, 0, 1, 0, 0, -1, 1, 11]), (20, [0, 3], [50, 3, 0, 8, 12, 11, 3, 7, 0, 2, 0, 1, 2, 0, 8, 3, 7, 1, 3, 2, 0, 12, 0, 0, 0, 6, 4, 2, 1, 1, 0, 1, 2, 0, 11]), (20, [0, 4], [50, 1, 0, 8, 3, 7, 0, 2, 0, 1, 2, 0, 8, 0, 2, 0, 0, 1, 1]), (20, [27, 2], [30, 0, 1, 0, 0, -1, 0, 0]), (20, [27], [30, 0, -1, 0, 0])], [], [])
theorem oo_Mo_of_at_s5002_21 {kA : Nat → ClassId} : or_ok PRD kA GG o_Mo_of_at_s5002_21 := by
  refine or_mk fun A ta ws vs hD hth hl => ?_
  intro t0 r0 t2 k2 t3 k3 t4 k4 t7 k7 t9 k9 t13 k13 t15 k15 t26 k26 t27 k27 f0 f1 f2 f3 f4 f5 f6 f7 f8 f9 f11 f12 f13 f14 ta1 w1 le1 s1 f16 f17 f18 f19 f20 f21 f22 ta2 w2 le2 s2 f24 f25 f26 f27 f28 f29 f30 ta3 w3 le3 s3 f32 f33 f34 f35 f36 f37 f38 ta4 w4 le4 s4 f40 f41 f42 ta5 w5 le5 s5 f44
  replace f1 := shm_143 f1
  replace f9 := shm_5 f9
  replace f11 := shm_1397 f11
  replace f12 := shm_1398 f12
  replace f13 := shm_1395 f13
  replace f14 := shm_144 f14
  have q5 : n_v vs 5 = n_v vs 0 := f9.symm
  simp only [q5] at f1 f11 f12 f13 f14
  have g1 : v_iv (n_v vs 26) = w_fi ws (n_v vs 0) 8 := congrArg v_iv f1
  have kz_0_8 := fdq_14 hD hth r0
  have kz_0_11 := fdq_273 hD hth r0
  have kz_0_12 := fdq_186 hD hth r0
  have kz_0_15 := fdq_274 hD hth r0
  have nf0 : fc_1 PRD (20, [0, 0], [30, 0, 1, 1, 15, -1, 1, 11]) ws (vs) := ⟨nf_in hl rfl, sgq_1397 (vc_Mo_of_at_s5002_21_0 (v_iv (n_v vs 2)) (v_iv (n_v vs 3)) (v_iv (n_v vs 4)) (v_iv (n_v vs 7)) (v_iv (n_v vs 9)) (v_iv (n_v vs 13)) (v_iv (n_v vs 15)) (v_iv (n_v vs 26)) (v_iv (n_v vs 27)) (w_fi ws (n_v vs 0) 8) (w_fi ws (n_v vs 0) 15) (w_fi ws (n_v vs 0) 11) (w_fi ws (n_v vs 0) 12) k2 k3 k4 k7 k9 k13 k15 k26 k27 (shm_145 f0) g1 (shm_7 f2) (shm_22 f3) (shm_211 f4) (shm_1894 f5) (shm_211 f6) (shm_1894 f7) (shm_1013 f8) f11 f12 f13 f14 (shm_7 f16) (shm_22 f17) (shm_211 f18) (shm_1894 f19) (shm_211 f20) (shm_1894 f21) (shm_1013 f22) (shm_7 f24) (shm_22 f25) (shm_211 f26) (shm_1894 f27) (shm_211 f28) (shm_1894 f29) (shm_1013 f30) (shm_7 f32) (shm_22 f33) (shm_211 f34) (shm_1894 f35) (shm_211 f36) (shm_1894 f37) (shm_1013 f38) (shm_211 f40) (shm_1894 f41) (shm_1013 f42) (shm_1013 f44) kz_0_8 kz_0_11 kz_0_12 kz_0_15)⟩
  have nf1 : fc_1 PRD (20, [0], [50, 3, 0, 12, 11, 15, 2, 21, 4, 7, 1, 3, 2, 0, 12, 0, 1, 0, 3, 2, 0, 11, 4, 3, 2, 0, 15, 0, 8, 3, 7, 1, 3, 2, 0, 12, 0, 0, 0, 7, 4, 3, 2, 0, 15, 0, 1, 2, 0, 11]) ws (vs) := ⟨nf_in hl rfl, sgq_1398 (vc_Mo_of_at_s5002_21_1 (v_iv (n_v vs 2)) (v_iv (n_v vs 3)) (v_iv (n_v vs 4)) (v_iv (n_v vs 7)) (v_iv (n_v vs 9)) (v_iv (n_v vs 13)) (v_iv (n_v vs 15)) (v_iv (n_v vs 26)) (v_iv (n_v vs 27)) (w_fi ws (n_v vs 0) 8) (w_fi ws (n_v vs 0) 15) (w_fi ws (n_v vs 0) 11) (w_fi ws (n_v vs 0) 12) k2 k3 k4 k7 k9 k13 k15 k26 k27 (shm_145 f0) g1 (shm_7 f2) (shm_22 f3) (shm_211 f4) (shm_1894 f5) (shm_211 f6) (shm_1894 f7) (shm_1013 f8) f11 f12 f13 f14 (shm_7 f16) (shm_22 f17) (shm_211 f18) (shm_1894 f19) (shm_211 f20) (shm_1894 f21) (shm_1013 f22) (shm_7 f24) (shm_22 f25) (shm_211 f26) (shm_1894 f27) (shm_211 f28) (shm_1894 f29) (shm_1013 f30) (shm_7 f32) (shm_22 f33) (shm_211 f34) (shm_1894 f35) (shm_211 f36) (shm_1894 f37) (shm_1013 f38) (shm_211 f40) (shm_1894 f41) (shm_1013 f42) (shm_1013 f44) kz_0_8 kz_0_11 kz_0_12 kz_0_15)⟩
  have nf2 : fc_1 PRD (20, [3, 0], [30, 0, 1, 0, 0, -1, 1, 11]) ws (vs) := ⟨nf_in hl rfl, sgq_1395 (vc_Mo_of_at_s5002_21_2 (v_iv (n_v vs 2)) (v_iv (n_v vs 3)) (v_iv (n_v vs 4)) (v_iv (n_v vs 7)) (v_iv (n_v vs 9)) (v_iv (n_v vs 13)) (v_iv (n_v vs 15)) (v_iv (n_v vs 26)) (v_iv (n_v vs 27)) (w_fi ws (n_v vs 0) 8) (w_fi ws (n_v vs 0) 15) (w_fi ws (n_v vs 0) 11) (w_fi ws (n_v vs 0) 12) k2 k3 k4 k7 k9 k13 k15 k26 k27 (shm_145 f0) g1 (shm_7 f2) (shm_22 f3) (shm_211 f4) (shm_1894 f5) (shm_211 f6) (shm_1894 f7) (shm_1013 f8) f11 f12 f13 f14 (shm_7 f16) (shm_22 f17) (shm_211 f18) (shm_1894 f19) (shm_211 f20) (shm_1894 f21) (shm_1013 f22) (shm_7 f24) (shm_22 f25) (shm_211 f26) (shm_1894 f27) (shm_211 f28) (shm_1894 f29) (shm_1013 f30) (shm_7 f32) (shm_22 f33) (shm_211 f34) (shm_1894 f35) (shm_211 f36) (shm_1894 f37) (shm_1013 f38) (shm_211 f40) (shm_1894 f41) (shm_1013 f42) (shm_1013 f44) kz_0_8 kz_0_11 kz_0_12 kz_0_15)⟩
  have nf3 : fc_1 PRD (20, [0, 3], [50, 3, 0, 8, 12, 11, 3, 7, 0, 2, 0, 1, 2, 0, 8, 3, 7, 1, 3, 2, 0, 12, 0, 0, 0, 6, 4, 2, 1, 1, 0, 1, 2, 0, 11]) ws (vs) := ⟨nf_in hl rfl, sgq_1660 (vc_Mo_of_at_s5002_21_3 (v_iv (n_v vs 2)) (v_iv (n_v vs 3)) (v_iv (n_v vs 4)) (v_iv (n_v vs 7)) (v_iv (n_v vs 9)) (v_iv (n_v vs 13)) (v_iv (n_v vs 15)) (v_iv (n_v vs 26)) (v_iv (n_v vs 27)) (w_fi ws (n_v vs 0) 8) (w_fi ws (n_v vs 0) 15) (w_fi ws (n_v vs 0) 11) (w_fi ws (n_v vs 0) 12) k2 k3 k4 k7 k9 k13 k15 k26 k27 (shm_145 f0) g1 (shm_7 f2) (shm_22 f3) (shm_211 f4) (shm_1894 f5) (shm_211 f6) (shm_1894 f7) (shm_1013 f8) f11 f12 f13 f14 (shm_7 f16) (shm_22 f17) (shm_211 f18) (shm_1894 f19) (shm_211 f20) (shm_1894 f21) (shm_1013 f22) (shm_7 f24) (shm_22 f25) (shm_211 f26) (shm_1894 f27) (shm_211 f28) (shm_1894 f29) (shm_1013 f30) (shm_7 f32) (shm_22 f33) (shm_211 f34) (shm_1894 f35) (shm_211 f36) (shm_1894 f37) (shm_1013 f38) (shm_211 f40) (shm_1894 f41) (shm_1013 f42) (shm_1013 f44) kz_0_8 kz_0_11 kz_0_12 kz_0_15)⟩
  have nf4 : fc_1 PRD (20, [0, 4], [50, 1, 0, 8, 3, 7, 0, 2, 0, 1, 2, 0, 8, 0, 2, 0, 0, 1, 1]) ws (vs) := ⟨nf_in hl rfl, sgq_1889 (vc_Mo_of_at_s5002_21_4 (v_iv (n_v vs 2)) (v_iv (n_v vs 3)) (v_iv (n_v vs 4)) (v_iv (n_v vs 7)) (v_iv (n_v vs 9)) (v_iv (n_v vs 13)) (v_iv (n_v vs 15)) (v_iv (n_v vs 26)) (v_iv (n_v vs 27)) (w_fi ws (n_v vs 0) 8) (w_fi ws (n_v vs 0) 15) (w_fi ws (n_v vs 0) 11) (w_fi ws (n_v vs 0) 12) k2 k3 k4 k7 k9 k13 k15 k26 k27 (shm_145 f0) g1 (shm_7 f2) (shm_22 f3) (shm_211 f4) (shm_1894 f5) (shm_211 f6) (shm_1894 f7) (shm_1013 f8) f11 f12 f13 f14 (shm_7 f16) (shm_22 f17) (shm_211 f18) (shm_1894 f19) (shm_211 f20) (shm_1894 f21) (shm_1013 f22) (shm_7 f24) (shm_22 f25) (shm_211 f26) (shm_1894 f27) (shm_211 f28) (shm_1894 f29) (shm_1013 f30) (shm_7 f32) (shm_22 f33) (shm_211 f34) (shm_1894 f35) (shm_211 f36) (shm_1894 f37) (shm_1013 f38) (shm_211 f40) (shm_1894 f41) (shm_1013 f42) (shm_1013 f44) kz_0_8 kz_0_11 kz_0_12 kz_0_15)⟩
  have nf5 : fc_1 PRD (20, [27, 2], [30, 0, 1, 0, 0, -1, 0, 0]) ws (vs) := ⟨nf_in hl rfl, sgq_219 (vc_Mo_of_at_s5002_21_5 (v_iv (n_v vs 2)) (v_iv (n_v vs 3)) (v_iv (n_v vs 4)) (v_iv (n_v vs 7)) (v_iv (n_v vs 9)) (v_iv (n_v vs 13)) (v_iv (n_v vs 15)) (v_iv (n_v vs 26)) (v_iv (n_v vs 27)) (w_fi ws (n_v vs 0) 8) (w_fi ws (n_v vs 0) 15) (w_fi ws (n_v vs 0) 11) (w_fi ws (n_v vs 0) 12) k2 k3 k4 k7 k9 k13 k15 k26 k27 (shm_145 f0) g1 (shm_7 f2) (shm_22 f3) (shm_211 f4) (shm_1894 f5) (shm_211 f6) (shm_1894 f7) (shm_1013 f8) f11 f12 f13 f14 (shm_7 f16) (shm_22 f17) (shm_211 f18) (shm_1894 f19) (shm_211 f20) (shm_1894 f21) (shm_1013 f22) (shm_7 f24) (shm_22 f25) (shm_211 f26) (shm_1894 f27) (shm_211 f28) (shm_1894 f29) (shm_1013 f30) (shm_7 f32) (shm_22 f33) (shm_211 f34) (shm_1894 f35) (shm_211 f36) (shm_1894 f37) (shm_1013 f38) (shm_211 f40) (shm_1894 f41) (shm_1013 f42) (shm_1013 f44) kz_0_8 kz_0_11 kz_0_12 kz_0_15)⟩
  have nf6 : fc_1 PRD (20, [27], [30, 0, -1, 0, 0]) ws (vs) := ⟨nf_in hl rfl, sgq_1890 (vc_Mo_of_at_s5002_21_6 (v_iv (n_v vs 2)) (v_iv (n_v vs 3)) (v_iv (n_v vs 4)) (v_iv (n_v vs 7)) (v_iv (n_v vs 9)) (v_iv (n_v vs 13)) (v_iv (n_v vs 15)) (v_iv (n_v vs 26)) (v_iv (n_v vs 27)) (w_fi ws (n_v vs 0) 8) (w_fi ws (n_v vs 0) 15) (w_fi ws (n_v vs 0) 11) (w_fi ws (n_v vs 0) 12) k2 k3 k4 k7 k9 k13 k15 k26 k27 (shm_145 f0) g1 (shm_7 f2) (shm_22 f3) (shm_211 f4) (shm_1894 f5) (shm_211 f6) (shm_1894 f7) (shm_1013 f8) f11 f12 f13 f14 (shm_7 f16) (shm_22 f17) (shm_211 f18) (shm_1894 f19) (shm_211 f20) (shm_1894 f21) (shm_1013 f22) (shm_7 f24) (shm_22 f25) (shm_211 f26) (shm_1894 f27) (shm_211 f28) (shm_1894 f29) (shm_1013 f30) (shm_7 f32) (shm_22 f33) (shm_211 f34) (shm_1894 f35) (shm_211 f36) (shm_1894 f37) (shm_1013 f38) (shm_211 f40) (shm_1894 f41) (shm_1013 f42) (shm_1013 f44) kz_0_8 kz_0_11 kz_0_12 kz_0_15)⟩
  refine ⟨(fun _ h => (by cases h)), [], trivial, ?_, (fun _ h => (by cases h))⟩
  rw [List.append_nil]
  exact List.forall_mem_cons.mpr ⟨⟨show (20 : Nat) < 100 from by decide, nf0⟩, List.forall_mem_cons.mpr ⟨⟨show (20 : Nat) < 100 from by decide, nf1⟩, List.forall_mem_cons.mpr ⟨⟨show (20 : Nat) < 100 from by decide, nf2⟩, List.forall_mem_cons.mpr ⟨⟨show (20 : Nat) < 100 from by decide, nf3⟩, List.forall_mem_cons.mpr ⟨⟨show (20 : Nat) < 100 from by decide, nf4⟩, List.forall_mem_cons.mpr ⟨⟨show (20 : Nat) < 100 from by decide, nf5⟩, List.forall_mem_cons.mpr ⟨⟨show (20 : Nat) < 100 from by decide, nf6⟩, (fun _ h => (by cases h))⟩⟩⟩⟩⟩⟩⟩

set_option maxHeartbeats 4000000 in
theorem vc_Mo_of_at_s5002_22_0 (x2 : Int) (x3 : Int) (x7 : Int) (x8 : Int) (x9 : Int) (x13 : Int) (x15 : Int) (x22 : Int) (x26 : Int) (value_0 : Int) (fault_0 : Int) (from_0 : Int) (pos_0 : Int) (kind_0 : Int) (k2 : 99 ≤ x2 ∧ x2 ≤ 99) (k3 : 0 ≤ x3 ∧ x3 ≤ 2000) (k7 : 99 ≤ x7 ∧ x7 ≤ 99) (k8 : (-2147483648) ≤ x8 ∧ x8 ≤ 0) (k9 : 0 ≤ x9 ∧ x9 ≤ 2000) (k13 : 0 ≤ x13 ∧ x13 ≤ 2000) (k15 : 0 ≤ x15 ∧ x15 ≤ 2000) (k22 : 100 ≤ x22 ∧ x22 ≤ 2147483647) (k26 : 0 ≤ x26 ∧ x26 ≤ 0) (g0 : x22 = value_0) (f1 : x26 ≤ 0) (g2 : x26 = fault_0) (f3 : 1 * x15 + ((-1) * x13 + 0) ≤ 0) (f4 : (-1) * x15 + (1 * x13 + 0) ≤ 0) (f5 : 1 * x3 + ((-1) * x15 + 0) ≤ (-1)) (f6 : (-1) * x9 + ((-1) * x15 + 0) ≤ (-2000)) (f7 : 1 * x3 + ((-1) * x13 + 0) ≤ (-1)) (f8 : (-1) * x9 + ((-1) * x13 + 0) ≤ (-2000)) (f9 : 1 * x8 + ((-1) * x2 + 0) ≤ 0) (f10 : (-1) * x8 + 0 ≤ 0) (f13 : 1 * from_0 + ((-1) * pos_0 + 0) ≤ 0) (f14 : ((kind_0 = 1) → (pos_0 ≤ (from_0 + 8))) ∧ ((kind_0 = 0) ∨ ((from_0 + 1) ≤ pos_0))) (f15 : 1 * x15 + ((-1) * pos_0 + 0) ≤ 0) (f16 : (-1) * fault_0 + 0 ≤ (-1)) (f18 : 1 * x15 + ((-1) * x13 + 0) ≤ 0) (f19 : (-1) * x15 + (1 * x13 + 0) ≤ 0) (f20 : 1 * x3 + ((-1) * x15 + 0) ≤ (-1)) (f21 : (-1) * x9 + ((-1) * x15 + 0) ≤ (-2000)) (f22 : 1 * x3 + ((-1) * x13 + 0) ≤ (-1)) (f23 : (-1) * x9 + ((-1) * x13 + 0) ≤ (-2000)) (f24 : 1 * x8 + ((-1) * x2 + 0) ≤ 0) (f25 : (-1) * x8 + 0 ≤ 0) (f27 : 1 * x15 + ((-1) * x13 + 0) ≤ 0) (f28 : (-1) * x15 + (1 * x13 + 0) ≤ 0) (f29 : 1 * x3 + ((-1) * x15 + 0) ≤ (-1)) (f30 : (-1) * x9 + ((-1) * x15 + 0) ≤ (-2000)) (f31 : 1 * x3 + ((-1) * x13 + 0) ≤ (-1)) (f32 : (-1) * x9 + ((-1) * x13 + 0) ≤ (-2000)) (f33 : 1 * x8 + ((-1) * x2 + 0) ≤ 0) (f34 : (-1) * x8 + 0 ≤ 0) (f36 : 1 * x15 + ((-1) * x13 + 0) ≤ 0) (f37 : (-1) * x15 + (1 * x13 + 0) ≤ 0) (f38 : 1 * x3 + ((-1) * x15 + 0) ≤ (-1)) (f39 : (-1) * x9 + ((-1) * x15 + 0) ≤ (-2000)) (f40 : 1 * x3 + ((-1) * x13 + 0) ≤ (-1)) (f41 : (-1) * x9 + ((-1) * x13 + 0) ≤ (-2000)) (f42 : 1 * x8 + ((-1) * x2 + 0) ≤ 0) (f43 : (-1) * x8 + 0 ≤ 0) (f45 : 1 * x3 + ((-1) * x13 + 0) ≤ (-1)) (f46 : (-1) * x9 + ((-1) * x13 + 0) ≤ (-2000)) (f47 : x8 ≤ 0) (f48 : 1 * x8 + ((-1) * x2 + 0) ≤ 0) (f49 : (-1) * x8 + 0 ≤ 0) (f51 : 1 * x8 + ((-1) * x2 + 0) ≤ 0) (f52 : (-1) * x8 + 0 ≤ 0) (kz_0_8 : 0 ≤ fault_0 ∧ fault_0 ≤ 5) (kz_0_11 : 0 ≤ pos_0 ∧ pos_0 ≤ 2000) (kz_0_12 : 0 ≤ kind_0 ∧ kind_0 ≤ 4) (kz_0_14 : (-2147483648) ≤ value_0 ∧ value_0 ≤ 2147483647) (kz_0_15 : 0 ≤ from_0 ∧ from_0 ≤ 2000) : 1 * x22 + ((-1) * x2 + 0) ≤ 0 := by
  first | assumption | (clear f14; omega) | omega | grind
set_option maxHeartbeats 4000000 in
theorem vc_Mo_of_at_s5002_22_1 (x2 : Int) (x3 : Int) (x7 : Int) (x8 : Int) (x9 : Int) (x13 : Int) (x15 : Int) (x22 : Int) (x26 : Int) (value_0 : Int) (fault_0 : Int) (from_0 : Int) (pos_0 : Int) (kind_0 : Int) (k2 : 99 ≤ x2 ∧ x2 ≤ 99) (k3 : 0 ≤ x3 ∧ x3 ≤ 2000) (k7 : 99 ≤ x7 ∧ x7 ≤ 99) (k8 : (-2147483648) ≤ x8 ∧ x8 ≤ 0) (k9 : 0 ≤ x9 ∧ x9 ≤ 2000) (k13 : 0 ≤ x13 ∧ x13 ≤ 2000) (k15 : 0 ≤ x15 ∧ x15 ≤ 2000) (k22 : 100 ≤ x22 ∧ x22 ≤ 2147483647) (k26 : 0 ≤ x26 ∧ x26 ≤ 0) (g0 : x22 = value_0) (f1 : x26 ≤ 0) (g2 : x26 = fault_0) (f3 : 1 * x15 + ((-1) * x13 + 0) ≤ 0) (f4 : (-1) * x15 + (1 * x13 + 0) ≤ 0) (f5 : 1 * x3 + ((-1) * x15 + 0) ≤ (-1)) (f6 : (-1) * x9 + ((-1) * x15 + 0) ≤ (-2000)) (f7 : 1 * x3 + ((-1) * x13 + 0) ≤ (-1)) (f8 : (-1) * x9 + ((-1) * x13 + 0) ≤ (-2000)) (f9 : 1 * x8 + ((-1) * x2 + 0) ≤ 0) (f10 : (-1) * x8 + 0 ≤ 0) (f13 : 1 * from_0 + ((-1) * pos_0 + 0) ≤ 0) (f14 : ((kind_0 = 1) → (pos_0 ≤ (from_0 + 8))) ∧ ((kind_0 = 0) ∨ ((from_0 + 1) ≤ pos_0))) (f15 : 1 * x15 + ((-1) * pos_0 + 0) ≤ 0) (f16 : (-1) * fault_0 + 0 ≤ (-1)) (f18 : 1 * x15 + ((-1) * x13 + 0) ≤ 0) (f19 : (-1) * x15 + (1 * x13 + 0) ≤ 0) (f20 : 1 * x3 + ((-1) * x15 + 0) ≤ (-1)) (f21 : (-1) * x9 + ((-1) * x15 + 0) ≤ (-2000)) (f22 : 1 * x3 + ((-1) * x13 + 0) ≤ (-1)) (f23 : (-1) * x9 + ((-1) * x13 + 0) ≤ (-2000)) (f24 : 1 * x8 + ((-1) * x2 + 0) ≤ 0) (f25 : (-1) * x8 + 0 ≤ 0) (f27 : 1 * x15 + ((-1) * x13 + 0) ≤ 0) (f28 : (-1) * x15 + (1 * x13 + 0) ≤ 0) (f29 : 1 * x3 + ((-1) * x15 + 0) ≤ (-1)) (f30 : (-1) * x9 + ((-1) * x15 + 0) ≤ (-2000)) (f31 : 1 * x3 + ((-1) * x13 + 0) ≤ (-1)) (f32 : (-1) * x9 + ((-1) * x13 + 0) ≤ (-2000)) (f33 : 1 * x8 + ((-1) * x2 + 0) ≤ 0) (f34 : (-1) * x8 + 0 ≤ 0) (f36 : 1 * x15 + ((-1) * x13 + 0) ≤ 0) (f37 : (-1) * x15 + (1 * x13 + 0) ≤ 0) (f38 : 1 * x3 + ((-1) * x15 + 0) ≤ (-1)) (f39 : (-1) * x9 + ((-1) * x15 + 0) ≤ (-2000)) (f40 : 1 * x3 + ((-1) * x13 + 0) ≤ (-1)) (f41 : (-1) * x9 + ((-1) * x13 + 0) ≤ (-2000)) (f42 : 1 * x8 + ((-1) * x2 + 0) ≤ 0) (f43 : (-1) * x8 + 0 ≤ 0) (f45 : 1 * x3 + ((-1) * x13 + 0) ≤ (-1)) (f46 : (-1) * x9 + ((-1) * x13 + 0) ≤ (-2000)) (f47 : x8 ≤ 0) (f48 : 1 * x8 + ((-1) * x2 + 0) ≤ 0) (f49 : (-1) * x8 + 0 ≤ 0) (f51 : 1 * x8 + ((-1) * x2 + 0) ≤ 0) (f52 : (-1) * x8 + 0 ≤ 0) (kz_0_8 : 0 ≤ fault_0 ∧ fault_0 ≤ 5) (kz_0_11 : 0 ≤ pos_0 ∧ pos_0 ≤ 2000) (kz_0_12 : 0 ≤ kind_0 ∧ kind_0 ≤ 4) (kz_0_14 : (-2147483648) ≤ value_0 ∧ value_0 ≤ 2147483647) (kz_0_15 : 0 ≤ from_0 ∧ from_0 ≤ 2000) : (-1) * x22 + 0 ≤ 0 := by
  first | assumption | (clear f14; omega) | omega | grind
def o_Mo_of_at_s5002_22 : or_T := (135, 27, [(0, (2, 0, 0, [165])), (2, (0, 99, 99, [])), (3, (0, 0, 2000, [])), (5, (2, 0, 0, [165])), (7, (0, 99, 99, [])), (8, (0, -2147483648, 0, [])), (9, (0, 0, 2000, [])), (13, (0, 0, 2000, [])), (15, (0, 0, 2000, [])), (22, (0, 100, 2147483647, [])), (26, (0, 0, 0, []))], [(9, [22, 5], [14]), (8, [26], [5]), (9, [26, 5], [8]), (23, [15, 13], [0, 1, -1]), (23, [15, 13], [0, -1, 1]), (23, [3, 15], [-1, 1, -1]), (23, [9, 15], [-2000, -1, -1]), (23, [3, 13], [-1, 1, -1]), (23, [9, 13], [-2000, -1, -1]), (23, [8, 7], [0, 1, -1]), (23, [8], [0, -1]), (24, [0, 5], []), (24, [2, 7], []), (20, [5, 5], [30, 0, 1, 1, 15, -1, 1, 11]), (20, [5], [50, 3, 0, 12, 11, 15, 2, 21, 4, 7, 1, 3, 2, 0, 12, 0, 1, 0, 3, 2, 0, 11, 4, 3, 2, 0, 15, 0, 8, 3, 7, 1, 3, 2, 0, 12, 0, 0, 0, 7, 4, 3, 2, 0, 15, 0, 1, 2, 0, 11]), (20, [15, 5], [30, 0, 1, 0, 0, -1, 1, 11]), (20, [5], [30, -1, -1, 1, 8]), (102, [25], [0, 165008, 165009]), (23, [15, 13], [0, 1, -1]), (23, [15, 13], [0, -1, 1]), (23, [3, 15], [-1, 1, -1]), (23, [9, 15], [-2000, -1, -1]), (23, [3, 13], [-1, 1, -1]), (23, [9, 13], [-2000, -1, -1]), (23, [8, 7], [0, 1, -1]), (23, [8], [0, -1]), (102, [20], [0, 165008, 165009]), (23, [15, 13], [0, 1, -1]), (23, [15, 13], [0, -1, 1]), (23, [3, 15], [-1, 1, -1]), (23, [9, 15], [-2000, -1, -1]), (23, [3, 13], [-1, 1, -1]), (23, [9, 13], [-2000, -1, -1]), (23, [8, 7], [0, 1, -1]), (23, [8], [0, -1]), (102, [15], [0, 165008, 165009, 165011, 165012, 165013, 165014, 165015]), (23, [15, 13], [0, 1, -1]), (23, [15, 13], [0, -1, 1]), (23, [3, 15], [-1, 1, -1]), (23, [9, 15], [-2000, -1, -1]), (23, [3, 13], [-1, 1, -1]), (23, [9, 13], [-2000, -1, -1]), (23, [8, 7], [0, 1, -1]), (23, [8], [0, -1]), (102, [13], [0, 165011, 165012, 165013, 165014, 165015]), (23, [3, 13], [-1, 1, -1]), (23, [9, 13], [-2000, -1, -1]), (8, [8], [5]), (23, [8, 7], [0, 1, -1]), (23, [8], [0, -1]), (102, [11], [0]), (23, [8, 7], [0, 1, -1]), (23, [8], [0, -1])], [], [], [(23, [22, 7], [0, 1, -1]), (23, [22], [0, -1])], [], [])
theorem oo_Mo_of_at_s5002_22 {kA : Nat → ClassId} : or_ok PRD kA GG o_Mo_of_at_s5002_22 := by
  refine or_mk fun A ta ws vs hD hth hl => ?_
  intro t0 r0 t2 k2 t3 k3 t5 r5 t7 k7 t8 k8 t9 k9 t13 k13 t15 k15 t22 k22 t26 k26 f0 f1 f2 f3 f4 f5 f6 f7 f8 f9 f10 f11 f12 f13 f14 f15 f16 ta1 w1 le1 s1 f18 f19 f20 f21 f22 f23 f24 f25 ta2 w2 le2 s2 f27 f28 f29 f30 f31 f32 f33 f34 ta3 w3 le3 s3 f36 f37 f38 f39 f40 f41 f42 f43 ta4 w4 le4 s4 f45 f46 f47 f48 f49 ta5 w5 le5 s5 f51 f52
  replace f0 := shm_116 f0
  replace f1 := shm_142 f1
  replace f2 := shm_143 f2
  replace f3 := shm_7 f3
  replace f4 := shm_22 f4
  replace f5 := shm_211 f5
  replace f6 := shm_1894 f6
  replace f7 := shm_211 f7
  replace f8 := shm_1894 f8
  replace f9 := shm_7 f9
  replace f10 := shm_1013 f10
  replace f11 := shm_5 f11
  replace f12 := shm_5 f12
  replace f13 := shm_1397 f13
  replace f14 := shm_1398 f14
  replace f15 := shm_1395 f15
  replace f16 := shm_144 f16
  replace f18 := shm_7 f18
  replace f19 := shm_22 f19
  replace f20 := shm_211 f20
  replace f21 := shm_1894 f21
  replace f22 := shm_211 f22
  replace f23 := shm_1894 f23
  replace f24 := shm_7 f24
  replace f25 := shm_1013 f25
  replace f27 := shm_7 f27
  replace f28 := shm_22 f28
  replace f29 := shm_211 f29
  replace f30 := shm_1894 f30
  replace f31 := shm_211 f31
  replace f32 := shm_1894 f32
  replace f33 := shm_7 f33
  replace f34 := shm_1013 f34
  replace f36 := shm_7 f36
  replace f37 := shm_22 f37
  replace f38 := shm_211 f38
  replace f39 := shm_1894 f39
  replace f40 := shm_211 f40
  replace f41 := shm_1894 f41
  replace f42 := shm_7 f42
  replace f43 := shm_1013 f43
  replace f45 := shm_211 f45
  replace f46 := shm_1894 f46
  replace f47 := shm_142 f47
  replace f48 := shm_7 f48
  replace f49 := shm_1013 f49
  replace f51 := shm_7 f51
  replace f52 := shm_1013 f52
  have q5 : n_v vs 5 = n_v vs 0 := f11.symm
  have q7 : n_v vs 7 = n_v vs 2 := f12.symm
  simp only [q5, q7] at f0 f2 f9 f13 f14 f15 f16 f24 f33 f42 f48 f51
  have g0 : v_iv (n_v vs 22) = w_fi ws (n_v vs 0) 14 := congrArg v_iv f0
  have g2 : v_iv (n_v vs 26) = w_fi ws (n_v vs 0) 8 := congrArg v_iv f2
  have kz_0_8 := fdq_14 hD hth r0
  have kz_0_11 := fdq_273 hD hth r0
  have kz_0_12 := fdq_186 hD hth r0
  have kz_0_14 := fdq_311 hD hth r0
  have kz_0_15 := fdq_274 hD hth r0
  have nf0 : fc_1 PRD (23, [22, 7], [0, 1, -1]) ws (vs) := by
    refine ⟨nf_in hl rfl, sgq_7 ?_⟩
    · show 1 * v_iv (n_v vs 22) + ((-1) * v_iv (n_v vs 7) + 0) ≤ 0
      rw [q7]
      exact vc_Mo_of_at_s5002_22_0 (v_iv (n_v vs 2)) (v_iv (n_v vs 3)) (v_iv (n_v vs 7)) (v_iv (n_v vs 8)) (v_iv (n_v vs 9)) (v_iv (n_v vs 13)) (v_iv (n_v vs 15)) (v_iv (n_v vs 22)) (v_iv (n_v vs 26)) (w_fi ws (n_v vs 0) 14) (w_fi ws (n_v vs 0) 8) (w_fi ws (n_v vs 0) 15) (w_fi ws (n_v vs 0) 11) (w_fi ws (n_v vs 0) 12) k2 k3 k7 k8 k9 k13 k15 k22 k26 g0 f1 g2 f3 f4 f5 f6 f7 f8 f9 f10 f13 f14 f15 f16 f18 f19 f20 f21 f22 f23 f24 f25 f27 f28 f29 f30 f31 f32 f33 f34 f36 f37 f38 f39 f40 f41 f42 f43 f45 f46 f47 f48 f49 f51 f52 kz_0_8 kz_0_11 kz_0_12 kz_0_14 kz_0_15
  have nf1 : fc_1 PRD (23, [22], [0, -1]) ws (vs) := ⟨nf_in hl rfl, sgq_1013 (vc_Mo_of_at_s5002_22_1 (v_iv (n_v vs 2)) (v_iv (n_v vs 3)) (v_iv (n_v vs 7)) (v_iv (n_v vs 8)) (v_iv (n_v vs 9)) (v_iv (n_v vs 13)) (v_iv (n_v vs 15)) (v_iv (n_v vs 22)) (v_iv (n_v vs 26)) (w_fi ws (n_v vs 0) 14) (w_fi ws (n_v vs 0) 8) (w_fi ws (n_v vs 0) 15) (w_fi ws (n_v vs 0) 11) (w_fi ws (n_v vs 0) 12) k2 k3 k7 k8 k9 k13 k15 k22 k26 g0 f1 g2 f3 f4 f5 f6 f7 f8 f9 f10 f13 f14 f15 f16 f18 f19 f20 f21 f22 f23 f24 f25 f27 f28 f29 f30 f31 f32 f33 f34 f36 f37 f38 f39 f40 f41 f42 f43 f45 f46 f47 f48 f49 f51 f52 kz_0_8 kz_0_11 kz_0_12 kz_0_14 kz_0_15)⟩
  refine ⟨(fun _ h => (by cases h)), [], trivial, ?_, (fun _ h => (by cases h))⟩
  rw [List.append_nil]
  exact List.forall_mem_cons.mpr ⟨⟨show (23 : Nat) < 100 from by decide, nf0⟩, List.forall_mem_cons.mpr ⟨⟨show (23 : Nat) < 100 from by decide, nf1⟩, (fun _ h => (by cases h))⟩⟩
set_option maxHeartbeats 4000000 in
theorem vc_Mo_of_at_s5002_23_0 (x2 : Int) (x3 : Int) (x4 : Int) (x7 : Int) (x8 : Int) (x9 : Int) (x13 : Int) (x15 : Int) (x22 : Int) (x27 : Int) (fault_0 : Int) (from_0 : Int) (pos_0 : Int) (kind_0 : Int) (gx : Int) (k2 : 99 ≤ x2 ∧ x2 ≤ 99) (k3 : 0 ≤ x3 ∧ x3 ≤ 2000) (k4 : (-1) ≤ x4 ∧ x4 ≤ 48) (k7 : 99 ≤ x7 ∧ x7 ≤ 99) (k8 : (-2147483648) ≤ x8 ∧ x8 ≤ 0) (k9 : 0 ≤ x9 ∧ x9 ≤ 2000) (k13 : 0 ≤ x13 ∧ x13 ≤ 2000) (k15 : 0 ≤ x15 ∧ x15 ≤ 2000) (k22 : 100 ≤ x22 ∧ x22 ≤ 2147483647) (k27 : 0 ≤ x27 ∧ x27 ≤ 2000) (f0 : 1 * x3 + ((-1) * x27 + 0) ≤ (-1)) (f1 : (-1) * x9 + ((-1) * x27 + 0) ≤ (-2001)) (f2 : 1 * x22 + ((-1) * x2 + 0) ≤ 0) (f3 : (-1) * x22 + 0 ≤ 0) (f4 : 1 * x15 + ((-1) * x13 + 0) ≤ 0) (f5 : (-1) * x15 + (1 * x13 + 0) ≤ 0) (f6 : 1 * x3 + ((-1) * x15 + 0) ≤ (-1)) (f7 : (-1) * x9 + ((-1) * x15 + 0) ≤ (-2000)) (f8 : 1 * x3 + ((-1) * x13 + 0) ≤ (-1)) (f9 : (-1) * x9 + ((-1) * x13 + 0) ≤ (-2000)) (f10 : 1 * x8 + ((-1) * x2 + 0) ≤ 0) (f11 : (-1) * x8 + 0 ≤ 0) (f12 : (-1) * x4 + 0 ≤ 0) (f15 : (-1) * fault_0 + 0 ≤ (-1)) (f16 : 1 * from_0 + ((-1) * pos_0 + 0) ≤ 0) (f17 : ((kind_0 = 1) → (pos_0 ≤ (from_0 + 8))) ∧ ((kind_0 = 0) ∨ ((from_0 + 1) ≤ pos_0))) (f18 : 1 * x27 + ((-1) * from_0 + 0) ≤ 0) (f20 : 1 * x3 + ((-1) * x27 + 0) ≤ (-1)) (f21 : (-1) * x9 + ((-1) * x27 + 0) ≤ (-2001)) (f22 : 1 * x22 + ((-1) * x2 + 0) ≤ 0) (f23 : (-1) * x22 + 0 ≤ 0) (f24 : 1 * x15 + ((-1) * x13 + 0) ≤ 0) (f25 : (-1) * x15 + (1 * x13 + 0) ≤ 0) (f26 : 1 * x3 + ((-1) * x15 + 0) ≤ (-1)) (f27 : (-1) * x9 + ((-1) * x15 + 0) ≤ (-2000)) (f28 : 1 * x3 + ((-1) * x13 + 0) ≤ (-1)) (f29 : (-1) * x9 + ((-1) * x13 + 0) ≤ (-2000)) (f30 : 1 * x8 + ((-1) * x2 + 0) ≤ 0) (f31 : (-1) * x8 + 0 ≤ 0) (f32 : (-1) * x4 + 0 ≤ 0) (f34 : 1 * x15 + ((-1) * x13 + 0) ≤ 0) (f35 : (-1) * x15 + (1 * x13 + 0) ≤ 0) (f36 : 1 * x3 + ((-1) * x15 + 0) ≤ (-1)) (f37 : (-1) * x9 + ((-1) * x15 + 0) ≤ (-2000)) (f38 : 1 * x3 + ((-1) * x13 + 0) ≤ (-1)) (f39 : (-1) * x9 + ((-1) * x13 + 0) ≤ (-2000)) (f40 : 1 * x8 + ((-1) * x2 + 0) ≤ 0) (f41 : (-1) * x8 + 0 ≤ 0) (f42 : (-1) * x4 + 0 ≤ 0) (f44 : 1 * x15 + ((-1) * x13 + 0) ≤ 0) (f45 : (-1) * x15 + (1 * x13 + 0) ≤ 0) (f46 : 1 * x3 + ((-1) * x15 + 0) ≤ (-1)) (f47 : (-1) * x9 + ((-1) * x15 + 0) ≤ (-2000)) (f48 : 1 * x3 + ((-1) * x13 + 0) ≤ (-1)) (f49 : (-1) * x9 + ((-1) * x13 + 0) ≤ (-2000)) (f50 : 1 * x8 + ((-1) * x2 + 0) ≤ 0) (f51 : (-1) * x8 + 0 ≤ 0) (f52 : (-1) * x4 + 0 ≤ 0) (f54 : 1 * x15 + ((-1) * x13 + 0) ≤ 0) (f55 : (-1) * x15 + (1 * x13 + 0) ≤ 0) (f56 : 1 * x3 + ((-1) * x15 + 0) ≤ (-1)) (f57 : (-1) * x9 + ((-1) * x15 + 0) ≤ (-2000)) (f58 : 1 * x3 + ((-1) * x13 + 0) ≤ (-1)) (f59 : (-1) * x9 + ((-1) * x13 + 0) ≤ (-2000)) (f60 : 1 * x8 + ((-1) * x2 + 0) ≤ 0) (f61 : (-1) * x8 + 0 ≤ 0) (f62 : (-1) * x4 + 0 ≤ 0) (f64 : 1 * x3 + ((-1) * x13 + 0) ≤ (-1)) (f65 : (-1) * x9 + ((-1) * x13 + 0) ≤ (-2000)) (f66 : x8 ≤ 0) (f67 : 1 * x8 + ((-1) * x2 + 0) ≤ 0) (f68 : (-1) * x8 + 0 ≤ 0) (f69 : (-1) * x4 + 0 ≤ 0) (f71 : 1 * x8 + ((-1) * x2 + 0) ≤ 0) (f72 : (-1) * x8 + 0 ≤ 0) (f73 : (-1) * x4 + 0 ≤ 0) (kz_0_8 : 0 ≤ fault_0 ∧ fault_0 ≤ 5) (kz_0_11 : 0 ≤ pos_0 ∧ pos_0 ≤ 2000) (kz_0_12 : 0 ≤ kind_0 ∧ kind_0 ≤ 4) (kz_0_15 : 0 ≤ from_0 ∧ from_0 ≤ 2000) (ex2 : gx = 0 + (1 * x9 + 0)) (ex3 : 0 ≤ gx ∧ gx ≤ 2000) : 1 * from_0 + ((-1) * pos_0 + 0) ≤ 0 := by
  first | assumption | (clear f17; omega) | omega | grind
set_option maxHeartbeats 4000000 in
theorem vc_Mo_of_at_s5002_23_1 (x2 : Int) (x3 : Int) (x4 : Int) (x7 : Int) (x8 : Int) (x9 : Int) (x13 : Int) (x15 : Int) (x22 : Int) (x27 : Int) (fault_0 : Int) (from_0 : Int) (pos_0 : Int) (kind_0 : Int) (gx : Int) (k2 : 99 ≤ x2 ∧ x2 ≤ 99) (k3 : 0 ≤ x3 ∧ x3 ≤ 2000) (k4 : (-1) ≤ x4 ∧ x4 ≤ 48) (k7 : 99 ≤ x7 ∧ x7 ≤ 99) (k8 : (-2147483648) ≤ x8 ∧ x8 ≤ 0) (k9 : 0 ≤ x9 ∧ x9 ≤ 2000) (k13 : 0 ≤ x13 ∧ x13 ≤ 2000) (k15 : 0 ≤ x15 ∧ x15 ≤ 2000) (k22 : 100 ≤ x22 ∧ x22 ≤ 2147483647) (k27 : 0 ≤ x27 ∧ x27 ≤ 2000) (f0 : 1 * x3 + ((-1) * x27 + 0) ≤ (-1)) (f1 : (-1) * x9 + ((-1) * x27 + 0) ≤ (-2001)) (f2 : 1 * x22 + ((-1) * x2 + 0) ≤ 0) (f3 : (-1) * x22 + 0 ≤ 0) (f4 : 1 * x15 + ((-1) * x13 + 0) ≤ 0) (f5 : (-1) * x15 + (1 * x13 + 0) ≤ 0) (f6 : 1 * x3 + ((-1) * x15 + 0) ≤ (-1)) (f7 : (-1) * x9 + ((-1) * x15 + 0) ≤ (-2000)) (f8 : 1 * x3 + ((-1) * x13 + 0) ≤ (-1)) (f9 : (-1) * x9 + ((-1) * x13 + 0) ≤ (-2000)) (f10 : 1 * x8 + ((-1) * x2 + 0) ≤ 0) (f11 : (-1) * x8 + 0 ≤ 0) (f12 : (-1) * x4 + 0 ≤ 0) (f15 : (-1) * fault_0 + 0 ≤ (-1)) (f16 : 1 * from_0 + ((-1) * pos_0 + 0) ≤ 0) (f17 : ((kind_0 = 1) → (pos_0 ≤ (from_0 + 8))) ∧ ((kind_0 = 0) ∨ ((from_0 + 1) ≤ pos_0))) (f18 : 1 * x27 + ((-1) * from_0 + 0) ≤ 0) (f20 : 1 * x3 + ((-1) * x27 + 0) ≤ (-1)) (f21 : (-1) * x9 + ((-1) * x27 + 0) ≤ (-2001)) (f22 : 1 * x22 + ((-1) * x2 + 0) ≤ 0) (f23 : (-1) * x22 + 0 ≤ 0) (f24 : 1 * x15 + ((-1) * x13 + 0) ≤ 0) (f25 : (-1) * x15 + (1 * x13 + 0) ≤ 0) (f26 : 1 * x3 + ((-1) * x15 + 0) ≤ (-1)) (f27 : (-1) * x9 + ((-1) * x15 + 0) ≤ (-2000)) (f28 : 1 * x3 + ((-1) * x13 + 0) ≤ (-1)) (f29 : (-1) * x9 + ((-1) * x13 + 0) ≤ (-2000)) (f30 : 1 * x8 + ((-1) * x2 + 0) ≤ 0) (f31 : (-1) * x8 + 0 ≤ 0) (f32 : (-1) * x4 + 0 ≤ 0) (f34 : 1 * x15 + ((-1) * x13 + 0) ≤ 0) (f35 : (-1) * x15 + (1 * x13 + 0) ≤ 0) (f36 : 1 * x3 + ((-1) * x15 + 0) ≤ (-1)) (f37 : (-1) * x9 + ((-1) * x15 + 0) ≤ (-2000)) (f38 : 1 * x3 + ((-1) * x13 + 0) ≤ (-1)) (f39 : (-1) * x9 + ((-1) * x13 + 0) ≤ (-2000)) (f40 : 1 * x8 + ((-1) * x2 + 0) ≤ 0) (f41 : (-1) * x8 + 0 ≤ 0) (f42 : (-1) * x4 + 0 ≤ 0) (f44 : 1 * x15 + ((-1) * x13 + 0) ≤ 0) (f45 : (-1) * x15 + (1 * x13 + 0) ≤ 0) (f46 : 1 * x3 + ((-1) * x15 + 0) ≤ (-1)) (f47 : (-1) * x9 + ((-1) * x15 + 0) ≤ (-2000)) (f48 : 1 * x3 + ((-1) * x13 + 0) ≤ (-1)) (f49 : (-1) * x9 + ((-1) * x13 + 0) ≤ (-2000)) (f50 : 1 * x8 + ((-1) * x2 + 0) ≤ 0) (f51 : (-1) * x8 + 0 ≤ 0) (f52 : (-1) * x4 + 0 ≤ 0) (f54 : 1 * x15 + ((-1) * x13 + 0) ≤ 0) (f55 : (-1) * x15 + (1 * x13 + 0) ≤ 0) (f56 : 1 * x3 + ((-1) * x15 + 0) ≤ (-1)) (f57 : (-1) * x9 + ((-1) * x15 + 0) ≤ (-2000)) (f58 : 1 * x3 + ((-1) * x13 + 0) ≤ (-1)) (f59 : (-1) * x9 + ((-1) * x13 + 0) ≤ (-2000)) (f60 : 1 * x8 + ((-1) * x2 + 0) ≤ 0) (f61 : (-1) * x8 + 0 ≤ 0) (f62 : (-1) * x4 + 0 ≤ 0) (f64 : 1 * x3 + ((-1) * x13 + 0) ≤ (-1)) (f65 : (-1) * x9 + ((-1) * x13 + 0) ≤ (-2000)) (f66 : x8 ≤ 0) (f67 : 1 * x8 + ((-1) * x2 + 0) ≤ 0) (f68 : (-1) * x8 + 0 ≤ 0) (f69 : (-1) * x4 + 0 ≤ 0) (f71 : 1 * x8 + ((-1) * x2 + 0) ≤ 0) (f72 : (-1) * x8 + 0 ≤ 0) (f73 : (-1) * x4 + 0 ≤ 0) (kz_0_8 : 0 ≤ fault_0 ∧ fault_0 ≤ 5) (kz_0_11 : 0 ≤ pos_0 ∧ pos_0 ≤ 2000) (kz_0_12 : 0 ≤ kind_0 ∧ kind_0 ≤ 4) (kz_0_15 : 0 ≤ from_0 ∧ from_0 ≤ 2000) (ex2 : gx = 0 + (1 * x9 + 0)) (ex3 : 0 ≤ gx ∧ gx ≤ 2000) : ((kind_0 = 1) → (pos_0 ≤ (from_0 + 8))) ∧ ((kind_0 = 0) ∨ ((from_0 + 1) ≤ pos_0)) := by
  first | assumption | (clear f17; omega) | omega | grind
set_option maxHeartbeats 4000000 in
theorem vc_Mo_of_at_s5002_23_2 (x2 : Int) (x3 : Int) (x4 : Int) (x7 : Int) (x8 : Int) (x9 : Int) (x13 : Int) (x15 : Int) (x22 : Int) (x27 : Int) (fault_0 : Int) (from_0 : Int) (pos_0 : Int) (kind_0 : Int) (gx : Int) (k2 : 99 ≤ x2 ∧ x2 ≤ 99) (k3 : 0 ≤ x3 ∧ x3 ≤ 2000) (k4 : (-1) ≤ x4 ∧ x4 ≤ 48) (k7 : 99 ≤ x7 ∧ x7 ≤ 99) (k8 : (-2147483648) ≤ x8 ∧ x8 ≤ 0) (k9 : 0 ≤ x9 ∧ x9 ≤ 2000) (k13 : 0 ≤ x13 ∧ x13 ≤ 2000) (k15 : 0 ≤ x15 ∧ x15 ≤ 2000) (k22 : 100 ≤ x22 ∧ x22 ≤ 2147483647) (k27 : 0 ≤ x27 ∧ x27 ≤ 2000) (f0 : 1 * x3 + ((-1) * x27 + 0) ≤ (-1)) (f1 : (-1) * x9 + ((-1) * x27 + 0) ≤ (-2001)) (f2 : 1 * x22 + ((-1) * x2 + 0) ≤ 0) (f3 : (-1) * x22 + 0 ≤ 0) (f4 : 1 * x15 + ((-1) * x13 + 0) ≤ 0) (f5 : (-1) * x15 + (1 * x13 + 0) ≤ 0) (f6 : 1 * x3 + ((-1) * x15 + 0) ≤ (-1)) (f7 : (-1) * x9 + ((-1) * x15 + 0) ≤ (-2000)) (f8 : 1 * x3 + ((-1) * x13 + 0) ≤ (-1)) (f9 : (-1) * x9 + ((-1) * x13 + 0) ≤ (-2000)) (f10 : 1 * x8 + ((-1) * x2 + 0) ≤ 0) (f11 : (-1) * x8 + 0 ≤ 0) (f12 : (-1) * x4 + 0 ≤ 0) (f15 : (-1) * fault_0 + 0 ≤ (-1)) (f16 : 1 * from_0 + ((-1) * pos_0 + 0) ≤ 0) (f17 : ((kind_0 = 1) → (pos_0 ≤ (from_0 + 8))) ∧ ((kind_0 = 0) ∨ ((from_0 + 1) ≤ pos_0))) (f18 : 1 * x27 + ((-1) * from_0 + 0) ≤ 0) (f20 : 1 * x3 + ((-1) * x27 + 0) ≤ (-1)) (f21 : (-1) * x9 + ((-1) * x27 + 0) ≤ (-2001)) (f22 : 1 * x22 + ((-1) * x2 + 0) ≤ 0) (f23 : (-1) * x22 + 0 ≤ 0) (f24 : 1 * x15 + ((-1) * x13 + 0) ≤ 0) (f25 : (-1) * x15 + (1 * x13 + 0) ≤ 0) (f26 : 1 * x3 + ((-1) * x15 + 0) ≤ (-1)) (f27 : (-1) * x9 + ((-1) * x15 + 0) ≤ (-2000)) (f28 : 1 * x3 + ((-1) * x13 + 0) ≤ (-1)) (f29 : (-1) * x9 + ((-1) * x13 + 0) ≤ (-2000)) (f30 : 1 * x8 + ((-1) * x2 + 0) ≤ 0) (f31 : (-1) * x8 + 0 ≤ 0) (f32 : (-1) * x4 + 0 ≤ 0) (f34 : 1 * x15 + ((-1) * x13 + 0) ≤ 0) (f35 : (-1) * x15 + (1 * x13 + 0) ≤ 0) (f36 : 1 * x3 + ((-1) * x15 + 0) ≤ (-1)) (f37 : (-1) * x9 + ((-1) * x15 + 0) ≤ (-2000)) (f38 : 1 * x3 + ((-1) * x13 + 0) ≤ (-1)) (f39 : (-1) * x9 + ((-1) * x13 + 0) ≤ (-2000)) (f40 : 1 * x8 + ((-1) * x2 + 0) ≤ 0) (f41 : (-1) * x8 + 0 ≤ 0) (f42 : (-1) * x4 + 0 ≤ 0) (f44 : 1 * x15 + ((-1) * x13 + 0) ≤ 0) (f45 : (-1) * x15 + (1 * x13 + 0) ≤ 0) (f46 : 1 * x3 + ((-1) * x15 + 0) ≤ (-1)) (f47 : (-1) * x9 + ((-1) * x15 + 0) ≤ (-2000)) (f48 : 1 * x3 + ((-1) * x13 + 0) ≤ (-1)) (f49 : (-1) * x9 + ((-1) * x13 + 0) ≤ (-2000)) (f50 : 1 * x8 + ((-1) * x2 + 0) ≤ 0) (f51 : (-1) * x8 + 0 ≤ 0) (f52 : (-1) * x4 + 0 ≤ 0) (f54 : 1 * x15 + ((-1) * x13 + 0) ≤ 0) (f55 : (-1) * x15 + (1 * x13 + 0) ≤ 0) (f56 : 1 * x3 + ((-1) * x15 + 0) ≤ (-1)) (f57 : (-1) * x9 + ((-1) * x15 + 0) ≤ (-2000)) (f58 : 1 * x3 + ((-1) * x13 + 0) ≤ (-1)) (f59 : (-1) * x9 + ((-1) * x13 + 0) ≤ (-2000)) (f60 : 1 * x8 + ((-1) * x2 + 0) ≤ 0) (f61 : (-1) * x8 + 0 ≤ 0) (f62 : (-1) * x4 + 0 ≤ 0) (f64 : 1 * x3 + ((-1) * x13 + 0) ≤ (-1)) (f65 : (-1) * x9 + ((-1) * x13 + 0) ≤ (-2000)) (f66 : x8 ≤ 0) (f67 : 1 * x8 + ((-1) * x2 + 0) ≤ 0) (f68 : (-1) * x8 + 0 ≤ 0) (f69 : (-1) * x4 + 0 ≤ 0) (f71 : 1 * x8 + ((-1) * x2 + 0) ≤ 0) (f72 : (-1) * x8 + 0 ≤ 0) (f73 : (-1) * x4 + 0 ≤ 0) (kz_0_8 : 0 ≤ fault_0 ∧ fault_0 ≤ 5) (kz_0_11 : 0 ≤ pos_0 ∧ pos_0 ≤ 2000) (kz_0_12 : 0 ≤ kind_0 ∧ kind_0 ≤ 4) (kz_0_15 : 0 ≤ from_0 ∧ from_0 ≤ 2000) (ex2 : gx = 0 + (1 * x9 + 0)) (ex3 : 0 ≤ gx ∧ gx ≤ 2000) : 1 * x3 + ((-1) * pos_0 + 0) ≤ (-1) := by
  first | assumption | (clear f17; omega) | omega | grind
set_option maxHeartbeats 4000000 in
theorem vc_Mo_of_at_s5002_23_3 (x2 : Int) (x3 : Int) (x4 : Int) (x7 : Int) (x8 : Int) (x9 : Int) (x13 : Int) (x15 : Int) (x22 : Int) (x27 : Int) (fault_0 : Int) (from_0 : Int) (pos_0 : Int) (kind_0 : Int) (gx : Int) (k2 : 99 ≤ x2 ∧ x2 ≤ 99) (k3 : 0 ≤ x3 ∧ x3 ≤ 2000) (k4 : (-1) ≤ x4 ∧ x4 ≤ 48) (k7 : 99 ≤ x7 ∧ x7 ≤ 99) (k8 : (-2147483648) ≤ x8 ∧ x8 ≤ 0) (k9 : 0 ≤ x9 ∧ x9 ≤ 2000) (k13 : 0 ≤ x13 ∧ x13 ≤ 2000) (k15 : 0 ≤ x15 ∧ x15 ≤ 2000) (k22 : 100 ≤ x22 ∧ x22 ≤ 2147483647) (k27 : 0 ≤ x27 ∧ x27 ≤ 2000) (f0 : 1 * x3 + ((-1) * x27 + 0) ≤ (-1)) (f1 : (-1) * x9 + ((-1) * x27 + 0) ≤ (-2001)) (f2 : 1 * x22 + ((-1) * x2 + 0) ≤ 0) (f3 : (-1) * x22 + 0 ≤ 0) (f4 : 1 * x15 + ((-1) * x13 + 0) ≤ 0) (f5 : (-1) * x15 + (1 * x13 + 0) ≤ 0) (f6 : 1 * x3 + ((-1) * x15 + 0) ≤ (-1)) (f7 : (-1) * x9 + ((-1) * x15 + 0) ≤ (-2000)) (f8 : 1 * x3 + ((-1) * x13 + 0) ≤ (-1)) (f9 : (-1) * x9 + ((-1) * x13 + 0) ≤ (-2000)) (f10 : 1 * x8 + ((-1) * x2 + 0) ≤ 0) (f11 : (-1) * x8 + 0 ≤ 0) (f12 : (-1) * x4 + 0 ≤ 0) (f15 : (-1) * fault_0 + 0 ≤ (-1)) (f16 : 1 * from_0 + ((-1) * pos_0 + 0) ≤ 0) (f17 : ((kind_0 = 1) → (pos_0 ≤ (from_0 + 8))) ∧ ((kind_0 = 0) ∨ ((from_0 + 1) ≤ pos_0))) (f18 : 1 * x27 + ((-1) * from_0 + 0) ≤ 0) (f20 : 1 * x3 + ((-1) * x27 + 0) ≤ (-1)) (f21 : (-1) * x9 + ((-1) * x27 + 0) ≤ (-2001)) (f22 : 1 * x22 + ((-1) * x2 + 0) ≤ 0) (f23 : (-1) * x22 + 0 ≤ 0) (f24 : 1 * x15 + ((-1) * x13 + 0) ≤ 0) (f25 : (-1) * x15 + (1 * x13 + 0) ≤ 0) (f26 : 1 * x3 + ((-1) * x15 + 0) ≤ (-1)) (f27 : (-1) * x9 + ((-1) * x15 + 0) ≤ (-2000)) (f28 : 1 * x3 + ((-1) * x13 + 0) ≤ (-1)) (f29 : (-1) * x9 + ((-1) * x13 + 0) ≤ (-2000)) (f30 : 1 * x8 + ((-1) * x2 + 0) ≤ 0) (f31 : (-1) * x8 + 0 ≤ 0) (f32 : (-1) * x4 + 0 ≤ 0) (f34 : 1 * x15 + ((-1) * x13 + 0) ≤ 0) (f35 : (-1) * x15 + (1 * x13 + 0) ≤ 0) (f36 : 1 * x3 + ((-1) * x15 + 0) ≤ (-1)) (f37 : (-1) * x9 + ((-1) * x15 + 0) ≤ (-2000)) (f38 : 1 * x3 + ((-1) * x13 + 0) ≤ (-1)) (f39 : (-1) * x9 + ((-1) * x13 + 0) ≤ (-2000)) (f40 : 1 * x8 + ((-1) * x2 + 0) ≤ 0) (f41 : (-1) * x8 + 0 ≤ 0) (f42 : (-1) * x4 + 0 ≤ 0) (f44 : 1 * x15 + ((-1) * x13 + 0) ≤ 0) (f45 : (-1) * x15 + (1 * x13 + 0) ≤ 0) (f46 : 1 * x3 + ((-1) * x15 + 0) ≤ (-1)) (f47 : (-1) * x9 + ((-1) * x15 + 0) ≤ (-2000)) (f48 : 1 * x3 + ((-1) * x13 + 0) ≤ (-1)) (f49 : (-1) * x9 + ((-1) * x13 + 0) ≤ (-2000)) (f50 : 1 * x8 + ((-1) * x2 + 0) ≤ 0) (f51 : (-1) * x8 + 0 ≤ 0) (f52 : (-1) * x4 + 0 ≤ 0) (f54 : 1 * x15 + ((-1) * x13 + 0) ≤ 0) (f55 : (-1) * x15 + (1 * x13 + 0) ≤ 0) (f56 : 1 * x3 + ((-1) * x15 + 0) ≤ (-1)) (f57 : (-1) * x9 + ((-1) * x15 + 0) ≤ (-2000)) (f58 : 1 * x3 + ((-1) * x13 + 0) ≤ (-1)) (f59 : (-1) * x9 + ((-1) * x13 + 0) ≤ (-2000)) (f60 : 1 * x8 + ((-1) * x2 + 0) ≤ 0) (f61 : (-1) * x8 + 0 ≤ 0) (f62 : (-1) * x4 + 0 ≤ 0) (f64 : 1 * x3 + ((-1) * x13 + 0) ≤ (-1)) (f65 : (-1) * x9 + ((-1) * x13 + 0) ≤ (-2000)) (f66 : x8 ≤ 0) (f67 : 1 * x8 + ((-1) * x2 + 0) ≤ 0) (f68 : (-1) * x8 + 0 ≤ 0) (f69 : (-1) * x4 + 0 ≤ 0) (f71 : 1 * x8 + ((-1) * x2 + 0) ≤ 0) (f72 : (-1) * x8 + 0 ≤ 0) (f73 : (-1) * x4 + 0 ≤ 0) (kz_0_8 : 0 ≤ fault_0 ∧ fault_0 ≤ 5) (kz_0_11 : 0 ≤ pos_0 ∧ pos_0 ≤ 2000) (kz_0_12 : 0 ≤ kind_0 ∧ kind_0 ≤ 4) (kz_0_15 : 0 ≤ from_0 ∧ from_0 ≤ 2000) (ex2 : gx = 0 + (1 * x9 + 0)) (ex3 : 0 ≤ gx ∧ gx ≤ 2000) : 1 * x22 + ((-1) * x2 + 0) ≤ 0 := by
  first | assumption | (clear f17; omega) | omega | grind
set_option maxHeartbeats 4000000 in
theorem vc_Mo_of_at_s5002_23_4 (x2 : Int) (x3 : Int) (x4 : Int) (x7 : Int) (x8 : Int) (x9 : Int) (x13 : Int) (x15 : Int) (x22 : Int) (x27 : Int) (fault_0 : Int) (from_0 : Int) (pos_0 : Int) (kind_0 : Int) (gx : Int) (k2 : 99 ≤ x2 ∧ x2 ≤ 99) (k3 : 0 ≤ x3 ∧ x3 ≤ 2000) (k4 : (-1) ≤ x4 ∧ x4 ≤ 48) (k7 : 99 ≤ x7 ∧ x7 ≤ 99) (k8 : (-2147483648) ≤ x8 ∧ x8 ≤ 0) (k9 : 0 ≤ x9 ∧ x9 ≤ 2000) (k13 : 0 ≤ x13 ∧ x13 ≤ 2000) (k15 : 0 ≤ x15 ∧ x15 ≤ 2000) (k22 : 100 ≤ x22 ∧ x22 ≤ 2147483647) (k27 : 0 ≤ x27 ∧ x27 ≤ 2000) (f0 : 1 * x3 + ((-1) * x27 + 0) ≤ (-1)) (f1 : (-1) * x9 + ((-1) * x27 + 0) ≤ (-2001)) (f2 : 1 * x22 + ((-1) * x2 + 0) ≤ 0) (f3 : (-1) * x22 + 0 ≤ 0) (f4 : 1 * x15 + ((-1) * x13 + 0) ≤ 0) (f5 : (-1) * x15 + (1 * x13 + 0) ≤ 0) (f6 : 1 * x3 + ((-1) * x15 + 0) ≤ (-1)) (f7 : (-1) * x9 + ((-1) * x15 + 0) ≤ (-2000)) (f8 : 1 * x3 + ((-1) * x13 + 0) ≤ (-1)) (f9 : (-1) * x9 + ((-1) * x13 + 0) ≤ (-2000)) (f10 : 1 * x8 + ((-1) * x2 + 0) ≤ 0) (f11 : (-1) * x8 + 0 ≤ 0) (f12 : (-1) * x4 + 0 ≤ 0) (f15 : (-1) * fault_0 + 0 ≤ (-1)) (f16 : 1 * from_0 + ((-1) * pos_0 + 0) ≤ 0) (f17 : ((kind_0 = 1) → (pos_0 ≤ (from_0 + 8))) ∧ ((kind_0 = 0) ∨ ((from_0 + 1) ≤ pos_0))) (f18 : 1 * x27 + ((-1) * from_0 + 0) ≤ 0) (f20 : 1 * x3 + ((-1) * x27 + 0) ≤ (-1)) (f21 : (-1) * x9 + ((-1) * x27 + 0) ≤ (-2001)) (f22 : 1 * x22 + ((-1) * x2 + 0) ≤ 0) (f23 : (-1) * x22 + 0 ≤ 0) (f24 : 1 * x15 + ((-1) * x13 + 0) ≤ 0) (f25 : (-1) * x15 + (1 * x13 + 0) ≤ 0) (f26 : 1 * x3 + ((-1) * x15 + 0) ≤ (-1)) (f27 : (-1) * x9 + ((-1) * x15 + 0) ≤ (-2000)) (f28 : 1 * x3 + ((-1) * x13 + 0) ≤ (-1)) (f29 : (-1) * x9 + ((-1) * x13 + 0) ≤ (-2000)) (f30 : 1 * x8 + ((-1) * x2 + 0) ≤ 0) (f31 : (-1) * x8 + 0 ≤ 0) (f32 : (-1) * x4 + 0 ≤ 0) (f34 : 1 * x15 + ((-1) * x13 + 0) ≤ 0) (f35 : (-1) * x15 + (1 * x13 + 0) ≤ 0) (f36 : 1 * x3 + ((-1) * x15 + 0) ≤ (-1)) (f37 : (-1) * x9 + ((-1) * x15 + 0) ≤ (-2000)) (f38 : 1 * x3 + ((-1) * x13 + 0) ≤ (-1)) (f39 : (-1) * x9 + ((-1) * x13 + 0) ≤ (-2000)) (f40 : 1 * x8 + ((-1) * x2 + 0) ≤ 0) (f41 : (-1) * x8 + 0 ≤ 0) (f42 : (-1) * x4 + 0 ≤ 0) (f44 : 1 * x15 + ((-1) * x13 + 0) ≤ 0) (f45 : (-1) * x15 + (1 * x13 + 0) ≤ 0) (f46 : 1 * x3 + ((-1) * x15 + 0) ≤ (-1)) (f47 : (-1) * x9 + ((-1) * x15 + 0) ≤ (-2000)) (f48 : 1 * x3 + ((-1) * x13 + 0) ≤ (-1)) (f49 : (-1) * x9 + ((-1) * x13 + 0) ≤ (-2000)) (f50 : 1 * x8 + ((-1) * x2 + 0) ≤ 0) (f51 : (-1) * x8 + 0 ≤ 0) (f52 : (-1) * x4 + 0 ≤ 0) (f54 : 1 * x15 + ((-1) * x13 + 0) ≤ 0) (f55 : (-1) * x15 + (1 * x13 + 0) ≤ 0) (f56 : 1 * x3 + ((-1) * x15 + 0) ≤ (-1)) (f57 : (-1) * x9 + ((-1) * x15 + 0) ≤ (-2000)) (f58 : 1 * x3 + ((-1) * x13 + 0) ≤ (-1)) (f59 : (-1) * x9 + ((-1) * x13 + 0) ≤ (-2000)) (f60 : 1 * x8 + ((-1) * x2 + 0) ≤ 0) (f61 : (-1) * x8 + 0 ≤ 0) (f62 : (-1) * x4 + 0 ≤ 0) (f64 : 1 * x3 + ((-1) * x13 + 0) ≤ (-1)) (f65 : (-1) * x9 + ((-1) * x13 + 0) ≤ (-2000)) (f66 : x8 ≤ 0) (f67 : 1 * x8 + ((-1) * x2 + 0) ≤ 0) (f68 : (-1) * x8 + 0 ≤ 0) (f69 : (-1) * x4 + 0 ≤ 0) (f71 : 1 * x8 + ((-1) * x2 + 0) ≤ 0) (f72 : (-1) * x8 + 0 ≤ 0) (f73 : (-1) * x4 + 0 ≤ 0) (kz_0_8 : 0 ≤ fault_0 ∧ fault_0 ≤ 5) (kz_0_11 : 0 ≤ pos_0 ∧ pos_0 ≤ 2000) (kz_0_12 : 0 ≤ kind_0 ∧ kind_0 ≤ 4) (kz_0_15 : 0 ≤ from_0 ∧ from_0 ≤ 2000) (ex2 : gx = 0 + (1 * x9 + 0)) (ex3 : 0 ≤ gx ∧ gx ≤ 2000) : (-1) * x22 + 0 ≤ 0 := by
  first | assumption | (clear f17; omega) | omega | grind
set_option maxHeartbeats 4000000 in
theorem vc_Mo_of_at_s5002_23_5 (x2 : Int) (x3 : Int) (x4 : Int) (x7 : Int) (x8 : Int) (x9 : Int) (x13 : Int) (x15 : Int) (x22 : Int) (x27 : Int) (fault_0 : Int) (from_0 : Int) (pos_0 : Int) (kind_0 : Int) (gx : Int) (k2 : 99 ≤ x2 ∧ x2 ≤ 99) (k3 : 0 ≤ x3 ∧ x3 ≤ 2000) (k4 : (-1) ≤ x4 ∧ x4 ≤ 48) (k7 : 99 ≤ x7 ∧ x7 ≤ 99) (k8 : (-2147483648) ≤ x8 ∧ x8 ≤ 0) (k9 : 0 ≤ x9 ∧ x9 ≤ 2000) (k13 : 0 ≤ x13 ∧ x13 ≤ 2000) (k15 : 0 ≤ x15 ∧ x15 ≤ 2000) (k22 : 100 ≤ x22 ∧ x22 ≤ 2147483647) (k27 : 0 ≤ x27 ∧ x27 ≤ 2000) (f0 : 1 * x3 + ((-1) * x27 + 0) ≤ (-1)) (f1 : (-1) * x9 + ((-1) * x27 + 0) ≤ (-2001)) (f2 : 1 * x22 + ((-1) * x2 + 0) ≤ 0) (f3 : (-1) * x22 + 0 ≤ 0) (f4 : 1 * x15 + ((-1) * x13 + 0) ≤ 0) (f5 : (-1) * x15 + (1 * x13 + 0) ≤ 0) (f6 : 1 * x3 + ((-1) * x15 + 0) ≤ (-1)) (f7 : (-1) * x9 + ((-1) * x15 + 0) ≤ (-2000)) (f8 : 1 * x3 + ((-1) * x13 + 0) ≤ (-1)) (f9 : (-1) * x9 + ((-1) * x13 + 0) ≤ (-2000)) (f10 : 1 * x8 + ((-1) * x2 + 0) ≤ 0) (f11 : (-1) * x8 + 0 ≤ 0) (f12 : (-1) * x4 + 0 ≤ 0) (f15 : (-1) * fault_0 + 0 ≤ (-1)) (f16 : 1 * from_0 + ((-1) * pos_0 + 0) ≤ 0) (f17 : ((kind_0 = 1) → (pos_0 ≤ (from_0 + 8))) ∧ ((kind_0 = 0) ∨ ((from_0 + 1) ≤ pos_0))) (f18 : 1 * x27 + ((-1) * from_0 + 0) ≤ 0) (f20 : 1 * x3 + ((-1) * x27 + 0) ≤ (-1)) (f21 : (-1) * x9 + ((-1) * x27 + 0) ≤ (-2001)) (f22 : 1 * x22 + ((-1) * x2 + 0) ≤ 0) (f23 : (-1) * x22 + 0 ≤ 0) (f24 : 1 * x15 + ((-1) * x13 + 0) ≤ 0) (f25 : (-1) * x15 + (1 * x13 + 0) ≤ 0) (f26 : 1 * x3 + ((-1) * x15 + 0) ≤ (-1)) (f27 : (-1) * x9 + ((-1) * x15 + 0) ≤ (-2000)) (f28 : 1 * x3 + ((-1) * x13 + 0) ≤ (-1)) (f29 : (-1) * x9 + ((-1) * x13 + 0) ≤ (-2000)) (f30 : 1 * x8 + ((-1) * x2 + 0) ≤ 0) (f31 : (-1) * x8 + 0 ≤ 0) (f32 : (-1) * x4 + 0 ≤ 0) (f34 : 1 * x15 + ((-1) * x13 + 0) ≤ 0) (f35 : (-1) * x15 + (1 * x13 + 0) ≤ 0) (f36 : 1 * x3 + ((-1) * x15 + 0) ≤ (-1)) (f37 : (-1) * x9 + ((-1) * x15 + 0) ≤ (-2000)) (f38 : 1 * x3 + ((-1) * x13 + 0) ≤ (-1)) (f39 : (-1) * x9 + ((-1) * x13 + 0) ≤ (-2000)) (f40 : 1 * x8 + ((-1) * x2 + 0) ≤ 0) (f41 : (-1) * x8 + 0 ≤ 0) (f42 : (-1) * x4 + 0 ≤ 0) (f44 : 1 * x15 + ((-1) * x13 + 0) ≤ 0) (f45 : (-1) * x15 + (1 * x13 + 0) ≤ 0) (f46 : 1 * x3 + ((-1) * x15 + 0) ≤ (-1)) (f47 : (-1) * x9 + ((-1) * x15 + 0) ≤ (-2000)) (f48 : 1 * x3 + ((-1) * x13 + 0) ≤ (-1)) (f49 : (-1) * x9 + ((-1) * x13 + 0) ≤ (-2000)) (f50 : 1 * x8 + ((-1) * x2 + 0) ≤ 0) (f51 : (-1) * x8 + 0 ≤ 0) (f52 : (-1) * x4 + 0 ≤ 0) (f54 : 1 * x15 + ((-1) * x13 + 0) ≤ 0) (f55 : (-1) * x15 + (1 * x13 + 0) ≤ 0) (f56 : 1 * x3 + ((-1) * x15 + 0) ≤ (-1)) (f57 : (-1) * x9 + ((-1) * x15 + 0) ≤ (-2000)) (f58 : 1 * x3 + ((-1) * x13 + 0) ≤ (-1)) (f59 : (-1) * x9 + ((-1) * x13 + 0) ≤ (-2000)) (f60 : 1 * x8 + ((-1) * x2 + 0) ≤ 0) (f61 : (-1) * x8 + 0 ≤ 0) (f62 : (-1) * x4 + 0 ≤ 0) (f64 : 1 * x3 + ((-1) * x13 + 0) ≤ (-1)) (f65 : (-1) * x9 + ((-1) * x13 + 0) ≤ (-2000)) (f66 : x8 ≤ 0) (f67 : 1 * x8 + ((-1) * x2 + 0) ≤ 0) (f68 : (-1) * x8 + 0 ≤ 0) (f69 : (-1) * x4 + 0 ≤ 0) (f71 : 1 * x8 + ((-1) * x2 + 0) ≤ 0) (f72 : (-1) * x8 + 0 ≤ 0) (f73 : (-1) * x4 + 0 ≤ 0) (kz_0_8 : 0 ≤ fault_0 ∧ fault_0 ≤ 5) (kz_0_11 : 0 ≤ pos_0 ∧ pos_0 ≤ 2000) (kz_0_12 : 0 ≤ kind_0 ∧ kind_0 ≤ 4) (kz_0_15 : 0 ≤ from_0 ∧ from_0 ≤ 2000) (ex2 : gx = 0 + (1 * x9 + 0)) (ex3 : 0 ≤ gx ∧ gx ≤ 2000) : (-1) * x4 + 0 ≤ 0 := by
  first | assumption | (clear f17; omega) | omega | grind
set_option maxHeartbeats 4000000 in
theorem vc_Mo_of_at_s5002_23_6 (x2 : Int) (x3 : Int) (x4 : Int) (x7 : Int) (x8 : Int) (x9 : Int) (x13 : Int) (x15 : Int) (x22 : Int) (x27 : Int) (fault_0 : Int) (from_0 : Int) (pos_0 : Int) (kind_0 : Int) (gx : Int) (k2 : 99 ≤ x2 ∧ x2 ≤ 99) (k3 : 0 ≤ x3 ∧ x3 ≤ 2000) (k4 : (-1) ≤ x4 ∧ x4 ≤ 48) (k7 : 99 ≤ x7 ∧ x7 ≤ 99) (k8 : (-2147483648) ≤ x8 ∧ x8 ≤ 0) (k9 : 0 ≤ x9 ∧ x9 ≤ 2000) (k13 : 0 ≤ x13 ∧ x13 ≤ 2000) (k15 : 0 ≤ x15 ∧ x15 ≤ 2000) (k22 : 100 ≤ x22 ∧ x22 ≤ 2147483647) (k27 : 0 ≤ x27 ∧ x27 ≤ 2000) (f0 : 1 * x3 + ((-1) * x27 + 0) ≤ (-1)) (f1 : (-1) * x9 + ((-1) * x27 + 0) ≤ (-2001)) (f2 : 1 * x22 + ((-1) * x2 + 0) ≤ 0) (f3 : (-1) * x22 + 0 ≤ 0) (f4 : 1 * x15 + ((-1) * x13 + 0) ≤ 0) (f5 : (-1) * x15 + (1 * x13 + 0) ≤ 0) (f6 : 1 * x3 + ((-1) * x15 + 0) ≤ (-1)) (f7 : (-1) * x9 + ((-1) * x15 + 0) ≤ (-2000)) (f8 : 1 * x3 + ((-1) * x13 + 0) ≤ (-1)) (f9 : (-1) * x9 + ((-1) * x13 + 0) ≤ (-2000)) (f10 : 1 * x8 + ((-1) * x2 + 0) ≤ 0) (f11 : (-1) * x8 + 0 ≤ 0) (f12 : (-1) * x4 + 0 ≤ 0) (f15 : (-1) * fault_0 + 0 ≤ (-1)) (f16 : 1 * from_0 + ((-1) * pos_0 + 0) ≤ 0) (f17 : ((kind_0 = 1) → (pos_0 ≤ (from_0 + 8))) ∧ ((kind_0 = 0) ∨ ((from_0 + 1) ≤ pos_0))) (f18 : 1 * x27 + ((-1) * from_0 + 0) ≤ 0) (f20 : 1 * x3 + ((-1) * x27 + 0) ≤ (-1)) (f21 : (-1) * x9 + ((-1) * x27 + 0) ≤ (-2001)) (f22 : 1 * x22 + ((-1) * x2 + 0) ≤ 0) (f23 : (-1) * x22 + 0 ≤ 0) (f24 : 1 * x15 + ((-1) * x13 + 0) ≤ 0) (f25 : (-1) * x15 + (1 * x13 + 0) ≤ 0) (f26 : 1 * x3 + ((-1) * x15 + 0) ≤ (-1)) (f27 : (-1) * x9 + ((-1) * x15 + 0) ≤ (-2000)) (f28 : 1 * x3 + ((-1) * x13 + 0) ≤ (-1)) (f29 : (-1) * x9 + ((-1) * x13 + 0) ≤ (-2000)) (f30 : 1 * x8 + ((-1) * x2 + 0) ≤ 0) (f31 : (-1) * x8 + 0 ≤ 0) (f32 : (-1) * x4 + 0 ≤ 0) (f34 : 1 * x15 + ((-1) * x13 + 0) ≤ 0) (f35 : (-1) * x15 + (1 * x13 + 0) ≤ 0) (f36 : 1 * x3 + ((-1) * x15 + 0) ≤ (-1)) (f37 : (-1) * x9 + ((-1) * x15 + 0) ≤ (-2000)) (f38 : 1 * x3 + ((-1) * x13 + 0) ≤ (-1)) (f39 : (-1) * x9 + ((-1) * x13 + 0) ≤ (-2000)) (f40 : 1 * x8 + ((-1) * x2 + 0) ≤ 0) (f41 : (-1) * x8 + 0 ≤ 0) (f42 : (-1) * x4 + 0 ≤ 0) (f44 : 1 * x15 + ((-1) * x13 + 0) ≤ 0) (f45 : (-1) * x15 + (1 * x13 + 0) ≤ 0) (f46 : 1 * x3 + ((-1) * x15 + 0) ≤ (-1)) (f47 : (-1) * x9 + ((-1) * x15 + 0) ≤ (-2000)) (f48 : 1 * x3 + ((-1) * x13 + 0) ≤ (-1)) (f49 : (-1) * x9 + ((-1) * x13 + 0) ≤ (-2000)) (f50 : 1 * x8 + ((-1) * x2 + 0) ≤ 0) (f51 : (-1) * x8 + 0 ≤ 0) (f52 : (-1) * x4 + 0 ≤ 0) (f54 : 1 * x15 + ((-1) * x13 + 0) ≤ 0) (f55 : (-1) * x15 + (1 * x13 + 0) ≤ 0) (f56 : 1 * x3 + ((-1) * x15 + 0) ≤ (-1)) (f57 : (-1) * x9 + ((-1) * x15 + 0) ≤ (-2000)) (f58 : 1 * x3 + ((-1) * x13 + 0) ≤ (-1)) (f59 : (-1) * x9 + ((-1) * x13 + 0) ≤ (-2000)) (f60 : 1 * x8 + ((-1) * x2 + 0) ≤ 0) (f61 : (-1) * x8 + 0 ≤ 0) (f62 : (-1) * x4 + 0 ≤ 0) (f64 : 1 * x3 + ((-1) * x13 + 0) ≤ (-1)) (f65 : (-1) * x9 + ((-1) * x13 + 0) ≤ (-2000)) (f66 : x8 ≤ 0) (f67 : 1 * x8 + ((-1) * x2 + 0) ≤ 0) (f68 : (-1) * x8 + 0 ≤ 0) (f69 : (-1) * x4 + 0 ≤ 0) (f71 : 1 * x8 + ((-1) * x2 + 0) ≤ 0) (f72 : (-1) * x8 + 0 ≤ 0) (f73 : (-1) * x4 + 0 ≤ 0) (kz_0_8 : 0 ≤ fault_0 ∧ fault_0 ≤ 5) (kz_0_11 : 0 ≤ pos_0 ∧ pos_0 ≤ 2000) (kz_0_12 : 0 ≤ kind_0 ∧ kind_0 ≤ 4) (kz_0_15 : 0 ≤ from_0 ∧ from_0 ≤ 2000) (ex2 : gx = 0 + (1 * x9 + 0)) (ex3 : 0 ≤ gx ∧ gx ≤ 2000) : (-1) * gx + ((-1) * pos_0 + 0) ≤ (-2001) := by
  first | assumption | (clear f17; omega) | omega | grind
def o_Mo_of_at_s5002_23 : or_T := (139, 28, [(0, (2, 0, 0, [165])), (2, (0, 99, 99, [])), (3, (0, 0, 2000, [])), (4, (0, -1, 48, [])), (5, (2, 0, 0, [165])), (7, (0, 99, 99, [])), (8, (0, -2147483648, 0, [])), (9, (0, 0, 2000, [])), (13, (0, 0, 2000, [])), (15, (0, 0, 2000, [])), (22, (0, 100, 2147483647, [])), (27, (0, 0, 2000, []))], [(23, [3, 27], [-1, 1, -1]), (23, [9, 27], [-2001, -1, -1]), (23, [22, 7], [0, 1, -1]), (23, [22], [0, -1]), (23, [15, 13], [0, 1, -1]), (23, [15, 13], [0, -1, 1]), (23, [3, 15], [-1, 1, -1]), (23, [9, 15], [-2000, -1, -1]), (23, [3, 13], [-1, 1, -1]), (23, [9, 13], [-2000, -1, -1]), (23, [8, 7], [0, 1, -1]), (23, [8], [0, -1]), (23, [4], [0, -1]), (24, [0, 5], []), (24, [2, 7], []), (20, [5], [30, -1, -1, 1, 8]), (20, [5, 5], [30, 0, 1, 1, 15, -1, 1, 11]), (20, [5], [50, 3, 0, 12, 11, 15, 2, 21, 4, 7, 1, 3, 2, 0, 12, 0, 1, 0, 3, 2, 0, 11, 4, 3, 2, 0, 15, 0, 8, 3, 7, 1, 3, 2, 0, 12, 0, 0, 0, 7, 4, 3, 2, 0, 15, 0, 1, 2, 0, 11]), (20, [27, 5], [30, 0, 1, 0, 0, -1, 1, 15]), (102, [27], [0, 165011, 165012, 165013, 165014, 165015]), (23, [3, 27], [-1, 1, -1]), (23, [9, 27], [-2001, -1, -1]), (23, [22, 7], [0, 1, -1]), (23, [22], [0, -1]), (23, [15, 13], [0, 1, -1]), (23, [15, 13], [0, -1, 1]), (23, [3, 15], [-1, 1, -1]), (23, [9, 15], [-2000, -1, -1]), (23, [3, 13], [-1, 1, -1]), (23, [9, 13], [-2000, -1, -1]), (23, [8, 7], [0, 1, -1]), (23, [8], [0, -1]), (23, [4], [0, -1]), (102, [25], [0, 165008, 165009]), (23, [15, 13], [0, 1, -1]), (23, [15, 13], [0, -1, 1]), (23, [3, 15], [-1, 1, -1]), (23, [9, 15], [-2000, -1, -1]), (23, [3, 13], [-1, 1, -1]), (23, [9, 13], [-2000, -1, -1]), (23, [8, 7], [0, 1, -1]), (23, [8], [0, -1]), (23, [4], [0, -1]), (102, [20], [0, 165008, 165009]), (23, [15, 13], [0, 1, -1]), (23, [15, 13], [0, -1, 1]), (23, [3, 15], [-1, 1, -1]), (23, [9, 15], [-2000, -1, -1]), (23, [3, 13], [-1, 1, -1]), (23, [9, 13], [-2000, -1, -1]), (23, [8, 7], [0, 1, -1]), (23, [8], [0, -1]), (23, [4], [0, -1]), (102, [15], [0, 165008, 165009, 165011, 165012, 165013, 165014, 165015]), (23, [15, 13], [0, 1, -1]), (23, [15, 13], [0, -1, 1]), (23, [3, 15], [-1, 1, -1]), (23, [9, 15], [-2000, -1, -1]), (23, [3, 13], [-1, 1, -1]), (23, [9, 13], [-2000, -1, -1]), (23, [8, 7], [0, 1, -1]), (23, [8], [0, -1]), (23, [4], [0, -1]), (102, [13], [0, 165011, 165012, 165013, 165014, 165015]), (23, [3, 13], [-1, 1, -1]), (23, [9, 13], [-2000, -1, -1]), (8, [8], [5]), (23, [8, 7], [0, 1, -1]), (23, [8], [0, -1]), (23, [4], [0, -1]), (102, [11], [0]), (23, [8, 7], [0, 1, -1]), (23, [8], [0, -1]), (23, [4], [0, -1])], [], [(0, 0, 2000, [])], [(20, [5, 5], [30, 0, 1, 1, 15, -1, 1, 11]), (20, [5], [50, 3, 0, 12, 11, 15, 2, 21, 4, 7, 1, 3, 2, 0, 12, 0, 1, 0, 3, 2, 0, 11, 4, 3, 2, 0, 15, 0, 8, 3, 7, 1, 3, 2, 0, 12, 0, 0, 0, 7, 4, 3, 2, 0, 15, 0, 1, 2, 0, 11]), (20, [3, 5], [30, -1, 1, 0, 0, -1, 1, 11]), (23, [22, 7], [0, 1, -1]), (23, [22], [0, -1]), (23, [4], [0, -1]), (20, [28, 5], [30, -2001, -1, 0, 0, -1, 1, 11]), (24, [0, 5], []), (24, [2, 7], [])], [(28, 9, 0, 0)], [])
theorem oo_Mo_of_at_s5002_23 {kA : Nat → ClassId} : or_ok PRD kA GG o_Mo_of_at_s5002_23 := by
  refine or_mk fun A ta ws vs hD hth hl => ?_
  intro t0 r0 t2 k2 t3 k3 t4 k4 t5 r5 t7 k7 t8 k8 t9 k9 t13 k13 t15 k15 t22 k22 t27 k27 f0 f1 f2 f3 f4 f5 f6 f7 f8 f9 f10 f11 f12 f13 f14 f15 f16 f17 f18 ta1 w1 le1 s1 f20 f21 f22 f23 f24 f25 f26 f27 f28 f29 f30 f31 f32 ta2 w2 le2 s2 f34 f35 f36 f37 f38 f39 f40 f41 f42 ta3 w3 le3 s3 f44 f45 f46 f47 f48 f49 f50 f51 f52 ta4 w4 le4 s4 f54 f55 f56 f57 f58 f59 f60 f61 f62 ta5 w5 le5 s5 f64 f65 f66 f67 f68 f69 ta6 w6 le6 s6 f71 f72 f73
  replace f0 := shm_211 f0
  replace f1 := shm_1895 f1
  replace f2 := shm_7 f2
  replace f3 := shm_1013 f3
  replace f4 := shm_7 f4
  replace f5 := shm_22 f5
  replace f6 := shm_211 f6
  replace f7 := shm_1894 f7
  replace f8 := shm_211 f8
  replace f9 := shm_1894 f9
  replace f10 := shm_7 f10
  replace f11 := shm_1013 f11
  replace f12 := shm_1013 f12
  replace f13 := shm_5 f13
  replace f14 := shm_5 f14
  replace f15 := shm_144 f15
  replace f16 := shm_1397 f16
  replace f17 := shm_1398 f17
  replace f18 := shm_1396 f18
  replace f20 := shm_211 f20
  replace f21 := shm_1895 f21
  replace f22 := shm_7 f22
  replace f23 := shm_1013 f23
  replace f24 := shm_7 f24
  replace f25 := shm_22 f25
  replace f26 := shm_211 f26
  replace f27 := shm_1894 f27
  replace f28 := shm_211 f28
  replace f29 := shm_1894 f29
  replace f30 := shm_7 f30
  replace f31 := shm_1013 f31
  replace f32 := shm_1013 f32
  replace f34 := shm_7 f34
  replace f35 := shm_22 f35
  replace f36 := shm_211 f36
  replace f37 := shm_1894 f37
  replace f38 := shm_211 f38
  replace f39 := shm_1894 f39
  replace f40 := shm_7 f40
  replace f41 := shm_1013 f41
  replace f42 := shm_1013 f42
  replace f44 := shm_7 f44
  replace f45 := shm_22 f45
  replace f46 := shm_211 f46
  replace f47 := shm_1894 f47
  replace f48 := shm_211 f48
  replace f49 := shm_1894 f49
  replace f50 := shm_7 f50
  replace f51 := shm_1013 f51
  replace f52 := shm_1013 f52
  replace f54 := shm_7 f54
  replace f55 := shm_22 f55
  replace f56 := shm_211 f56
  replace f57 := shm_1894 f57
  replace f58 := shm_211 f58
  replace f59 := shm_1894 f59
  replace f60 := shm_7 f60
  replace f61 := shm_1013 f61
  replace f62 := shm_1013 f62
  replace f64 := shm_211 f64
  replace f65 := shm_1894 f65
  replace f66 := shm_142 f66
  replace f67 := shm_7 f67
  replace f68 := shm_1013 f68
  replace f69 := shm_1013 f69
  replace f71 := shm_7 f71
  replace f72 := shm_1013 f72
  replace f73 := shm_1013 f73
  have q5 : n_v vs 5 = n_v vs 0 := f13.symm
  have q7 : n_v vs 7 = n_v vs 2 := f14.symm
  simp only [q7, q5] at f2 f10 f15 f16 f17 f18 f22 f30 f40 f50 f60 f67 f71
  have kz_0_8 := fdq_14 hD hth r0
  have kz_0_11 := fdq_273 hD hth r0
  have kz_0_12 := fdq_186 hD hth r0
  have kz_0_15 := fdq_274 hD hth r0
  obtain ⟨x, ex, hx⟩ := iv_ex (ta := ta) (lo := 0) (hi := 2000) (z := 0 + (1 * v_iv (n_v vs 9) + 0)) (by omega) (by omega) (by omega) (by omega)
  have ex2 : v_iv (Value.int x) = 0 + (1 * v_iv (n_v vs 9) + 0) := ex
  have ex3 : 0 ≤ v_iv (Value.int x) ∧ v_iv (Value.int x) ≤ 2000 := tv_rng hx
  have e_0 : n_v (vs ++ [Value.int x]) 0 = n_v vs 0 := n_v_old (by rw [hl]; decide)
  have e_2 : n_v (vs ++ [Value.int x]) 2 = n_v vs 2 := n_v_old (by rw [hl]; decide)
  have e_3 : n_v (vs ++ [Value.int x]) 3 = n_v vs 3 := n_v_old (by rw [hl]; decide)
  have e_4 : n_v (vs ++ [Value.int x]) 4 = n_v vs 4 := n_v_old (by rw [hl]; decide)
  have e_5 : n_v (vs ++ [Value.int x]) 5 = n_v vs 5 := n_v_old (by rw [hl]; decide)
  have e_7 : n_v (vs ++ [Value.int x]) 7 = n_v vs 7 := n_v_old (by rw [hl]; decide)
  have e_22 : n_v (vs ++ [Value.int x]) 22 = n_v vs 22 := n_v_old (by rw [hl]; decide)
  have e_28 : n_v (vs ++ [Value.int x]) 28 = Value.int x := n_v_new hl
  have nf0 : fc_1 PRD (20, [5, 5], [30, 0, 1, 1, 15, -1, 1, 11]) ws (vs ++ [Value.int x]) := by
    refine ⟨nf_inA hl rfl, sgq_1397 ?_⟩
    · show 1 * w_fi ws (n_v (vs ++ [Value.int x]) 5) 15 + ((-1) * w_fi ws (n_v (vs ++ [Value.int x]) 5) 11 + 0) ≤ 0
      simp only [e_5, q5]
      exact vc_Mo_of_at_s5002_23_0 (v_iv (n_v vs 2)) (v_iv (n_v vs 3)) (v_iv (n_v vs 4)) (v_iv (n_v vs 7)) (v_iv (n_v vs 8)) (v_iv (n_v vs 9)) (v_iv (n_v vs 13)) (v_iv (n_v vs 15)) (v_iv (n_v vs 22)) (v_iv (n_v vs 27)) (w_fi ws (n_v vs 0) 8) (w_fi ws (n_v vs 0) 15) (w_fi ws (n_v vs 0) 11) (w_fi ws (n_v vs 0) 12) (v_iv (Value.int x)) k2 k3 k4 k7 k8 k9 k13 k15 k22 k27 f0 f1 f2 f3 f4 f5 f6 f7 f8 f9 f10 f11 f12 f15 f16 f17 f18 f20 f21 f22 f23 f24 f25 f26 f27 f28 f29 f30 f31 f32 f34 f35 f36 f37 f38 f39 f40 f41 f42 f44 f45 f46 f47 f48 f49 f50 f51 f52 f54 f55 f56 f57 f58 f59 f60 f61 f62 f64 f65 f66 f67 f68 f69 f71 f72 f73 kz_0_8 kz_0_11 kz_0_12 kz_0_15 ex2 ex3
  have nf1 : fc_1 PRD (20, [5], [50, 3, 0, 12, 11, 15, 2, 21, 4, 7, 1, 3, 2, 0, 12, 0, 1, 0, 3, 2, 0, 11, 4, 3, 2, 0, 15, 0, 8, 3, 7, 1, 3, 2, 0, 12, 0, 0, 0, 7, 4, 3, 2, 0, 15, 0, 1, 2, 0, 11]) ws (vs ++ [Value.int x]) := by
    refine ⟨nf_inA hl rfl, sgq_1398 ?_⟩
    · show ((w_fi ws (n_v (vs ++ [Value.int x]) 5) 12 = 1) → (w_fi ws (n_v (vs ++ [Value.int x]) 5) 11 ≤ (w_fi ws (n_v (vs ++ [Value.int x]) 5) 15 + 8))) ∧ ((w_fi ws (n_v (vs ++ [Value.int x]) 5) 12 = 0) ∨ ((w_fi ws (n_v (vs ++ [Value.int x]) 5) 15 + 1) ≤ w_fi ws (n_v (vs ++ [Value.int x]) 5) 11))
      simp only [e_5, q5]
      exact vc_Mo_of_at_s5002_23_1 (v_iv (n_v vs 2)) (v_iv (n_v vs 3)) (v_iv (n_v vs 4)) (v_iv (n_v vs 7)) (v_iv (n_v vs 8)) (v_iv (n_v vs 9)) (v_iv (n_v vs 13)) (v_iv (n_v vs 15)) (v_iv (n_v vs 22)) (v_iv (n_v vs 27)) (w_fi ws (n_v vs 0) 8) (w_fi ws (n_v vs 0) 15) (w_fi ws (n_v vs 0) 11) (w_fi ws (n_v vs 0) 12) (v_iv (Value.int x)) k2 k3 k4 k7 k8 k9 k13 k15 k22 k27 f0 f1 f2 f3 f4 f5 f6 f7 f8 f9 f10 f11 f12 f15 f16 f17 f18 f20 f21 f22 f23 f24 f25 f26 f27 f28 f29 f30 f31 f32 f34 f35 f36 f37 f38 f39 f40 f41 f42 f44 f45 f46 f47 f48 f49 f50 f51 f52 f54 f55 f56 f57 f58 f59 f60 f61 f62 f64 f65 f66 f67 f68 f69 f71 f72 f73 kz_0_8 kz_0_11 kz_0_12 kz_0_15 ex2 ex3
  have nf2 : fc_1 PRD (20, [3, 5], [30, -1, 1, 0, 0, -1, 1, 11]) ws (vs ++ [Value.int x]) := by
    refine ⟨nf_inA hl rfl, sgq_1891 ?_⟩
    · show 1 * v_iv (n_v (vs ++ [Value.int x]) 3) + ((-1) * w_fi ws (n_v (vs ++ [Value.int x]) 5) 11 + 0) ≤ (-1)
      simp only [e_3, e_5, q5]
      exact vc_Mo_of_at_s5002_23_2 (v_iv (n_v vs 2)) (v_iv (n_v vs 3)) (v_iv (n_v vs 4)) (v_iv (n_v vs 7)) (v_iv (n_v vs 8)) (v_iv (n_v vs 9)) (v_iv (n_v vs 13)) (v_iv (n_v vs 15)) (v_iv (n_v vs 22)) (v_iv (n_v vs 27)) (w_fi ws (n_v vs 0) 8) (w_fi ws (n_v vs 0) 15) (w_fi ws (n_v vs 0) 11) (w_fi ws (n_v vs 0) 12) (v_iv (Value.int x)) k2 k3 k4 k7 k8 k9 k13 k15 k22 k27 f0 f1 f2 f3 f4 f5 f6 f7 f8 f9 f10 f11 f12 f15 f16 f17 f18 f20 f21 f22 f23 f24 f25 f26 f27 f28 f29 f30 f31 f32 f34 f35 f36 f37 f38 f39 f40 f41 f42 f44 f45 f46 f47 f48 f49 f50 f51 f52 f54 f55 f56 f57 f58 f59 f60 f61 f62 f64 f65 f66 f67 f68 f69 f71 f72 f73 kz_0_8 kz_0_11 kz_0_12 kz_0_15 ex2 ex3
  have nf3 : fc_1 PRD (23, [22, 7], [0, 1, -1]) ws (vs ++ [Value.int x]) := by
    refine ⟨nf_inA hl rfl, sgq_7 ?_⟩
    · show 1 * v_iv (n_v (vs ++ [Value.int x]) 22) + ((-1) * v_iv (n_v (vs ++ [Value.int x]) 7) + 0) ≤ 0
      simp only [e_7, e_22, q7]
      exact vc_Mo_of_at_s5002_23_3 (v_iv (n_v vs 2)) (v_iv (n_v vs 3)) (v_iv (n_v vs 4)) (v_iv (n_v vs 7)) (v_iv (n_v vs 8)) (v_iv (n_v vs 9)) (v_iv (n_v vs 13)) (v_iv (n_v vs 15)) (v_iv (n_v vs 22)) (v_iv (n_v vs 27)) (w_fi ws (n_v vs 0) 8) (w_fi ws (n_v vs 0) 15) (w_fi ws (n_v vs 0) 11) (w_fi ws (n_v vs 0) 12) (v_iv (Value.int x)) k2 k3 k4 k7 k8 k9 k13 k15 k22 k27 f0 f1 f2 f3 f4 f5 f6 f7 f8 f9 f10 f11 f12 f15 f16 f17 f18 f20 f21 f22 f23 f24 f25 f26 f27 f28 f29 f30 f31 f32 f34 f35 f36 f37 f38 f39 f40 f41 f42 f44 f45 f46 f47 f48 f49 f50 f51 f52 f54 f55 f56 f57 f58 f59 f60 f61 f62 f64 f65 f66 f67 f68 f69 f71 f72 f73 kz_0_8 kz_0_11 kz_0_12 kz_0_15 ex2 ex3
  have nf4 : fc_1 PRD (23, [22], [0, -1]) ws (vs ++ [Value.int x]) := by
    refine ⟨nf_inA hl rfl, sgq_1013 ?_⟩
    · show (-1) * v_iv (n_v (vs ++ [Value.int x]) 22) + 0 ≤ 0
      rw [e_22]
      exact vc_Mo_of_at_s5002_23_4 (v_iv (n_v vs 2)) (v_iv (n_v vs 3)) (v_iv (n_v vs 4)) (v_iv (n_v vs 7)) (v_iv (n_v vs 8)) (v_iv (n_v vs 9)) (v_iv (n_v vs 13)) (v_iv (n_v vs 15)) (v_iv (n_v vs 22)) (v_iv (n_v vs 27)) (w_fi ws (n_v vs 0) 8) (w_fi ws (n_v vs 0) 15) (w_fi ws (n_v vs 0) 11) (w_fi ws (n_v vs 0) 12) (v_iv (Value.int x)) k2 k3 k4 k7 k8 k9 k13 k15 k22 k27 f0 f1 f2 f3 f4 f5 f6 f7 f8 f9 f10 f11 f12 f15 f16 f17 f18 f20 f21 f22 f23 f24 f25 f26 f27 f28 f29 f30 f31 f32 f34 f35 f36 f37 f38 f39 f40 f41 f42 f44 f45 f46 f47 f48 f49 f50 f51 f52 f54 f55 f56 f57 f58 f59 f60 f61 f62 f64 f65 f66 f67 f68 f69 f71 f72 f73 kz_0_8 kz_0_11 kz_0_12 kz_0_15 ex2 ex3
  have nf5 : fc_1 PRD (23, [4], [0, -1]) ws (vs ++ [Value.int x]) := by
    refine ⟨nf_inA hl rfl, sgq_1013 ?_⟩
    · show (-1) * v_iv (n_v (vs ++ [Value.int x]) 4) + 0 ≤ 0
      rw [e_4]
      exact vc_Mo_of_at_s5002_23_5 (v_iv (n_v vs 2)) (v_iv (n_v vs 3)) (v_iv (n_v vs 4)) (v_iv (n_v vs 7)) (v_iv (n_v vs 8)) (v_iv (n_v vs 9)) (v_iv (n_v vs 13)) (v_iv (n_v vs 15)) (v_iv (n_v vs 22)) (v_iv (n_v vs 27)) (w_fi ws (n_v vs 0) 8) (w_fi ws (n_v vs 0) 15) (w_fi ws (n_v vs 0) 11) (w_fi ws (n_v vs 0) 12) (v_iv (Value.int x)) k2 k3 k4 k7 k8 k9 k13 k15 k22 k27 f0 f1 f2 f3 f4 f5 f6 f7 f8 f9 f10 f11 f12 f15 f16 f17 f18 f20 f21 f22 f23 f24 f25 f26 f27 f28 f29 f30 f31 f32 f34 f35 f36 f37 f38 f39 f40 f41 f42 f44 f45 f46 f47 f48 f49 f50 f51 f52 f54 f55 f56 f57 f58 f59 f60 f61 f62 f64 f65 f66 f67 f68 f69 f71 f72 f73 kz_0_8 kz_0_11 kz_0_12 kz_0_15 ex2 ex3
  have nf6 : fc_1 PRD (20, [28, 5], [30, -2001, -1, 0, 0, -1, 1, 11]) ws (vs ++ [Value.int x]) := by
    refine ⟨nf_inA hl rfl, sgq_1896 ?_⟩
    · show (-1) * v_iv (n_v (vs ++ [Value.int x]) 28) + ((-1) * w_fi ws (n_v (vs ++ [Value.int x]) 5) 11 + 0) ≤ (-2001)
      simp only [e_5, e_28, q5]
      exact vc_Mo_of_at_s5002_23_6 (v_iv (n_v vs 2)) (v_iv (n_v vs 3)) (v_iv (n_v vs 4)) (v_iv (n_v vs 7)) (v_iv (n_v vs 8)) (v_iv (n_v vs 9)) (v_iv (n_v vs 13)) (v_iv (n_v vs 15)) (v_iv (n_v vs 22)) (v_iv (n_v vs 27)) (w_fi ws (n_v vs 0) 8) (w_fi ws (n_v vs 0) 15) (w_fi ws (n_v vs 0) 11) (w_fi ws (n_v vs 0) 12) (v_iv (Value.int x)) k2 k3 k4 k7 k8 k9 k13 k15 k22 k27 f0 f1 f2 f3 f4 f5 f6 f7 f8 f9 f10 f11 f12 f15 f16 f17 f18 f20 f21 f22 f23 f24 f25 f26 f27 f28 f29 f30 f31 f32 f34 f35 f36 f37 f38 f39 f40 f41 f42 f44 f45 f46 f47 f48 f49 f50 f51 f52 f54 f55 f56 f57 f58 f59 f60 f61 f62 f64 f65 f66 f67 f68 f69 f71 f72 f73 kz_0_8 kz_0_11 kz_0_12 kz_0_15 ex2 ex3
  have nf7 : fc_1 PRD (24, [0, 5], []) ws (vs ++ [Value.int x]) := by
    refine ⟨nf_inA hl rfl, sgq_5 ?_⟩
    · show n_v (vs ++ [Value.int x]) 0 = n_v (vs ++ [Value.int x]) 5
      first | rfl | simp only [e_0, e_5, q5, q7]
  have nf8 : fc_1 PRD (24, [2, 7], []) ws (vs ++ [Value.int x]) := by
    refine ⟨nf_inA hl rfl, sgq_5 ?_⟩
    · show n_v (vs ++ [Value.int x]) 2 = n_v (vs ++ [Value.int x]) 7
      first | rfl | simp only [e_2, e_7, q5, q7]
  obtain ⟨x0, e0, _, _⟩ := tv_int t9 rfl
  have e1 : v_iv (n_v vs 9) = x0.toInt := by rw [e0]; rfl
  have ho : sy_ofs (vs ++ [Value.int x]) (28, 9, 0, 0) := by
    refine ⟨x, x0, by rw [List.getElem?_append_right (by rw [hl]; decide), hl]; rfl, ?_, ?_, ?_⟩
    · rw [List.getElem?_append_left (by rw [hl]; decide)]; exact n_v_some (by rw [hl]; decide) e0
    · show x0.toInt + 0 ≤ x.toInt; omega
    · show x.toInt ≤ x0.toInt + 0; omega
  exact ⟨(fun _ h => (by cases h)), [Value.int x], ag_one hx, List.forall_mem_cons.mpr ⟨⟨show (20 : Nat) < 100 from by decide, nf0⟩, List.forall_mem_cons.mpr ⟨⟨show (20 : Nat) < 100 from by decide, nf1⟩, List.forall_mem_cons.mpr ⟨⟨show (20 : Nat) < 100 from by decide, nf2⟩, List.forall_mem_cons.mpr ⟨⟨show (23 : Nat) < 100 from by decide, nf3⟩, List.forall_mem_cons.mpr ⟨⟨show (23 : Nat) < 100 from by decide, nf4⟩, List.forall_mem_cons.mpr ⟨⟨show (23 : Nat) < 100 from by decide, nf5⟩, List.forall_mem_cons.mpr ⟨⟨show (20 : Nat) < 100 from by decide, nf6⟩, List.forall_mem_cons.mpr ⟨⟨show (24 : Nat) < 100 from by decide, nf7⟩, List.forall_mem_cons.mpr ⟨⟨show (24 : Nat) < 100 from by decide, nf8⟩, (fun _ h => (by cases h))⟩⟩⟩⟩⟩⟩⟩⟩⟩, List.forall_mem_cons.mpr ⟨ho, (fun _ h => (by cases h))⟩⟩
set_option maxHeartbeats 4000000 in
theorem vc_Mo_of_at_s5002_24_0 (x2 : Int) (x3 : Int) (x7 : Int) (x8 : Int) (x9 : Int) (x13 : Int) (x15 : Int) (x21 : Int) (x22 : Int) (value_0 : Int) (fault_0 : Int) (from_0 : Int) (pos_0 : Int) (kind_0 : Int) (k2 : 99 ≤ x2 ∧ x2 ≤ 99) (k3 : 0 ≤ x3 ∧ x3 ≤ 2000) (k7 : 99 ≤ x7 ∧ x7 ≤ 99) (k8 : (-2147483648) ≤ x8 ∧ x8 ≤ 0) (k9 : 0 ≤ x9 ∧ x9 ≤ 2000) (k13 : 0 ≤ x13 ∧ x13 ≤ 2000) (k15 : 0 ≤ x15 ∧ x15 ≤ 2000) (k21 : 0 ≤ x21 ∧ x21 ≤ 0) (k22 : 1 ≤ x22 ∧ x22 ≤ 99) (g0 : x22 = value_0) (f1 : x21 ≤ 0) (g2 : x21 = fault_0) (f3 : x21 = 0) (f4 : 1 * x15 + ((-1) * x13 + 0) ≤ 0) (f5 : (-1) * x15 + (1 * x13 + 0) ≤ 0) (f6 : 1 * x3 + ((-1) * x15 + 0) ≤ (-1)) (f7 : (-1) * x9 + ((-1) * x15 + 0) ≤ (-2000)) (f8 : 1 * x3 + ((-1) * x13 + 0) ≤ (-1)) (f9 : (-1) * x9 + ((-1) * x13 + 0) ≤ (-2000)) (f10 : 1 * x8 + ((-1) * x2 + 0) ≤ 0) (f11 : (-1) * x8 + 0 ≤ 0) (f14 : 1 * from_0 + ((-1) * pos_0 + 0) ≤ 0) (f15 : ((kind_0 = 1) → (pos_0 ≤ (from_0 + 8))) ∧ ((kind_0 = 0) ∨ ((from_0 + 1) ≤ pos_0))) (f16 : 1 * x15 + ((-1) * pos_0 + 0) ≤ 0) (f17 : (-1) * fault_0 + 0 ≤ (-1)) (f19 : 1 * x15 + ((-1) * x13 + 0) ≤ 0) (f20 : (-1) * x15 + (1 * x13 + 0) ≤ 0) (f21 : 1 * x3 + ((-1) * x15 + 0) ≤ (-1)) (f22 : (-1) * x9 + ((-1) * x15 + 0) ≤ (-2000)) (f23 : 1 * x3 + ((-1) * x13 + 0) ≤ (-1)) (f24 : (-1) * x9 + ((-1) * x13 + 0) ≤ (-2000)) (f25 : 1 * x8 + ((-1) * x2 + 0) ≤ 0) (f26 : (-1) * x8 + 0 ≤ 0) (f28 : 1 * x15 + ((-1) * x13 + 0) ≤ 0) (f29 : (-1) * x15 + (1 * x13 + 0) ≤ 0) (f30 : 1 * x3 + ((-1) * x15 + 0) ≤ (-1)) (f31 : (-1) * x9 + ((-1) * x15 + 0) ≤ (-2000)) (f32 : 1 * x3 + ((-1) * x13 + 0) ≤ (-1)) (f33 : (-1) * x9 + ((-1) * x13 + 0) ≤ (-2000)) (f34 : 1 * x8 + ((-1) * x2 + 0) ≤ 0) (f35 : (-1) * x8 + 0 ≤ 0) (f37 : 1 * x3 + ((-1) * x13 + 0) ≤ (-1)) (f38 : (-1) * x9 + ((-1) * x13 + 0) ≤ (-2000)) (f39 : x8 ≤ 0) (f40 : 1 * x8 + ((-1) * x2 + 0) ≤ 0) (f41 : (-1) * x8 + 0 ≤ 0) (f43 : 1 * x8 + ((-1) * x2 + 0) ≤ 0) (f44 : (-1) * x8 + 0 ≤ 0) (kz_0_8 : 0 ≤ fault_0 ∧ fault_0 ≤ 5) (kz_0_11 : 0 ≤ pos_0 ∧ pos_0 ≤ 2000) (kz_0_12 : 0 ≤ kind_0 ∧ kind_0 ≤ 4) (kz_0_14 : (-2147483648) ≤ value_0 ∧ value_0 ≤ 2147483647) (kz_0_15 : 0 ≤ from_0 ∧ from_0 ≤ 2000) : 1 * x22 + ((-1) * x2 + 0) ≤ 0 := by
  first | assumption | (clear f15; omega) | omega | grind
set_option maxHeartbeats 4000000 in
theorem vc_Mo_of_at_s5002_24_1 (x2 : Int) (x3 : Int) (x7 : Int) (x8 : Int) (x9 : Int) (x13 : Int) (x15 : Int) (x21 : Int) (x22 : Int) (value_0 : Int) (fault_0 : Int) (from_0 : Int) (pos_0 : Int) (kind_0 : Int) (k2 : 99 ≤ x2 ∧ x2 ≤ 99) (k3 : 0 ≤ x3 ∧ x3 ≤ 2000) (k7 : 99 ≤ x7 ∧ x7 ≤ 99) (k8 : (-2147483648) ≤ x8 ∧ x8 ≤ 0) (k9 : 0 ≤ x9 ∧ x9 ≤ 2000) (k13 : 0 ≤ x13 ∧ x13 ≤ 2000) (k15 : 0 ≤ x15 ∧ x15 ≤ 2000) (k21 : 0 ≤ x21 ∧ x21 ≤ 0) (k22 : 1 ≤ x22 ∧ x22 ≤ 99) (g0 : x22 = value_0) (f1 : x21 ≤ 0) (g2 : x21 = fault_0) (f3 : x21 = 0) (f4 : 1 * x15 + ((-1) * x13 + 0) ≤ 0) (f5 : (-1) * x15 + (1 * x13 + 0) ≤ 0) (f6 : 1 * x3 + ((-1) * x15 + 0) ≤ (-1)) (f7 : (-1) * x9 + ((-1) * x15 + 0) ≤ (-2000)) (f8 : 1 * x3 + ((-1) * x13 + 0) ≤ (-1)) (f9 : (-1) * x9 + ((-1) * x13 + 0) ≤ (-2000)) (f10 : 1 * x8 + ((-1) * x2 + 0) ≤ 0) (f11 : (-1) * x8 + 0 ≤ 0) (f14 : 1 * from_0 + ((-1) * pos_0 + 0) ≤ 0) (f15 : ((kind_0 = 1) → (pos_0 ≤ (from_0 + 8))) ∧ ((kind_0 = 0) ∨ ((from_0 + 1) ≤ pos_0))) (f16 : 1 * x15 + ((-1) * pos_0 + 0) ≤ 0) (f17 : (-1) * fault_0 + 0 ≤ (-1)) (f19 : 1 * x15 + ((-1) * x13 + 0) ≤ 0) (f20 : (-1) * x15 + (1 * x13 + 0) ≤ 0) (f21 : 1 * x3 + ((-1) * x15 + 0) ≤ (-1)) (f22 : (-1) * x9 + ((-1) * x15 + 0) ≤ (-2000)) (f23 : 1 * x3 + ((-1) * x13 + 0) ≤ (-1)) (f24 : (-1) * x9 + ((-1) * x13 + 0) ≤ (-2000)) (f25 : 1 * x8 + ((-1) * x2 + 0) ≤ 0) (f26 : (-1) * x8 + 0 ≤ 0) (f28 : 1 * x15 + ((-1) * x13 + 0) ≤ 0) (f29 : (-1) * x15 + (1 * x13 + 0) ≤ 0) (f30 : 1 * x3 + ((-1) * x15 + 0) ≤ (-1)) (f31 : (-1) * x9 + ((-1) * x15 + 0) ≤ (-2000)) (f32 : 1 * x3 + ((-1) * x13 + 0) ≤ (-1)) (f33 : (-1) * x9 + ((-1) * x13 + 0) ≤ (-2000)) (f34 : 1 * x8 + ((-1) * x2 + 0) ≤ 0) (f35 : (-1) * x8 + 0 ≤ 0) (f37 : 1 * x3 + ((-1) * x13 + 0) ≤ (-1)) (f38 : (-1) * x9 + ((-1) * x13 + 0) ≤ (-2000)) (f39 : x8 ≤ 0) (f40 : 1 * x8 + ((-1) * x2 + 0) ≤ 0) (f41 : (-1) * x8 + 0 ≤ 0) (f43 : 1 * x8 + ((-1) * x2 + 0) ≤ 0) (f44 : (-1) * x8 + 0 ≤ 0) (kz_0_8 : 0 ≤ fault_0 ∧ fault_0 ≤ 5) (kz_0_11 : 0 ≤ pos_0 ∧ pos_0 ≤ 2000) (kz_0_12 : 0 ≤ kind_0 ∧ kind_0 ≤ 4) (kz_0_14 : (-2147483648) ≤ value_0 ∧ value_0 ≤ 2147483647) (kz_0_15 : 0 ≤ from_0 ∧ from_0 ≤ 2000) : (-1) * x22 + 0 ≤ 0 := by
  first | assumption | (clear f15; omega) | omega | grind
def o_Mo_of_at_s5002_24 : or_T := (135, 25, [(0, (2, 0, 0, [165])), (2, (0, 99, 99, [])), (3, (0, 0, 2000, [])), (5, (2, 0, 0, [165])), (7, (0, 99, 99, [])), (8, (0, -2147483648, 0, [])), (9, (0, 0, 2000, [])), (13, (0, 0, 2000, [])), (15, (0, 0, 2000, [])), (21, (0, 0, 0, [])), (22, (0, 1, 99, []))], [(9, [22, 5], [14]), (8, [21], [5]), (9, [21, 5], [8]), (8, [21], [0]), (23, [15, 13], [0, 1, -1]), (23, [15, 13], [0, -1, 1]), (23, [3, 15], [-1, 1, -1]), (23, [9, 15], [-2000, -1, -1]), (23, [3, 13], [-1, 1, -1]), (23, [9, 13], [-2000, -1, -1]), (23, [8, 7], [0, 1, -1]), (23, [8], [0, -1]), (24, [0, 5], []), (24, [2, 7], []), (20, [5, 5], [30, 0, 1, 1, 15, -1, 1, 11]), (20, [5], [50, 3, 0, 12, 11, 15, 2, 21, 4, 7, 1, 3, 2, 0, 12, 0, 1, 0, 3, 2, 0, 11, 4, 3, 2, 0, 15, 0, 8, 3, 7, 1, 3, 2, 0, 12, 0, 0, 0, 7, 4, 3, 2, 0, 15, 0, 1, 2, 0, 11]), (20, [15, 5], [30, 0, 1, 0, 0, -1, 1, 11]), (20, [5], [30, -1, -1, 1, 8]), (102, [20], [0, 165008, 165009]), (23, [15, 13], [0, 1, -1]), (23, [15, 13], [0, -1, 1]), (23, [3, 15], [-1, 1, -1]), (23, [9, 15], [-2000, -1, -1]), (23, [3, 13], [-1, 1, -1]), (23, [9, 13], [-2000, -1, -1]), (23, [8, 7], [0, 1, -1]), (23, [8], [0, -1]), (102, [15], [0, 165008, 165009, 165011, 165012, 165013, 165014, 165015]), (23, [15, 13], [0, 1, -1]), (23, [15, 13], [0, -1, 1]), (23, [3, 15], [-1, 1, -1]), (23, [9, 15], [-2000, -1, -1]), (23, [3, 13], [-1, 1, -1]), (23, [9, 13], [-2000, -1, -1]), (23, [8, 7], [0, 1, -1]), (23, [8], [0, -1]), (102, [13], [0, 165011, 165012, 165013, 165014, 165015]), (23, [3, 13], [-1, 1, -1]), (23, [9, 13], [-2000, -1, -1]), (8, [8], [5]), (23, [8, 7], [0, 1, -1]), (23, [8], [0, -1]), (102, [11], [0]), (23, [8, 7], [0, 1, -1]), (23, [8], [0, -1])], [], [], [(23, [22, 7], [0, 1, -1]), (23, [22], [0, -1])], [], [])
theorem oo_Mo_of_at_s5002_24 {kA : Nat → ClassId} : or_ok PRD kA GG o_Mo_of_at_s5002_24 := by
  refine or_mk fun A ta ws vs hD hth hl => ?_
  intro t0 r0 t2 k2 t3 k3 t5 r5 t7 k7 t8 k8 t9 k9 t13 k13 t15 k15 t21 k21 t22 k22 f0 f1 f2 f3 f4 f5 f6 f7 f8 f9 f10 f11 f12 f13 f14 f15 f16 f17 ta1 w1 le1 s1 f19 f20 f21 f22 f23 f24 f25 f26 ta2 w2 le2 s2 f28 f29 f30 f31 f32 f33 f34 f35 ta3 w3 le3 s3 f37 f38 f39 f40 f41 ta4 w4 le4 s4 f43 f44
  replace f0 := shm_116 f0
  replace f1 := shm_142 f1
  replace f2 := shm_143 f2
  replace f3 := shm_210 f3
  replace f4 := shm_7 f4
  replace f5 := shm_22 f5
  replace f6 := shm_211 f6
  replace f7 := shm_1894 f7
  replace f8 := shm_211 f8
  replace f9 := shm_1894 f9
  replace f10 := shm_7 f10
  replace f11 := shm_1013 f11
  replace f12 := shm_5 f12
  replace f13 := shm_5 f13
  replace f14 := shm_1397 f14
  replace f15 := shm_1398 f15
  replace f16 := shm_1395 f16
  replace f17 := shm_144 f17
  replace f19 := shm_7 f19
  replace f20 := shm_22 f20
  replace f21 := shm_211 f21
  replace f22 := shm_1894 f22
  replace f23 := shm_211 f23
  replace f24 := shm_1894 f24
  replace f25 := shm_7 f25
  replace f26 := shm_1013 f26
  replace f28 := shm_7 f28
  replace f29 := shm_22 f29
  replace f30 := shm_211 f30
  replace f31 := shm_1894 f31
  replace f32 := shm_211 f32
  replace f33 := shm_1894 f33
  replace f34 := shm_7 f34
  replace f35 := shm_1013 f35
  replace f37 := shm_211 f37
  replace f38 := shm_1894 f38
  replace f39 := shm_142 f39
  replace f40 := shm_7 f40
  replace f41 := shm_1013 f41
  replace f43 := shm_7 f43
  replace f44 := shm_1013 f44
  have q5 : n_v vs 5 = n_v vs 0 := f12.symm
  have q7 : n_v vs 7 = n_v vs 2 := f13.symm
  simp only [q5, q7] at f0 f2 f10 f14 f15 f16 f17 f25 f34 f40 f43
  have g0 : v_iv (n_v vs 22) = w_fi ws (n_v vs 0) 14 := congrArg v_iv f0
  have g2 : v_iv (n_v vs 21) = w_fi ws (n_v vs 0) 8 := congrArg v_iv f2
  have kz_0_8 := fdq_14 hD hth r0
  have kz_0_11 := fdq_273 hD hth r0
  have kz_0_12 := fdq_186 hD hth r0
  have kz_0_14 := fdq_311 hD hth r0
  have kz_0_15 := fdq_274 hD hth r0
  have nf0 : fc_1 PRD (23, [22, 7], [0, 1, -1]) ws (vs) := by
    refine ⟨nf_in hl rfl, sgq_7 ?_⟩
    · show 1 * v_iv (n_v vs 22) + ((-1) * v_iv (n_v vs 7) + 0) ≤ 0
      rw [q7]
      exact vc_Mo_of_at_s5002_24_0 (v_iv (n_v vs 2)) (v_iv (n_v vs 3)) (v_iv (n_v vs 7)) (v_iv (n_v vs 8)) (v_iv (n_v vs 9)) (v_iv (n_v vs 13)) (v_iv (n_v vs 15)) (v_iv (n_v vs 21)) (v_iv (n_v vs 22)) (w_fi ws (n_v vs 0) 14) (w_fi ws (n_v vs 0) 8) (w_fi ws (n_v vs 0) 15) (w_fi ws (n_v vs 0) 11) (w_fi ws (n_v vs 0) 12) k2 k3 k7 k8 k9 k13 k15 k21 k22 g0 f1 g2 f3 f4 f5 f6 f7 f8 f9 f10 f11 f14 f15 f16 f17 f19 f20 f21 f22 f23 f24 f25 f26 f28 f29 f30 f31 f32 f33 f34 f35 f37 f38 f39 f40 f41 f43 f44 kz_0_8 kz_0_11 kz_0_12 kz_0_14 kz_0_15
  have nf1 : fc_1 PRD (23, [22], [0, -1]) ws (vs) := ⟨nf_in hl rfl, sgq_1013 (vc_Mo_of_at_s5002_24_1 (v_iv (n_v vs 2)) (v_iv (n_v vs 3)) (v_iv (n_v vs 7)) (v_iv (n_v vs 8)) (v_iv (n_v vs 9)) (v_iv (n_v vs 13)) (v_iv (n_v vs 15)) (v_iv (n_v vs 21)) (v_iv (n_v vs 22)) (w_fi ws (n_v vs 0) 14) (w_fi ws (n_v vs 0) 8) (w_fi ws (n_v vs 0) 15) (w_fi ws (n_v vs 0) 11) (w_fi ws (n_v vs 0) 12) k2 k3 k7 k8 k9 k13 k15 k21 k22 g0 f1 g2 f3 f4 f5 f6 f7 f8 f9 f10 f11 f14 f15 f16 f17 f19 f20 f21 f22 f23 f24 f25 f26 f28 f29 f30 f31 f32 f33 f34 f35 f37 f38 f39 f40 f41 f43 f44 kz_0_8 kz_0_11 kz_0_12 kz_0_14 kz_0_15)⟩
  refine ⟨(fun _ h => (by cases h)), [], trivial, ?_, (fun _ h => (by cases h))⟩
  rw [List.append_nil]
  exact List.forall_mem_cons.mpr ⟨⟨show (23 : Nat) < 100 from by decide, nf0⟩, List.forall_mem_cons.mpr ⟨⟨show (23 : Nat) < 100 from by decide, nf1⟩, (fun _ h => (by cases h))⟩⟩
set_option maxHeartbeats 4000000 in
theorem vc_Mo_of_at_s5002_25_0 (x2 : Int) (x3 : Int) (x7 : Int) (x9 : Int) (x13 : Int) (x15 : Int) (x21 : Int) (fault_0 : Int) (from_0 : Int) (pos_0 : Int) (kind_0 : Int) (gx : Int) (k2 : 99 ≤ x2 ∧ x2 ≤ 99) (k3 : 0 ≤ x3 ∧ x3 ≤ 2000) (k7 : 99 ≤ x7 ∧ x7 ≤ 99) (k9 : 0 ≤ x9 ∧ x9 ≤ 2000) (k13 : 0 ≤ x13 ∧ x13 ≤ 2000) (k15 : 0 ≤ x15 ∧ x15 ≤ 2000) (k21 : 0 ≤ x21 ∧ x21 ≤ 0) (f0 : x21 ≤ 0) (g1 : x21 = fault_0) (f2 : x21 = 0) (f3 : 1 * x15 + ((-1) * x13 + 0) ≤ 0) (f4 : (-1) * x15 + (1 * x13 + 0) ≤ 0) (f5 : 1 * x3 + ((-1) * x15 + 0) ≤ (-1)) (f6 : (-1) * x9 + ((-1) * x15 + 0) ≤ (-2000)) (f7 : 1 * x3 + ((-1) * x13 + 0) ≤ (-1)) (f8 : (-1) * x9 + ((-1) * x13 + 0) ≤ (-2000)) (f11 : 1 * from_0 + ((-1) * pos_0 + 0) ≤ 0) (f12 : ((kind_0 = 1) → (pos_0 ≤ (from_0 + 8))) ∧ ((kind_0 = 0) ∨ ((from_0 + 1) ≤ pos_0))) (f13 : 1 * x15 + ((-1) * pos_0 + 0) ≤ 0) (f14 : (-1) * fault_0 + 0 ≤ (-1)) (f16 : 1 * x15 + ((-1) * x13 + 0) ≤ 0) (f17 : (-1) * x15 + (1 * x13 + 0) ≤ 0) (f18 : 1 * x3 + ((-1) * x15 + 0) ≤ (-1)) (f19 : (-1) * x9 + ((-1) * x15 + 0) ≤ (-2000)) (f20 : 1 * x3 + ((-1) * x13 + 0) ≤ (-1)) (f21 : (-1) * x9 + ((-1) * x13 + 0) ≤ (-2000)) (f23 : 1 * x15 + ((-1) * x13 + 0) ≤ 0) (f24 : (-1) * x15 + (1 * x13 + 0) ≤ 0) (f25 : 1 * x3 + ((-1) * x15 + 0) ≤ (-1)) (f26 : (-1) * x9 + ((-1) * x15 + 0) ≤ (-2000)) (f27 : 1 * x3 + ((-1) * x13 + 0) ≤ (-1)) (f28 : (-1) * x9 + ((-1) * x13 + 0) ≤ (-2000)) (f30 : 1 * x3 + ((-1) * x13 + 0) ≤ (-1)) (f31 : (-1) * x9 + ((-1) * x13 + 0) ≤ (-2000)) (kz_0_8 : 0 ≤ fault_0 ∧ fault_0 ≤ 5) (kz_0_11 : 0 ≤ pos_0 ∧ pos_0 ≤ 2000) (kz_0_12 : 0 ≤ kind_0 ∧ kind_0 ≤ 4) (kz_0_15 : 0 ≤ from_0 ∧ from_0 ≤ 2000) (ex2 : gx = pos_0) (ex3 : 0 ≤ gx ∧ gx ≤ 2000) : 1 * gx + ((-1) * pos_0 + 0) ≤ 0 := by
  first | assumption | (clear f12; omega) | omega | grind
set_option maxHeartbeats 4000000 in
theorem vc_Mo_of_at_s5002_25_1 (x2 : Int) (x3 : Int) (x7 : Int) (x9 : Int) (x13 : Int) (x15 : Int) (x21 : Int) (fault_0 : Int) (from_0 : Int) (pos_0 : Int) (kind_0 : Int) (gx : Int) (k2 : 99 ≤ x2 ∧ x2 ≤ 99) (k3 : 0 ≤ x3 ∧ x3 ≤ 2000) (k7 : 99 ≤ x7 ∧ x7 ≤ 99) (k9 : 0 ≤ x9 ∧ x9 ≤ 2000) (k13 : 0 ≤ x13 ∧ x13 ≤ 2000) (k15 : 0 ≤ x15 ∧ x15 ≤ 2000) (k21 : 0 ≤ x21 ∧ x21 ≤ 0) (f0 : x21 ≤ 0) (g1 : x21 = fault_0) (f2 : x21 = 0) (f3 : 1 * x15 + ((-1) * x13 + 0) ≤ 0) (f4 : (-1) * x15 + (1 * x13 + 0) ≤ 0) (f5 : 1 * x3 + ((-1) * x15 + 0) ≤ (-1)) (f6 : (-1) * x9 + ((-1) * x15 + 0) ≤ (-2000)) (f7 : 1 * x3 + ((-1) * x13 + 0) ≤ (-1)) (f8 : (-1) * x9 + ((-1) * x13 + 0) ≤ (-2000)) (f11 : 1 * from_0 + ((-1) * pos_0 + 0) ≤ 0) (f12 : ((kind_0 = 1) → (pos_0 ≤ (from_0 + 8))) ∧ ((kind_0 = 0) ∨ ((from_0 + 1) ≤ pos_0))) (f13 : 1 * x15 + ((-1) * pos_0 + 0) ≤ 0) (f14 : (-1) * fault_0 + 0 ≤ (-1)) (f16 : 1 * x15 + ((-1) * x13 + 0) ≤ 0) (f17 : (-1) * x15 + (1 * x13 + 0) ≤ 0) (f18 : 1 * x3 + ((-1) * x15 + 0) ≤ (-1)) (f19 : (-1) * x9 + ((-1) * x15 + 0) ≤ (-2000)) (f20 : 1 * x3 + ((-1) * x13 + 0) ≤ (-1)) (f21 : (-1) * x9 + ((-1) * x13 + 0) ≤ (-2000)) (f23 : 1 * x15 + ((-1) * x13 + 0) ≤ 0) (f24 : (-1) * x15 + (1 * x13 + 0) ≤ 0) (f25 : 1 * x3 + ((-1) * x15 + 0) ≤ (-1)) (f26 : (-1) * x9 + ((-1) * x15 + 0) ≤ (-2000)) (f27 : 1 * x3 + ((-1) * x13 + 0) ≤ (-1)) (f28 : (-1) * x9 + ((-1) * x13 + 0) ≤ (-2000)) (f30 : 1 * x3 + ((-1) * x13 + 0) ≤ (-1)) (f31 : (-1) * x9 + ((-1) * x13 + 0) ≤ (-2000)) (kz_0_8 : 0 ≤ fault_0 ∧ fault_0 ≤ 5) (kz_0_11 : 0 ≤ pos_0 ∧ pos_0 ≤ 2000) (kz_0_12 : 0 ≤ kind_0 ∧ kind_0 ≤ 4) (kz_0_15 : 0 ≤ from_0 ∧ from_0 ≤ 2000) (ex2 : gx = pos_0) (ex3 : 0 ≤ gx ∧ gx ≤ 2000) : 1 * x3 + ((-1) * gx + 0) ≤ (-1) := by
  first | assumption | (clear f12; omega) | omega | grind
set_option maxHeartbeats 4000000 in
theorem vc_Mo_of_at_s5002_25_2 (x2 : Int) (x3 : Int) (x7 : Int) (x9 : Int) (x13 : Int) (x15 : Int) (x21 : Int) (fault_0 : Int) (from_0 : Int) (pos_0 : Int) (kind_0 : Int) (gx : Int) (k2 : 99 ≤ x2 ∧ x2 ≤ 99) (k3 : 0 ≤ x3 ∧ x3 ≤ 2000) (k7 : 99 ≤ x7 ∧ x7 ≤ 99) (k9 : 0 ≤ x9 ∧ x9 ≤ 2000) (k13 : 0 ≤ x13 ∧ x13 ≤ 2000) (k15 : 0 ≤ x15 ∧ x15 ≤ 2000) (k21 : 0 ≤ x21 ∧ x21 ≤ 0) (f0 : x21 ≤ 0) (g1 : x21 = fault_0) (f2 : x21 = 0) (f3 : 1 * x15 + ((-1) * x13 + 0) ≤ 0) (f4 : (-1) * x15 + (1 * x13 + 0) ≤ 0) (f5 : 1 * x3 + ((-1) * x15 + 0) ≤ (-1)) (f6 : (-1) * x9 + ((-1) * x15 + 0) ≤ (-2000)) (f7 : 1 * x3 + ((-1) * x13 + 0) ≤ (-1)) (f8 : (-1) * x9 + ((-1) * x13 + 0) ≤ (-2000)) (f11 : 1 * from_0 + ((-1) * pos_0 + 0) ≤ 0) (f12 : ((kind_0 = 1) → (pos_0 ≤ (from_0 + 8))) ∧ ((kind_0 = 0) ∨ ((from_0 + 1) ≤ pos_0))) (f13 : 1 * x15 + ((-1) * pos_0 + 0) ≤ 0) (f14 : (-1) * fault_0 + 0 ≤ (-1)) (f16 : 1 * x15 + ((-1) * x13 + 0) ≤ 0) (f17 : (-1) * x15 + (1 * x13 + 0) ≤ 0) (f18 : 1 * x3 + ((-1) * x15 + 0) ≤ (-1)) (f19 : (-1) * x9 + ((-1) * x15 + 0) ≤ (-2000)) (f20 : 1 * x3 + ((-1) * x13 + 0) ≤ (-1)) (f21 : (-1) * x9 + ((-1) * x13 + 0) ≤ (-2000)) (f23 : 1 * x15 + ((-1) * x13 + 0) ≤ 0) (f24 : (-1) * x15 + (1 * x13 + 0) ≤ 0) (f25 : 1 * x3 + ((-1) * x15 + 0) ≤ (-1)) (f26 : (-1) * x9 + ((-1) * x15 + 0) ≤ (-2000)) (f27 : 1 * x3 + ((-1) * x13 + 0) ≤ (-1)) (f28 : (-1) * x9 + ((-1) * x13 + 0) ≤ (-2000)) (f30 : 1 * x3 + ((-1) * x13 + 0) ≤ (-1)) (f31 : (-1) * x9 + ((-1) * x13 + 0) ≤ (-2000)) (kz_0_8 : 0 ≤ fault_0 ∧ fault_0 ≤ 5) (kz_0_11 : 0 ≤ pos_0 ∧ pos_0 ≤ 2000) (kz_0_12 : 0 ≤ kind_0 ∧ kind_0 ≤ 4) (kz_0_15 : 0 ≤ from_0 ∧ from_0 ≤ 2000) (ex2 : gx = pos_0) (ex3 : 0 ≤ gx ∧ gx ≤ 2000) : (-1) * x9 + ((-1) * gx + 0) ≤ (-2001) := by
  first | assumption | (clear f12; omega) | omega | grind
def o_Mo_of_at_s5002_25 : or_T := (136, 25, [(0, (2, 0, 0, [165])), (2, (0, 99, 99, [])), (3, (0, 0, 2000, [])), (5, (2, 0, 0, [165])), (7, (0, 99, 99, [])), (9, (0, 0, 2000, [])), (13, (0, 0, 2000, [])), (15, (0, 0, 2000, [])), (21, (0, 0, 0, []))], [(8, [21], [5]), (9, [21, 5], [8]), (8, [21], [0]), (23, [15, 13], [0, 1, -1]), (23, [15, 13], [0, -1, 1]), (23, [3, 15], [-1, 1, -1]), (23, [9, 15], [-2000, -1, -1]), (23, [3, 13], [-1, 1, -1]), (23, [9, 13], [-2000, -1, -1]), (24, [0, 5], []), (24, [2, 7], []), (20, [5, 5], [30, 0, 1, 1, 15, -1, 1, 11]), (20, [5], [50, 3, 0, 12, 11, 15, 2, 21, 4, 7, 1, 3, 2, 0, 12, 0, 1, 0, 3, 2, 0, 11, 4, 3, 2, 0, 15, 0, 8, 3, 7, 1, 3, 2, 0, 12, 0, 0, 0, 7, 4, 3, 2, 0, 15, 0, 1, 2, 0, 11]), (20, [15, 5], [30, 0, 1, 0, 0, -1, 1, 11]), (20, [5], [30, -1, -1, 1, 8]), (102, [20], [0, 165008, 165009]), (23, [15, 13], [0, 1, -1]), (23, [15, 13], [0, -1, 1]), (23, [3, 15], [-1, 1, -1]), (23, [9, 15], [-2000, -1, -1]), (23, [3, 13], [-1, 1, -1]), (23, [9, 13], [-2000, -1, -1]), (102, [15], [0, 165008, 165009, 165011, 165012, 165013, 165014, 165015]), (23, [15, 13], [0, 1, -1]), (23, [15, 13], [0, -1, 1]), (23, [3, 15], [-1, 1, -1]), (23, [9, 15], [-2000, -1, -1]), (23, [3, 13], [-1, 1, -1]), (23, [9, 13], [-2000, -1, -1]), (102, [13], [0, 165011, 165012, 165013, 165014, 165015]), (23, [3, 13], [-1, 1, -1]), (23, [9, 13], [-2000, -1, -1])], [], [(0, 0, 2000, [])], [(20, [25, 5], [30, 0, 1, 0, 0, -1, 1, 11]), (23, [3, 25], [-1, 1, -1]), (23, [9, 25], [-2001, -1, -1])], [], [])
