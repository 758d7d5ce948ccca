
set_option maxHeartbeats 4000000 in
theorem vc_Mo_list_3_0 (x4 : Int) (x5 : Int) (x6 : Int) (x8 : Int) (x10 : Int) (x11 : Int) (x13 : Int) (itemLayer_0 : Int → Int) (all_0 : Int → Int) (turned_0 : Int → Int) (r_0 : Int) (lineA_0 : Int → Int) (lineB_0 : Int → Int) (lines_0 : Int) (items_0 : Int) (items_1 : Int) (all_1 : Int → Int) (turned_1 : Int → Int) (itemLayer_1 : Int → Int) (firstJoint_1 : Int → Int) (r_1 : Int) (lineA_1 : Int → Int) (lineB_1 : Int → Int) (lines_1 : Int) (firstJoint_0 : Int → Int) (k4 : 0 ≤ x4 ∧ x4 ≤ 47) (k5 : 0 ≤ x5 ∧ x5 ≤ 72) (k6 : 1 ≤ x6 ∧ x6 ≤ 48) (k8 : 0 ≤ x8 ∧ x8 ≤ 23) (k10 : 0 ≤ x10 ∧ x10 ≤ 23) (k11 : 0 ≤ x11 ∧ x11 ≤ 75) (k13 : 1 ≤ x13 ∧ x13 ≤ 76) (d0 : x11 + 1 ≤ x13 ∧ x13 ≤ x11 + 1) (d1 : x6 + (-4294967296) ≤ x4 ∧ x4 ≤ x6 + (-1)) (h1 : x11 = itemLayer_0 (x10)) (f2 : FRO (r_0) (all_0) (turned_0) (x4) (x10)) (f4 : FRO (r_0) (all_0) (turned_0) (x4) (x8)) (f5 : 1 * x6 + ((-1) * all_0 (r_0 + 1) + 0) ≤ 0) (f6 : (-1) * x6 + (1 * all_0 (r_0 + 1) + 0) ≤ 0) (f8 : lines_0 = ((items_0 - all_0 (r_0)) + x4)) (g13 : x5 = items_1) (f18 : LIC (r_1) (items_1) (all_1) (turned_1) (itemLayer_1) (firstJoint_1) (x4)) (fe_0_5_1 : r_0 = r_1) (fe_0_100_1 : items_0 = items_1) (fe_0_107_1 : lines_0 = lines_1) (hE_0_2_1 : ∀ j : Int, all_0 j = all_1 j) (hE_0_95_1 : ∀ j : Int, turned_0 j = turned_1 j) (hE_0_102_1 : ∀ j : Int, itemLayer_0 j = itemLayer_1 j) (hE_0_104_1 : ∀ j : Int, 0 ≤ j → (j = x4 → firstJoint_0 j = x5) ∧ (j ≠ x4 → firstJoint_0 j = firstJoint_1 j)) (hE_0_108_1 : ∀ j : Int, lineA_0 j = lineA_1 j) (hE_0_109_1 : ∀ j : Int, lineB_0 j = lineB_1 j) (kz_0_100 : 0 ≤ items_0 ∧ items_0 ≤ 76) (kz_0_107 : 0 ≤ lines_0 ∧ lines_0 ≤ 130) : LID (r_0) (items_0) (all_0) (turned_0) (itemLayer_0) (firstJoint_0) (x4) (x8) (x13) := by
  subst fe_0_5_1
  subst fe_0_100_1
  subst fe_0_107_1
  have e_hE_0_2_1 := funext hE_0_2_1; subst e_hE_0_2_1
  have e_hE_0_95_1 := funext hE_0_95_1; subst e_hE_0_95_1
  have e_hE_0_102_1 := funext hE_0_102_1; subst e_hE_0_102_1
  have e_hE_0_108_1 := funext hE_0_108_1; subst e_hE_0_108_1
  have e_hE_0_109_1 := funext hE_0_109_1; subst e_hE_0_109_1
  first
    | exact lid_start (a := x10) ‹LIC _ _ _ _ _ _ _› (by omega) (by assumption) rfl (by omega) (by assumption) (by assumption) (by assumption) (by omega)
    | exact lie_next ‹LIE _ _ _ _ _ _ _ _ _› (by omega) (by omega) (by omega)
set_option maxHeartbeats 4000000 in
theorem vc_Mo_list_3_1 (x4 : Int) (x6 : Int) (itemLayer_0 : Int → Int) (all_0 : Int → Int) (turned_0 : Int → Int) (r_0 : Int) (lineA_0 : Int → Int) (lineB_0 : Int → Int) (lines_0 : Int) (items_0 : Int) (items_1 : Int) (all_1 : Int → Int) (turned_1 : Int → Int) (itemLayer_1 : Int → Int) (r_1 : Int) (lineA_1 : Int → Int) (lineB_1 : Int → Int) (lines_1 : Int) (k4 : 0 ≤ x4 ∧ x4 ≤ 47) (k6 : 1 ≤ x6 ∧ x6 ≤ 48) (d1 : x6 + (-4294967296) ≤ x4 ∧ x4 ≤ x6 + (-1)) (f5 : 1 * x6 + ((-1) * all_0 (r_0 + 1) + 0) ≤ 0) (f6 : (-1) * x6 + (1 * all_0 (r_0 + 1) + 0) ≤ 0) (f8 : lines_0 = ((items_0 - all_0 (r_0)) + x4)) (fe_0_5_1 : r_0 = r_1) (fe_0_100_1 : items_0 = items_1) (fe_0_107_1 : lines_0 = lines_1) (hE_0_2_1 : ∀ j : Int, all_0 j = all_1 j) (hE_0_95_1 : ∀ j : Int, turned_0 j = turned_1 j) (hE_0_102_1 : ∀ j : Int, itemLayer_0 j = itemLayer_1 j) (hE_0_108_1 : ∀ j : Int, lineA_0 j = lineA_1 j) (hE_0_109_1 : ∀ j : Int, lineB_0 j = lineB_1 j) (kz_0_100 : 0 ≤ items_0 ∧ items_0 ≤ 76) (kz_0_107 : 0 ≤ lines_0 ∧ lines_0 ≤ 130) : (x4 + 1) ≤ all_0 ((r_0 + 1)) := by
  subst fe_0_5_1
  subst fe_0_100_1
  subst fe_0_107_1
  have e_hE_0_2_1 := funext hE_0_2_1; subst e_hE_0_2_1
  have e_hE_0_95_1 := funext hE_0_95_1; subst e_hE_0_95_1
  have e_hE_0_102_1 := funext hE_0_102_1; subst e_hE_0_102_1
  have e_hE_0_108_1 := funext hE_0_108_1; subst e_hE_0_108_1
  have e_hE_0_109_1 := funext hE_0_109_1; subst e_hE_0_109_1
  try simp only [Int.add_zero] at *
  first
    | omega
    | (have h := lid_bd ‹LID _ _ _ _ _ _ _ _ _›; omega)
    | (have h := ‹LYJ _ _ _ _›.1.1.1; omega)
    | (have h := (lic_bd ‹LIC _ _ _ _ _ _ _›).1; omega)
    | (have h := (lic_bd ‹LIF _ _ _ _ _ _›).1; omega)
    | (have h := ‹LSA _ _ _ _ _ _ _ _ _ _›.2.1; omega)
    | (have h := lli_bd ‹LLI _ _ _ _ _ _›; have h2 := ‹LSA _ _ _ _ _ _ _ _ _ _›.2.1; omega)
def o_Mo_list_3 : or_T := (50, 14, [(0, (2, 0, 0, [165])), (4, (0, 0, 47, [])), (5, (0, 0, 72, [])), (6, (0, 1, 48, [])), (7, (2, 0, 0, [237])), (8, (0, 0, 23, [])), (10, (0, 0, 23, [])), (11, (0, 0, 75, [])), (13, (0, 1, 76, []))], [(10, [11, 9, 10], []), (20, [2, 4, 10], [60, 1, 2, 432, 5, 2, 95]), (9, [9, 2], [102]), (20, [2, 4, 8], [60, 1, 2, 432, 5, 2, 95]), (20, [6, 2], [30, 0, 1, 0, 0, -1, 3, 2005001]), (20, [6, 2], [30, 0, -1, 0, 0, 1, 3, 2005001]), (20, [2, 4], [50, 3, 1, 107, 100, 5, 2, 1, 3, 2, 0, 107, 4, 11, 5, 3, 2, 0, 100, 3, 0, 2, 2, 0, 5, 1, 1]), (24, [0, 2], []), (100, [7, 4, 5], []), (9, [5, 2], [100]), (9, [7, 2], [104]), (20, [2, 4], [60, 2, 4, 441, 5, 100, 2, 95, 102, 104])], [], [], [(20, [2, 4, 8, 13], [60, 2, 4, 442, 5, 100, 2, 95, 102, 104]), (20, [4, 2], [50, 1, 1, 1005, 1002, 0, 6, 4, 2, 1, 0, 0, 1, 3, 1, 2, 4, 3, 2, 1, 5, 0, 1])], [], [(13, 11, 1, 1), (4, 6, -4294967296, -1)])
theorem oo_Mo_list_3 {kA : Nat → ClassId} : or_ok PRD kA GG o_Mo_list_3 := by
  refine or_mk fun A ta ws vs hD hth hl => ?_
  intro t0 r0 t4 k4 t5 k5 t6 k6 t7 r7 t8 k8 t10 k10 t11 k11 t13 k13 d0 d1 f1 f2 f3 f4 f5 f6 f8 f11 ta1 w1 le1 s1 f13 f14 f18
  replace f1 := shm_107 f1
  replace f2 := shm_508 f2
  replace f3 := shm_673 f3
  replace f4 := shm_508 f4
  replace f5 := shm_121 f5
  replace f6 := shm_122 f6
  replace f8 := shm_1706 f8
  replace f11 := shm_5 f11
  have s1 : (∀ b j, w_el ws b j = if b = v_ad (n_v vs 7) ∧ j = (v_iv (n_v vs 4)).toNat then v_iv (n_v vs 5) else w_el w1 b j) ∧ ∀ b k, w_fd ws b k = w_fd w1 b k := s1.2
  replace f13 := shm_1555 f13
  replace f14 := shm_1712 f14
  replace f18 := shm_1705 f18
  have q2 : n_v vs 2 = n_v vs 0 := f11.symm
  simp only [q2] at f2 f3 f4 f5 f6 f8 f13 f14 f18
  have ar_0_2_1 : w_ar w1 (n_v vs 0) 2 = w_ar ws (n_v vs 0) 2 := congrArg v_ad (s1.2 _ _).symm
  have cr_0_2 := fdq_10 hD hth r0
  have ar_0_95_1 : w_ar w1 (n_v vs 0) 95 = w_ar ws (n_v vs 0) 95 := congrArg v_ad (s1.2 _ _).symm
  have cr_0_95 := fdq_130 hD hth r0
  have ar_0_102_1 : w_ar w1 (n_v vs 0) 102 = w_ar ws (n_v vs 0) 102 := congrArg v_ad (s1.2 _ _).symm
  have cr_0_102 := fdq_159 hD hth r0
  have ar_0_104_1 : w_ar w1 (n_v vs 0) 104 = w_ar ws (n_v vs 0) 104 := congrArg v_ad (s1.2 _ _).symm
  have ar_0_108_1 : w_ar w1 (n_v vs 0) 108 = w_ar ws (n_v vs 0) 108 := congrArg v_ad (s1.2 _ _).symm
  have cr_0_108 := fdq_160 hD hth r0
  have ar_0_109_1 : w_ar w1 (n_v vs 0) 109 = w_ar ws (n_v vs 0) 109 := congrArg v_ad (s1.2 _ _).symm
  have cr_0_109 := fdq_161 hD hth r0
  have ad_9 : v_ad (n_v vs 9) = w_ar ws (n_v vs 0) 102 := congrArg v_ad f3
  have ad_7 : v_ad (n_v vs 7) = w_ar ws (n_v vs 0) 104 := (congrArg v_ad f14).trans ar_0_104_1
  simp only [ad_9] at f1
  have h1 : v_iv (n_v vs 11) = w_ei ws (w_ar ws (n_v vs 0) 102) (v_iv (n_v vs 10)) := f1
  have g13 : v_iv (n_v vs 5) = w_fi w1 (n_v vs 0) 100 := congrArg v_iv f13
  simp only [ar_0_2_1, ar_0_95_1, ar_0_102_1, ar_0_104_1, ar_0_108_1, ar_0_109_1] at f18
  have fe_0_5_1 : w_fi ws (n_v vs 0) 5 = w_fi w1 (n_v vs 0) 5 := congrArg v_iv (s1.2 _ _)
  have fe_0_100_1 : w_fi ws (n_v vs 0) 100 = w_fi w1 (n_v vs 0) 100 := congrArg v_iv (s1.2 _ _)
  have fe_0_107_1 : w_fi ws (n_v vs 0) 107 = w_fi w1 (n_v vs 0) 107 := congrArg v_iv (s1.2 _ _)
  have hE_0_2_1 : ∀ j : Int, w_ei ws (w_ar ws (n_v vs 0) 2) j = w_ei w1 (w_ar ws (n_v vs 0) 2) j := el_kp s1.1 r7 cr_0_2 (by decide)
  have hE_0_95_1 : ∀ j : Int, w_ei ws (w_ar ws (n_v vs 0) 95) j = w_ei w1 (w_ar ws (n_v vs 0) 95) j := el_kp s1.1 r7 cr_0_95 (by decide)
  have hE_0_102_1 : ∀ j : Int, w_ei ws (w_ar ws (n_v vs 0) 102) j = w_ei w1 (w_ar ws (n_v vs 0) 102) j := el_kp s1.1 r7 cr_0_102 (by decide)
  have hE_0_104_1 : ∀ j : Int, 0 ≤ j → (j = v_iv (n_v vs 4) → w_ei ws (w_ar ws (n_v vs 0) 104) j = v_iv (n_v vs 5)) ∧ (j ≠ v_iv (n_v vs 4) → w_ei ws (w_ar ws (n_v vs 0) 104) j = w_ei w1 (w_ar ws (n_v vs 0) 104) j) := fun j hj => ⟨fun h => by unfold w_ei; rw [s1.1, if_pos ⟨ad_7.symm, by rw [h]⟩], fun h => by unfold w_ei; rw [s1.1, if_neg (fun e => h (by have := e.2; omega))]⟩
  have hE_0_108_1 : ∀ j : Int, w_ei ws (w_ar ws (n_v vs 0) 108) j = w_ei w1 (w_ar ws (n_v vs 0) 108) j := el_kp s1.1 r7 cr_0_108 (by decide)
  have hE_0_109_1 : ∀ j : Int, w_ei ws (w_ar ws (n_v vs 0) 109) j = w_ei w1 (w_ar ws (n_v vs 0) 109) j := el_kp s1.1 r7 cr_0_109 (by decide)
  have kz_0_100 := fdq_162 hD hth r0
  have kz_0_107 := fdq_163 hD hth r0
  have nf0 : fc_1 PRD (20, [2, 4, 8, 13], [60, 2, 4, 442, 5, 100, 2, 95, 102, 104]) ws (vs) := by
    refine ⟨nf_in hl rfl, sgq_1713 ?_⟩
    · show LID (w_fi ws (n_v vs 2) 5) (w_fi ws (n_v vs 2) 100) (w_ei ws (w_ar ws (n_v vs 2) 2)) (w_ei ws (w_ar ws (n_v vs 2) 95)) (w_ei ws (w_ar ws (n_v vs 2) 102)) (w_ei ws (w_ar ws (n_v vs 2) 104)) (v_iv (n_v vs 4)) (v_iv (n_v vs 8)) (v_iv (n_v vs 13))
      rw [q2]
      exact vc_Mo_list_3_0 (v_iv (n_v vs 4)) (v_iv (n_v vs 5)) (v_iv (n_v vs 6)) (v_iv (n_v vs 8)) (v_iv (n_v vs 10)) (v_iv (n_v vs 11)) (v_iv (n_v vs 13)) (w_ei ws (w_ar ws (n_v vs 0) 102)) (w_ei ws (w_ar ws (n_v vs 0) 2)) (w_ei ws (w_ar ws (n_v vs 0) 95)) (w_fi ws (n_v vs 0) 5) (w_ei ws (w_ar ws (n_v vs 0) 108)) (w_ei ws (w_ar ws (n_v vs 0) 109)) (w_fi ws (n_v vs 0) 107) (w_fi ws (n_v vs 0) 100) (w_fi w1 (n_v vs 0) 100) (w_ei w1 (w_ar ws (n_v vs 0) 2)) (w_ei w1 (w_ar ws (n_v vs 0) 95)) (w_ei w1 (w_ar ws (n_v vs 0) 102)) (w_ei w1 (w_ar ws (n_v vs 0) 104)) (w_fi w1 (n_v vs 0) 5) (w_ei w1 (w_ar ws (n_v vs 0) 108)) (w_ei w1 (w_ar ws (n_v vs 0) 109)) (w_fi w1 (n_v vs 0) 107) (w_ei ws (w_ar ws (n_v vs 0) 104)) k4 k5 k6 k8 k10 k11 k13 d0 d1 h1 f2 f4 f5 f6 f8 g13 f18 fe_0_5_1 fe_0_100_1 fe_0_107_1 hE_0_2_1 hE_0_95_1 hE_0_102_1 hE_0_104_1 hE_0_108_1 hE_0_109_1 kz_0_100 kz_0_107
  have nf1 : fc_1 PRD (20, [4, 2], [50, 1, 1, 1005, 1002, 0, 6, 4, 2, 1, 0, 0, 1, 3, 1, 2, 4, 3, 2, 1, 5, 0, 1]) ws (vs) := by
    refine ⟨nf_in hl rfl, sgq_1714 ?_⟩
    · show (v_iv (n_v vs 4) + 1) ≤ w_ei ws (w_ar ws (n_v vs 2) 2) ((w_fi ws (n_v vs 2) 5 + 1))
      rw [q2]
      exact vc_Mo_list_3_1 (v_iv (n_v vs 4)) (v_iv (n_v vs 6)) (w_ei ws (w_ar ws (n_v vs 0) 102)) (w_ei ws (w_ar ws (n_v vs 0) 2)) (w_ei ws (w_ar ws (n_v vs 0) 95)) (w_fi ws (n_v vs 0) 5) (w_ei ws (w_ar ws (n_v vs 0) 108)) (w_ei ws (w_ar ws (n_v vs 0) 109)) (w_fi ws (n_v vs 0) 107) (w_fi ws (n_v vs 0) 100) (w_fi w1 (n_v vs 0) 100) (w_ei w1 (w_ar ws (n_v vs 0) 2)) (w_ei w1 (w_ar ws (n_v vs 0) 95)) (w_ei w1 (w_ar ws (n_v vs 0) 102)) (w_fi w1 (n_v vs 0) 5) (w_ei w1 (w_ar ws (n_v vs 0) 108)) (w_ei w1 (w_ar ws (n_v vs 0) 109)) (w_fi w1 (n_v vs 0) 107) k4 k6 d1 f5 f6 f8 fe_0_5_1 fe_0_100_1 fe_0_107_1 hE_0_2_1 hE_0_95_1 hE_0_102_1 hE_0_108_1 hE_0_109_1 kz_0_100 kz_0_107
  refine ⟨(fun _ h => (by cases h)), [], trivial, ?_, (fun _ h => (by cases h))⟩
  rw [List.append_nil]
  exact List.forall_mem_cons.mpr ⟨⟨show (20 : Nat) < 100 from by decide, nf0⟩, List.forall_mem_cons.mpr ⟨⟨show (20 : Nat) < 100 from by decide, nf1⟩, (fun _ h => (by cases h))⟩⟩
set_option maxHeartbeats 4000000 in
theorem vc_Mo_list_4_0 (x4 : Int) (x5 : Int) (x6 : Int) (x9 : Int) (x10 : Int) (all_0 : Int → Int) (turned_0 : Int → Int) (r_0 : Int) (itemLayer_0 : Int → Int) (firstJoint_0 : Int → Int) (items_0 : Int) (k4 : 0 ≤ x4 ∧ x4 ≤ 47) (k5 : 0 ≤ x5 ∧ x5 ≤ 74) (k6 : 1 ≤ x6 ∧ x6 ≤ 76) (k9 : 0 ≤ x9 ∧ x9 ≤ 23) (k10 : 0 ≤ x10 ∧ x10 ≤ 75) (d0 : x10 + 0 ≤ x6 ∧ x6 ≤ x10 + 4294967296) (h2 : x10 = itemLayer_0 (x9)) (f3 : TOO (r_0) (all_0) (turned_0) (x4) (x9)) (f5 : LID (r_0) (items_0) (all_0) (turned_0) (itemLayer_0) (firstJoint_0) (x4) (x5) (x6)) (kz_0_100 : 0 ≤ items_0 ∧ items_0 ≤ 76) : LIG (r_0) (items_0) (all_0) (turned_0) (itemLayer_0) (firstJoint_0) (x4) (x5) (x6) := by
  (have h9 : TOO r_0 all_0 turned_0 x4 x9 := by assumption
   unfold TOO at h9
   exact ⟨‹LID _ _ _ _ _ _ _ _ _›, by rw [← h9]; omega⟩)
set_option maxHeartbeats 4000000 in
theorem vc_Mo_list_4_1 (x9 : Int) (x10 : Int) (itemLayer_0 : Int → Int) (lines_0 : Int) (gx : Int) (k9 : 0 ≤ x9 ∧ x9 ≤ 23) (k10 : 0 ≤ x10 ∧ x10 ≤ 75) (h2 : x10 = itemLayer_0 (x9)) (kz_0_107 : 0 ≤ lines_0 ∧ lines_0 ≤ 130) (ex2 : gx = lines_0) : lines_0 = gx := by
  try simp only [Int.add_zero] at *
  first
    | omega
    | (have h := lid_bd ‹LID _ _ _ _ _ _ _ _ _›; omega)
    | (have h := ‹LYJ _ _ _ _›.1.1.1; omega)
    | (have h := (lic_bd ‹LIC _ _ _ _ _ _ _›).1; omega)
    | (have h := (lic_bd ‹LIF _ _ _ _ _ _›).1; omega)
    | (have h := ‹LSA _ _ _ _ _ _ _ _ _ _›.2.1; omega)
    | (have h := lli_bd ‹LLI _ _ _ _ _ _›; have h2 := ‹LSA _ _ _ _ _ _ _ _ _ _›.2.1; omega)
set_option maxHeartbeats 4000000 in
theorem vc_Mo_list_4_2 (all_0 : Int → Int) (r_0 : Int) (itemLayer_0 : Int → Int) (items_0 : Int) (lineA_0 : Int → Int) (lineB_0 : Int → Int) (lines_0 : Int) (f6 : LNP (r_0) (lines_0) (items_0) (all_0) (itemLayer_0) (lineA_0) (lineB_0)) (kz_0_100 : 0 ≤ items_0 ∧ items_0 ≤ 76) (kz_0_107 : 0 ≤ lines_0 ∧ lines_0 ≤ 130) : LNP (r_0) (lines_0) (items_0) (all_0) (itemLayer_0) (lineA_0) (lineB_0) := by
  first
    | assumption
    | exact lnp_il ‹LNP _ _ _ _ _ _ _› (by assumption) (by omega)
set_option maxHeartbeats 4000000 in
theorem vc_Mo_list_4_3 (x4 : Int) (x5 : Int) (x6 : Int) (x9 : Int) (x10 : Int) (x11 : Int) (all_0 : Int → Int) (turned_0 : Int → Int) (r_0 : Int) (itemLayer_0 : Int → Int) (firstJoint_0 : Int → Int) (items_0 : Int) (k4 : 0 ≤ x4 ∧ x4 ≤ 47) (k5 : 0 ≤ x5 ∧ x5 ≤ 74) (k6 : 1 ≤ x6 ∧ x6 ≤ 76) (k9 : 0 ≤ x9 ∧ x9 ≤ 23) (k10 : 0 ≤ x10 ∧ x10 ≤ 75) (k11 : 0 ≤ x11 ∧ x11 ≤ 23) (d0 : x10 + 0 ≤ x6 ∧ x6 ≤ x10 + 4294967296) (f0 : TOO (r_0) (all_0) (turned_0) (x4) (x11)) (h2 : x10 = itemLayer_0 (x9)) (f3 : TOO (r_0) (all_0) (turned_0) (x4) (x9)) (f5 : LID (r_0) (items_0) (all_0) (turned_0) (itemLayer_0) (firstJoint_0) (x4) (x5) (x6)) (kz_0_100 : 0 ≤ items_0 ∧ items_0 ≤ 76) : LNK (r_0) (items_0) (all_0) (itemLayer_0) (x5) (x11) := by
  have h9 : TOO r_0 all_0 turned_0 x4 x9 := by assumption
  unfold TOO at h9
  exact lid_ln2 ‹LID _ _ _ _ _ _ _ _ _› (by rw [← h9]; omega) (by assumption)
set_option maxHeartbeats 4000000 in
theorem vc_Mo_list_4_4 (x4 : Int) (x9 : Int) (x10 : Int) (all_0 : Int → Int) (r_0 : Int) (itemLayer_0 : Int → Int) (items_0 : Int) (lines_0 : Int) (gx : Int) (k4 : 0 ≤ x4 ∧ x4 ≤ 47) (k9 : 0 ≤ x9 ∧ x9 ≤ 23) (k10 : 0 ≤ x10 ∧ x10 ≤ 75) (h2 : x10 = itemLayer_0 (x9)) (f8 : lines_0 = ((items_0 - all_0 (r_0)) + x4)) (kz_0_100 : 0 ≤ items_0 ∧ items_0 ≤ 76) (kz_0_107 : 0 ≤ lines_0 ∧ lines_0 ≤ 130) (ex2 : gx = lines_0) : gx = ((items_0 - all_0 (r_0)) + x4) := by
  try simp only [Int.add_zero] at *
  first
    | omega
    | (have h := lid_bd ‹LID _ _ _ _ _ _ _ _ _›; omega)
    | (have h := ‹LYJ _ _ _ _›.1.1.1; omega)
    | (have h := (lic_bd ‹LIC _ _ _ _ _ _ _›).1; omega)
    | (have h := (lic_bd ‹LIF _ _ _ _ _ _›).1; omega)
    | (have h := ‹LSA _ _ _ _ _ _ _ _ _ _›.2.1; omega)
    | (have h := lli_bd ‹LLI _ _ _ _ _ _›; have h2 := ‹LSA _ _ _ _ _ _ _ _ _ _›.2.1; omega)
def o_Mo_list_4 : or_T := (123, 12, [(0, (2, 0, 0, [165])), (2, (2, 0, 0, [165])), (4, (0, 0, 47, [])), (5, (0, 0, 74, [])), (6, (0, 1, 76, [])), (8, (2, 0, 0, [235])), (9, (0, 0, 23, [])), (10, (0, 0, 75, [])), (11, (0, 0, 23, []))], [(20, [2, 4, 11], [60, 1, 2, 433, 5, 2, 95]), (7, [6, 10], [3]), (10, [10, 8, 9], []), (20, [2, 4, 9], [60, 1, 2, 433, 5, 2, 95]), (9, [8, 2], [102]), (20, [2, 4, 5, 6], [60, 2, 4, 442, 5, 100, 2, 95, 102, 104]), (20, [2], [60, 3, 4, 439, 5, 107, 100, 2, 102, 108, 109]), (20, [4, 2], [50, 1, 1, 1005, 1002, 0, 6, 4, 2, 1, 0, 0, 1, 3, 1, 2, 4, 3, 2, 1, 5, 0, 1]), (20, [2, 4], [50, 3, 1, 107, 100, 5, 2, 1, 3, 2, 0, 107, 4, 11, 5, 3, 2, 0, 100, 3, 0, 2, 2, 0, 5, 1, 1]), (20, [2], [50, 1, 1, 5, 2, 0, 2, 0, 0, 3, 0, 2, 2, 0, 5]), (24, [0, 2], [])], [], [(0, 0, 129, [])], [(20, [2, 4, 5, 6], [60, 2, 4, 463, 5, 100, 2, 95, 102, 104]), (20, [2, 12], [50, 1, 0, 107, 1, 3, 2, 0, 107, 1, 1]), (20, [2], [60, 3, 4, 439, 5, 107, 100, 2, 102, 108, 109]), (20, [2, 5, 11], [60, 2, 2, 464, 5, 100, 2, 102]), (20, [12, 2, 4], [50, 2, 1, 1100, 1005, 1002, 1, 2, 1, 0, 4, 11, 5, 3, 2, 1, 100, 3, 1, 2, 2, 1, 5, 1, 2])], [], [(6, 10, 0, 4294967296)])
theorem oo_Mo_list_4 {kA : Nat → ClassId} : or_ok PRD kA GG o_Mo_list_4 := by
  refine or_mk fun A ta ws vs hD hth hl => ?_
  intro t0 r0 t2 r2 t4 k4 t5 k5 t6 k6 t8 r8 t9 k9 t10 k10 t11 k11 d0 f0 f1 f2 f3 f4 f5 f6 f7 f8 f9 f10
  replace f0 := shm_509 f0
  replace f1 := shm_2 f1
  replace f2 := shm_107 f2
  replace f3 := shm_509 f3
  replace f4 := shm_673 f4
  replace f5 := shm_1713 f5
  replace f6 := shm_630 f6
  replace f7 := shm_1714 f7
  replace f8 := shm_1706 f8
  replace f9 := shm_1708 f9
  replace f10 := shm_5 f10
  have q2 : n_v vs 2 = n_v vs 0 := f10.symm
  simp only [q2] at f0 f3 f4 f5 f6 f7 f8 f9
  have cr_0_2 := fdq_10 hD hth r0
  have cr_0_95 := fdq_130 hD hth r0
  have cr_0_102 := fdq_159 hD hth r0
  have cr_0_104 := fdq_170 hD hth r0
  have cr_0_108 := fdq_160 hD hth r0
  have cr_0_109 := fdq_161 hD hth r0
  have ad_8 : v_ad (n_v vs 8) = w_ar ws (n_v vs 0) 102 := congrArg v_ad f4
  simp only [ad_8] at f2
  have h2 : v_iv (n_v vs 10) = w_ei ws (w_ar ws (n_v vs 0) 102) (v_iv (n_v vs 9)) := f2
  have hK_0_95 := elq_71 hD hth cr_0_95
  have hK_0_102 := elq_91 hD hth cr_0_102
  have hK_0_104 := elq_100 hD hth cr_0_104
  have hK_0_108 := elq_92 hD hth cr_0_108
  have hK_0_109 := elq_93 hD hth cr_0_109
  have kz_0_100 := fdq_162 hD hth r0
  have kz_0_107 := fdq_163 hD hth r0
  have kv0 := fdq_163 hD hth r0
  obtain ⟨x, ex, hx⟩ := iv_ex (ta := ta) (lo := 0) (hi := 129) (z := w_fi ws (n_v vs 0) 107) (by omega) (by omega) (by omega) (by omega)
  have ex2 : v_iv (Value.int x) = w_fi ws (n_v vs 0) 107 := ex
  have ex3 : 0 ≤ v_iv (Value.int x) ∧ v_iv (Value.int x) ≤ 129 := tv_rng hx
  have e_2 : n_v (vs ++ [Value.int x]) 2 = n_v vs 2 := n_v_old (by rw [hl]; decide)
  have e_4 : n_v (vs ++ [Value.int x]) 4 = n_v vs 4 := n_v_old (by rw [hl]; decide)
  have e_5 : n_v (vs ++ [Value.int x]) 5 = n_v vs 5 := n_v_old (by rw [hl]; decide)
  have e_6 : n_v (vs ++ [Value.int x]) 6 = n_v vs 6 := n_v_old (by rw [hl]; decide)
  have e_11 : n_v (vs ++ [Value.int x]) 11 = n_v vs 11 := n_v_old (by rw [hl]; decide)
  have e_12 : n_v (vs ++ [Value.int x]) 12 = Value.int x := n_v_new hl
  have nf0 : fc_1 PRD (20, [2, 4, 5, 6], [60, 2, 4, 463, 5, 100, 2, 95, 102, 104]) ws (vs ++ [Value.int x]) := by
    refine ⟨nf_inA hl rfl, sgq_1715 ?_⟩
    · show LIG (w_fi ws (n_v (vs ++ [Value.int x]) 2) 5) (w_fi ws (n_v (vs ++ [Value.int x]) 2) 100) (w_ei ws (w_ar ws (n_v (vs ++ [Value.int x]) 2) 2)) (w_ei ws (w_ar ws (n_v (vs ++ [Value.int x]) 2) 95)) (w_ei ws (w_ar ws (n_v (vs ++ [Value.int x]) 2) 102)) (w_ei ws (w_ar ws (n_v (vs ++ [Value.int x]) 2) 104)) (v_iv (n_v (vs ++ [Value.int x]) 4)) (v_iv (n_v (vs ++ [Value.int x]) 5)) (v_iv (n_v (vs ++ [Value.int x]) 6))
      simp only [e_2, e_4, e_5, e_6, q2]
      exact vc_Mo_list_4_0 (v_iv (n_v vs 4)) (v_iv (n_v vs 5)) (v_iv (n_v vs 6)) (v_iv (n_v vs 9)) (v_iv (n_v vs 10)) (w_ei ws (w_ar ws (n_v vs 0) 2)) (w_ei ws (w_ar ws (n_v vs 0) 95)) (w_fi ws (n_v vs 0) 5) (w_ei ws (w_ar ws (n_v vs 0) 102)) (w_ei ws (w_ar ws (n_v vs 0) 104)) (w_fi ws (n_v vs 0) 100) k4 k5 k6 k9 k10 d0 h2 f3 f5 kz_0_100
  have nf1 : fc_1 PRD (20, [2, 12], [50, 1, 0, 107, 1, 3, 2, 0, 107, 1, 1]) ws (vs ++ [Value.int x]) := by
    refine ⟨nf_inA hl rfl, sgq_629 ?_⟩
    · show w_fi ws (n_v (vs ++ [Value.int x]) 2) 107 = v_iv (n_v (vs ++ [Value.int x]) 12)
      simp only [e_2, e_12, q2]
      exact vc_Mo_list_4_1 (v_iv (n_v vs 9)) (v_iv (n_v vs 10)) (w_ei ws (w_ar ws (n_v vs 0) 102)) (w_fi ws (n_v vs 0) 107) (v_iv (Value.int x)) k9 k10 h2 kz_0_107 ex2
  have nf2 : fc_1 PRD (20, [2], [60, 3, 4, 439, 5, 107, 100, 2, 102, 108, 109]) ws (vs ++ [Value.int x]) := by
    refine ⟨nf_inA hl rfl, sgq_630 ?_⟩
    · show LNP (w_fi ws (n_v (vs ++ [Value.int x]) 2) 5) (w_fi ws (n_v (vs ++ [Value.int x]) 2) 107) (w_fi ws (n_v (vs ++ [Value.int x]) 2) 100) (w_ei ws (w_ar ws (n_v (vs ++ [Value.int x]) 2) 2)) (w_ei ws (w_ar ws (n_v (vs ++ [Value.int x]) 2) 102)) (w_ei ws (w_ar ws (n_v (vs ++ [Value.int x]) 2) 108)) (w_ei ws (w_ar ws (n_v (vs ++ [Value.int x]) 2) 109))
      simp only [e_2, q2]
      exact vc_Mo_list_4_2 (w_ei ws (w_ar ws (n_v vs 0) 2)) (w_fi ws (n_v vs 0) 5) (w_ei ws (w_ar ws (n_v vs 0) 102)) (w_fi ws (n_v vs 0) 100) (w_ei ws (w_ar ws (n_v vs 0) 108)) (w_ei ws (w_ar ws (n_v vs 0) 109)) (w_fi ws (n_v vs 0) 107) f6 kz_0_100 kz_0_107
  have nf3 : fc_1 PRD (20, [2, 5, 11], [60, 2, 2, 464, 5, 100, 2, 102]) ws (vs ++ [Value.int x]) := by
    refine ⟨nf_inA hl rfl, sgq_635 ?_⟩
    · show LNK (w_fi ws (n_v (vs ++ [Value.int x]) 2) 5) (w_fi ws (n_v (vs ++ [Value.int x]) 2) 100) (w_ei ws (w_ar ws (n_v (vs ++ [Value.int x]) 2) 2)) (w_ei ws (w_ar ws (n_v (vs ++ [Value.int x]) 2) 102)) (v_iv (n_v (vs ++ [Value.int x]) 5)) (v_iv (n_v (vs ++ [Value.int x]) 11))
      simp only [e_2, e_5, e_11, q2]
      exact vc_Mo_list_4_3 (v_iv (n_v vs 4)) (v_iv (n_v vs 5)) (v_iv (n_v vs 6)) (v_iv (n_v vs 9)) (v_iv (n_v vs 10)) (v_iv (n_v vs 11)) (w_ei ws (w_ar ws (n_v vs 0) 2)) (w_ei ws (w_ar ws (n_v vs 0) 95)) (w_fi ws (n_v vs 0) 5) (w_ei ws (w_ar ws (n_v vs 0) 102)) (w_ei ws (w_ar ws (n_v vs 0) 104)) (w_fi ws (n_v vs 0) 100) k4 k5 k6 k9 k10 k11 d0 f0 h2 f3 f5 kz_0_100
  have nf4 : fc_1 PRD (20, [12, 2, 4], [50, 2, 1, 1100, 1005, 1002, 1, 2, 1, 0, 4, 11, 5, 3, 2, 1, 100, 3, 1, 2, 2, 1, 5, 1, 2]) ws (vs ++ [Value.int x]) := by
    refine ⟨nf_inA hl rfl, sgq_1716 ?_⟩
    · show v_iv (n_v (vs ++ [Value.int x]) 12) = ((w_fi ws (n_v (vs ++ [Value.int x]) 2) 100 - w_ei ws (w_ar ws (n_v (vs ++ [Value.int x]) 2) 2) (w_fi ws (n_v (vs ++ [Value.int x]) 2) 5)) + v_iv (n_v (vs ++ [Value.int x]) 4))
      simp only [e_2, e_4, e_12, q2]
      exact vc_Mo_list_4_4 (v_iv (n_v vs 4)) (v_iv (n_v vs 9)) (v_iv (n_v vs 10)) (w_ei ws (w_ar ws (n_v vs 0) 2)) (w_fi ws (n_v vs 0) 5) (w_ei ws (w_ar ws (n_v vs 0) 102)) (w_fi ws (n_v vs 0) 100) (w_fi ws (n_v vs 0) 107) (v_iv (Value.int x)) k4 k9 k10 h2 f8 kz_0_100 kz_0_107 ex2
  exact ⟨(fun _ h => (by cases h)), [Value.int x], ag_one hx, List.forall_mem_cons.mpr ⟨⟨show (20 : Nat) < 100 from by decide, nf0⟩, List.forall_mem_cons.mpr ⟨⟨show (20 : Nat) < 100 from by decide, nf1⟩, List.forall_mem_cons.mpr ⟨⟨show (20 : Nat) < 100 from by decide, nf2⟩, List.forall_mem_cons.mpr ⟨⟨show (20 : Nat) < 100 from by decide, nf3⟩, List.forall_mem_cons.mpr ⟨⟨show (20 : Nat) < 100 from by decide, nf4⟩, (fun _ h => (by cases h))⟩⟩⟩⟩⟩, (fun _ h => (by cases h))⟩
set_option maxHeartbeats 4000000 in
theorem vc_Mo_list_5_0 (x4 : Int) (x5 : Int) (x6 : Int) (x13 : Int) (all_0 : Int → Int) (turned_0 : Int → Int) (itemLayer_0 : Int → Int) (firstJoint_0 : Int → Int) (r_0 : Int) (items_0 : Int) (k4 : 0 ≤ x4 ∧ x4 ≤ 47) (k5 : 0 ≤ x5 ∧ x5 ≤ 74) (k6 : 1 ≤ x6 ∧ x6 ≤ 76) (k13 : 1 ≤ x13 ∧ x13 ≤ 48) (f0 : x13 = x4 + 1) (f1 : LIG (r_0) (items_0) (all_0) (turned_0) (itemLayer_0) (firstJoint_0) (x4) (x5) (x6)) (kz_0_100 : 0 ≤ items_0 ∧ items_0 ≤ 76) : LIC (r_0) (items_0) (all_0) (turned_0) (itemLayer_0) (firstJoint_0) (x13) := by
  try simp only [Int.add_zero] at *
  first
    | exact lic_zero ‹LYJ _ _ _ _› (by omega) (by omega)
    | exact lig_next ‹LIG _ _ _ _ _ _ _ _ _› (by assumption)
set_option maxHeartbeats 4000000 in
theorem vc_Mo_list_5_1 (x4 : Int) (x12 : Int) (x13 : Int) (all_0 : Int → Int) (r_0 : Int) (items_0 : Int) (lines_0 : Int) (k4 : 0 ≤ x4 ∧ x4 ≤ 47) (k12 : 0 ≤ x12 ∧ x12 ≤ 129) (k13 : 1 ≤ x13 ∧ x13 ≤ 48) (d0 : x4 + 1 ≤ x13 ∧ x13 ≤ x4 + 1) (f3 : x12 = ((items_0 - all_0 (r_0)) + x4)) (f10 : lines_0 = (x12 + 1)) (kz_0_100 : 0 ≤ items_0 ∧ items_0 ≤ 76) (kz_0_107 : 0 ≤ lines_0 ∧ lines_0 ≤ 130) : lines_0 = ((items_0 - all_0 (r_0)) + x13) := by
  try simp only [Int.add_zero] at *
  first
    | omega
    | (have h := lid_bd ‹LID _ _ _ _ _ _ _ _ _›; omega)
    | (have h := ‹LYJ _ _ _ _›.1.1.1; omega)
    | (have h := (lic_bd ‹LIC _ _ _ _ _ _ _›).1; omega)
    | (have h := (lic_bd ‹LIF _ _ _ _ _ _›).1; omega)
    | (have h := ‹LSA _ _ _ _ _ _ _ _ _ _›.2.1; omega)
    | (have h := lli_bd ‹LLI _ _ _ _ _ _›; have h2 := ‹LSA _ _ _ _ _ _ _ _ _ _›.2.1; omega)
set_option maxHeartbeats 4000000 in
theorem vc_Mo_list_5_2 (x4 : Int) (x12 : Int) (x13 : Int) (all_0 : Int → Int) (r_0 : Int) (items_0 : Int) (lines_0 : Int) (k4 : 0 ≤ x4 ∧ x4 ≤ 47) (k12 : 0 ≤ x12 ∧ x12 ≤ 129) (k13 : 1 ≤ x13 ∧ x13 ≤ 48) (d0 : x4 + 1 ≤ x13 ∧ x13 ≤ x4 + 1) (f3 : x12 = ((items_0 - all_0 (r_0)) + x4)) (f7 : (x4 + 1) ≤ all_0 ((r_0 + 1))) (f10 : lines_0 = (x12 + 1)) (kz_0_100 : 0 ≤ items_0 ∧ items_0 ≤ 76) (kz_0_107 : 0 ≤ lines_0 ∧ lines_0 ≤ 130) : x13 ≤ all_0 ((r_0 + 1)) := by
  try simp only [Int.add_zero] at *
  first
    | omega
    | (have h := lid_bd ‹LID _ _ _ _ _ _ _ _ _›; omega)
    | (have h := ‹LYJ _ _ _ _›.1.1.1; omega)
    | (have h := (lic_bd ‹LIC _ _ _ _ _ _ _›).1; omega)
    | (have h := (lic_bd ‹LIF _ _ _ _ _ _›).1; omega)
    | (have h := ‹LSA _ _ _ _ _ _ _ _ _ _›.2.1; omega)
    | (have h := lli_bd ‹LLI _ _ _ _ _ _›; have h2 := ‹LSA _ _ _ _ _ _ _ _ _ _›.2.1; omega)
def o_Mo_list_5 : or_T := (12, 14, [(0, (2, 0, 0, [165])), (4, (0, 0, 47, [])), (5, (0, 0, 74, [])), (6, (0, 1, 76, [])), (12, (0, 0, 129, [])), (13, (0, 1, 48, []))], [(6, [13, 4], [1]), (20, [2, 4, 5, 6], [60, 2, 4, 463, 5, 100, 2, 95, 102, 104]), (20, [12, 2, 4], [50, 2, 1, 1100, 1005, 1002, 1, 2, 1, 0, 4, 11, 5, 3, 2, 1, 100, 3, 1, 2, 2, 1, 5, 1, 2]), (20, [4, 2], [50, 1, 1, 1005, 1002, 0, 6, 4, 2, 1, 0, 0, 1, 3, 1, 2, 4, 3, 2, 1, 5, 0, 1]), (24, [0, 2], []), (20, [2, 12], [50, 1, 0, 107, 1, 3, 2, 0, 107, 4, 2, 1, 1, 0, 1])], [], [], [(20, [2, 13], [60, 2, 4, 441, 5, 100, 2, 95, 102, 104]), (20, [2, 13], [50, 3, 1, 107, 100, 5, 2, 1, 3, 2, 0, 107, 4, 11, 5, 3, 2, 0, 100, 3, 0, 2, 2, 0, 5, 1, 1]), (20, [13, 2], [50, 1, 1, 1005, 1002, 0, 2, 1, 0, 3, 1, 2, 4, 3, 2, 1, 5, 0, 1])], [], [(13, 4, 1, 1)])
theorem oo_Mo_list_5 {kA : Nat → ClassId} : or_ok PRD kA GG o_Mo_list_5 := by
  refine or_mk fun A ta ws vs hD hth hl => ?_
  intro t0 r0 t4 k4 t5 k5 t6 k6 t12 k12 t13 k13 d0 f0 f1 f3 f7 f9 f10
  replace f0 := shm_4 f0
  replace f1 := shm_1715 f1
  replace f3 := shm_1716 f3
  replace f7 := shm_1714 f7
  replace f9 := shm_5 f9
  replace f10 := shm_633 f10
  have q2 : n_v vs 2 = n_v vs 0 := f9.symm
  simp only [q2] at f1 f3 f7 f10
  have kz_0_100 := fdq_162 hD hth r0
  have kz_0_107 := fdq_163 hD hth r0
  have nf0 : fc_1 PRD (20, [2, 13], [60, 2, 4, 441, 5, 100, 2, 95, 102, 104]) ws (vs) := by
    refine ⟨nf_in hl rfl, sgq_1705 ?_⟩
    · show LIC (w_fi ws (n_v vs 2) 5) (w_fi ws (n_v vs 2) 100) (w_ei ws (w_ar ws (n_v vs 2) 2)) (w_ei ws (w_ar ws (n_v vs 2) 95)) (w_ei ws (w_ar ws (n_v vs 2) 102)) (w_ei ws (w_ar ws (n_v vs 2) 104)) (v_iv (n_v vs 13))
      rw [q2]
      exact vc_Mo_list_5_0 (v_iv (n_v vs 4)) (v_iv (n_v vs 5)) (v_iv (n_v vs 6)) (v_iv (n_v vs 13)) (w_ei ws (w_ar ws (n_v vs 0) 2)) (w_ei ws (w_ar ws (n_v vs 0) 95)) (w_ei ws (w_ar ws (n_v vs 0) 102)) (w_ei ws (w_ar ws (n_v vs 0) 104)) (w_fi ws (n_v vs 0) 5) (w_fi ws (n_v vs 0) 100) k4 k5 k6 k13 f0 f1 kz_0_100
  have nf1 : fc_1 PRD (20, [2, 13], [50, 3, 1, 107, 100, 5, 2, 1, 3, 2, 0, 107, 4, 11, 5, 3, 2, 0, 100, 3, 0, 2, 2, 0, 5, 1, 1]) ws (vs) := by
    refine ⟨nf_in hl rfl, sgq_1706 ?_⟩
    · show w_fi ws (n_v vs 2) 107 = ((w_fi ws (n_v vs 2) 100 - w_ei ws (w_ar ws (n_v vs 2) 2) (w_fi ws (n_v vs 2) 5)) + v_iv (n_v vs 13))
      rw [q2]
      exact vc_Mo_list_5_1 (v_iv (n_v vs 4)) (v_iv (n_v vs 12)) (v_iv (n_v vs 13)) (w_ei ws (w_ar ws (n_v vs 0) 2)) (w_fi ws (n_v vs 0) 5) (w_fi ws (n_v vs 0) 100) (w_fi ws (n_v vs 0) 107) k4 k12 k13 d0 f3 f10 kz_0_100 kz_0_107
  have nf2 : fc_1 PRD (20, [13, 2], [50, 1, 1, 1005, 1002, 0, 2, 1, 0, 3, 1, 2, 4, 3, 2, 1, 5, 0, 1]) ws (vs) := by
    refine ⟨nf_in hl rfl, sgq_1707 ?_⟩
    · show v_iv (n_v vs 13) ≤ w_ei ws (w_ar ws (n_v vs 2) 2) ((w_fi ws (n_v vs 2) 5 + 1))
      rw [q2]
      exact vc_Mo_list_5_2 (v_iv (n_v vs 4)) (v_iv (n_v vs 12)) (v_iv (n_v vs 13)) (w_ei ws (w_ar ws (n_v vs 0) 2)) (w_fi ws (n_v vs 0) 5) (w_fi ws (n_v vs 0) 100) (w_fi ws (n_v vs 0) 107) k4 k12 k13 d0 f3 f7 f10 kz_0_100 kz_0_107
  refine ⟨(fun _ h => (by cases h)), [], trivial, ?_, (fun _ h => (by cases h))⟩
  rw [List.append_nil]
  exact List.forall_mem_cons.mpr ⟨⟨show (20 : Nat) < 100 from by decide, nf0⟩, List.forall_mem_cons.mpr ⟨⟨show (20 : Nat) < 100 from by decide, nf1⟩, List.forall_mem_cons.mpr ⟨⟨show (20 : Nat) < 100 from by decide, nf2⟩, (fun _ h => (by cases h))⟩⟩⟩
set_option maxHeartbeats 4000000 in
theorem vc_Mo_list_6_r0 (x4 : Int) (x5 : Int) (x6 : Int) (x7 : Int) (items_0 : Int) (itemLayer_0 : Int → Int) (all_0 : Int → Int) (turned_0 : Int → Int) (r_0 : Int) (firstJoint_0 : Int → Int) (k4 : 0 ≤ x4 ∧ x4 ≤ 47) (k5 : 0 ≤ x5 ∧ x5 ≤ 74) (k6 : 1 ≤ x6 ∧ x6 ≤ 74) (k7 : 0 ≤ x7 ∧ x7 ≤ 75) (g0 : x7 = items_0) (f5 : LID (r_0) (items_0) (all_0) (turned_0) (itemLayer_0) (firstJoint_0) (x4) (x5) (x6)) (kz_0_100 : 0 ≤ items_0 ∧ items_0 ≤ 76) : 0 ≤ x7 ∧ x7 ≤ 74 := by
  try simp only [Int.add_zero] at *
  first
    | omega
    | (have h := lid_bd ‹LID _ _ _ _ _ _ _ _ _›; omega)
    | (have h := ‹LYJ _ _ _ _›.1.1.1; omega)
    | (have h := (lic_bd ‹LIC _ _ _ _ _ _ _›).1; omega)
    | (have h := (lic_bd ‹LIF _ _ _ _ _ _›).1; omega)
    | (have h := ‹LSA _ _ _ _ _ _ _ _ _ _›.2.1; omega)
    | (have h := lli_bd ‹LLI _ _ _ _ _ _›; have h2 := ‹LSA _ _ _ _ _ _ _ _ _ _›.2.1; omega)
set_option maxHeartbeats 4000000 in
theorem vc_Mo_list_6_r1 (x4 : Int) (x5 : Int) (x6 : Int) (items_0 : Int) (itemLayer_0 : Int → Int) (all_0 : Int → Int) (turned_0 : Int → Int) (r_0 : Int) (firstJoint_0 : Int → Int) (k4 : 0 ≤ x4 ∧ x4 ≤ 47) (k5 : 0 ≤ x5 ∧ x5 ≤ 74) (k6 : 1 ≤ x6 ∧ x6 ≤ 74) (f5 : LID (r_0) (items_0) (all_0) (turned_0) (itemLayer_0) (firstJoint_0) (x4) (x5) (x6)) (kz_0_100 : 0 ≤ items_0 ∧ items_0 ≤ 76) : 1 ≤ x6 ∧ x6 ≤ 23 := by
  try simp only [Int.add_zero] at *
  first
    | omega
    | (have h := lid_bd ‹LID _ _ _ _ _ _ _ _ _›; omega)
    | (have h := ‹LYJ _ _ _ _›.1.1.1; omega)
    | (have h := (lic_bd ‹LIC _ _ _ _ _ _ _›).1; omega)
    | (have h := (lic_bd ‹LIF _ _ _ _ _ _›).1; omega)
    | (have h := ‹LSA _ _ _ _ _ _ _ _ _ _›.2.1; omega)
    | (have h := lli_bd ‹LLI _ _ _ _ _ _›; have h2 := ‹LSA _ _ _ _ _ _ _ _ _ _›.2.1; omega)
def o_Mo_list_6 : or_T := (75, 11, [(0, (2, 0, 0, [165])), (2, (2, 0, 0, [165])), (4, (0, 0, 47, [])), (5, (0, 0, 74, [])), (6, (0, 1, 74, [])), (7, (0, 0, 75, [])), (8, (2, 0, 0, [235])), (9, (0, 0, 23, [])), (10, (0, 2, 75, []))], [(9, [7, 2], [100]), (9, [8, 2], [102]), (7, [6, 10], [2]), (10, [10, 8, 9], []), (20, [2, 4, 9], [60, 1, 2, 433, 5, 2, 95]), (20, [2, 4, 5, 6], [60, 2, 4, 442, 5, 100, 2, 95, 102, 104]), (20, [2], [60, 3, 4, 439, 5, 107, 100, 2, 102, 108, 109]), (20, [4, 2], [50, 1, 1, 1005, 1002, 0, 6, 4, 2, 1, 0, 0, 1, 3, 1, 2, 4, 3, 2, 1, 5, 0, 1]), (20, [2, 4], [50, 3, 1, 107, 100, 5, 2, 1, 3, 2, 0, 107, 4, 11, 5, 3, 2, 0, 100, 3, 0, 2, 2, 0, 5, 1, 1]), (20, [2], [50, 1, 1, 5, 2, 0, 2, 0, 0, 3, 0, 2, 2, 0, 5]), (24, [0, 2], [])], [(7, (0, 0, 74, [])), (6, (0, 1, 23, []))], [], [], [], [(6, 10, -4294967296, -1), (5, 7, -4294967296, 23)])
theorem oo_Mo_list_6 {kA : Nat → ClassId} : or_ok PRD kA GG o_Mo_list_6 := by
  refine or_mk fun A ta ws vs hD hth hl => ?_
  intro t0 r0 t2 r2 t4 k4 t5 k5 t6 k6 t7 k7 t8 r8 t9 k9 t10 k10 d0 d1 f0 f1 f2 f3 f4 f5 f6 f7 f8 f9 f10
  replace f0 := shm_1555 f0
  replace f5 := shm_1713 f5
  replace f10 := shm_5 f10
  have q2 : n_v vs 2 = n_v vs 0 := f10.symm
  simp only [q2] at f0 f5
  have g0 : v_iv (n_v vs 7) = w_fi ws (n_v vs 0) 100 := congrArg v_iv f0
  have kz_0_100 := fdq_162 hD hth r0
  have hrf0 : 0 ≤ v_iv (n_v vs 7) ∧ v_iv (n_v vs 7) ≤ 74 := vc_Mo_list_6_r0 (v_iv (n_v vs 4)) (v_iv (n_v vs 5)) (v_iv (n_v vs 6)) (v_iv (n_v vs 7)) (w_fi ws (n_v vs 0) 100) (w_ei ws (w_ar ws (n_v vs 0) 102)) (w_ei ws (w_ar ws (n_v vs 0) 2)) (w_ei ws (w_ar ws (n_v vs 0) 95)) (w_fi ws (n_v vs 0) 5) (w_ei ws (w_ar ws (n_v vs 0) 104)) k4 k5 k6 k7 g0 f5 kz_0_100
  have hrf1 : 1 ≤ v_iv (n_v vs 6) ∧ v_iv (n_v vs 6) ≤ 23 := vc_Mo_list_6_r1 (v_iv (n_v vs 4)) (v_iv (n_v vs 5)) (v_iv (n_v vs 6)) (w_fi ws (n_v vs 0) 100) (w_ei ws (w_ar ws (n_v vs 0) 102)) (w_ei ws (w_ar ws (n_v vs 0) 2)) (w_ei ws (w_ar ws (n_v vs 0) 95)) (w_fi ws (n_v vs 0) 5) (w_ei ws (w_ar ws (n_v vs 0) 104)) k4 k5 k6 f5 kz_0_100
  have rf7 : tv_ok ta (0, 0, 74, []) (n_v vs 7) := tv_in t7 (by first | omega | grind) (by first | omega | grind)
  have rf6 : tv_ok ta (0, 1, 23, []) (n_v vs 6) := tv_in t6 (by first | omega | grind) (by first | omega | grind)
  refine ⟨List.forall_mem_cons.mpr ⟨rf7, List.forall_mem_cons.mpr ⟨rf6, (fun _ h => (by cases h))⟩⟩, [], trivial, ?_, (fun _ h => (by cases h))⟩
  rw [List.append_nil]
  exact (fun _ h => (by cases h))
set_option maxHeartbeats 4000000 in
theorem vc_Mo_list_7_0 (x4 : Int) (x5 : Int) (x6 : Int) (x7 : Int) (x9 : Int) (x10 : Int) (items_0 : Int) (all_0 : Int → Int) (turned_0 : Int → Int) (r_0 : Int) (lines_0 : Int) (all_1 : Int → Int) (turned_1 : Int → Int) (r_1 : Int) (lines_1 : Int) (items_1 : Int) (itemLayer_2 : Int → Int) (all_2 : Int → Int) (turned_2 : Int → Int) (r_2 : Int) (firstJoint_2 : Int → Int) (items_2 : Int) (lineA_2 : Int → Int) (lineB_2 : Int → Int) (lines_2 : Int) (itemLayer_0 : Int → Int) (itemLayer_1 : Int → Int) (itemEdge_1 : Int → Int) (itemEdge_2 : Int → Int) (firstJoint_0 : Int → Int) (firstJoint_1 : Int → Int) (lineA_0 : Int → Int) (lineA_1 : Int → Int) (lineB_0 : Int → Int) (lineB_1 : Int → Int) (k4 : 0 ≤ x4 ∧ x4 ≤ 47) (k5 : 0 ≤ x5 ∧ x5 ≤ 74) (k6 : 1 ≤ x6 ∧ x6 ≤ 23) (k7 : 0 ≤ x7 ∧ x7 ≤ 74) (k9 : 0 ≤ x9 ∧ x9 ≤ 23) (k10 : 2 ≤ x10 ∧ x10 ≤ 75) (d0 : x10 + (-4294967296) ≤ x6 ∧ x6 ≤ x10 + (-1)) (g0 : x7 = items_0) (h15 : x10 = itemLayer_2 (x9)) (f16 : TOO (r_2) (all_2) (turned_2) (x4) (x9)) (f17 : LID (r_2) (items_2) (all_2) (turned_2) (itemLayer_2) (firstJoint_2) (x4) (x5) (x6)) (fe_0_5_1 : r_0 = r_1) (fe_0_100_1 : items_0 = items_1) (fe_0_107_1 : lines_0 = lines_1) (fe_0_5_2 : r_1 = r_2) (fe_0_100_2 : items_1 = items_2) (fe_0_107_2 : lines_1 = lines_2) (hE_0_2_1 : ∀ j : Int, all_0 j = all_1 j) (hE_0_2_2 : ∀ j : Int, all_1 j = all_2 j) (hE_0_95_1 : ∀ j : Int, turned_0 j = turned_1 j) (hE_0_95_2 : ∀ j : Int, turned_1 j = turned_2 j) (hE_0_102_1 : ∀ j : Int, itemLayer_0 j = itemLayer_1 j) (hE_0_102_2 : ∀ j : Int, 0 ≤ j → (j = x7 → itemLayer_1 j = x6) ∧ (j ≠ x7 → itemLayer_1 j = itemLayer_2 j)) (hE_0_103_2 : ∀ j : Int, itemEdge_1 j = itemEdge_2 j) (hE_0_104_1 : ∀ j : Int, firstJoint_0 j = firstJoint_1 j) (hE_0_104_2 : ∀ j : Int, firstJoint_1 j = firstJoint_2 j) (hE_0_108_1 : ∀ j : Int, lineA_0 j = lineA_1 j) (hE_0_108_2 : ∀ j : Int, lineA_1 j = lineA_2 j) (hE_0_109_1 : ∀ j : Int, lineB_0 j = lineB_1 j) (hE_0_109_2 : ∀ j : Int, lineB_1 j = lineB_2 j) (kz_0_100 : 0 ≤ items_0 ∧ items_0 ≤ 76) (kz_0_107 : 0 ≤ lines_0 ∧ lines_0 ≤ 130) : LIE (r_0) (items_0) (all_0) (turned_0) (itemLayer_0) (firstJoint_0) (x4) (x5) (x6) := by
  subst fe_0_5_1
  subst fe_0_100_1
  subst fe_0_107_1
  subst fe_0_5_2
  subst fe_0_100_2
  subst fe_0_107_2
  have e_hE_0_2_1 := funext hE_0_2_1; subst e_hE_0_2_1
  have e_hE_0_2_2 := funext hE_0_2_2; subst e_hE_0_2_2
  have e_hE_0_95_1 := funext hE_0_95_1; subst e_hE_0_95_1
  have e_hE_0_95_2 := funext hE_0_95_2; subst e_hE_0_95_2
  have e_hE_0_102_1 := funext hE_0_102_1; subst e_hE_0_102_1
  have e_hE_0_103_2 := funext hE_0_103_2; subst e_hE_0_103_2
  have e_hE_0_104_1 := funext hE_0_104_1; subst e_hE_0_104_1
  have e_hE_0_104_2 := funext hE_0_104_2; subst e_hE_0_104_2
  have e_hE_0_108_1 := funext hE_0_108_1; subst e_hE_0_108_1
  have e_hE_0_108_2 := funext hE_0_108_2; subst e_hE_0_108_2
  have e_hE_0_109_1 := funext hE_0_109_1; subst e_hE_0_109_1
  have e_hE_0_109_2 := funext hE_0_109_2; subst e_hE_0_109_2
  (have h9 : TOO r_0 all_0 turned_0 x4 x9 := by assumption
   unfold TOO at h9
   refine ⟨_, ‹LID _ _ _ _ _ _ _ _ _›, by rw [← h9]; omega, ?_⟩
   rw [show items_0 = x7 by omega]; assumption)
set_option maxHeartbeats 4000000 in
theorem vc_Mo_list_7_1 (items_0 : Int) (all_0 : Int → Int) (turned_0 : Int → Int) (r_0 : Int) (lines_0 : Int) (all_1 : Int → Int) (turned_1 : Int → Int) (r_1 : Int) (lines_1 : Int) (items_1 : Int) (all_2 : Int → Int) (turned_2 : Int → Int) (r_2 : Int) (firstJoint_2 : Int → Int) (items_2 : Int) (lineA_2 : Int → Int) (lineB_2 : Int → Int) (lines_2 : Int) (itemLayer_0 : Int → Int) (itemLayer_1 : Int → Int) (itemEdge_1 : Int → Int) (itemEdge_2 : Int → Int) (firstJoint_0 : Int → Int) (firstJoint_1 : Int → Int) (lineA_0 : Int → Int) (lineA_1 : Int → Int) (lineB_0 : Int → Int) (lineB_1 : Int → Int) (gx : Int) (fe_0_5_1 : r_0 = r_1) (fe_0_100_1 : items_0 = items_1) (fe_0_107_1 : lines_0 = lines_1) (fe_0_5_2 : r_1 = r_2) (fe_0_100_2 : items_1 = items_2) (fe_0_107_2 : lines_1 = lines_2) (hE_0_2_1 : ∀ j : Int, all_0 j = all_1 j) (hE_0_2_2 : ∀ j : Int, all_1 j = all_2 j) (hE_0_95_1 : ∀ j : Int, turned_0 j = turned_1 j) (hE_0_95_2 : ∀ j : Int, turned_1 j = turned_2 j) (hE_0_102_1 : ∀ j : Int, itemLayer_0 j = itemLayer_1 j) (hE_0_103_2 : ∀ j : Int, itemEdge_1 j = itemEdge_2 j) (hE_0_104_1 : ∀ j : Int, firstJoint_0 j = firstJoint_1 j) (hE_0_104_2 : ∀ j : Int, firstJoint_1 j = firstJoint_2 j) (hE_0_108_1 : ∀ j : Int, lineA_0 j = lineA_1 j) (hE_0_108_2 : ∀ j : Int, lineA_1 j = lineA_2 j) (hE_0_109_1 : ∀ j : Int, lineB_0 j = lineB_1 j) (hE_0_109_2 : ∀ j : Int, lineB_1 j = lineB_2 j) (kz_0_100 : 0 ≤ items_0 ∧ items_0 ≤ 76) (kz_0_107 : 0 ≤ lines_0 ∧ lines_0 ≤ 130) (ex2 : gx = lines_0) : lines_0 = gx := by
  subst fe_0_5_1
  subst fe_0_100_1
  subst fe_0_107_1
  subst fe_0_5_2
  subst fe_0_100_2
  subst fe_0_107_2
  have e_hE_0_2_1 := funext hE_0_2_1; subst e_hE_0_2_1
  have e_hE_0_2_2 := funext hE_0_2_2; subst e_hE_0_2_2
  have e_hE_0_95_1 := funext hE_0_95_1; subst e_hE_0_95_1
  have e_hE_0_95_2 := funext hE_0_95_2; subst e_hE_0_95_2
  have e_hE_0_102_1 := funext hE_0_102_1; subst e_hE_0_102_1
  have e_hE_0_103_2 := funext hE_0_103_2; subst e_hE_0_103_2
  have e_hE_0_104_1 := funext hE_0_104_1; subst e_hE_0_104_1
  have e_hE_0_104_2 := funext hE_0_104_2; subst e_hE_0_104_2
  have e_hE_0_108_1 := funext hE_0_108_1; subst e_hE_0_108_1
  have e_hE_0_108_2 := funext hE_0_108_2; subst e_hE_0_108_2
  have e_hE_0_109_1 := funext hE_0_109_1; subst e_hE_0_109_1
  have e_hE_0_109_2 := funext hE_0_109_2; subst e_hE_0_109_2
  try simp only [Int.add_zero] at *
  first
    | omega
    | (have h := lid_bd ‹LID _ _ _ _ _ _ _ _ _›; omega)
    | (have h := ‹LYJ _ _ _ _›.1.1.1; omega)
    | (have h := (lic_bd ‹LIC _ _ _ _ _ _ _›).1; omega)
    | (have h := (lic_bd ‹LIF _ _ _ _ _ _›).1; omega)
    | (have h := ‹LSA _ _ _ _ _ _ _ _ _ _›.2.1; omega)
    | (have h := lli_bd ‹LLI _ _ _ _ _ _›; have h2 := ‹LSA _ _ _ _ _ _ _ _ _ _›.2.1; omega)
set_option maxHeartbeats 4000000 in
theorem vc_Mo_list_7_2 (x6 : Int) (x7 : Int) (items_0 : Int) (all_0 : Int → Int) (turned_0 : Int → Int) (r_0 : Int) (lines_0 : Int) (all_1 : Int → Int) (turned_1 : Int → Int) (r_1 : Int) (lines_1 : Int) (items_1 : Int) (itemLayer_2 : Int → Int) (all_2 : Int → Int) (turned_2 : Int → Int) (r_2 : Int) (firstJoint_2 : Int → Int) (items_2 : Int) (lineA_2 : Int → Int) (lineB_2 : Int → Int) (lines_2 : Int) (itemLayer_0 : Int → Int) (itemLayer_1 : Int → Int) (itemEdge_1 : Int → Int) (itemEdge_2 : Int → Int) (firstJoint_0 : Int → Int) (firstJoint_1 : Int → Int) (lineA_0 : Int → Int) (lineA_1 : Int → Int) (lineB_0 : Int → Int) (lineB_1 : Int → Int) (k6 : 1 ≤ x6 ∧ x6 ≤ 23) (k7 : 0 ≤ x7 ∧ x7 ≤ 74) (g0 : x7 = items_0) (f18 : LNP (r_2) (lines_2) (items_2) (all_2) (itemLayer_2) (lineA_2) (lineB_2)) (fe_0_5_1 : r_0 = r_1) (fe_0_100_1 : items_0 = items_1) (fe_0_107_1 : lines_0 = lines_1) (fe_0_5_2 : r_1 = r_2) (fe_0_100_2 : items_1 = items_2) (fe_0_107_2 : lines_1 = lines_2) (hE_0_2_1 : ∀ j : Int, all_0 j = all_1 j) (hE_0_2_2 : ∀ j : Int, all_1 j = all_2 j) (hE_0_95_1 : ∀ j : Int, turned_0 j = turned_1 j) (hE_0_95_2 : ∀ j : Int, turned_1 j = turned_2 j) (hE_0_102_1 : ∀ j : Int, itemLayer_0 j = itemLayer_1 j) (hE_0_102_2 : ∀ j : Int, 0 ≤ j → (j = x7 → itemLayer_1 j = x6) ∧ (j ≠ x7 → itemLayer_1 j = itemLayer_2 j)) (hE_0_103_2 : ∀ j : Int, itemEdge_1 j = itemEdge_2 j) (hE_0_104_1 : ∀ j : Int, firstJoint_0 j = firstJoint_1 j) (hE_0_104_2 : ∀ j : Int, firstJoint_1 j = firstJoint_2 j) (hE_0_108_1 : ∀ j : Int, lineA_0 j = lineA_1 j) (hE_0_108_2 : ∀ j : Int, lineA_1 j = lineA_2 j) (hE_0_109_1 : ∀ j : Int, lineB_0 j = lineB_1 j) (hE_0_109_2 : ∀ j : Int, lineB_1 j = lineB_2 j) (kz_0_100 : 0 ≤ items_0 ∧ items_0 ≤ 76) (kz_0_107 : 0 ≤ lines_0 ∧ lines_0 ≤ 130) : LNP (r_0) (lines_0) (items_0) (all_0) (itemLayer_0) (lineA_0) (lineB_0) := by
  subst fe_0_5_1
  subst fe_0_100_1
  subst fe_0_107_1
  subst fe_0_5_2
  subst fe_0_100_2
  subst fe_0_107_2
  have e_hE_0_2_1 := funext hE_0_2_1; subst e_hE_0_2_1
  have e_hE_0_2_2 := funext hE_0_2_2; subst e_hE_0_2_2
  have e_hE_0_95_1 := funext hE_0_95_1; subst e_hE_0_95_1
  have e_hE_0_95_2 := funext hE_0_95_2; subst e_hE_0_95_2
  have e_hE_0_102_1 := funext hE_0_102_1; subst e_hE_0_102_1
  have e_hE_0_103_2 := funext hE_0_103_2; subst e_hE_0_103_2
  have e_hE_0_104_1 := funext hE_0_104_1; subst e_hE_0_104_1
  have e_hE_0_104_2 := funext hE_0_104_2; subst e_hE_0_104_2
  have e_hE_0_108_1 := funext hE_0_108_1; subst e_hE_0_108_1
  have e_hE_0_108_2 := funext hE_0_108_2; subst e_hE_0_108_2
  have e_hE_0_109_1 := funext hE_0_109_1; subst e_hE_0_109_1
  have e_hE_0_109_2 := funext hE_0_109_2; subst e_hE_0_109_2
  first
    | assumption
    | exact lnp_il ‹LNP _ _ _ _ _ _ _› (by assumption) (by omega)
set_option maxHeartbeats 4000000 in
theorem vc_Mo_list_7_3 (x4 : Int) (x5 : Int) (x6 : Int) (x7 : Int) (items_0 : Int) (all_0 : Int → Int) (turned_0 : Int → Int) (r_0 : Int) (lines_0 : Int) (all_1 : Int → Int) (turned_1 : Int → Int) (r_1 : Int) (lines_1 : Int) (items_1 : Int) (itemLayer_2 : Int → Int) (all_2 : Int → Int) (turned_2 : Int → Int) (r_2 : Int) (firstJoint_2 : Int → Int) (items_2 : Int) (lineA_2 : Int → Int) (lineB_2 : Int → Int) (lines_2 : Int) (itemLayer_0 : Int → Int) (itemLayer_1 : Int → Int) (itemEdge_1 : Int → Int) (itemEdge_2 : Int → Int) (firstJoint_0 : Int → Int) (firstJoint_1 : Int → Int) (lineA_0 : Int → Int) (lineA_1 : Int → Int) (lineB_0 : Int → Int) (lineB_1 : Int → Int) (k4 : 0 ≤ x4 ∧ x4 ≤ 47) (k5 : 0 ≤ x5 ∧ x5 ≤ 74) (k6 : 1 ≤ x6 ∧ x6 ≤ 23) (k7 : 0 ≤ x7 ∧ x7 ≤ 74) (g0 : x7 = items_0) (f17 : LID (r_2) (items_2) (all_2) (turned_2) (itemLayer_2) (firstJoint_2) (x4) (x5) (x6)) (fe_0_5_1 : r_0 = r_1) (fe_0_100_1 : items_0 = items_1) (fe_0_107_1 : lines_0 = lines_1) (fe_0_5_2 : r_1 = r_2) (fe_0_100_2 : items_1 = items_2) (fe_0_107_2 : lines_1 = lines_2) (hE_0_2_1 : ∀ j : Int, all_0 j = all_1 j) (hE_0_2_2 : ∀ j : Int, all_1 j = all_2 j) (hE_0_95_1 : ∀ j : Int, turned_0 j = turned_1 j) (hE_0_95_2 : ∀ j : Int, turned_1 j = turned_2 j) (hE_0_102_1 : ∀ j : Int, itemLayer_0 j = itemLayer_1 j) (hE_0_102_2 : ∀ j : Int, 0 ≤ j → (j = x7 → itemLayer_1 j = x6) ∧ (j ≠ x7 → itemLayer_1 j = itemLayer_2 j)) (hE_0_103_2 : ∀ j : Int, itemEdge_1 j = itemEdge_2 j) (hE_0_104_1 : ∀ j : Int, firstJoint_0 j = firstJoint_1 j) (hE_0_104_2 : ∀ j : Int, firstJoint_1 j = firstJoint_2 j) (hE_0_108_1 : ∀ j : Int, lineA_0 j = lineA_1 j) (hE_0_108_2 : ∀ j : Int, lineA_1 j = lineA_2 j) (hE_0_109_1 : ∀ j : Int, lineB_0 j = lineB_1 j) (hE_0_109_2 : ∀ j : Int, lineB_1 j = lineB_2 j) (kz_0_100 : 0 ≤ items_0 ∧ items_0 ≤ 76) (kz_0_107 : 0 ≤ lines_0 ∧ lines_0 ≤ 130) : LNM (r_0) (items_0) (all_0) (itemLayer_0) (x5) (x7) := by
  subst fe_0_5_1
  subst fe_0_100_1
  subst fe_0_107_1
  subst fe_0_5_2
  subst fe_0_100_2
  subst fe_0_107_2
  have e_hE_0_2_1 := funext hE_0_2_1; subst e_hE_0_2_1
  have e_hE_0_2_2 := funext hE_0_2_2; subst e_hE_0_2_2
  have e_hE_0_95_1 := funext hE_0_95_1; subst e_hE_0_95_1
  have e_hE_0_95_2 := funext hE_0_95_2; subst e_hE_0_95_2
  have e_hE_0_102_1 := funext hE_0_102_1; subst e_hE_0_102_1
  have e_hE_0_103_2 := funext hE_0_103_2; subst e_hE_0_103_2
  have e_hE_0_104_1 := funext hE_0_104_1; subst e_hE_0_104_1
  have e_hE_0_104_2 := funext hE_0_104_2; subst e_hE_0_104_2
  have e_hE_0_108_1 := funext hE_0_108_1; subst e_hE_0_108_1
  have e_hE_0_108_2 := funext hE_0_108_2; subst e_hE_0_108_2
  have e_hE_0_109_1 := funext hE_0_109_1; subst e_hE_0_109_1
  have e_hE_0_109_2 := funext hE_0_109_2; subst e_hE_0_109_2
  rw [show x7 = items_0 by omega]
  exact lid_ln1 ‹LID _ _ _ _ _ _ _ _ _› (by assumption) (by omega) (by omega)
set_option maxHeartbeats 4000000 in
theorem vc_Mo_list_7_4 (x4 : Int) (items_0 : Int) (all_0 : Int → Int) (turned_0 : Int → Int) (r_0 : Int) (lines_0 : Int) (all_1 : Int → Int) (turned_1 : Int → Int) (r_1 : Int) (lines_1 : Int) (items_1 : Int) (all_2 : Int → Int) (turned_2 : Int → Int) (r_2 : Int) (firstJoint_2 : Int → Int) (items_2 : Int) (lineA_2 : Int → Int) (lineB_2 : Int → Int) (lines_2 : Int) (itemLayer_0 : Int → Int) (itemLayer_1 : Int → Int) (itemEdge_1 : Int → Int) (itemEdge_2 : Int → Int) (firstJoint_0 : Int → Int) (firstJoint_1 : Int → Int) (lineA_0 : Int → Int) (lineA_1 : Int → Int) (lineB_0 : Int → Int) (lineB_1 : Int → Int) (gx : Int) (k4 : 0 ≤ x4 ∧ x4 ≤ 47) (f3 : lines_0 = ((items_0 - all_0 (r_0)) + x4)) (fe_0_5_1 : r_0 = r_1) (fe_0_100_1 : items_0 = items_1) (fe_0_107_1 : lines_0 = lines_1) (fe_0_5_2 : r_1 = r_2) (fe_0_100_2 : items_1 = items_2) (fe_0_107_2 : lines_1 = lines_2) (hE_0_2_1 : ∀ j : Int, all_0 j = all_1 j) (hE_0_2_2 : ∀ j : Int, all_1 j = all_2 j) (hE_0_95_1 : ∀ j : Int, turned_0 j = turned_1 j) (hE_0_95_2 : ∀ j : Int, turned_1 j = turned_2 j) (hE_0_102_1 : ∀ j : Int, itemLayer_0 j = itemLayer_1 j) (hE_0_103_2 : ∀ j : Int, itemEdge_1 j = itemEdge_2 j) (hE_0_104_1 : ∀ j : Int, firstJoint_0 j = firstJoint_1 j) (hE_0_104_2 : ∀ j : Int, firstJoint_1 j = firstJoint_2 j) (hE_0_108_1 : ∀ j : Int, lineA_0 j = lineA_1 j) (hE_0_108_2 : ∀ j : Int, lineA_1 j = lineA_2 j) (hE_0_109_1 : ∀ j : Int, lineB_0 j = lineB_1 j) (hE_0_109_2 : ∀ j : Int, lineB_1 j = lineB_2 j) (kz_0_100 : 0 ≤ items_0 ∧ items_0 ≤ 76) (kz_0_107 : 0 ≤ lines_0 ∧ lines_0 ≤ 130) (ex2 : gx = lines_0) : gx = ((items_0 - all_0 (r_0)) + x4) := by
  subst fe_0_5_1
  subst fe_0_100_1
  subst fe_0_107_1
  subst fe_0_5_2
  subst fe_0_100_2
  subst fe_0_107_2
  have e_hE_0_2_1 := funext hE_0_2_1; subst e_hE_0_2_1
  have e_hE_0_2_2 := funext hE_0_2_2; subst e_hE_0_2_2
  have e_hE_0_95_1 := funext hE_0_95_1; subst e_hE_0_95_1
  have e_hE_0_95_2 := funext hE_0_95_2; subst e_hE_0_95_2
  have e_hE_0_102_1 := funext hE_0_102_1; subst e_hE_0_102_1
  have e_hE_0_103_2 := funext hE_0_103_2; subst e_hE_0_103_2
  have e_hE_0_104_1 := funext hE_0_104_1; subst e_hE_0_104_1
  have e_hE_0_104_2 := funext hE_0_104_2; subst e_hE_0_104_2
  have e_hE_0_108_1 := funext hE_0_108_1; subst e_hE_0_108_1
  have e_hE_0_108_2 := funext hE_0_108_2; subst e_hE_0_108_2
  have e_hE_0_109_1 := funext hE_0_109_1; subst e_hE_0_109_1
  have e_hE_0_109_2 := funext hE_0_109_2; subst e_hE_0_109_2
  try simp only [Int.add_zero] at *
  first
    | omega
    | (have h := lid_bd ‹LID _ _ _ _ _ _ _ _ _›; omega)
    | (have h := ‹LYJ _ _ _ _›.1.1.1; omega)
    | (have h := (lic_bd ‹LIC _ _ _ _ _ _ _›).1; omega)
    | (have h := (lic_bd ‹LIF _ _ _ _ _ _›).1; omega)
    | (have h := ‹LSA _ _ _ _ _ _ _ _ _ _›.2.1; omega)
    | (have h := lli_bd ‹LLI _ _ _ _ _ _›; have h2 := ‹LSA _ _ _ _ _ _ _ _ _ _›.2.1; omega)
def o_Mo_list_7 : or_T := (92, 12, [(0, (2, 0, 0, [165])), (2, (2, 0, 0, [165])), (4, (0, 0, 47, [])), (5, (0, 0, 74, [])), (6, (0, 1, 23, [])), (7, (0, 0, 74, [])), (8, (2, 0, 0, [235])), (9, (0, 0, 23, [])), (10, (0, 2, 75, [])), (11, (2, 0, 0, [236]))], [(9, [7, 2], [100]), (20, [2, 4, 9], [60, 1, 2, 433, 5, 2, 95]), (20, [4, 2], [50, 1, 1, 1005, 1002, 0, 6, 4, 2, 1, 0, 0, 1, 3, 1, 2, 4, 3, 2, 1, 5, 0, 1]), (20, [2, 4], [50, 3, 1, 107, 100, 5, 2, 1, 3, 2, 0, 107, 4, 11, 5, 3, 2, 0, 100, 3, 0, 2, 2, 0, 5, 1, 1]), (20, [2], [50, 1, 1, 5, 2, 0, 2, 0, 0, 3, 0, 2, 2, 0, 5]), (24, [0, 2], []), (100, [11, 7, 4], []), (9, [11, 2], [103]), (20, [2, 4, 9], [60, 1, 2, 433, 5, 2, 95]), (20, [4, 2], [50, 1, 1, 1005, 1002, 0, 6, 4, 2, 1, 0, 0, 1, 3, 1, 2, 4, 3, 2, 1, 5, 0, 1]), (20, [2, 4], [50, 3, 1, 107, 100, 5, 2, 1, 3, 2, 0, 107, 4, 11, 5, 3, 2, 0, 100, 3, 0, 2, 2, 0, 5, 1, 1]), (20, [2], [50, 1, 1, 5, 2, 0, 2, 0, 0, 3, 0, 2, 2, 0, 5]), (100, [8, 7, 6], []), (9, [8, 2], [102]), (7, [6, 10], [2]), (10, [10, 8, 9], []), (20, [2, 4, 9], [60, 1, 2, 433, 5, 2, 95]), (20, [2, 4, 5, 6], [60, 2, 4, 442, 5, 100, 2, 95, 102, 104]), (20, [2], [60, 3, 4, 439, 5, 107, 100, 2, 102, 108, 109]), (20, [4, 2], [50, 1, 1, 1005, 1002, 0, 6, 4, 2, 1, 0, 0, 1, 3, 1, 2, 4, 3, 2, 1, 5, 0, 1]), (20, [2, 4], [50, 3, 1, 107, 100, 5, 2, 1, 3, 2, 0, 107, 4, 11, 5, 3, 2, 0, 100, 3, 0, 2, 2, 0, 5, 1, 1]), (20, [2], [50, 1, 1, 5, 2, 0, 2, 0, 0, 3, 0, 2, 2, 0, 5])], [], [(0, 0, 129, [])], [(20, [2, 4, 5, 6], [60, 2, 4, 462, 5, 100, 2, 95, 102, 104]), (20, [2, 12], [50, 1, 0, 107, 1, 3, 2, 0, 107, 1, 1]), (20, [2], [60, 3, 4, 439, 5, 107, 100, 2, 102, 108, 109]), (20, [2, 5, 7], [60, 2, 2, 465, 5, 100, 2, 102]), (20, [12, 2, 4], [50, 2, 1, 1100, 1005, 1002, 1, 2, 1, 0, 4, 11, 5, 3, 2, 1, 100, 3, 1, 2, 2, 1, 5, 1, 2])], [], [(6, 10, -4294967296, -1), (5, 7, -4294967296, 23)])
theorem oo_Mo_list_7 {kA : Nat → ClassId} : or_ok PRD kA GG o_Mo_list_7 := by
  refine or_mk fun A ta ws vs hD hth hl => ?_
  intro t0 r0 t2 r2 t4 k4 t5 k5 t6 k6 t7 k7 t8 r8 t9 k9 t10 k10 t11 r11 d0 d1 f0 f1 f2 f3 f4 f5 ta1 w1 le1 s1 f7 f8 f9 f10 f11 ta2 w2 le2 s2 f13 f14 f15 f16 f17 f18 f19 f20 f21
  replace f0 := shm_1555 f0
  replace f1 := shm_509 f1
  replace f2 := shm_1714 f2
  replace f3 := shm_1706 f3
  replace f4 := shm_1708 f4
  replace f5 := shm_5 f5
  have s1 : (∀ b j, w_el ws b j = if b = v_ad (n_v vs 11) ∧ j = (v_iv (n_v vs 7)).toNat then v_iv (n_v vs 4) else w_el w1 b j) ∧ ∀ b k, w_fd ws b k = w_fd w1 b k := s1.2
  replace f7 := shm_1717 f7
  replace f8 := shm_509 f8
  replace f9 := shm_1714 f9
  replace f10 := shm_1706 f10
  replace f11 := shm_1708 f11
  have s2 : (∀ b j, w_el w1 b j = if b = v_ad (n_v vs 8) ∧ j = (v_iv (n_v vs 7)).toNat then v_iv (n_v vs 6) else w_el w2 b j) ∧ ∀ b k, w_fd w1 b k = w_fd w2 b k := s2.2
  replace f13 := shm_673 f13
  replace f14 := shm_6 f14
  replace f15 := shm_107 f15
  replace f16 := shm_509 f16
  replace f17 := shm_1713 f17
  replace f18 := shm_630 f18
  replace f19 := shm_1714 f19
  replace f20 := shm_1706 f20
  replace f21 := shm_1708 f21
  have q2 : n_v vs 2 = n_v vs 0 := f5.symm
  simp only [q2] at f0 f1 f2 f3 f4 f7 f8 f9 f10 f11 f13 f16 f17 f18 f19 f20 f21
  have ar_0_2_1 : w_ar w1 (n_v vs 0) 2 = w_ar ws (n_v vs 0) 2 := congrArg v_ad (s1.2 _ _).symm
  have ar_0_2_2 : w_ar w2 (n_v vs 0) 2 = w_ar ws (n_v vs 0) 2 := by rw [← ar_0_2_1]; show v_ad (w_fd w2 _ _) = v_ad (w_fd w1 _ _); rw [s2.2]
  have cr_0_2 := fdq_10 hD hth r0
  have ar_0_95_1 : w_ar w1 (n_v vs 0) 95 = w_ar ws (n_v vs 0) 95 := congrArg v_ad (s1.2 _ _).symm
  have ar_0_95_2 : w_ar w2 (n_v vs 0) 95 = w_ar ws (n_v vs 0) 95 := by rw [← ar_0_95_1]; show v_ad (w_fd w2 _ _) = v_ad (w_fd w1 _ _); rw [s2.2]
  have cr_0_95 := fdq_130 hD hth r0
  have ar_0_102_1 : w_ar w1 (n_v vs 0) 102 = w_ar ws (n_v vs 0) 102 := congrArg v_ad (s1.2 _ _).symm
  have ar_0_102_2 : w_ar w2 (n_v vs 0) 102 = w_ar ws (n_v vs 0) 102 := by rw [← ar_0_102_1]; show v_ad (w_fd w2 _ _) = v_ad (w_fd w1 _ _); rw [s2.2]
  have cr_0_102 := fdq_159 hD hth r0
  have ar_0_103_1 : w_ar w1 (n_v vs 0) 103 = w_ar ws (n_v vs 0) 103 := congrArg v_ad (s1.2 _ _).symm
  have ar_0_103_2 : w_ar w2 (n_v vs 0) 103 = w_ar ws (n_v vs 0) 103 := by rw [← ar_0_103_1]; show v_ad (w_fd w2 _ _) = v_ad (w_fd w1 _ _); rw [s2.2]
  have cr_0_103 := fdq_308 hD hth r0
  have ar_0_104_1 : w_ar w1 (n_v vs 0) 104 = w_ar ws (n_v vs 0) 104 := congrArg v_ad (s1.2 _ _).symm
  have ar_0_104_2 : w_ar w2 (n_v vs 0) 104 = w_ar ws (n_v vs 0) 104 := by rw [← ar_0_104_1]; show v_ad (w_fd w2 _ _) = v_ad (w_fd w1 _ _); rw [s2.2]
  have cr_0_104 := fdq_170 hD hth r0
  have ar_0_108_1 : w_ar w1 (n_v vs 0) 108 = w_ar ws (n_v vs 0) 108 := congrArg v_ad (s1.2 _ _).symm
  have ar_0_108_2 : w_ar w2 (n_v vs 0) 108 = w_ar ws (n_v vs 0) 108 := by rw [← ar_0_108_1]; show v_ad (w_fd w2 _ _) = v_ad (w_fd w1 _ _); rw [s2.2]
  have cr_0_108 := fdq_160 hD hth r0
  have ar_0_109_1 : w_ar w1 (n_v vs 0) 109 = w_ar ws (n_v vs 0) 109 := congrArg v_ad (s1.2 _ _).symm
  have ar_0_109_2 : w_ar w2 (n_v vs 0) 109 = w_ar ws (n_v vs 0) 109 := by rw [← ar_0_109_1]; show v_ad (w_fd w2 _ _) = v_ad (w_fd w1 _ _); rw [s2.2]
  have cr_0_109 := fdq_161 hD hth r0
  have ad_11 : v_ad (n_v vs 11) = w_ar ws (n_v vs 0) 103 := (congrArg v_ad f7).trans ar_0_103_1
  have ad_8 : v_ad (n_v vs 8) = w_ar ws (n_v vs 0) 102 := (congrArg v_ad f13).trans ar_0_102_2
  have g0 : v_iv (n_v vs 7) = w_fi ws (n_v vs 0) 100 := congrArg v_iv f0
  simp only [ar_0_2_1, ar_0_95_1, ad_8] at f8 f9 f10 f11 f15
  have h15 : v_iv (n_v vs 10) = w_ei w2 (w_ar ws (n_v vs 0) 102) (v_iv (n_v vs 9)) := f15
  simp only [ar_0_2_2, ar_0_95_2, ar_0_102_2, ar_0_104_2, ar_0_108_2, ar_0_109_2] at f16 f17 f18 f19 f20 f21
  have fe_0_5_1 : w_fi ws (n_v vs 0) 5 = w_fi w1 (n_v vs 0) 5 := congrArg v_iv (s1.2 _ _)
  have fe_0_100_1 : w_fi ws (n_v vs 0) 100 = w_fi w1 (n_v vs 0) 100 := congrArg v_iv (s1.2 _ _)
  have fe_0_107_1 : w_fi ws (n_v vs 0) 107 = w_fi w1 (n_v vs 0) 107 := congrArg v_iv (s1.2 _ _)
  have fe_0_5_2 : w_fi w1 (n_v vs 0) 5 = w_fi w2 (n_v vs 0) 5 := congrArg v_iv (s2.2 _ _)
  have fe_0_100_2 : w_fi w1 (n_v vs 0) 100 = w_fi w2 (n_v vs 0) 100 := congrArg v_iv (s2.2 _ _)
  have fe_0_107_2 : w_fi w1 (n_v vs 0) 107 = w_fi w2 (n_v vs 0) 107 := congrArg v_iv (s2.2 _ _)
  have hE_0_2_1 : ∀ j : Int, w_ei ws (w_ar ws (n_v vs 0) 2) j = w_ei w1 (w_ar ws (n_v vs 0) 2) j := el_kp s1.1 r11 cr_0_2 (by decide)
  have hE_0_2_2 : ∀ j : Int, w_ei w1 (w_ar ws (n_v vs 0) 2) j = w_ei w2 (w_ar ws (n_v vs 0) 2) j := el_kp s2.1 r8 cr_0_2 (by decide)
  have hE_0_95_1 : ∀ j : Int, w_ei ws (w_ar ws (n_v vs 0) 95) j = w_ei w1 (w_ar ws (n_v vs 0) 95) j := el_kp s1.1 r11 cr_0_95 (by decide)
  have hE_0_95_2 : ∀ j : Int, w_ei w1 (w_ar ws (n_v vs 0) 95) j = w_ei w2 (w_ar ws (n_v vs 0) 95) j := el_kp s2.1 r8 cr_0_95 (by decide)
  have hK_0_95 := elq_71 hD hth cr_0_95
  have hE_0_102_1 : ∀ j : Int, w_ei ws (w_ar ws (n_v vs 0) 102) j = w_ei w1 (w_ar ws (n_v vs 0) 102) j := el_kp s1.1 r11 cr_0_102 (by decide)
  have hE_0_102_2 : ∀ j : Int, 0 ≤ j → (j = v_iv (n_v vs 7) → w_ei w1 (w_ar ws (n_v vs 0) 102) j = v_iv (n_v vs 6)) ∧ (j ≠ v_iv (n_v vs 7) → w_ei w1 (w_ar ws (n_v vs 0) 102) j = w_ei w2 (w_ar ws (n_v vs 0) 102) j) := fun j hj => ⟨fun h => by unfold w_ei; rw [s2.1, if_pos ⟨ad_8.symm, by rw [h]⟩], fun h => by unfold w_ei; rw [s2.1, if_neg (fun e => h (by have := e.2; omega))]⟩
  have hK_0_102 := elq_91 hD hth cr_0_102
  have hE_0_103_1 : ∀ j : Int, 0 ≤ j → (j = v_iv (n_v vs 7) → w_ei ws (w_ar ws (n_v vs 0) 103) j = v_iv (n_v vs 4)) ∧ (j ≠ v_iv (n_v vs 7) → w_ei ws (w_ar ws (n_v vs 0) 103) j = w_ei w1 (w_ar ws (n_v vs 0) 103) j) := fun j hj => ⟨fun h => by unfold w_ei; rw [s1.1, if_pos ⟨ad_11.symm, by rw [h]⟩], fun h => by unfold w_ei; rw [s1.1, if_neg (fun e => h (by have := e.2; omega))]⟩
  have hE_0_103_2 : ∀ j : Int, w_ei w1 (w_ar ws (n_v vs 0) 103) j = w_ei w2 (w_ar ws (n_v vs 0) 103) j := el_kp s2.1 r8 cr_0_103 (by decide)
  have hK_0_103 := elq_194 hD hth cr_0_103
  have hE_0_104_1 : ∀ j : Int, w_ei ws (w_ar ws (n_v vs 0) 104) j = w_ei w1 (w_ar ws (n_v vs 0) 104) j := el_kp s1.1 r11 cr_0_104 (by decide)
  have hE_0_104_2 : ∀ j : Int, w_ei w1 (w_ar ws (n_v vs 0) 104) j = w_ei w2 (w_ar ws (n_v vs 0) 104) j := el_kp s2.1 r8 cr_0_104 (by decide)
  have hK_0_104 := elq_100 hD hth cr_0_104
  have hE_0_108_1 : ∀ j : Int, w_ei ws (w_ar ws (n_v vs 0) 108) j = w_ei w1 (w_ar ws (n_v vs 0) 108) j := el_kp s1.1 r11 cr_0_108 (by decide)
  have hE_0_108_2 : ∀ j : Int, w_ei w1 (w_ar ws (n_v vs 0) 108) j = w_ei w2 (w_ar ws (n_v vs 0) 108) j := el_kp s2.1 r8 cr_0_108 (by decide)
  have hK_0_108 := elq_92 hD hth cr_0_108
  have hE_0_109_1 : ∀ j : Int, w_ei ws (w_ar ws (n_v vs 0) 109) j = w_ei w1 (w_ar ws (n_v vs 0) 109) j := el_kp s1.1 r11 cr_0_109 (by decide)
  have hE_0_109_2 : ∀ j : Int, w_ei w1 (w_ar ws (n_v vs 0) 109) j = w_ei w2 (w_ar ws (n_v vs 0) 109) j := el_kp s2.1 r8 cr_0_109 (by decide)
  have hK_0_109 := elq_93 hD hth cr_0_109
  have kz_0_100 := fdq_162 hD hth r0
  have kz_0_107 := fdq_163 hD hth r0
  have kv0 := fdq_163 hD hth r0
  obtain ⟨x, ex, hx⟩ := iv_ex (ta := ta) (lo := 0) (hi := 129) (z := w_fi ws (n_v vs 0) 107) (by omega) (by omega) (by omega) (by omega)
  have ex2 : v_iv (Value.int x) = w_fi ws (n_v vs 0) 107 := ex
  have ex3 : 0 ≤ v_iv (Value.int x) ∧ v_iv (Value.int x) ≤ 129 := tv_rng hx
  have e_2 : n_v (vs ++ [Value.int x]) 2 = n_v vs 2 := n_v_old (by rw [hl]; decide)
  have e_4 : n_v (vs ++ [Value.int x]) 4 = n_v vs 4 := n_v_old (by rw [hl]; decide)
  have e_5 : n_v (vs ++ [Value.int x]) 5 = n_v vs 5 := n_v_old (by rw [hl]; decide)
  have e_6 : n_v (vs ++ [Value.int x]) 6 = n_v vs 6 := n_v_old (by rw [hl]; decide)
  have e_7 : n_v (vs ++ [Value.int x]) 7 = n_v vs 7 := n_v_old (by rw [hl]; decide)
  have e_12 : n_v (vs ++ [Value.int x]) 12 = Value.int x := n_v_new hl
  have nf0 : fc_1 PRD (20, [2, 4, 5, 6], [60, 2, 4, 462, 5, 100, 2, 95, 102, 104]) ws (vs ++ [Value.int x]) := by
    refine ⟨nf_inA hl rfl, sgq_1718 ?_⟩
    · show LIE (w_fi ws (n_v (vs ++ [Value.int x]) 2) 5) (w_fi ws (n_v (vs ++ [Value.int x]) 2) 100) (w_ei ws (w_ar ws (n_v (vs ++ [Value.int x]) 2) 2)) (w_ei ws (w_ar ws (n_v (vs ++ [Value.int x]) 2) 95)) (w_ei ws (w_ar ws (n_v (vs ++ [Value.int x]) 2) 102)) (w_ei ws (w_ar ws (n_v (vs ++ [Value.int x]) 2) 104)) (v_iv (n_v (vs ++ [Value.int x]) 4)) (v_iv (n_v (vs ++ [Value.int x]) 5)) (v_iv (n_v (vs ++ [Value.int x]) 6))
      simp only [e_2, e_4, e_5, e_6, q2]
      exact vc_Mo_list_7_0 (v_iv (n_v vs 4)) (v_iv (n_v vs 5)) (v_iv (n_v vs 6)) (v_iv (n_v vs 7)) (v_iv (n_v vs 9)) (v_iv (n_v vs 10)) (w_fi ws (n_v vs 0) 100) (w_ei ws (w_ar ws (n_v vs 0) 2)) (w_ei ws (w_ar ws (n_v vs 0) 95)) (w_fi ws (n_v vs 0) 5) (w_fi ws (n_v vs 0) 107) (w_ei w1 (w_ar ws (n_v vs 0) 2)) (w_ei w1 (w_ar ws (n_v vs 0) 95)) (w_fi w1 (n_v vs 0) 5) (w_fi w1 (n_v vs 0) 107) (w_fi w1 (n_v vs 0) 100) (w_ei w2 (w_ar ws (n_v vs 0) 102)) (w_ei w2 (w_ar ws (n_v vs 0) 2)) (w_ei w2 (w_ar ws (n_v vs 0) 95)) (w_fi w2 (n_v vs 0) 5) (w_ei w2 (w_ar ws (n_v vs 0) 104)) (w_fi w2 (n_v vs 0) 100) (w_ei w2 (w_ar ws (n_v vs 0) 108)) (w_ei w2 (w_ar ws (n_v vs 0) 109)) (w_fi w2 (n_v vs 0) 107) (w_ei ws (w_ar ws (n_v vs 0) 102)) (w_ei w1 (w_ar ws (n_v vs 0) 102)) (w_ei w1 (w_ar ws (n_v vs 0) 103)) (w_ei w2 (w_ar ws (n_v vs 0) 103)) (w_ei ws (w_ar ws (n_v vs 0) 104)) (w_ei w1 (w_ar ws (n_v vs 0) 104)) (w_ei ws (w_ar ws (n_v vs 0) 108)) (w_ei w1 (w_ar ws (n_v vs 0) 108)) (w_ei ws (w_ar ws (n_v vs 0) 109)) (w_ei w1 (w_ar ws (n_v vs 0) 109)) k4 k5 k6 k7 k9 k10 d0 g0 h15 f16 f17 fe_0_5_1 fe_0_100_1 fe_0_107_1 fe_0_5_2 fe_0_100_2 fe_0_107_2 hE_0_2_1 hE_0_2_2 hE_0_95_1 hE_0_95_2 hE_0_102_1 hE_0_102_2 hE_0_103_2 hE_0_104_1 hE_0_104_2 hE_0_108_1 hE_0_108_2 hE_0_109_1 hE_0_109_2 kz_0_100 kz_0_107
  have nf1 : fc_1 PRD (20, [2, 12], [50, 1, 0, 107, 1, 3, 2, 0, 107, 1, 1]) ws (vs ++ [Value.int x]) := by
    refine ⟨nf_inA hl rfl, sgq_629 ?_⟩
    · show w_fi ws (n_v (vs ++ [Value.int x]) 2) 107 = v_iv (n_v (vs ++ [Value.int x]) 12)
      simp only [e_2, e_12, q2]
      exact vc_Mo_list_7_1 (w_fi ws (n_v vs 0) 100) (w_ei ws (w_ar ws (n_v vs 0) 2)) (w_ei ws (w_ar ws (n_v vs 0) 95)) (w_fi ws (n_v vs 0) 5) (w_fi ws (n_v vs 0) 107) (w_ei w1 (w_ar ws (n_v vs 0) 2)) (w_ei w1 (w_ar ws (n_v vs 0) 95)) (w_fi w1 (n_v vs 0) 5) (w_fi w1 (n_v vs 0) 107) (w_fi w1 (n_v vs 0) 100) (w_ei w2 (w_ar ws (n_v vs 0) 2)) (w_ei w2 (w_ar ws (n_v vs 0) 95)) (w_fi w2 (n_v vs 0) 5) (w_ei w2 (w_ar ws (n_v vs 0) 104)) (w_fi w2 (n_v vs 0) 100) (w_ei w2 (w_ar ws (n_v vs 0) 108)) (w_ei w2 (w_ar ws (n_v vs 0) 109)) (w_fi w2 (n_v vs 0) 107) (w_ei ws (w_ar ws (n_v vs 0) 102)) (w_ei w1 (w_ar ws (n_v vs 0) 102)) (w_ei w1 (w_ar ws (n_v vs 0) 103)) (w_ei w2 (w_ar ws (n_v vs 0) 103)) (w_ei ws (w_ar ws (n_v vs 0) 104)) (w_ei w1 (w_ar ws (n_v vs 0) 104)) (w_ei ws (w_ar ws (n_v vs 0) 108)) (w_ei w1 (w_ar ws (n_v vs 0) 108)) (w_ei ws (w_ar ws (n_v vs 0) 109)) (w_ei w1 (w_ar ws (n_v vs 0) 109)) (v_iv (Value.int x)) fe_0_5_1 fe_0_100_1 fe_0_107_1 fe_0_5_2 fe_0_100_2 fe_0_107_2 hE_0_2_1 hE_0_2_2 hE_0_95_1 hE_0_95_2 hE_0_102_1 hE_0_103_2 hE_0_104_1 hE_0_104_2 hE_0_108_1 hE_0_108_2 hE_0_109_1 hE_0_109_2 kz_0_100 kz_0_107 ex2
  have nf2 : fc_1 PRD (20, [2], [60, 3, 4, 439, 5, 107, 100, 2, 102, 108, 109]) ws (vs ++ [Value.int x]) := by
    refine ⟨nf_inA hl rfl, sgq_630 ?_⟩
    · show LNP (w_fi ws (n_v (vs ++ [Value.int x]) 2) 5) (w_fi ws (n_v (vs ++ [Value.int x]) 2) 107) (w_fi ws (n_v (vs ++ [Value.int x]) 2) 100) (w_ei ws (w_ar ws (n_v (vs ++ [Value.int x]) 2) 2)) (w_ei ws (w_ar ws (n_v (vs ++ [Value.int x]) 2) 102)) (w_ei ws (w_ar ws (n_v (vs ++ [Value.int x]) 2) 108)) (w_ei ws (w_ar ws (n_v (vs ++ [Value.int x]) 2) 109))
      simp only [e_2, q2]
      exact vc_Mo_list_7_2 (v_iv (n_v vs 6)) (v_iv (n_v vs 7)) (w_fi ws (n_v vs 0) 100) (w_ei ws (w_ar ws (n_v vs 0) 2)) (w_ei ws (w_ar ws (n_v vs 0) 95)) (w_fi ws (n_v vs 0) 5) (w_fi ws (n_v vs 0) 107) (w_ei w1 (w_ar ws (n_v vs 0) 2)) (w_ei w1 (w_ar ws (n_v vs 0) 95)) (w_fi w1 (n_v vs 0) 5) (w_fi w1 (n_v vs 0) 107) (w_fi w1 (n_v vs 0) 100) (w_ei w2 (w_ar ws (n_v vs 0) 102)) (w_ei w2 (w_ar ws (n_v vs 0) 2)) (w_ei w2 (w_ar ws (n_v vs 0) 95)) (w_fi w2 (n_v vs 0) 5) (w_ei w2 (w_ar ws (n_v vs 0) 104)) (w_fi w2 (n_v vs 0) 100) (w_ei w2 (w_ar ws (n_v vs 0) 108)) (w_ei w2 (w_ar ws (n_v vs 0) 109)) (w_fi w2 (n_v vs 0) 107) (w_ei ws (w_ar ws (n_v vs 0) 102)) (w_ei w1 (w_ar ws (n_v vs 0) 102)) (w_ei w1 (w_ar ws (n_v vs 0) 103)) (w_ei w2 (w_ar ws (n_v vs 0) 103)) (w_ei ws (w_ar ws (n_v vs 0) 104)) (w_ei w1 (w_ar ws (n_v vs 0) 104)) (w_ei ws (w_ar ws (n_v vs 0) 108)) (w_ei w1 (w_ar ws (n_v vs 0) 108)) (w_ei ws (w_ar ws (n_v vs 0) 109)) (w_ei w1 (w_ar ws (n_v vs 0) 109)) k6 k7 g0 f18 fe_0_5_1 fe_0_100_1 fe_0_107_1 fe_0_5_2 fe_0_100_2 fe_0_107_2 hE_0_2_1 hE_0_2_2 hE_0_95_1 hE_0_95_2 hE_0_102_1 hE_0_102_2 hE_0_103_2 hE_0_104_1 hE_0_104_2 hE_0_108_1 hE_0_108_2 hE_0_109_1 hE_0_109_2 kz_0_100 kz_0_107
  have nf3 : fc_1 PRD (20, [2, 5, 7], [60, 2, 2, 465, 5, 100, 2, 102]) ws (vs ++ [Value.int x]) := by
    refine ⟨nf_inA hl rfl, sgq_631 ?_⟩
    · show LNM (w_fi ws (n_v (vs ++ [Value.int x]) 2) 5) (w_fi ws (n_v (vs ++ [Value.int x]) 2) 100) (w_ei ws (w_ar ws (n_v (vs ++ [Value.int x]) 2) 2)) (w_ei ws (w_ar ws (n_v (vs ++ [Value.int x]) 2) 102)) (v_iv (n_v (vs ++ [Value.int x]) 5)) (v_iv (n_v (vs ++ [Value.int x]) 7))
      simp only [e_2, e_5, e_7, q2]
      exact vc_Mo_list_7_3 (v_iv (n_v vs 4)) (v_iv (n_v vs 5)) (v_iv (n_v vs 6)) (v_iv (n_v vs 7)) (w_fi ws (n_v vs 0) 100) (w_ei ws (w_ar ws (n_v vs 0) 2)) (w_ei ws (w_ar ws (n_v vs 0) 95)) (w_fi ws (n_v vs 0) 5) (w_fi ws (n_v vs 0) 107) (w_ei w1 (w_ar ws (n_v vs 0) 2)) (w_ei w1 (w_ar ws (n_v vs 0) 95)) (w_fi w1 (n_v vs 0) 5) (w_fi w1 (n_v vs 0) 107) (w_fi w1 (n_v vs 0) 100) (w_ei w2 (w_ar ws (n_v vs 0) 102)) (w_ei w2 (w_ar ws (n_v vs 0) 2)) (w_ei w2 (w_ar ws (n_v vs 0) 95)) (w_fi w2 (n_v vs 0) 5) (w_ei w2 (w_ar ws (n_v vs 0) 104)) (w_fi w2 (n_v vs 0) 100) (w_ei w2 (w_ar ws (n_v vs 0) 108)) (w_ei w2 (w_ar ws (n_v vs 0) 109)) (w_fi w2 (n_v vs 0) 107) (w_ei ws (w_ar ws (n_v vs 0) 102)) (w_ei w1 (w_ar ws (n_v vs 0) 102)) (w_ei w1 (w_ar ws (n_v vs 0) 103)) (w_ei w2 (w_ar ws (n_v vs 0) 103)) (w_ei ws (w_ar ws (n_v vs 0) 104)) (w_ei w1 (w_ar ws (n_v vs 0) 104)) (w_ei ws (w_ar ws (n_v vs 0) 108)) (w_ei w1 (w_ar ws (n_v vs 0) 108)) (w_ei ws (w_ar ws (n_v vs 0) 109)) (w_ei w1 (w_ar ws (n_v vs 0) 109)) k4 k5 k6 k7 g0 f17 fe_0_5_1 fe_0_100_1 fe_0_107_1 fe_0_5_2 fe_0_100_2 fe_0_107_2 hE_0_2_1 hE_0_2_2 hE_0_95_1 hE_0_95_2 hE_0_102_1 hE_0_102_2 hE_0_103_2 hE_0_104_1 hE_0_104_2 hE_0_108_1 hE_0_108_2 hE_0_109_1 hE_0_109_2 kz_0_100 kz_0_107
  have nf4 : fc_1 PRD (20, [12, 2, 4], [50, 2, 1, 1100, 1005, 1002, 1, 2, 1, 0, 4, 11, 5, 3, 2, 1, 100, 3, 1, 2, 2, 1, 5, 1, 2]) ws (vs ++ [Value.int x]) := by
    refine ⟨nf_inA hl rfl, sgq_1716 ?_⟩
    · show v_iv (n_v (vs ++ [Value.int x]) 12) = ((w_fi ws (n_v (vs ++ [Value.int x]) 2) 100 - w_ei ws (w_ar ws (n_v (vs ++ [Value.int x]) 2) 2) (w_fi ws (n_v (vs ++ [Value.int x]) 2) 5)) + v_iv (n_v (vs ++ [Value.int x]) 4))
      simp only [e_2, e_4, e_12, q2]
      exact vc_Mo_list_7_4 (v_iv (n_v vs 4)) (w_fi ws (n_v vs 0) 100) (w_ei ws (w_ar ws (n_v vs 0) 2)) (w_ei ws (w_ar ws (n_v vs 0) 95)) (w_fi ws (n_v vs 0) 5) (w_fi ws (n_v vs 0) 107) (w_ei w1 (w_ar ws (n_v vs 0) 2)) (w_ei w1 (w_ar ws (n_v vs 0) 95)) (w_fi w1 (n_v vs 0) 5) (w_fi w1 (n_v vs 0) 107) (w_fi w1 (n_v vs 0) 100) (w_ei w2 (w_ar ws (n_v vs 0) 2)) (w_ei w2 (w_ar ws (n_v vs 0) 95)) (w_fi w2 (n_v vs 0) 5) (w_ei w2 (w_ar ws (n_v vs 0) 104)) (w_fi w2 (n_v vs 0) 100) (w_ei w2 (w_ar ws (n_v vs 0) 108)) (w_ei w2 (w_ar ws (n_v vs 0) 109)) (w_fi w2 (n_v vs 0) 107) (w_ei ws (w_ar ws (n_v vs 0) 102)) (w_ei w1 (w_ar ws (n_v vs 0) 102)) (w_ei w1 (w_ar ws (n_v vs 0) 103)) (w_ei w2 (w_ar ws (n_v vs 0) 103)) (w_ei ws (w_ar ws (n_v vs 0) 104)) (w_ei w1 (w_ar ws (n_v vs 0) 104)) (w_ei ws (w_ar ws (n_v vs 0) 108)) (w_ei w1 (w_ar ws (n_v vs 0) 108)) (w_ei ws (w_ar ws (n_v vs 0) 109)) (w_ei w1 (w_ar ws (n_v vs 0) 109)) (v_iv (Value.int x)) k4 f3 fe_0_5_1 fe_0_100_1 fe_0_107_1 fe_0_5_2 fe_0_100_2 fe_0_107_2 hE_0_2_1 hE_0_2_2 hE_0_95_1 hE_0_95_2 hE_0_102_1 hE_0_103_2 hE_0_104_1 hE_0_104_2 hE_0_108_1 hE_0_108_2 hE_0_109_1 hE_0_109_2 kz_0_100 kz_0_107 ex2
  exact ⟨(fun _ h => (by cases h)), [Value.int x], ag_one hx, List.forall_mem_cons.mpr ⟨⟨show (20 : Nat) < 100 from by decide, nf0⟩, List.forall_mem_cons.mpr ⟨⟨show (20 : Nat) < 100 from by decide, nf1⟩, List.forall_mem_cons.mpr ⟨⟨show (20 : Nat) < 100 from by decide, nf2⟩, List.forall_mem_cons.mpr ⟨⟨show (20 : Nat) < 100 from by decide, nf3⟩, List.forall_mem_cons.mpr ⟨⟨show (20 : Nat) < 100 from by decide, nf4⟩, (fun _ h => (by cases h))⟩⟩⟩⟩⟩, (fun _ h => (by cases h))⟩
set_option maxHeartbeats 4000000 in
theorem vc_Mo_list_8_0 (x4 : Int) (x5 : Int) (x6 : Int) (x7 : Int) (x10 : Int) (x14 : Int) (x15 : Int) (all_0 : Int → Int) (turned_0 : Int → Int) (r_0 : Int) (lines_0 : Int) (items_1 : Int) (all_1 : Int → Int) (turned_1 : Int → Int) (itemLayer_1 : Int → Int) (firstJoint_1 : Int → Int) (r_1 : Int) (lines_1 : Int) (lineA_1 : Int → Int) (lineB_1 : Int → Int) (items_0 : Int) (itemLayer_0 : Int → Int) (firstJoint_0 : Int → Int) (lineA_0 : Int → Int) (lineB_0 : Int → Int) (k4 : 0 ≤ x4 ∧ x4 ≤ 47) (k5 : 0 ≤ x5 ∧ x5 ≤ 74) (k6 : 1 ≤ x6 ∧ x6 ≤ 23) (k7 : 0 ≤ x7 ∧ x7 ≤ 74) (k14 : 1 ≤ x14 ∧ x14 ≤ 75) (k15 : 2 ≤ x15 ∧ x15 ≤ 24) (d2 : x7 + 1 ≤ x14 ∧ x14 ≤ x7 + 1) (f0 : x15 = x6 + 1) (g8 : x7 = items_1) (f9 : LIE (r_1) (items_1) (all_1) (turned_1) (itemLayer_1) (firstJoint_1) (x4) (x5) (x6)) (fe_0_5_1 : r_0 = r_1) (fe_0_100_1 : items_0 = x14) (fe_0_107_1 : lines_0 = lines_1) (hE_0_2_1 : ∀ j : Int, all_0 j = all_1 j) (hE_0_95_1 : ∀ j : Int, turned_0 j = turned_1 j) (hE_0_102_1 : ∀ j : Int, itemLayer_0 j = itemLayer_1 j) (hE_0_104_1 : ∀ j : Int, firstJoint_0 j = firstJoint_1 j) (hE_0_108_1 : ∀ j : Int, lineA_0 j = lineA_1 j) (hE_0_109_1 : ∀ j : Int, lineB_0 j = lineB_1 j) (kz_0_100 : 0 ≤ items_0 ∧ items_0 ≤ 76) (kz_0_107 : 0 ≤ lines_0 ∧ lines_0 ≤ 130) : LID (r_0) (items_0) (all_0) (turned_0) (itemLayer_0) (firstJoint_0) (x4) (x7) (x15) := by
  subst fe_0_5_1
  subst fe_0_107_1
  have e_hE_0_2_1 := funext hE_0_2_1; subst e_hE_0_2_1
  have e_hE_0_95_1 := funext hE_0_95_1; subst e_hE_0_95_1
  have e_hE_0_102_1 := funext hE_0_102_1; subst e_hE_0_102_1
  have e_hE_0_104_1 := funext hE_0_104_1; subst e_hE_0_104_1
  have e_hE_0_108_1 := funext hE_0_108_1; subst e_hE_0_108_1
  have e_hE_0_109_1 := funext hE_0_109_1; subst e_hE_0_109_1
  first
    | exact lid_start (a := x10) ‹LIC _ _ _ _ _ _ _› (by omega) (by assumption) rfl (by omega) (by assumption) (by assumption) (by assumption) (by omega)
    | exact lie_next ‹LIE _ _ _ _ _ _ _ _ _› (by omega) (by omega) (by omega)
set_option maxHeartbeats 4000000 in
theorem vc_Mo_list_8_1 (x7 : Int) (x14 : Int) (all_0 : Int → Int) (turned_0 : Int → Int) (r_0 : Int) (lines_0 : Int) (items_1 : Int) (all_1 : Int → Int) (turned_1 : Int → Int) (itemLayer_1 : Int → Int) (firstJoint_1 : Int → Int) (r_1 : Int) (lines_1 : Int) (lineA_1 : Int → Int) (lineB_1 : Int → Int) (items_0 : Int) (itemLayer_0 : Int → Int) (firstJoint_0 : Int → Int) (lineA_0 : Int → Int) (lineB_0 : Int → Int) (k7 : 0 ≤ x7 ∧ x7 ≤ 74) (k14 : 1 ≤ x14 ∧ x14 ≤ 75) (d2 : x7 + 1 ≤ x14 ∧ x14 ≤ x7 + 1) (g8 : x7 = items_1) (f16 : LNX (r_1) (lines_1) (items_1) (all_1) (itemLayer_1) (lineA_1) (lineB_1)) (fe_0_5_1 : r_0 = r_1) (fe_0_100_1 : items_0 = x14) (fe_0_107_1 : lines_0 = lines_1) (hE_0_2_1 : ∀ j : Int, all_0 j = all_1 j) (hE_0_95_1 : ∀ j : Int, turned_0 j = turned_1 j) (hE_0_102_1 : ∀ j : Int, itemLayer_0 j = itemLayer_1 j) (hE_0_104_1 : ∀ j : Int, firstJoint_0 j = firstJoint_1 j) (hE_0_108_1 : ∀ j : Int, lineA_0 j = lineA_1 j) (hE_0_109_1 : ∀ j : Int, lineB_0 j = lineB_1 j) (kz_0_100 : 0 ≤ items_0 ∧ items_0 ≤ 76) (kz_0_107 : 0 ≤ lines_0 ∧ lines_0 ≤ 130) : LNP (r_0) (lines_0) (items_0) (all_0) (itemLayer_0) (lineA_0) (lineB_0) := by
  subst fe_0_5_1
  subst fe_0_107_1
  have e_hE_0_2_1 := funext hE_0_2_1; subst e_hE_0_2_1
  have e_hE_0_95_1 := funext hE_0_95_1; subst e_hE_0_95_1
  have e_hE_0_102_1 := funext hE_0_102_1; subst e_hE_0_102_1
  have e_hE_0_104_1 := funext hE_0_104_1; subst e_hE_0_104_1
  have e_hE_0_108_1 := funext hE_0_108_1; subst e_hE_0_108_1
  have e_hE_0_109_1 := funext hE_0_109_1; subst e_hE_0_109_1
  first
    | assumption
    | (have h := ‹LNX _ _ _ _ _ _ _›
       unfold LNX at h
       rw [show items_0 = items_1 + 1 by omega]
       exact h)
set_option maxHeartbeats 4000000 in
theorem vc_Mo_list_8_2 (x4 : Int) (x7 : Int) (x12 : Int) (x14 : Int) (all_0 : Int → Int) (turned_0 : Int → Int) (r_0 : Int) (lines_0 : Int) (items_1 : Int) (all_1 : Int → Int) (turned_1 : Int → Int) (itemLayer_1 : Int → Int) (firstJoint_1 : Int → Int) (r_1 : Int) (lines_1 : Int) (lineA_1 : Int → Int) (lineB_1 : Int → Int) (items_0 : Int) (itemLayer_0 : Int → Int) (firstJoint_0 : Int → Int) (lineA_0 : Int → Int) (lineB_0 : Int → Int) (k4 : 0 ≤ x4 ∧ x4 ≤ 47) (k7 : 0 ≤ x7 ∧ x7 ≤ 74) (k12 : 0 ≤ x12 ∧ x12 ≤ 129) (k14 : 1 ≤ x14 ∧ x14 ≤ 75) (d2 : x7 + 1 ≤ x14 ∧ x14 ≤ x7 + 1) (f5 : lines_0 = (x12 + 1)) (g8 : x7 = items_1) (f11 : x12 = ((items_1 - all_1 (r_1)) + x4)) (fe_0_5_1 : r_0 = r_1) (fe_0_100_1 : items_0 = x14) (fe_0_107_1 : lines_0 = lines_1) (hE_0_2_1 : ∀ j : Int, all_0 j = all_1 j) (hE_0_95_1 : ∀ j : Int, turned_0 j = turned_1 j) (hE_0_102_1 : ∀ j : Int, itemLayer_0 j = itemLayer_1 j) (hE_0_104_1 : ∀ j : Int, firstJoint_0 j = firstJoint_1 j) (hE_0_108_1 : ∀ j : Int, lineA_0 j = lineA_1 j) (hE_0_109_1 : ∀ j : Int, lineB_0 j = lineB_1 j) (kz_0_100 : 0 ≤ items_0 ∧ items_0 ≤ 76) (kz_0_107 : 0 ≤ lines_0 ∧ lines_0 ≤ 130) : lines_0 = ((items_0 - all_0 (r_0)) + x4) := by
  subst fe_0_5_1
  subst fe_0_107_1
  have e_hE_0_2_1 := funext hE_0_2_1; subst e_hE_0_2_1
  have e_hE_0_95_1 := funext hE_0_95_1; subst e_hE_0_95_1
  have e_hE_0_102_1 := funext hE_0_102_1; subst e_hE_0_102_1
  have e_hE_0_104_1 := funext hE_0_104_1; subst e_hE_0_104_1
  have e_hE_0_108_1 := funext hE_0_108_1; subst e_hE_0_108_1
  have e_hE_0_109_1 := funext hE_0_109_1; subst e_hE_0_109_1
  try simp only [Int.add_zero] at *
  first
    | omega
    | (have h := lid_bd ‹LID _ _ _ _ _ _ _ _ _›; omega)
    | (have h := ‹LYJ _ _ _ _›.1.1.1; omega)
    | (have h := (lic_bd ‹LIC _ _ _ _ _ _ _›).1; omega)
    | (have h := (lic_bd ‹LIF _ _ _ _ _ _›).1; omega)
    | (have h := ‹LSA _ _ _ _ _ _ _ _ _ _›.2.1; omega)
    | (have h := lli_bd ‹LLI _ _ _ _ _ _›; have h2 := ‹LSA _ _ _ _ _ _ _ _ _ _›.2.1; omega)
def o_Mo_list_8 : or_T := (50, 16, [(0, (2, 0, 0, [165])), (4, (0, 0, 47, [])), (5, (0, 0, 74, [])), (6, (0, 1, 23, [])), (7, (0, 0, 74, [])), (12, (0, 0, 129, [])), (14, (0, 1, 75, [])), (15, (0, 2, 24, []))], [(6, [15, 6], [1]), (24, [0, 2], []), (20, [2, 12], [50, 1, 0, 107, 1, 3, 2, 0, 107, 4, 2, 1, 1, 0, 1]), (101, [2, 14], [100]), (9, [7, 2], [100]), (20, [2, 4, 5, 6], [60, 2, 4, 462, 5, 100, 2, 95, 102, 104]), (20, [12, 2, 4], [50, 2, 1, 1100, 1005, 1002, 1, 2, 1, 0, 4, 11, 5, 3, 2, 1, 100, 3, 1, 2, 2, 1, 5, 1, 2]), (20, [2], [60, 3, 4, 440, 5, 107, 100, 2, 102, 108, 109])], [], [], [(20, [2, 4, 7, 15], [60, 2, 4, 442, 5, 100, 2, 95, 102, 104]), (20, [2], [60, 3, 4, 439, 5, 107, 100, 2, 102, 108, 109]), (20, [2, 4], [50, 3, 1, 107, 100, 5, 2, 1, 3, 2, 0, 107, 4, 11, 5, 3, 2, 0, 100, 3, 0, 2, 2, 0, 5, 1, 1])], [], [(14, 7, 1, 1)])
theorem oo_Mo_list_8 {kA : Nat → ClassId} : or_ok PRD kA GG o_Mo_list_8 := by
  refine or_mk fun A ta ws vs hD hth hl => ?_
  intro t0 r0 t4 k4 t5 k5 t6 k6 t7 k7 t12 k12 t14 k14 t15 k15 d2 f0 f4 f5 ta1 w1 le1 s1 f8 f9 f11 f16
  replace f0 := shm_4 f0
  replace f4 := shm_5 f4
  replace f5 := shm_633 f5
  have s1 : (∀ b j, w_el ws b j = w_el w1 b j) ∧ ∀ b j, w_fd ws b j = if b = v_ad (n_v vs 2) ∧ j = 100 then n_v vs 14 else w_fd w1 b j := s1.2
  replace f8 := shm_1555 f8
  replace f9 := shm_1718 f9
  replace f11 := shm_1716 f11
  replace f16 := shm_634 f16
  have q2 : n_v vs 2 = n_v vs 0 := f4.symm
  simp only [q2] at f5
  rw [q2] at s1
  simp only [q2] at f8 f9 f11 f16
  have ar_0_2_1 : w_ar w1 (n_v vs 0) 2 = w_ar ws (n_v vs 0) 2 := by show v_ad (w_fd w1 _ _) = v_ad (w_fd ws _ _); rw [s1.2, if_neg (fun e => absurd e.2 (by decide))]
  have ar_0_95_1 : w_ar w1 (n_v vs 0) 95 = w_ar ws (n_v vs 0) 95 := by show v_ad (w_fd w1 _ _) = v_ad (w_fd ws _ _); rw [s1.2, if_neg (fun e => absurd e.2 (by decide))]
  have ar_0_102_1 : w_ar w1 (n_v vs 0) 102 = w_ar ws (n_v vs 0) 102 := by show v_ad (w_fd w1 _ _) = v_ad (w_fd ws _ _); rw [s1.2, if_neg (fun e => absurd e.2 (by decide))]
  have ar_0_104_1 : w_ar w1 (n_v vs 0) 104 = w_ar ws (n_v vs 0) 104 := by show v_ad (w_fd w1 _ _) = v_ad (w_fd ws _ _); rw [s1.2, if_neg (fun e => absurd e.2 (by decide))]
  have ar_0_108_1 : w_ar w1 (n_v vs 0) 108 = w_ar ws (n_v vs 0) 108 := by show v_ad (w_fd w1 _ _) = v_ad (w_fd ws _ _); rw [s1.2, if_neg (fun e => absurd e.2 (by decide))]
  have ar_0_109_1 : w_ar w1 (n_v vs 0) 109 = w_ar ws (n_v vs 0) 109 := by show v_ad (w_fd w1 _ _) = v_ad (w_fd ws _ _); rw [s1.2, if_neg (fun e => absurd e.2 (by decide))]
  have g8 : v_iv (n_v vs 7) = w_fi w1 (n_v vs 0) 100 := congrArg v_iv f8
  simp only [ar_0_2_1, ar_0_95_1, ar_0_102_1, ar_0_104_1, ar_0_108_1, ar_0_109_1] at f9 f11 f16
  have fe_0_5_1 : w_fi ws (n_v vs 0) 5 = w_fi w1 (n_v vs 0) 5 := by show v_iv (w_fd _ _ _) = v_iv (w_fd _ _ _); rw [s1.2, if_neg (fun e => absurd e.2 (by decide))]
  have fe_0_100_1 : w_fi ws (n_v vs 0) 100 = v_iv (n_v vs 14) := by show v_iv (w_fd _ _ _) = _; rw [s1.2, if_pos ⟨rfl, rfl⟩]
  have fe_0_107_1 : w_fi ws (n_v vs 0) 107 = w_fi w1 (n_v vs 0) 107 := by show v_iv (w_fd _ _ _) = v_iv (w_fd _ _ _); rw [s1.2, if_neg (fun e => absurd e.2 (by decide))]
  have hE_0_2_1 : ∀ j : Int, w_ei ws (w_ar ws (n_v vs 0) 2) j = w_ei w1 (w_ar ws (n_v vs 0) 2) j := fun j => s1.1 _ _
  have hE_0_95_1 : ∀ j : Int, w_ei ws (w_ar ws (n_v vs 0) 95) j = w_ei w1 (w_ar ws (n_v vs 0) 95) j := fun j => s1.1 _ _
  have hE_0_102_1 : ∀ j : Int, w_ei ws (w_ar ws (n_v vs 0) 102) j = w_ei w1 (w_ar ws (n_v vs 0) 102) j := fun j => s1.1 _ _
  have hE_0_104_1 : ∀ j : Int, w_ei ws (w_ar ws (n_v vs 0) 104) j = w_ei w1 (w_ar ws (n_v vs 0) 104) j := fun j => s1.1 _ _
  have hE_0_108_1 : ∀ j : Int, w_ei ws (w_ar ws (n_v vs 0) 108) j = w_ei w1 (w_ar ws (n_v vs 0) 108) j := fun j => s1.1 _ _
  have hE_0_109_1 : ∀ j : Int, w_ei ws (w_ar ws (n_v vs 0) 109) j = w_ei w1 (w_ar ws (n_v vs 0) 109) j := fun j => s1.1 _ _
  have kz_0_100 := fdq_162 hD hth r0
  have kz_0_107 := fdq_163 hD hth r0
  have nf0 : fc_1 PRD (20, [2, 4, 7, 15], [60, 2, 4, 442, 5, 100, 2, 95, 102, 104]) ws (vs) := by
    refine ⟨nf_in hl rfl, sgq_1713 ?_⟩
    · show LID (w_fi ws (n_v vs 2) 5) (w_fi ws (n_v vs 2) 100) (w_ei ws (w_ar ws (n_v vs 2) 2)) (w_ei ws (w_ar ws (n_v vs 2) 95)) (w_ei ws (w_ar ws (n_v vs 2) 102)) (w_ei ws (w_ar ws (n_v vs 2) 104)) (v_iv (n_v vs 4)) (v_iv (n_v vs 7)) (v_iv (n_v vs 15))
      rw [q2]
      exact vc_Mo_list_8_0 (v_iv (n_v vs 4)) (v_iv (n_v vs 5)) (v_iv (n_v vs 6)) (v_iv (n_v vs 7)) (v_iv (n_v vs 10)) (v_iv (n_v vs 14)) (v_iv (n_v vs 15)) (w_ei ws (w_ar ws (n_v vs 0) 2)) (w_ei ws (w_ar ws (n_v vs 0) 95)) (w_fi ws (n_v vs 0) 5) (w_fi ws (n_v vs 0) 107) (w_fi w1 (n_v vs 0) 100) (w_ei w1 (w_ar ws (n_v vs 0) 2)) (w_ei w1 (w_ar ws (n_v vs 0) 95)) (w_ei w1 (w_ar ws (n_v vs 0) 102)) (w_ei w1 (w_ar ws (n_v vs 0) 104)) (w_fi w1 (n_v vs 0) 5) (w_fi w1 (n_v vs 0) 107) (w_ei w1 (w_ar ws (n_v vs 0) 108)) (w_ei w1 (w_ar ws (n_v vs 0) 109)) (w_fi ws (n_v vs 0) 100) (w_ei ws (w_ar ws (n_v vs 0) 102)) (w_ei ws (w_ar ws (n_v vs 0) 104)) (w_ei ws (w_ar ws (n_v vs 0) 108)) (w_ei ws (w_ar ws (n_v vs 0) 109)) k4 k5 k6 k7 k14 k15 d2 f0 g8 f9 fe_0_5_1 fe_0_100_1 fe_0_107_1 hE_0_2_1 hE_0_95_1 hE_0_102_1 hE_0_104_1 hE_0_108_1 hE_0_109_1 kz_0_100 kz_0_107
  have nf1 : fc_1 PRD (20, [2], [60, 3, 4, 439, 5, 107, 100, 2, 102, 108, 109]) ws (vs) := by
    refine ⟨nf_in hl rfl, sgq_630 ?_⟩
    · show LNP (w_fi ws (n_v vs 2) 5) (w_fi ws (n_v vs 2) 107) (w_fi ws (n_v vs 2) 100) (w_ei ws (w_ar ws (n_v vs 2) 2)) (w_ei ws (w_ar ws (n_v vs 2) 102)) (w_ei ws (w_ar ws (n_v vs 2) 108)) (w_ei ws (w_ar ws (n_v vs 2) 109))
      rw [q2]
      exact vc_Mo_list_8_1 (v_iv (n_v vs 7)) (v_iv (n_v vs 14)) (w_ei ws (w_ar ws (n_v vs 0) 2)) (w_ei ws (w_ar ws (n_v vs 0) 95)) (w_fi ws (n_v vs 0) 5) (w_fi ws (n_v vs 0) 107) (w_fi w1 (n_v vs 0) 100) (w_ei w1 (w_ar ws (n_v vs 0) 2)) (w_ei w1 (w_ar ws (n_v vs 0) 95)) (w_ei w1 (w_ar ws (n_v vs 0) 102)) (w_ei w1 (w_ar ws (n_v vs 0) 104)) (w_fi w1 (n_v vs 0) 5) (w_fi w1 (n_v vs 0) 107) (w_ei w1 (w_ar ws (n_v vs 0) 108)) (w_ei w1 (w_ar ws (n_v vs 0) 109)) (w_fi ws (n_v vs 0) 100) (w_ei ws (w_ar ws (n_v vs 0) 102)) (w_ei ws (w_ar ws (n_v vs 0) 104)) (w_ei ws (w_ar ws (n_v vs 0) 108)) (w_ei ws (w_ar ws (n_v vs 0) 109)) k7 k14 d2 g8 f16 fe_0_5_1 fe_0_100_1 fe_0_107_1 hE_0_2_1 hE_0_95_1 hE_0_102_1 hE_0_104_1 hE_0_108_1 hE_0_109_1 kz_0_100 kz_0_107
  have nf2 : fc_1 PRD (20, [2, 4], [50, 3, 1, 107, 100, 5, 2, 1, 3, 2, 0, 107, 4, 11, 5, 3, 2, 0, 100, 3, 0, 2, 2, 0, 5, 1, 1]) ws (vs) := by
    refine ⟨nf_in hl rfl, sgq_1706 ?_⟩
    · show w_fi ws (n_v vs 2) 107 = ((w_fi ws (n_v vs 2) 100 - w_ei ws (w_ar ws (n_v vs 2) 2) (w_fi ws (n_v vs 2) 5)) + v_iv (n_v vs 4))
      rw [q2]
      exact vc_Mo_list_8_2 (v_iv (n_v vs 4)) (v_iv (n_v vs 7)) (v_iv (n_v vs 12)) (v_iv (n_v vs 14)) (w_ei ws (w_ar ws (n_v vs 0) 2)) (w_ei ws (w_ar ws (n_v vs 0) 95)) (w_fi ws (n_v vs 0) 5) (w_fi ws (n_v vs 0) 107) (w_fi w1 (n_v vs 0) 100) (w_ei w1 (w_ar ws (n_v vs 0) 2)) (w_ei w1 (w_ar ws (n_v vs 0) 95)) (w_ei w1 (w_ar ws (n_v vs 0) 102)) (w_ei w1 (w_ar ws (n_v vs 0) 104)) (w_fi w1 (n_v vs 0) 5) (w_fi w1 (n_v vs 0) 107) (w_ei w1 (w_ar ws (n_v vs 0) 108)) (w_ei w1 (w_ar ws (n_v vs 0) 109)) (w_fi ws (n_v vs 0) 100) (w_ei ws (w_ar ws (n_v vs 0) 102)) (w_ei ws (w_ar ws (n_v vs 0) 104)) (w_ei ws (w_ar ws (n_v vs 0) 108)) (w_ei ws (w_ar ws (n_v vs 0) 109)) k4 k7 k12 k14 d2 f5 g8 f11 fe_0_5_1 fe_0_100_1 fe_0_107_1 hE_0_2_1 hE_0_95_1 hE_0_102_1 hE_0_104_1 hE_0_108_1 hE_0_109_1 kz_0_100 kz_0_107
  refine ⟨(fun _ h => (by cases h)), [], trivial, ?_, (fun _ h => (by cases h))⟩
  rw [List.append_nil]
  exact List.forall_mem_cons.mpr ⟨⟨show (20 : Nat) < 100 from by decide, nf0⟩, List.forall_mem_cons.mpr ⟨⟨show (20 : Nat) < 100 from by decide, nf1⟩, List.forall_mem_cons.mpr ⟨⟨show (20 : Nat) < 100 from by decide, nf2⟩, (fun _ h => (by cases h))⟩⟩⟩
set_option maxHeartbeats 4000000 in
theorem vc_Mo_list_9_0 (x4 : Int) (x6 : Int) (items_0 : Int) (all_0 : Int → Int) (turned_0 : Int → Int) (itemLayer_0 : Int → Int) (firstJoint_0 : Int → Int) (r_0 : Int) (lineA_0 : Int → Int) (lineB_0 : Int → Int) (lines_0 : Int) (layerMany_0 : Int) (k4 : 0 ≤ x4 ∧ x4 ≤ 76) (k6 : 0 ≤ x6 ∧ x6 ≤ 76) (d0 : x6 + 0 ≤ x4 ∧ x4 ≤ x6 + 4294967296) (g1 : x6 = items_0) (f2 : LIF (r_0) (items_0) (all_0) (turned_0) (itemLayer_0) (firstJoint_0)) (f3 : LNP (r_0) (lines_0) (items_0) (all_0) (itemLayer_0) (lineA_0) (lineB_0)) (f4 : LMF (layerMany_0) (itemLayer_0) (x4)) (f5 : lines_0 = ((items_0 - all_0 (r_0)) + all_0 ((r_0 + 1)))) (kz_0_100 : 0 ≤ items_0 ∧ items_0 ≤ 76) (kz_0_101 : 0 ≤ layerMany_0 ∧ layerMany_0 ≤ 76) (kz_0_107 : 0 ≤ lines_0 ∧ lines_0 ≤ 130) : LSA (r_0) (items_0) (layerMany_0) (lines_0) (all_0) (turned_0) (itemLayer_0) (firstJoint_0) (lineA_0) (lineB_0) := by
  first
    | assumption
    | exact lsa_of ‹LIF _ _ _ _ _ _› ‹LNP _ _ _ _ _ _ _› ‹LMF _ _ _› (by omega) (by have b := (lic_bd ‹LIF _ _ _ _ _ _›).1; have n := ‹LIF _ _ _ _ _ _›.1.1.1.1; omega)
set_option maxHeartbeats 4000000 in
theorem vc_Mo_list_9_1 (x7 : Int) (items_0 : Int) (itemLayer_0 : Int → Int) (layerSize_0 : Int → Int) (layerItem_0 : Int → Int) (k7 : 0 ≤ x7 ∧ x7 ≤ 0) (kz_0_100 : 0 ≤ items_0 ∧ items_0 ≤ 76) : LLS (items_0) (itemLayer_0) (layerSize_0) (layerItem_0) (x7) := by
  first
    | (intro m a b; exfalso; omega)
    | exact lli_end ‹LLI _ _ _ _ _ _› (by omega) (by omega)
def o_Mo_list_9 : or_T := (174, 8, [(0, (2, 0, 0, [165])), (2, (2, 0, 0, [165])), (4, (0, 0, 76, [])), (6, (0, 0, 76, [])), (7, (0, 0, 0, []))], [(7, [4, 6], [3]), (9, [6, 2], [100]), (20, [2], [60, 2, 4, 443, 5, 100, 2, 95, 102, 104]), (20, [2], [60, 3, 4, 439, 5, 107, 100, 2, 102, 108, 109]), (20, [2, 4], [60, 1, 1, 444, 101, 102]), (20, [2], [50, 3, 1, 107, 100, 5, 2, 1, 3, 2, 0, 107, 4, 11, 5, 3, 2, 0, 100, 3, 0, 2, 2, 0, 5, 3, 0, 2, 4, 3, 2, 0, 5, 0, 1]), (24, [0, 2], [])], [], [], [(20, [2], [60, 4, 6, 445, 5, 100, 101, 107, 2, 95, 102, 104, 108, 109]), (20, [2, 7], [60, 1, 3, 446, 100, 102, 105, 106])], [], [(4, 6, 0, 4294967296)])
theorem oo_Mo_list_9 {kA : Nat → ClassId} : or_ok PRD kA GG o_Mo_list_9 := by
  refine or_mk fun A ta ws vs hD hth hl => ?_
  intro t0 r0 t2 r2 t4 k4 t6 k6 t7 k7 d0 f0 f1 f2 f3 f4 f5 f6
  replace f1 := shm_1555 f1
  replace f2 := shm_1709 f2
  replace f3 := shm_630 f3
  replace f4 := shm_1710 f4
  replace f5 := shm_1711 f5
  replace f6 := shm_5 f6
  have q2 : n_v vs 2 = n_v vs 0 := f6.symm
  simp only [q2] at f1 f2 f3 f4 f5
  have g1 : v_iv (n_v vs 6) = w_fi ws (n_v vs 0) 100 := congrArg v_iv f1
  have kz_0_100 := fdq_162 hD hth r0
  have kz_0_101 := fdq_125 hD hth r0
  have kz_0_107 := fdq_163 hD hth r0
  have nf0 : fc_1 PRD (20, [2], [60, 4, 6, 445, 5, 100, 101, 107, 2, 95, 102, 104, 108, 109]) ws (vs) := by
    refine ⟨nf_in hl rfl, sgq_674 ?_⟩
    · show LSA (w_fi ws (n_v vs 2) 5) (w_fi ws (n_v vs 2) 100) (w_fi ws (n_v vs 2) 101) (w_fi ws (n_v vs 2) 107) (w_ei ws (w_ar ws (n_v vs 2) 2)) (w_ei ws (w_ar ws (n_v vs 2) 95)) (w_ei ws (w_ar ws (n_v vs 2) 102)) (w_ei ws (w_ar ws (n_v vs 2) 104)) (w_ei ws (w_ar ws (n_v vs 2) 108)) (w_ei ws (w_ar ws (n_v vs 2) 109))
      rw [q2]
      exact vc_Mo_list_9_0 (v_iv (n_v vs 4)) (v_iv (n_v vs 6)) (w_fi ws (n_v vs 0) 100) (w_ei ws (w_ar ws (n_v vs 0) 2)) (w_ei ws (w_ar ws (n_v vs 0) 95)) (w_ei ws (w_ar ws (n_v vs 0) 102)) (w_ei ws (w_ar ws (n_v vs 0) 104)) (w_fi ws (n_v vs 0) 5) (w_ei ws (w_ar ws (n_v vs 0) 108)) (w_ei ws (w_ar ws (n_v vs 0) 109)) (w_fi ws (n_v vs 0) 107) (w_fi ws (n_v vs 0) 101) k4 k6 d0 g1 f2 f3 f4 f5 kz_0_100 kz_0_101 kz_0_107
  have nf1 : fc_1 PRD (20, [2, 7], [60, 1, 3, 446, 100, 102, 105, 106]) ws (vs) := by
    refine ⟨nf_in hl rfl, sgq_1719 ?_⟩
    · show LLS (w_fi ws (n_v vs 2) 100) (w_ei ws (w_ar ws (n_v vs 2) 102)) (w_ei ws (w_ar ws (n_v vs 2) 105)) (w_ei ws (w_ar ws (n_v vs 2) 106)) (v_iv (n_v vs 7))
      rw [q2]
      exact vc_Mo_list_9_1 (v_iv (n_v vs 7)) (w_fi ws (n_v vs 0) 100) (w_ei ws (w_ar ws (n_v vs 0) 102)) (w_ei ws (w_ar ws (n_v vs 0) 105)) (w_ei ws (w_ar ws (n_v vs 0) 106)) k7 kz_0_100
  refine ⟨(fun _ h => (by cases h)), [], trivial, ?_, (fun _ h => (by cases h))⟩
  rw [List.append_nil]
  exact List.forall_mem_cons.mpr ⟨⟨show (20 : Nat) < 100 from by decide, nf0⟩, List.forall_mem_cons.mpr ⟨⟨show (20 : Nat) < 100 from by decide, nf1⟩, (fun _ h => (by cases h))⟩⟩
set_option maxHeartbeats 4000000 in
theorem vc_Mo_list_10_r0 (x4 : Int) (x6 : Int) (x8 : Int) (x10 : Int) (itemLayer_0 : Int → Int) (layerMany_0 : Int) (items_0 : Int) (all_0 : Int → Int) (turned_0 : Int → Int) (firstJoint_0 : Int → Int) (r_0 : Int) (lines_0 : Int) (k4 : 0 ≤ x4 ∧ x4 ≤ 75) (k6 : 1 ≤ x6 ∧ x6 ≤ 76) (k8 : 0 ≤ x8 ∧ x8 ≤ 75) (k10 : 1 ≤ x10 ∧ x10 ≤ 76) (d1 : x8 + 1 ≤ x10 ∧ x10 ≤ x8 + 1) (d2 : x6 + (-4294967296) ≤ x4 ∧ x4 ≤ x6 + (-1)) (h3 : x8 = itemLayer_0 (x4)) (g7 : x6 = items_0) (f8 : LIF (r_0) (items_0) (all_0) (turned_0) (itemLayer_0) (firstJoint_0)) (f10 : LMF (layerMany_0) (itemLayer_0) (x4)) (f11 : lines_0 = ((items_0 - all_0 (r_0)) + all_0 ((r_0 + 1)))) (kz_0_100 : 0 ≤ items_0 ∧ items_0 ≤ 76) (kz_0_101 : 0 ≤ layerMany_0 ∧ layerMany_0 ≤ 76) (kz_0_107 : 0 ≤ lines_0 ∧ lines_0 ≤ 130) : 1 ≤ x10 ∧ x10 ≤ 24 := by
  have h := lif_il (i := x4) ‹LIF _ _ _ _ _ _› (by omega) (by omega)
  have h2 := ‹LMF _ _ _›.1
  omega
def o_Mo_list_10 : or_T := (163, 11, [(0, (2, 0, 0, [165])), (2, (2, 0, 0, [165])), (4, (0, 0, 75, [])), (5, (0, 0, 24, [])), (6, (0, 1, 76, [])), (7, (2, 0, 0, [235])), (8, (0, 0, 75, [])), (9, (0, 1, 1, [])), (10, (0, 1, 76, []))], [(7, [5, 10], [5]), (7, [10, 10], [5]), (1, [10, 8, 9], []), (10, [8, 7, 4], []), (9, [7, 2], [102]), (9, [5, 2], [101]), (7, [4, 6], [2]), (9, [6, 2], [100]), (20, [2], [60, 2, 4, 443, 5, 100, 2, 95, 102, 104]), (20, [2], [60, 3, 4, 439, 5, 107, 100, 2, 102, 108, 109]), (20, [2, 4], [60, 1, 1, 444, 101, 102]), (20, [2], [50, 3, 1, 107, 100, 5, 2, 1, 3, 2, 0, 107, 4, 11, 5, 3, 2, 0, 100, 3, 0, 2, 2, 0, 5, 3, 0, 2, 4, 3, 2, 0, 5, 0, 1]), (24, [0, 2], [])], [(10, (0, 1, 24, []))], [], [], [], [(5, 10, -4294967296, 0), (10, 8, 1, 1), (4, 6, -4294967296, -1), (5, 4, -4294967296, 23)])
theorem oo_Mo_list_10 {kA : Nat → ClassId} : or_ok PRD kA GG o_Mo_list_10 := by
  refine or_mk fun A ta ws vs hD hth hl => ?_
  intro t0 r0 t2 r2 t4 k4 t5 k5 t6 k6 t7 r7 t8 k8 t9 k9 t10 k10 d0 d1 d2 d3 f0 f1 f2 f3 f4 f5 f6 f7 f8 f9 f10 f11 f12
  replace f3 := shm_107 f3
  replace f4 := shm_673 f4
  replace f7 := shm_1555 f7
  replace f8 := shm_1709 f8
  replace f10 := shm_1710 f10
  replace f11 := shm_1711 f11
  replace f12 := shm_5 f12
  have q2 : n_v vs 2 = n_v vs 0 := f12.symm
  simp only [q2] at f4 f7 f8 f10 f11
  have ad_7 : v_ad (n_v vs 7) = w_ar ws (n_v vs 0) 102 := congrArg v_ad f4
  simp only [ad_7] at f3
  have h3 : v_iv (n_v vs 8) = w_ei ws (w_ar ws (n_v vs 0) 102) (v_iv (n_v vs 4)) := f3
  have g7 : v_iv (n_v vs 6) = w_fi ws (n_v vs 0) 100 := congrArg v_iv f7
  have kz_0_100 := fdq_162 hD hth r0
  have kz_0_101 := fdq_125 hD hth r0
  have kz_0_107 := fdq_163 hD hth r0
  have hrf0 : 1 ≤ v_iv (n_v vs 10) ∧ v_iv (n_v vs 10) ≤ 24 := vc_Mo_list_10_r0 (v_iv (n_v vs 4)) (v_iv (n_v vs 6)) (v_iv (n_v vs 8)) (v_iv (n_v vs 10)) (w_ei ws (w_ar ws (n_v vs 0) 102)) (w_fi ws (n_v vs 0) 101) (w_fi ws (n_v vs 0) 100) (w_ei ws (w_ar ws (n_v vs 0) 2)) (w_ei ws (w_ar ws (n_v vs 0) 95)) (w_ei ws (w_ar ws (n_v vs 0) 104)) (w_fi ws (n_v vs 0) 5) (w_fi ws (n_v vs 0) 107) k4 k6 k8 k10 d1 d2 h3 g7 f8 f10 f11 kz_0_100 kz_0_101 kz_0_107
  have rf10 : tv_ok ta (0, 1, 24, []) (n_v vs 10) := tv_in t10 (by first | omega | grind) (by first | omega | grind)
  refine ⟨List.forall_mem_cons.mpr ⟨rf10, (fun _ h => (by cases h))⟩, [], trivial, ?_, (fun _ h => (by cases h))⟩
  rw [List.append_nil]
  exact (fun _ h => (by cases h))
set_option maxHeartbeats 4000000 in
theorem vc_Mo_list_11_0 (x4 : Int) (x5 : Int) (x6 : Int) (x8 : Int) (x10 : Int) (x11 : Int) (all_0 : Int → Int) (turned_0 : Int → Int) (itemLayer_0 : Int → Int) (firstJoint_0 : Int → Int) (r_0 : Int) (items_0 : Int) (lineA_0 : Int → Int) (lineB_0 : Int → Int) (lines_0 : Int) (itemLayer_1 : Int → Int) (layerMany_1 : Int) (items_1 : Int) (all_1 : Int → Int) (turned_1 : Int → Int) (firstJoint_1 : Int → Int) (r_1 : Int) (lineA_1 : Int → Int) (lineB_1 : Int → Int) (lines_1 : Int) (layerMany_0 : Int) (k4 : 0 ≤ x4 ∧ x4 ≤ 75) (k5 : 0 ≤ x5 ∧ x5 ≤ 24) (k6 : 1 ≤ x6 ∧ x6 ≤ 76) (k8 : 0 ≤ x8 ∧ x8 ≤ 75) (k10 : 1 ≤ x10 ∧ x10 ≤ 24) (k11 : 1 ≤ x11 ∧ x11 ≤ 76) (d0 : x4 + 1 ≤ x11 ∧ x11 ≤ x4 + 1) (d1 : x6 + (-4294967296) ≤ x11 ∧ x11 ≤ x6 + 0) (d2 : x10 + (-4294967296) ≤ x5 ∧ x5 ≤ x10 + 0) (d3 : x8 + 1 ≤ x10 ∧ x10 ≤ x8 + 1) (d4 : x6 + (-4294967296) ≤ x4 ∧ x4 ≤ x6 + (-1)) (f0 : x11 = x4 + 1) (h9 : x8 = itemLayer_1 (x4)) (g11 : x5 = layerMany_1) (g13 : x6 = items_1) (f14 : LIF (r_1) (items_1) (all_1) (turned_1) (itemLayer_1) (firstJoint_1)) (f16 : LMF (layerMany_1) (itemLayer_1) (x4)) (fe_0_5_1 : r_0 = r_1) (fe_0_100_1 : items_0 = items_1) (fe_0_101_1 : layerMany_0 = x10) (fe_0_107_1 : lines_0 = lines_1) (hE_0_2_1 : ∀ j : Int, all_0 j = all_1 j) (hE_0_95_1 : ∀ j : Int, turned_0 j = turned_1 j) (hE_0_102_1 : ∀ j : Int, itemLayer_0 j = itemLayer_1 j) (hE_0_104_1 : ∀ j : Int, firstJoint_0 j = firstJoint_1 j) (hE_0_108_1 : ∀ j : Int, lineA_0 j = lineA_1 j) (hE_0_109_1 : ∀ j : Int, lineB_0 j = lineB_1 j) (kz_0_100 : 0 ≤ items_0 ∧ items_0 ≤ 76) (kz_0_101 : 0 ≤ layerMany_0 ∧ layerMany_0 ≤ 76) (kz_0_107 : 0 ≤ lines_0 ∧ lines_0 ≤ 130) : LMF (layerMany_0) (itemLayer_0) (x11) := by
  subst fe_0_5_1
  subst fe_0_100_1
  subst fe_0_107_1
  have e_hE_0_2_1 := funext hE_0_2_1; subst e_hE_0_2_1
  have e_hE_0_95_1 := funext hE_0_95_1; subst e_hE_0_95_1
  have e_hE_0_102_1 := funext hE_0_102_1; subst e_hE_0_102_1
  have e_hE_0_104_1 := funext hE_0_104_1; subst e_hE_0_104_1
  have e_hE_0_108_1 := funext hE_0_108_1; subst e_hE_0_108_1
  have e_hE_0_109_1 := funext hE_0_109_1; subst e_hE_0_109_1
  first
    | exact ⟨by omega, fun j a b => by exfalso; omega⟩
    | exact lm1_step ‹LMF _ _ _› ‹LIF _ _ _ _ _ _› (by omega) (by omega) (by assumption) (by assumption) (by omega)
def o_Mo_list_11 : or_T := (139, 12, [(0, (2, 0, 0, [165])), (2, (2, 0, 0, [165])), (4, (0, 0, 75, [])), (5, (0, 0, 24, [])), (6, (0, 1, 76, [])), (7, (2, 0, 0, [235])), (8, (0, 0, 75, [])), (9, (0, 1, 1, [])), (10, (0, 1, 24, [])), (11, (0, 1, 76, []))], [(6, [11, 4], [1]), (20, [2], [60, 2, 4, 443, 5, 100, 2, 95, 102, 104]), (20, [2], [60, 3, 4, 439, 5, 107, 100, 2, 102, 108, 109]), (20, [2], [50, 3, 1, 107, 100, 5, 2, 1, 3, 2, 0, 107, 4, 11, 5, 3, 2, 0, 100, 3, 0, 2, 2, 0, 5, 3, 0, 2, 4, 3, 2, 0, 5, 0, 1]), (24, [0, 2], []), (101, [2, 10], [101]), (7, [5, 10], [5]), (7, [10, 10], [5]), (1, [10, 8, 9], []), (10, [8, 7, 4], []), (9, [7, 2], [102]), (9, [5, 2], [101]), (7, [4, 6], [2]), (9, [6, 2], [100]), (20, [2], [60, 2, 4, 443, 5, 100, 2, 95, 102, 104]), (20, [2], [60, 3, 4, 439, 5, 107, 100, 2, 102, 108, 109]), (20, [2, 4], [60, 1, 1, 444, 101, 102]), (20, [2], [50, 3, 1, 107, 100, 5, 2, 1, 3, 2, 0, 107, 4, 11, 5, 3, 2, 0, 100, 3, 0, 2, 2, 0, 5, 3, 0, 2, 4, 3, 2, 0, 5, 0, 1])], [], [], [(20, [2, 11], [60, 1, 1, 444, 101, 102])], [], [(11, 4, 1, 1), (11, 6, -4294967296, 0), (5, 10, -4294967296, 0), (10, 8, 1, 1), (4, 6, -4294967296, -1), (5, 4, -4294967296, 23)])
theorem oo_Mo_list_11 {kA : Nat → ClassId} : or_ok PRD kA GG o_Mo_list_11 := by
  refine or_mk fun A ta ws vs hD hth hl => ?_
  intro t0 r0 t2 r2 t4 k4 t5 k5 t6 k6 t7 r7 t8 k8 t9 k9 t10 k10 t11 k11 d0 d1 d2 d3 d4 d5 f0 f1 f2 f3 f4 ta1 w1 le1 s1 f6 f7 f8 f9 f10 f11 f12 f13 f14 f15 f16 f17
  replace f0 := shm_4 f0
  replace f4 := shm_5 f4
  have s1 : (∀ b j, w_el ws b j = w_el w1 b j) ∧ ∀ b j, w_fd ws b j = if b = v_ad (n_v vs 2) ∧ j = 101 then n_v vs 10 else w_fd w1 b j := s1.2
  replace f9 := shm_107 f9
  replace f10 := shm_673 f10
  replace f11 := shm_617 f11
  replace f13 := shm_1555 f13
  replace f14 := shm_1709 f14
  replace f16 := shm_1710 f16
  have q2 : n_v vs 2 = n_v vs 0 := f4.symm
  rw [q2] at s1
  simp only [q2] at f10 f11 f13 f14 f16
  have ar_0_2_1 : w_ar w1 (n_v vs 0) 2 = w_ar ws (n_v vs 0) 2 := by show v_ad (w_fd w1 _ _) = v_ad (w_fd ws _ _); rw [s1.2, if_neg (fun e => absurd e.2 (by decide))]
  have ar_0_95_1 : w_ar w1 (n_v vs 0) 95 = w_ar ws (n_v vs 0) 95 := by show v_ad (w_fd w1 _ _) = v_ad (w_fd ws _ _); rw [s1.2, if_neg (fun e => absurd e.2 (by decide))]
  have ar_0_102_1 : w_ar w1 (n_v vs 0) 102 = w_ar ws (n_v vs 0) 102 := by show v_ad (w_fd w1 _ _) = v_ad (w_fd ws _ _); rw [s1.2, if_neg (fun e => absurd e.2 (by decide))]
  have ar_0_104_1 : w_ar w1 (n_v vs 0) 104 = w_ar ws (n_v vs 0) 104 := by show v_ad (w_fd w1 _ _) = v_ad (w_fd ws _ _); rw [s1.2, if_neg (fun e => absurd e.2 (by decide))]
  have ar_0_108_1 : w_ar w1 (n_v vs 0) 108 = w_ar ws (n_v vs 0) 108 := by show v_ad (w_fd w1 _ _) = v_ad (w_fd ws _ _); rw [s1.2, if_neg (fun e => absurd e.2 (by decide))]
  have ar_0_109_1 : w_ar w1 (n_v vs 0) 109 = w_ar ws (n_v vs 0) 109 := by show v_ad (w_fd w1 _ _) = v_ad (w_fd ws _ _); rw [s1.2, if_neg (fun e => absurd e.2 (by decide))]
  have ad_7 : v_ad (n_v vs 7) = w_ar ws (n_v vs 0) 102 := (congrArg v_ad f10).trans ar_0_102_1
  simp only [ad_7] at f9
  have h9 : v_iv (n_v vs 8) = w_ei w1 (w_ar ws (n_v vs 0) 102) (v_iv (n_v vs 4)) := f9
  have g11 : v_iv (n_v vs 5) = w_fi w1 (n_v vs 0) 101 := congrArg v_iv f11
  have g13 : v_iv (n_v vs 6) = w_fi w1 (n_v vs 0) 100 := congrArg v_iv f13
  simp only [ar_0_2_1, ar_0_95_1, ar_0_102_1, ar_0_104_1, ar_0_108_1, ar_0_109_1] at f14 f16
  have fe_0_5_1 : w_fi ws (n_v vs 0) 5 = w_fi w1 (n_v vs 0) 5 := by show v_iv (w_fd _ _ _) = v_iv (w_fd _ _ _); rw [s1.2, if_neg (fun e => absurd e.2 (by decide))]
  have fe_0_100_1 : w_fi ws (n_v vs 0) 100 = w_fi w1 (n_v vs 0) 100 := by show v_iv (w_fd _ _ _) = v_iv (w_fd _ _ _); rw [s1.2, if_neg (fun e => absurd e.2 (by decide))]
  have fe_0_101_1 : w_fi ws (n_v vs 0) 101 = v_iv (n_v vs 10) := by show v_iv (w_fd _ _ _) = _; rw [s1.2, if_pos ⟨rfl, rfl⟩]
  have fe_0_107_1 : w_fi ws (n_v vs 0) 107 = w_fi w1 (n_v vs 0) 107 := by show v_iv (w_fd _ _ _) = v_iv (w_fd _ _ _); rw [s1.2, if_neg (fun e => absurd e.2 (by decide))]
  have hE_0_2_1 : ∀ j : Int, w_ei ws (w_ar ws (n_v vs 0) 2) j = w_ei w1 (w_ar ws (n_v vs 0) 2) j := fun j => s1.1 _ _
  have hE_0_95_1 : ∀ j : Int, w_ei ws (w_ar ws (n_v vs 0) 95) j = w_ei w1 (w_ar ws (n_v vs 0) 95) j := fun j => s1.1 _ _
  have hE_0_102_1 : ∀ j : Int, w_ei ws (w_ar ws (n_v vs 0) 102) j = w_ei w1 (w_ar ws (n_v vs 0) 102) j := fun j => s1.1 _ _
  have hE_0_104_1 : ∀ j : Int, w_ei ws (w_ar ws (n_v vs 0) 104) j = w_ei w1 (w_ar ws (n_v vs 0) 104) j := fun j => s1.1 _ _
  have hE_0_108_1 : ∀ j : Int, w_ei ws (w_ar ws (n_v vs 0) 108) j = w_ei w1 (w_ar ws (n_v vs 0) 108) j := fun j => s1.1 _ _
  have hE_0_109_1 : ∀ j : Int, w_ei ws (w_ar ws (n_v vs 0) 109) j = w_ei w1 (w_ar ws (n_v vs 0) 109) j := fun j => s1.1 _ _
  have kz_0_100 := fdq_162 hD hth r0
  have kz_0_101 := fdq_125 hD hth r0
  have kz_0_107 := fdq_163 hD hth r0
  have nf0 : fc_1 PRD (20, [2, 11], [60, 1, 1, 444, 101, 102]) ws (vs) := by
    refine ⟨nf_in hl rfl, sgq_1710 ?_⟩
    · show LMF (w_fi ws (n_v vs 2) 101) (w_ei ws (w_ar ws (n_v vs 2) 102)) (v_iv (n_v vs 11))
      rw [q2]
      exact vc_Mo_list_11_0 (v_iv (n_v vs 4)) (v_iv (n_v vs 5)) (v_iv (n_v vs 6)) (v_iv (n_v vs 8)) (v_iv (n_v vs 10)) (v_iv (n_v vs 11)) (w_ei ws (w_ar ws (n_v vs 0) 2)) (w_ei ws (w_ar ws (n_v vs 0) 95)) (w_ei ws (w_ar ws (n_v vs 0) 102)) (w_ei ws (w_ar ws (n_v vs 0) 104)) (w_fi ws (n_v vs 0) 5) (w_fi ws (n_v vs 0) 100) (w_ei ws (w_ar ws (n_v vs 0) 108)) (w_ei ws (w_ar ws (n_v vs 0) 109)) (w_fi ws (n_v vs 0) 107) (w_ei w1 (w_ar ws (n_v vs 0) 102)) (w_fi w1 (n_v vs 0) 101) (w_fi w1 (n_v vs 0) 100) (w_ei w1 (w_ar ws (n_v vs 0) 2)) (w_ei w1 (w_ar ws (n_v vs 0) 95)) (w_ei w1 (w_ar ws (n_v vs 0) 104)) (w_fi w1 (n_v vs 0) 5) (w_ei w1 (w_ar ws (n_v vs 0) 108)) (w_ei w1 (w_ar ws (n_v vs 0) 109)) (w_fi w1 (n_v vs 0) 107) (w_fi ws (n_v vs 0) 101) k4 k5 k6 k8 k10 k11 d0 d1 d2 d3 d4 f0 h9 g11 g13 f14 f16 fe_0_5_1 fe_0_100_1 fe_0_101_1 fe_0_107_1 hE_0_2_1 hE_0_95_1 hE_0_102_1 hE_0_104_1 hE_0_108_1 hE_0_109_1 kz_0_100 kz_0_101 kz_0_107
  refine ⟨(fun _ h => (by cases h)), [], trivial, ?_, (fun _ h => (by cases h))⟩
  rw [List.append_nil]
  exact List.forall_mem_cons.mpr ⟨⟨show (20 : Nat) < 100 from by decide, nf0⟩, (fun _ h => (by cases h))⟩
set_option maxHeartbeats 4000000 in
theorem vc_Mo_list_12_0 (x4 : Int) (x5 : Int) (x6 : Int) (x8 : Int) (x10 : Int) (x11 : Int) (all_0 : Int → Int) (turned_0 : Int → Int) (itemLayer_0 : Int → Int) (firstJoint_0 : Int → Int) (r_0 : Int) (items_0 : Int) (lineA_0 : Int → Int) (lineB_0 : Int → Int) (lines_0 : Int) (itemLayer_1 : Int → Int) (layerMany_1 : Int) (items_1 : Int) (all_1 : Int → Int) (turned_1 : Int → Int) (firstJoint_1 : Int → Int) (r_1 : Int) (lineA_1 : Int → Int) (lineB_1 : Int → Int) (lines_1 : Int) (layerMany_0 : Int) (k4 : 0 ≤ x4 ∧ x4 ≤ 75) (k5 : 2 ≤ x5 ∧ x5 ≤ 24) (k6 : 1 ≤ x6 ∧ x6 ≤ 76) (k8 : 0 ≤ x8 ∧ x8 ≤ 75) (k10 : 1 ≤ x10 ∧ x10 ≤ 23) (k11 : 1 ≤ x11 ∧ x11 ≤ 76) (d0 : x4 + 1 ≤ x11 ∧ x11 ≤ x4 + 1) (d1 : x6 + (-4294967296) ≤ x11 ∧ x11 ≤ x6 + 0) (d2 : x10 + 1 ≤ x5 ∧ x5 ≤ x10 + 4294967296) (d3 : x8 + 1 ≤ x10 ∧ x10 ≤ x8 + 1) (d4 : x6 + (-4294967296) ≤ x4 ∧ x4 ≤ x6 + (-1)) (f0 : x11 = x4 + 1) (h9 : x8 = itemLayer_1 (x4)) (g11 : x5 = layerMany_1) (g13 : x6 = items_1) (f14 : LIF (r_1) (items_1) (all_1) (turned_1) (itemLayer_1) (firstJoint_1)) (f16 : LMF (layerMany_1) (itemLayer_1) (x4)) (fe_0_5_1 : r_0 = r_1) (fe_0_100_1 : items_0 = items_1) (fe_0_101_1 : layerMany_0 = x5) (fe_0_107_1 : lines_0 = lines_1) (hE_0_2_1 : ∀ j : Int, all_0 j = all_1 j) (hE_0_95_1 : ∀ j : Int, turned_0 j = turned_1 j) (hE_0_102_1 : ∀ j : Int, itemLayer_0 j = itemLayer_1 j) (hE_0_104_1 : ∀ j : Int, firstJoint_0 j = firstJoint_1 j) (hE_0_108_1 : ∀ j : Int, lineA_0 j = lineA_1 j) (hE_0_109_1 : ∀ j : Int, lineB_0 j = lineB_1 j) (kz_0_100 : 0 ≤ items_0 ∧ items_0 ≤ 76) (kz_0_101 : 0 ≤ layerMany_0 ∧ layerMany_0 ≤ 76) (kz_0_107 : 0 ≤ lines_0 ∧ lines_0 ≤ 130) : LMF (layerMany_0) (itemLayer_0) (x11) := by
  subst fe_0_5_1
  subst fe_0_100_1
  subst fe_0_107_1
  have e_hE_0_2_1 := funext hE_0_2_1; subst e_hE_0_2_1
  have e_hE_0_95_1 := funext hE_0_95_1; subst e_hE_0_95_1
  have e_hE_0_102_1 := funext hE_0_102_1; subst e_hE_0_102_1
  have e_hE_0_104_1 := funext hE_0_104_1; subst e_hE_0_104_1
  have e_hE_0_108_1 := funext hE_0_108_1; subst e_hE_0_108_1
  have e_hE_0_109_1 := funext hE_0_109_1; subst e_hE_0_109_1
  first
    | exact ⟨by omega, fun j a b => by exfalso; omega⟩
    | exact lm1_step ‹LMF _ _ _› ‹LIF _ _ _ _ _ _› (by omega) (by omega) (by assumption) (by assumption) (by omega)
def o_Mo_list_12 : or_T := (139, 12, [(0, (2, 0, 0, [165])), (2, (2, 0, 0, [165])), (4, (0, 0, 75, [])), (5, (0, 2, 24, [])), (6, (0, 1, 76, [])), (7, (2, 0, 0, [235])), (8, (0, 0, 75, [])), (9, (0, 1, 1, [])), (10, (0, 1, 23, [])), (11, (0, 1, 76, []))], [(6, [11, 4], [1]), (20, [2], [60, 2, 4, 443, 5, 100, 2, 95, 102, 104]), (20, [2], [60, 3, 4, 439, 5, 107, 100, 2, 102, 108, 109]), (20, [2], [50, 3, 1, 107, 100, 5, 2, 1, 3, 2, 0, 107, 4, 11, 5, 3, 2, 0, 100, 3, 0, 2, 2, 0, 5, 3, 0, 2, 4, 3, 2, 0, 5, 0, 1]), (24, [0, 2], []), (101, [2, 5], [101]), (7, [5, 5], [5]), (7, [10, 5], [5]), (1, [10, 8, 9], []), (10, [8, 7, 4], []), (9, [7, 2], [102]), (9, [5, 2], [101]), (7, [4, 6], [2]), (9, [6, 2], [100]), (20, [2], [60, 2, 4, 443, 5, 100, 2, 95, 102, 104]), (20, [2], [60, 3, 4, 439, 5, 107, 100, 2, 102, 108, 109]), (20, [2, 4], [60, 1, 1, 444, 101, 102]), (20, [2], [50, 3, 1, 107, 100, 5, 2, 1, 3, 2, 0, 107, 4, 11, 5, 3, 2, 0, 100, 3, 0, 2, 2, 0, 5, 3, 0, 2, 4, 3, 2, 0, 5, 0, 1])], [], [], [(20, [2, 11], [60, 1, 1, 444, 101, 102])], [], [(11, 4, 1, 1), (11, 6, -4294967296, 0), (5, 10, 1, 4294967296), (10, 8, 1, 1), (4, 6, -4294967296, -1), (5, 4, -4294967296, 23)])
theorem oo_Mo_list_12 {kA : Nat → ClassId} : or_ok PRD kA GG o_Mo_list_12 := by
  refine or_mk fun A ta ws vs hD hth hl => ?_
  intro t0 r0 t2 r2 t4 k4 t5 k5 t6 k6 t7 r7 t8 k8 t9 k9 t10 k10 t11 k11 d0 d1 d2 d3 d4 d5 f0 f1 f2 f3 f4 ta1 w1 le1 s1 f6 f7 f8 f9 f10 f11 f12 f13 f14 f15 f16 f17
  replace f0 := shm_4 f0
  replace f4 := shm_5 f4
  have s1 : (∀ b j, w_el ws b j = w_el w1 b j) ∧ ∀ b j, w_fd ws b j = if b = v_ad (n_v vs 2) ∧ j = 101 then n_v vs 5 else w_fd w1 b j := s1.2
  replace f9 := shm_107 f9
  replace f10 := shm_673 f10
  replace f11 := shm_617 f11
  replace f13 := shm_1555 f13
  replace f14 := shm_1709 f14
  replace f16 := shm_1710 f16
  have q2 : n_v vs 2 = n_v vs 0 := f4.symm
  rw [q2] at s1
  simp only [q2] at f10 f11 f13 f14 f16
  have ar_0_2_1 : w_ar w1 (n_v vs 0) 2 = w_ar ws (n_v vs 0) 2 := by show v_ad (w_fd w1 _ _) = v_ad (w_fd ws _ _); rw [s1.2, if_neg (fun e => absurd e.2 (by decide))]
  have ar_0_95_1 : w_ar w1 (n_v vs 0) 95 = w_ar ws (n_v vs 0) 95 := by show v_ad (w_fd w1 _ _) = v_ad (w_fd ws _ _); rw [s1.2, if_neg (fun e => absurd e.2 (by decide))]
  have ar_0_102_1 : w_ar w1 (n_v vs 0) 102 = w_ar ws (n_v vs 0) 102 := by show v_ad (w_fd w1 _ _) = v_ad (w_fd ws _ _); rw [s1.2, if_neg (fun e => absurd e.2 (by decide))]
  have ar_0_104_1 : w_ar w1 (n_v vs 0) 104 = w_ar ws (n_v vs 0) 104 := by show v_ad (w_fd w1 _ _) = v_ad (w_fd ws _ _); rw [s1.2, if_neg (fun e => absurd e.2 (by decide))]
  have ar_0_108_1 : w_ar w1 (n_v vs 0) 108 = w_ar ws (n_v vs 0) 108 := by show v_ad (w_fd w1 _ _) = v_ad (w_fd ws _ _); rw [s1.2, if_neg (fun e => absurd e.2 (by decide))]
  have ar_0_109_1 : w_ar w1 (n_v vs 0) 109 = w_ar ws (n_v vs 0) 109 := by show v_ad (w_fd w1 _ _) = v_ad (w_fd ws _ _); rw [s1.2, if_neg (fun e => absurd e.2 (by decide))]
  have ad_7 : v_ad (n_v vs 7) = w_ar ws (n_v vs 0) 102 := (congrArg v_ad f10).trans ar_0_102_1
  simp only [ad_7] at f9
  have h9 : v_iv (n_v vs 8) = w_ei w1 (w_ar ws (n_v vs 0) 102) (v_iv (n_v vs 4)) := f9
  have g11 : v_iv (n_v vs 5) = w_fi w1 (n_v vs 0) 101 := congrArg v_iv f11
  have g13 : v_iv (n_v vs 6) = w_fi w1 (n_v vs 0) 100 := congrArg v_iv f13
  simp only [ar_0_2_1, ar_0_95_1, ar_0_102_1, ar_0_104_1, ar_0_108_1, ar_0_109_1] at f14 f16
  have fe_0_5_1 : w_fi ws (n_v vs 0) 5 = w_fi w1 (n_v vs 0) 5 := by show v_iv (w_fd _ _ _) = v_iv (w_fd _ _ _); rw [s1.2, if_neg (fun e => absurd e.2 (by decide))]
  have fe_0_100_1 : w_fi ws (n_v vs 0) 100 = w_fi w1 (n_v vs 0) 100 := by show v_iv (w_fd _ _ _) = v_iv (w_fd _ _ _); rw [s1.2, if_neg (fun e => absurd e.2 (by decide))]
  have fe_0_101_1 : w_fi ws (n_v vs 0) 101 = v_iv (n_v vs 5) := by show v_iv (w_fd _ _ _) = _; rw [s1.2, if_pos ⟨rfl, rfl⟩]
  have fe_0_107_1 : w_fi ws (n_v vs 0) 107 = w_fi w1 (n_v vs 0) 107 := by show v_iv (w_fd _ _ _) = v_iv (w_fd _ _ _); rw [s1.2, if_neg (fun e => absurd e.2 (by decide))]
  have hE_0_2_1 : ∀ j : Int, w_ei ws (w_ar ws (n_v vs 0) 2) j = w_ei w1 (w_ar ws (n_v vs 0) 2) j := fun j => s1.1 _ _
  have hE_0_95_1 : ∀ j : Int, w_ei ws (w_ar ws (n_v vs 0) 95) j = w_ei w1 (w_ar ws (n_v vs 0) 95) j := fun j => s1.1 _ _
  have hE_0_102_1 : ∀ j : Int, w_ei ws (w_ar ws (n_v vs 0) 102) j = w_ei w1 (w_ar ws (n_v vs 0) 102) j := fun j => s1.1 _ _
  have hE_0_104_1 : ∀ j : Int, w_ei ws (w_ar ws (n_v vs 0) 104) j = w_ei w1 (w_ar ws (n_v vs 0) 104) j := fun j => s1.1 _ _
  have hE_0_108_1 : ∀ j : Int, w_ei ws (w_ar ws (n_v vs 0) 108) j = w_ei w1 (w_ar ws (n_v vs 0) 108) j := fun j => s1.1 _ _
  have hE_0_109_1 : ∀ j : Int, w_ei ws (w_ar ws (n_v vs 0) 109) j = w_ei w1 (w_ar ws (n_v vs 0) 109) j := fun j => s1.1 _ _
  have kz_0_100 := fdq_162 hD hth r0
  have kz_0_101 := fdq_125 hD hth r0
  have kz_0_107 := fdq_163 hD hth r0
  have nf0 : fc_1 PRD (20, [2, 11], [60, 1, 1, 444, 101, 102]) ws (vs) := by
    refine ⟨nf_in hl rfl, sgq_1710 ?_⟩
    · show LMF (w_fi ws (n_v vs 2) 101) (w_ei ws (w_ar ws (n_v vs 2) 102)) (v_iv (n_v vs 11))
      rw [q2]
      exact vc_Mo_list_12_0 (v_iv (n_v vs 4)) (v_iv (n_v vs 5)) (v_iv (n_v vs 6)) (v_iv (n_v vs 8)) (v_iv (n_v vs 10)) (v_iv (n_v vs 11)) (w_ei ws (w_ar ws (n_v vs 0) 2)) (w_ei ws (w_ar ws (n_v vs 0) 95)) (w_ei ws (w_ar ws (n_v vs 0) 102)) (w_ei ws (w_ar ws (n_v vs 0) 104)) (w_fi ws (n_v vs 0) 5) (w_fi ws (n_v vs 0) 100) (w_ei ws (w_ar ws (n_v vs 0) 108)) (w_ei ws (w_ar ws (n_v vs 0) 109)) (w_fi ws (n_v vs 0) 107) (w_ei w1 (w_ar ws (n_v vs 0) 102)) (w_fi w1 (n_v vs 0) 101) (w_fi w1 (n_v vs 0) 100) (w_ei w1 (w_ar ws (n_v vs 0) 2)) (w_ei w1 (w_ar ws (n_v vs 0) 95)) (w_ei w1 (w_ar ws (n_v vs 0) 104)) (w_fi w1 (n_v vs 0) 5) (w_ei w1 (w_ar ws (n_v vs 0) 108)) (w_ei w1 (w_ar ws (n_v vs 0) 109)) (w_fi w1 (n_v vs 0) 107) (w_fi ws (n_v vs 0) 101) k4 k5 k6 k8 k10 k11 d0 d1 d2 d3 d4 f0 h9 g11 g13 f14 f16 fe_0_5_1 fe_0_100_1 fe_0_101_1 fe_0_107_1 hE_0_2_1 hE_0_95_1 hE_0_102_1 hE_0_104_1 hE_0_108_1 hE_0_109_1 kz_0_100 kz_0_101 kz_0_107
  refine ⟨(fun _ h => (by cases h)), [], trivial, ?_, (fun _ h => (by cases h))⟩
  rw [List.append_nil]
  exact List.forall_mem_cons.mpr ⟨⟨show (20 : Nat) < 100 from by decide, nf0⟩, (fun _ h => (by cases h))⟩
set_option maxHeartbeats 4000000 in
theorem vc_Mo_list_13_0 (layerMany_0 : Int) (all_0 : Int → Int) (turned_0 : Int → Int) (itemLayer_0 : Int → Int) (firstJoint_0 : Int → Int) (lineA_0 : Int → Int) (lineB_0 : Int → Int) (r_0 : Int) (items_0 : Int) (lines_0 : Int) (f2 : LSA (r_0) (items_0) (layerMany_0) (lines_0) (all_0) (turned_0) (itemLayer_0) (firstJoint_0) (lineA_0) (lineB_0)) (kz_0_100 : 0 ≤ items_0 ∧ items_0 ≤ 76) (kz_0_101 : 0 ≤ layerMany_0 ∧ layerMany_0 ≤ 76) (kz_0_107 : 0 ≤ lines_0 ∧ lines_0 ≤ 130) : LSA (r_0) (items_0) (layerMany_0) (lines_0) (all_0) (turned_0) (itemLayer_0) (firstJoint_0) (lineA_0) (lineB_0) := by
  assumption
set_option maxHeartbeats 4000000 in
theorem vc_Mo_list_13_1 (x4 : Int) (x5 : Int) (layerMany_0 : Int) (all_0 : Int → Int) (turned_0 : Int → Int) (itemLayer_0 : Int → Int) (firstJoint_0 : Int → Int) (lineA_0 : Int → Int) (lineB_0 : Int → Int) (r_0 : Int) (items_0 : Int) (lines_0 : Int) (layerSize_0 : Int → Int) (layerItem_0 : Int → Int) (k4 : 0 ≤ x4 ∧ x4 ≤ 24) (k5 : 0 ≤ x5 ∧ x5 ≤ 24) (d0 : x5 + 0 ≤ x4 ∧ x4 ≤ x5 + 4294967296) (g1 : x5 = layerMany_0) (f2 : LSA (r_0) (items_0) (layerMany_0) (lines_0) (all_0) (turned_0) (itemLayer_0) (firstJoint_0) (lineA_0) (lineB_0)) (f3 : LLS (items_0) (itemLayer_0) (layerSize_0) (layerItem_0) (x4)) (kz_0_100 : 0 ≤ items_0 ∧ items_0 ≤ 76) (kz_0_101 : 0 ≤ layerMany_0 ∧ layerMany_0 ≤ 76) (kz_0_107 : 0 ≤ lines_0 ∧ lines_0 ≤ 130) : LSB (items_0) (layerMany_0) (itemLayer_0) (layerSize_0) (layerItem_0) := by
  exact ⟨‹LSA _ _ _ _ _ _ _ _ _ _›.2.1.2.1, fun m a b => ‹LLS _ _ _ _ _› m a (by omega)⟩
def o_Mo_list_13 : or_T := (251, 6, [(0, (2, 0, 0, [165])), (4, (0, 0, 24, [])), (5, (0, 0, 24, []))], [(9, [5, 2], [101]), (20, [2], [60, 4, 6, 445, 5, 100, 101, 107, 2, 95, 102, 104, 108, 109]), (20, [2, 4], [60, 1, 3, 446, 100, 102, 105, 106]), (24, [0, 2], [])], [], [], [(20, [0], [60, 4, 6, 445, 5, 100, 101, 107, 2, 95, 102, 104, 108, 109]), (20, [0], [60, 2, 3, 448, 100, 101, 102, 105, 106])], [], [(4, 5, 0, 4294967296)])
theorem oo_Mo_list_13 {kA : Nat → ClassId} : or_ok PRD kA GG o_Mo_list_13 := by
  refine or_mk fun A ta ws vs hD hth hl => ?_
  intro t0 r0 t4 k4 t5 k5 d0 f1 f2 f3 f4
  replace f1 := shm_617 f1
  replace f2 := shm_674 f2
  replace f3 := shm_1719 f3
  replace f4 := shm_5 f4
  have q2 : n_v vs 2 = n_v vs 0 := f4.symm
  simp only [q2] at f1 f2 f3
  have g1 : v_iv (n_v vs 5) = w_fi ws (n_v vs 0) 101 := congrArg v_iv f1
  have kz_0_100 := fdq_162 hD hth r0
  have kz_0_101 := fdq_125 hD hth r0
  have kz_0_107 := fdq_163 hD hth r0
  have nf0 : fc_1 PRD (20, [0], [60, 4, 6, 445, 5, 100, 101, 107, 2, 95, 102, 104, 108, 109]) ws (vs) := ⟨nf_in hl rfl, sgq_674 (vc_Mo_list_13_0 (w_fi ws (n_v vs 0) 101) (w_ei ws (w_ar ws (n_v vs 0) 2)) (w_ei ws (w_ar ws (n_v vs 0) 95)) (w_ei ws (w_ar ws (n_v vs 0) 102)) (w_ei ws (w_ar ws (n_v vs 0) 104)) (w_ei ws (w_ar ws (n_v vs 0) 108)) (w_ei ws (w_ar ws (n_v vs 0) 109)) (w_fi ws (n_v vs 0) 5) (w_fi ws (n_v vs 0) 100) (w_fi ws (n_v vs 0) 107) f2 kz_0_100 kz_0_101 kz_0_107)⟩
  have nf1 : fc_1 PRD (20, [0], [60, 2, 3, 448, 100, 101, 102, 105, 106]) ws (vs) := ⟨nf_in hl rfl, sgq_675 (vc_Mo_list_13_1 (v_iv (n_v vs 4)) (v_iv (n_v vs 5)) (w_fi ws (n_v vs 0) 101) (w_ei ws (w_ar ws (n_v vs 0) 2)) (w_ei ws (w_ar ws (n_v vs 0) 95)) (w_ei ws (w_ar ws (n_v vs 0) 102)) (w_ei ws (w_ar ws (n_v vs 0) 104)) (w_ei ws (w_ar ws (n_v vs 0) 108)) (w_ei ws (w_ar ws (n_v vs 0) 109)) (w_fi ws (n_v vs 0) 5) (w_fi ws (n_v vs 0) 100) (w_fi ws (n_v vs 0) 107) (w_ei ws (w_ar ws (n_v vs 0) 105)) (w_ei ws (w_ar ws (n_v vs 0) 106)) k4 k5 d0 g1 f2 f3 kz_0_100 kz_0_101 kz_0_107)⟩
  refine ⟨(fun _ h => (by cases h)), [], trivial, ?_, (fun _ h => (by cases h))⟩
  rw [List.append_nil]
  exact List.forall_mem_cons.mpr ⟨⟨show (20 : Nat) < 100 from by decide, nf0⟩, List.forall_mem_cons.mpr ⟨⟨show (20 : Nat) < 100 from by decide, nf1⟩, (fun _ h => (by cases h))⟩⟩
set_option maxHeartbeats 4000000 in
theorem vc_Mo_list_14_r0 (x4 : Int) (x5 : Int) (layerMany_0 : Int) (all_0 : Int → Int) (turned_0 : Int → Int) (itemLayer_0 : Int → Int) (firstJoint_0 : Int → Int) (lineA_0 : Int → Int) (lineB_0 : Int → Int) (r_0 : Int) (items_0 : Int) (lines_0 : Int) (k4 : 0 ≤ x4 ∧ x4 ≤ 24) (k5 : 1 ≤ x5 ∧ x5 ≤ 76) (d0 : x5 + (-4294967296) ≤ x4 ∧ x4 ≤ x5 + (-1)) (g2 : x5 = layerMany_0) (f3 : LSA (r_0) (items_0) (layerMany_0) (lines_0) (all_0) (turned_0) (itemLayer_0) (firstJoint_0) (lineA_0) (lineB_0)) (kz_0_100 : 0 ≤ items_0 ∧ items_0 ≤ 76) (kz_0_101 : 0 ≤ layerMany_0 ∧ layerMany_0 ≤ 76) (kz_0_107 : 0 ≤ lines_0 ∧ lines_0 ≤ 130) : 0 ≤ x4 ∧ x4 ≤ 23 := by
  try simp only [Int.add_zero] at *
  first
    | omega
    | (have h := lid_bd ‹LID _ _ _ _ _ _ _ _ _›; omega)
    | (have h := ‹LYJ _ _ _ _›.1.1.1; omega)
    | (have h := (lic_bd ‹LIC _ _ _ _ _ _ _›).1; omega)
    | (have h := (lic_bd ‹LIF _ _ _ _ _ _›).1; omega)
    | (have h := ‹LSA _ _ _ _ _ _ _ _ _ _›.2.1; omega)
    | (have h := lli_bd ‹LLI _ _ _ _ _ _›; have h2 := ‹LSA _ _ _ _ _ _ _ _ _ _›.2.1; omega)
def o_Mo_list_14 : or_T := (188, 8, [(0, (2, 0, 0, [165])), (2, (2, 0, 0, [165])), (4, (0, 0, 24, [])), (5, (0, 1, 76, [])), (6, (2, 0, 0, [238]))], [(9, [6, 2], [105]), (7, [4, 5], [2]), (9, [5, 2], [101]), (20, [2], [60, 4, 6, 445, 5, 100, 101, 107, 2, 95, 102, 104, 108, 109]), (20, [2, 4], [60, 1, 3, 446, 100, 102, 105, 106]), (24, [0, 2], [])], [(4, (0, 0, 23, []))], [], [], [], [(4, 5, -4294967296, -1)])
theorem oo_Mo_list_14 {kA : Nat → ClassId} : or_ok PRD kA GG o_Mo_list_14 := by
  refine or_mk fun A ta ws vs hD hth hl => ?_
  intro t0 r0 t2 r2 t4 k4 t5 k5 t6 r6 d0 f0 f1 f2 f3 f4 f5
  replace f2 := shm_617 f2
  replace f3 := shm_674 f3
  replace f5 := shm_5 f5
  have q2 : n_v vs 2 = n_v vs 0 := f5.symm
  simp only [q2] at f2 f3
  have g2 : v_iv (n_v vs 5) = w_fi ws (n_v vs 0) 101 := congrArg v_iv f2
  have kz_0_100 := fdq_162 hD hth r0
  have kz_0_101 := fdq_125 hD hth r0
  have kz_0_107 := fdq_163 hD hth r0
  have hrf0 : 0 ≤ v_iv (n_v vs 4) ∧ v_iv (n_v vs 4) ≤ 23 := vc_Mo_list_14_r0 (v_iv (n_v vs 4)) (v_iv (n_v vs 5)) (w_fi ws (n_v vs 0) 101) (w_ei ws (w_ar ws (n_v vs 0) 2)) (w_ei ws (w_ar ws (n_v vs 0) 95)) (w_ei ws (w_ar ws (n_v vs 0) 102)) (w_ei ws (w_ar ws (n_v vs 0) 104)) (w_ei ws (w_ar ws (n_v vs 0) 108)) (w_ei ws (w_ar ws (n_v vs 0) 109)) (w_fi ws (n_v vs 0) 5) (w_fi ws (n_v vs 0) 100) (w_fi ws (n_v vs 0) 107) k4 k5 d0 g2 f3 kz_0_100 kz_0_101 kz_0_107
  have rf4 : tv_ok ta (0, 0, 23, []) (n_v vs 4) := tv_in t4 (by first | omega | grind) (by first | omega | grind)
  refine ⟨List.forall_mem_cons.mpr ⟨rf4, (fun _ h => (by cases h))⟩, [], trivial, ?_, (fun _ h => (by cases h))⟩
  rw [List.append_nil]
  exact (fun _ h => (by cases h))
set_option maxHeartbeats 4000000 in
theorem vc_Mo_list_15_0 (x4 : Int) (x7 : Int) (x8 : Int) (all_0 : Int → Int) (turned_0 : Int → Int) (itemLayer_0 : Int → Int) (firstJoint_0 : Int → Int) (lineA_0 : Int → Int) (lineB_0 : Int → Int) (r_0 : Int) (items_0 : Int) (layerMany_0 : Int) (lines_0 : Int) (layerMany_1 : Int) (all_1 : Int → Int) (turned_1 : Int → Int) (itemLayer_1 : Int → Int) (firstJoint_1 : Int → Int) (lineA_1 : Int → Int) (lineB_1 : Int → Int) (r_1 : Int) (items_1 : Int) (lines_1 : Int) (layerSize_1 : Int → Int) (layerItem_1 : Int → Int) (layerSize_0 : Int → Int) (layerItem_0 : Int → Int) (k4 : 0 ≤ x4 ∧ x4 ≤ 23) (k7 : 0 ≤ x7 ∧ x7 ≤ 0) (k8 : 0 ≤ x8 ∧ x8 ≤ 0) (f6 : LSA (r_1) (items_1) (layerMany_1) (lines_1) (all_1) (turned_1) (itemLayer_1) (firstJoint_1) (lineA_1) (lineB_1)) (f7 : LLS (items_1) (itemLayer_1) (layerSize_1) (layerItem_1) (x4)) (fe_0_5_1 : r_0 = r_1) (fe_0_100_1 : items_0 = items_1) (fe_0_101_1 : layerMany_0 = layerMany_1) (fe_0_107_1 : lines_0 = lines_1) (hE_0_2_1 : ∀ j : Int, all_0 j = all_1 j) (hE_0_95_1 : ∀ j : Int, turned_0 j = turned_1 j) (hE_0_102_1 : ∀ j : Int, itemLayer_0 j = itemLayer_1 j) (hE_0_104_1 : ∀ j : Int, firstJoint_0 j = firstJoint_1 j) (hE_0_105_1 : ∀ j : Int, 0 ≤ j → (j = x4 → layerSize_0 j = x7) ∧ (j ≠ x4 → layerSize_0 j = layerSize_1 j)) (hE_0_106_1 : ∀ j : Int, layerItem_0 j = layerItem_1 j) (hE_0_108_1 : ∀ j : Int, lineA_0 j = lineA_1 j) (hE_0_109_1 : ∀ j : Int, lineB_0 j = lineB_1 j) (kz_0_100 : 0 ≤ items_0 ∧ items_0 ≤ 76) (kz_0_101 : 0 ≤ layerMany_0 ∧ layerMany_0 ≤ 76) (kz_0_107 : 0 ≤ lines_0 ∧ lines_0 ≤ 130) : LLI (items_0) (itemLayer_0) (layerSize_0) (layerItem_0) (x4) (x8) := by
  subst fe_0_5_1
  subst fe_0_100_1
  subst fe_0_101_1
  subst fe_0_107_1
  have e_hE_0_2_1 := funext hE_0_2_1; subst e_hE_0_2_1
  have e_hE_0_95_1 := funext hE_0_95_1; subst e_hE_0_95_1
  have e_hE_0_102_1 := funext hE_0_102_1; subst e_hE_0_102_1
  have e_hE_0_104_1 := funext hE_0_104_1; subst e_hE_0_104_1
  have e_hE_0_106_1 := funext hE_0_106_1; subst e_hE_0_106_1
  have e_hE_0_108_1 := funext hE_0_108_1; subst e_hE_0_108_1
  have e_hE_0_109_1 := funext hE_0_109_1; subst e_hE_0_109_1
  first
    | exact lli_start ‹LLS _ _ _ _ _› (by omega) ‹LSA _ _ _ _ _ _ _ _ _ _›.2.1.2.1 (by assumption) rfl (by omega) (by omega)
    | exact lli_skip ‹LLI _ _ _ _ _ _› (by assumption) (by assumption) (by omega)
    | exact lli_take (v := x8) (q := x14) (x := x17) ‹LLI _ _ _ _ _ _› (by omega) (by assumption) (by assumption) (by omega) (by assumption) (by omega) rfl (by assumption) rfl (by omega)
set_option maxHeartbeats 4000000 in
theorem vc_Mo_list_15_1 (x4 : Int) (x5 : Int) (x8 : Int) (all_0 : Int → Int) (turned_0 : Int → Int) (itemLayer_0 : Int → Int) (firstJoint_0 : Int → Int) (lineA_0 : Int → Int) (lineB_0 : Int → Int) (r_0 : Int) (items_0 : Int) (layerMany_0 : Int) (lines_0 : Int) (layerMany_1 : Int) (all_1 : Int → Int) (turned_1 : Int → Int) (itemLayer_1 : Int → Int) (firstJoint_1 : Int → Int) (lineA_1 : Int → Int) (lineB_1 : Int → Int) (r_1 : Int) (items_1 : Int) (lines_1 : Int) (layerItem_1 : Int → Int) (layerItem_0 : Int → Int) (k4 : 0 ≤ x4 ∧ x4 ≤ 23) (k5 : 1 ≤ x5 ∧ x5 ≤ 76) (k8 : 0 ≤ x8 ∧ x8 ≤ 0) (d0 : x5 + (-4294967296) ≤ x4 ∧ x4 ≤ x5 + (-1)) (g5 : x5 = layerMany_1) (fe_0_5_1 : r_0 = r_1) (fe_0_100_1 : items_0 = items_1) (fe_0_101_1 : layerMany_0 = layerMany_1) (fe_0_107_1 : lines_0 = lines_1) (hE_0_2_1 : ∀ j : Int, all_0 j = all_1 j) (hE_0_95_1 : ∀ j : Int, turned_0 j = turned_1 j) (hE_0_102_1 : ∀ j : Int, itemLayer_0 j = itemLayer_1 j) (hE_0_104_1 : ∀ j : Int, firstJoint_0 j = firstJoint_1 j) (hE_0_106_1 : ∀ j : Int, layerItem_0 j = layerItem_1 j) (hE_0_108_1 : ∀ j : Int, lineA_0 j = lineA_1 j) (hE_0_109_1 : ∀ j : Int, lineB_0 j = lineB_1 j) (kz_0_100 : 0 ≤ items_0 ∧ items_0 ≤ 76) (kz_0_101 : 0 ≤ layerMany_0 ∧ layerMany_0 ≤ 76) (kz_0_107 : 0 ≤ lines_0 ∧ lines_0 ≤ 130) : ((x4 + 1) ≤ layerMany_0) ∧ (x8 ≤ items_0) := by
  subst fe_0_5_1
  subst fe_0_100_1
  subst fe_0_101_1
  subst fe_0_107_1
  have e_hE_0_2_1 := funext hE_0_2_1; subst e_hE_0_2_1
  have e_hE_0_95_1 := funext hE_0_95_1; subst e_hE_0_95_1
  have e_hE_0_102_1 := funext hE_0_102_1; subst e_hE_0_102_1
  have e_hE_0_104_1 := funext hE_0_104_1; subst e_hE_0_104_1
  have e_hE_0_106_1 := funext hE_0_106_1; subst e_hE_0_106_1
  have e_hE_0_108_1 := funext hE_0_108_1; subst e_hE_0_108_1
  have e_hE_0_109_1 := funext hE_0_109_1; subst e_hE_0_109_1
  try simp only [Int.add_zero] at *
  first
    | omega
    | (have h := lid_bd ‹LID _ _ _ _ _ _ _ _ _›; omega)
    | (have h := ‹LYJ _ _ _ _›.1.1.1; omega)
    | (have h := (lic_bd ‹LIC _ _ _ _ _ _ _›).1; omega)
    | (have h := (lic_bd ‹LIF _ _ _ _ _ _›).1; omega)
    | (have h := ‹LSA _ _ _ _ _ _ _ _ _ _›.2.1; omega)
    | (have h := lli_bd ‹LLI _ _ _ _ _ _›; have h2 := ‹LSA _ _ _ _ _ _ _ _ _ _›.2.1; omega)
def o_Mo_list_15 : or_T := (191, 9, [(0, (2, 0, 0, [165])), (4, (0, 0, 23, [])), (5, (0, 1, 76, [])), (6, (2, 0, 0, [238])), (7, (0, 0, 0, [])), (8, (0, 0, 0, []))], [(24, [0, 2], []), (100, [6, 4, 7], []), (9, [6, 2], [105]), (9, [5, 2], [101]), (20, [2], [60, 4, 6, 445, 5, 100, 101, 107, 2, 95, 102, 104, 108, 109]), (20, [2, 4], [60, 1, 3, 446, 100, 102, 105, 106])], [], [], [(20, [2, 4, 8], [60, 1, 3, 447, 100, 102, 105, 106]), (20, [4, 2, 8], [50, 2, 0, 1101, 1100, 2, 11, 0, 6, 4, 2, 1, 0, 0, 1, 2, 1, 101, 0, 2, 1, 2, 2, 1, 100])], [], [(4, 5, -4294967296, -1)])
theorem oo_Mo_list_15 {kA : Nat → ClassId} : or_ok PRD kA GG o_Mo_list_15 := by
  refine or_mk fun A ta ws vs hD hth hl => ?_
  intro t0 r0 t4 k4 t5 k5 t6 r6 t7 k7 t8 k8 d0 f1 ta1 w1 le1 s1 f3 f5 f6 f7
  replace f1 := shm_5 f1
  have s1 : (∀ b j, w_el ws b j = if b = v_ad (n_v vs 6) ∧ j = (v_iv (n_v vs 4)).toNat then v_iv (n_v vs 7) else w_el w1 b j) ∧ ∀ b k, w_fd ws b k = w_fd w1 b k := s1.2
  replace f3 := shm_619 f3
  replace f5 := shm_617 f5
  replace f6 := shm_674 f6
  replace f7 := shm_1719 f7
  have q2 : n_v vs 2 = n_v vs 0 := f1.symm
  simp only [q2] at f3 f5 f6 f7
  have ar_0_2_1 : w_ar w1 (n_v vs 0) 2 = w_ar ws (n_v vs 0) 2 := congrArg v_ad (s1.2 _ _).symm
  have cr_0_2 := fdq_10 hD hth r0
  have ar_0_95_1 : w_ar w1 (n_v vs 0) 95 = w_ar ws (n_v vs 0) 95 := congrArg v_ad (s1.2 _ _).symm
  have cr_0_95 := fdq_130 hD hth r0
  have ar_0_102_1 : w_ar w1 (n_v vs 0) 102 = w_ar ws (n_v vs 0) 102 := congrArg v_ad (s1.2 _ _).symm
  have cr_0_102 := fdq_159 hD hth r0
  have ar_0_104_1 : w_ar w1 (n_v vs 0) 104 = w_ar ws (n_v vs 0) 104 := congrArg v_ad (s1.2 _ _).symm
  have cr_0_104 := fdq_170 hD hth r0
  have ar_0_105_1 : w_ar w1 (n_v vs 0) 105 = w_ar ws (n_v vs 0) 105 := congrArg v_ad (s1.2 _ _).symm
  have ar_0_106_1 : w_ar w1 (n_v vs 0) 106 = w_ar ws (n_v vs 0) 106 := congrArg v_ad (s1.2 _ _).symm
  have cr_0_106 := fdq_123 hD hth r0
  have ar_0_108_1 : w_ar w1 (n_v vs 0) 108 = w_ar ws (n_v vs 0) 108 := congrArg v_ad (s1.2 _ _).symm
  have cr_0_108 := fdq_160 hD hth r0
  have ar_0_109_1 : w_ar w1 (n_v vs 0) 109 = w_ar ws (n_v vs 0) 109 := congrArg v_ad (s1.2 _ _).symm
  have cr_0_109 := fdq_161 hD hth r0
  have ad_6 : v_ad (n_v vs 6) = w_ar ws (n_v vs 0) 105 := (congrArg v_ad f3).trans ar_0_105_1
  have g5 : v_iv (n_v vs 5) = w_fi w1 (n_v vs 0) 101 := congrArg v_iv f5
  simp only [ar_0_2_1, ar_0_95_1, ar_0_102_1, ar_0_104_1, ar_0_108_1, ar_0_109_1, ar_0_105_1, ar_0_106_1] at f6 f7
  have fe_0_5_1 : w_fi ws (n_v vs 0) 5 = w_fi w1 (n_v vs 0) 5 := congrArg v_iv (s1.2 _ _)
  have fe_0_100_1 : w_fi ws (n_v vs 0) 100 = w_fi w1 (n_v vs 0) 100 := congrArg v_iv (s1.2 _ _)
  have fe_0_101_1 : w_fi ws (n_v vs 0) 101 = w_fi w1 (n_v vs 0) 101 := congrArg v_iv (s1.2 _ _)
  have fe_0_107_1 : w_fi ws (n_v vs 0) 107 = w_fi w1 (n_v vs 0) 107 := congrArg v_iv (s1.2 _ _)
  have hE_0_2_1 : ∀ j : Int, w_ei ws (w_ar ws (n_v vs 0) 2) j = w_ei w1 (w_ar ws (n_v vs 0) 2) j := el_kp s1.1 r6 cr_0_2 (by decide)
  have hE_0_95_1 : ∀ j : Int, w_ei ws (w_ar ws (n_v vs 0) 95) j = w_ei w1 (w_ar ws (n_v vs 0) 95) j := el_kp s1.1 r6 cr_0_95 (by decide)
  have hE_0_102_1 : ∀ j : Int, w_ei ws (w_ar ws (n_v vs 0) 102) j = w_ei w1 (w_ar ws (n_v vs 0) 102) j := el_kp s1.1 r6 cr_0_102 (by decide)
  have hE_0_104_1 : ∀ j : Int, w_ei ws (w_ar ws (n_v vs 0) 104) j = w_ei w1 (w_ar ws (n_v vs 0) 104) j := el_kp s1.1 r6 cr_0_104 (by decide)
  have hE_0_105_1 : ∀ j : Int, 0 ≤ j → (j = v_iv (n_v vs 4) → w_ei ws (w_ar ws (n_v vs 0) 105) j = v_iv (n_v vs 7)) ∧ (j ≠ v_iv (n_v vs 4) → w_ei ws (w_ar ws (n_v vs 0) 105) j = w_ei w1 (w_ar ws (n_v vs 0) 105) j) := fun j hj => ⟨fun h => by unfold w_ei; rw [s1.1, if_pos ⟨ad_6.symm, by rw [h]⟩], fun h => by unfold w_ei; rw [s1.1, if_neg (fun e => h (by have := e.2; omega))]⟩
  have hE_0_106_1 : ∀ j : Int, w_ei ws (w_ar ws (n_v vs 0) 106) j = w_ei w1 (w_ar ws (n_v vs 0) 106) j := el_kp s1.1 r6 cr_0_106 (by decide)
  have hE_0_108_1 : ∀ j : Int, w_ei ws (w_ar ws (n_v vs 0) 108) j = w_ei w1 (w_ar ws (n_v vs 0) 108) j := el_kp s1.1 r6 cr_0_108 (by decide)
  have hE_0_109_1 : ∀ j : Int, w_ei ws (w_ar ws (n_v vs 0) 109) j = w_ei w1 (w_ar ws (n_v vs 0) 109) j := el_kp s1.1 r6 cr_0_109 (by decide)
  have kz_0_100 := fdq_162 hD hth r0
  have kz_0_101 := fdq_125 hD hth r0
  have kz_0_107 := fdq_163 hD hth r0
  have nf0 : fc_1 PRD (20, [2, 4, 8], [60, 1, 3, 447, 100, 102, 105, 106]) ws (vs) := by
    refine ⟨nf_in hl rfl, sgq_1720 ?_⟩
    · show LLI (w_fi ws (n_v vs 2) 100) (w_ei ws (w_ar ws (n_v vs 2) 102)) (w_ei ws (w_ar ws (n_v vs 2) 105)) (w_ei ws (w_ar ws (n_v vs 2) 106)) (v_iv (n_v vs 4)) (v_iv (n_v vs 8))
      rw [q2]
      exact vc_Mo_list_15_0 (v_iv (n_v vs 4)) (v_iv (n_v vs 7)) (v_iv (n_v vs 8)) (w_ei ws (w_ar ws (n_v vs 0) 2)) (w_ei ws (w_ar ws (n_v vs 0) 95)) (w_ei ws (w_ar ws (n_v vs 0) 102)) (w_ei ws (w_ar ws (n_v vs 0) 104)) (w_ei ws (w_ar ws (n_v vs 0) 108)) (w_ei ws (w_ar ws (n_v vs 0) 109)) (w_fi ws (n_v vs 0) 5) (w_fi ws (n_v vs 0) 100) (w_fi ws (n_v vs 0) 101) (w_fi ws (n_v vs 0) 107) (w_fi w1 (n_v vs 0) 101) (w_ei w1 (w_ar ws (n_v vs 0) 2)) (w_ei w1 (w_ar ws (n_v vs 0) 95)) (w_ei w1 (w_ar ws (n_v vs 0) 102)) (w_ei w1 (w_ar ws (n_v vs 0) 104)) (w_ei w1 (w_ar ws (n_v vs 0) 108)) (w_ei w1 (w_ar ws (n_v vs 0) 109)) (w_fi w1 (n_v vs 0) 5) (w_fi w1 (n_v vs 0) 100) (w_fi w1 (n_v vs 0) 107) (w_ei w1 (w_ar ws (n_v vs 0) 105)) (w_ei w1 (w_ar ws (n_v vs 0) 106)) (w_ei ws (w_ar ws (n_v vs 0) 105)) (w_ei ws (w_ar ws (n_v vs 0) 106)) k4 k7 k8 f6 f7 fe_0_5_1 fe_0_100_1 fe_0_101_1 fe_0_107_1 hE_0_2_1 hE_0_95_1 hE_0_102_1 hE_0_104_1 hE_0_105_1 hE_0_106_1 hE_0_108_1 hE_0_109_1 kz_0_100 kz_0_101 kz_0_107
  have nf1 : fc_1 PRD (20, [4, 2, 8], [50, 2, 0, 1101, 1100, 2, 11, 0, 6, 4, 2, 1, 0, 0, 1, 2, 1, 101, 0, 2, 1, 2, 2, 1, 100]) ws (vs) := by
    refine ⟨nf_in hl rfl, sgq_1721 ?_⟩
    · show ((v_iv (n_v vs 4) + 1) ≤ w_fi ws (n_v vs 2) 101) ∧ (v_iv (n_v vs 8) ≤ w_fi ws (n_v vs 2) 100)
      rw [q2]
      exact vc_Mo_list_15_1 (v_iv (n_v vs 4)) (v_iv (n_v vs 5)) (v_iv (n_v vs 8)) (w_ei ws (w_ar ws (n_v vs 0) 2)) (w_ei ws (w_ar ws (n_v vs 0) 95)) (w_ei ws (w_ar ws (n_v vs 0) 102)) (w_ei ws (w_ar ws (n_v vs 0) 104)) (w_ei ws (w_ar ws (n_v vs 0) 108)) (w_ei ws (w_ar ws (n_v vs 0) 109)) (w_fi ws (n_v vs 0) 5) (w_fi ws (n_v vs 0) 100) (w_fi ws (n_v vs 0) 101) (w_fi ws (n_v vs 0) 107) (w_fi w1 (n_v vs 0) 101) (w_ei w1 (w_ar ws (n_v vs 0) 2)) (w_ei w1 (w_ar ws (n_v vs 0) 95)) (w_ei w1 (w_ar ws (n_v vs 0) 102)) (w_ei w1 (w_ar ws (n_v vs 0) 104)) (w_ei w1 (w_ar ws (n_v vs 0) 108)) (w_ei w1 (w_ar ws (n_v vs 0) 109)) (w_fi w1 (n_v vs 0) 5) (w_fi w1 (n_v vs 0) 100) (w_fi w1 (n_v vs 0) 107) (w_ei w1 (w_ar ws (n_v vs 0) 106)) (w_ei ws (w_ar ws (n_v vs 0) 106)) k4 k5 k8 d0 g5 fe_0_5_1 fe_0_100_1 fe_0_101_1 fe_0_107_1 hE_0_2_1 hE_0_95_1 hE_0_102_1 hE_0_104_1 hE_0_106_1 hE_0_108_1 hE_0_109_1 kz_0_100 kz_0_101 kz_0_107
  refine ⟨(fun _ h => (by cases h)), [], trivial, ?_, (fun _ h => (by cases h))⟩
  rw [List.append_nil]
  exact List.forall_mem_cons.mpr ⟨⟨show (20 : Nat) < 100 from by decide, nf0⟩, List.forall_mem_cons.mpr ⟨⟨show (20 : Nat) < 100 from by decide, nf1⟩, (fun _ h => (by cases h))⟩⟩
set_option maxHeartbeats 4000000 in
theorem vc_Mo_list_16_0 (x4 : Int) (x5 : Int) (x6 : Int) (x7 : Int) (items_0 : Int) (itemLayer_0 : Int → Int) (layerMany_0 : Int) (layerSize_0 : Int → Int) (layerItem_0 : Int → Int) (k4 : 0 ≤ x4 ∧ x4 ≤ 23) (k5 : 0 ≤ x5 ∧ x5 ≤ 76) (k6 : 0 ≤ x6 ∧ x6 ≤ 76) (k7 : 1 ≤ x7 ∧ x7 ≤ 24) (d1 : x6 + 0 ≤ x5 ∧ x5 ≤ x6 + 4294967296) (f0 : x7 = x4 + 1) (g2 : x6 = items_0) (f4 : LLI (items_0) (itemLayer_0) (layerSize_0) (layerItem_0) (x4) (x5)) (f5 : ((x4 + 1) ≤ layerMany_0) ∧ (x5 ≤ items_0)) (kz_0_100 : 0 ≤ items_0 ∧ items_0 ≤ 76) (kz_0_101 : 0 ≤ layerMany_0 ∧ layerMany_0 ≤ 76) : LLS (items_0) (itemLayer_0) (layerSize_0) (layerItem_0) (x7) := by
  first
    | (intro m a b; exfalso; omega)
    | exact lli_end ‹LLI _ _ _ _ _ _› (by omega) (by omega)
def o_Mo_list_16 : or_T := (174, 8, [(0, (2, 0, 0, [165])), (2, (2, 0, 0, [165])), (4, (0, 0, 23, [])), (5, (0, 0, 76, [])), (6, (0, 0, 76, [])), (7, (0, 1, 24, []))], [(6, [7, 4], [1]), (7, [5, 6], [3]), (9, [6, 2], [100]), (20, [2], [60, 4, 6, 445, 5, 100, 101, 107, 2, 95, 102, 104, 108, 109]), (20, [2, 4, 5], [60, 1, 3, 447, 100, 102, 105, 106]), (20, [4, 2, 5], [50, 2, 0, 1101, 1100, 2, 11, 0, 6, 4, 2, 1, 0, 0, 1, 2, 1, 101, 0, 2, 1, 2, 2, 1, 100]), (24, [0, 2], [])], [], [], [(20, [2, 7], [60, 1, 3, 446, 100, 102, 105, 106])], [], [(7, 4, 1, 1), (5, 6, 0, 4294967296)])
theorem oo_Mo_list_16 {kA : Nat → ClassId} : or_ok PRD kA GG o_Mo_list_16 := by
  refine or_mk fun A ta ws vs hD hth hl => ?_
  intro t0 r0 t2 r2 t4 k4 t5 k5 t6 k6 t7 k7 d0 d1 f0 f1 f2 f3 f4 f5 f6
  replace f0 := shm_4 f0
  replace f2 := shm_1555 f2
  replace f4 := shm_1720 f4
  replace f5 := shm_1721 f5
  replace f6 := shm_5 f6
  have q2 : n_v vs 2 = n_v vs 0 := f6.symm
  simp only [q2] at f2 f4 f5
  have g2 : v_iv (n_v vs 6) = w_fi ws (n_v vs 0) 100 := congrArg v_iv f2
  have kz_0_100 := fdq_162 hD hth r0
  have kz_0_101 := fdq_125 hD hth r0
  have nf0 : fc_1 PRD (20, [2, 7], [60, 1, 3, 446, 100, 102, 105, 106]) ws (vs) := by
    refine ⟨nf_in hl rfl, sgq_1719 ?_⟩
    · show LLS (w_fi ws (n_v vs 2) 100) (w_ei ws (w_ar ws (n_v vs 2) 102)) (w_ei ws (w_ar ws (n_v vs 2) 105)) (w_ei ws (w_ar ws (n_v vs 2) 106)) (v_iv (n_v vs 7))
      rw [q2]
      exact vc_Mo_list_16_0 (v_iv (n_v vs 4)) (v_iv (n_v vs 5)) (v_iv (n_v vs 6)) (v_iv (n_v vs 7)) (w_fi ws (n_v vs 0) 100) (w_ei ws (w_ar ws (n_v vs 0) 102)) (w_fi ws (n_v vs 0) 101) (w_ei ws (w_ar ws (n_v vs 0) 105)) (w_ei ws (w_ar ws (n_v vs 0) 106)) k4 k5 k6 k7 d1 f0 g2 f4 f5 kz_0_100 kz_0_101
  refine ⟨(fun _ h => (by cases h)), [], trivial, ?_, (fun _ h => (by cases h))⟩
  rw [List.append_nil]
  exact List.forall_mem_cons.mpr ⟨⟨show (20 : Nat) < 100 from by decide, nf0⟩, (fun _ h => (by cases h))⟩
set_option maxHeartbeats 4000000 in
theorem vc_Mo_list_17_r0 (x4 : Int) (x5 : Int) (x15 : Int) (x17 : Int) (layerSize_0 : Int → Int) (all_0 : Int → Int) (turned_0 : Int → Int) (itemLayer_0 : Int → Int) (firstJoint_0 : Int → Int) (lineA_0 : Int → Int) (lineB_0 : Int → Int) (r_0 : Int) (items_0 : Int) (layerMany_0 : Int) (lines_0 : Int) (layerSize_1 : Int → Int) (itemLayer_1 : Int → Int) (items_1 : Int) (all_1 : Int → Int) (turned_1 : Int → Int) (firstJoint_1 : Int → Int) (lineA_1 : Int → Int) (lineB_1 : Int → Int) (r_1 : Int) (layerMany_1 : Int) (lines_1 : Int) (layerItem_1 : Int → Int) (k4 : 0 ≤ x4 ∧ x4 ≤ 23) (k5 : 0 ≤ x5 ∧ x5 ≤ 75) (k15 : 0 ≤ x15 ∧ x15 ≤ 76) (k17 : 1 ≤ x17 ∧ x17 ≤ 77) (d0 : x15 + 1 ≤ x17 ∧ x17 ≤ x15 + 1) (h1 : x15 = layerSize_0 (x4)) (f16 : LSA (r_1) (items_1) (layerMany_1) (lines_1) (all_1) (turned_1) (itemLayer_1) (firstJoint_1) (lineA_1) (lineB_1)) (f17 : LLI (items_1) (itemLayer_1) (layerSize_1) (layerItem_1) (x4) (x5)) (fe_0_5_1 : r_0 = r_1) (fe_0_100_1 : items_0 = items_1) (fe_0_101_1 : layerMany_0 = layerMany_1) (fe_0_107_1 : lines_0 = lines_1) (hE_0_2_1 : ∀ j : Int, all_0 j = all_1 j) (hE_0_95_1 : ∀ j : Int, turned_0 j = turned_1 j) (hE_0_102_1 : ∀ j : Int, itemLayer_0 j = itemLayer_1 j) (hE_0_104_1 : ∀ j : Int, firstJoint_0 j = firstJoint_1 j) (hE_0_105_1 : ∀ j : Int, layerSize_0 j = layerSize_1 j) (hE_0_108_1 : ∀ j : Int, lineA_0 j = lineA_1 j) (hE_0_109_1 : ∀ j : Int, lineB_0 j = lineB_1 j) (kz_0_100 : 0 ≤ items_0 ∧ items_0 ≤ 76) (kz_0_101 : 0 ≤ layerMany_0 ∧ layerMany_0 ≤ 76) (kz_0_107 : 0 ≤ lines_0 ∧ lines_0 ≤ 130) : 1 ≤ x17 ∧ x17 ≤ 76 := by
  subst fe_0_5_1
  subst fe_0_100_1
  subst fe_0_101_1
  subst fe_0_107_1
  have e_hE_0_2_1 := funext hE_0_2_1; subst e_hE_0_2_1
  have e_hE_0_95_1 := funext hE_0_95_1; subst e_hE_0_95_1
  have e_hE_0_102_1 := funext hE_0_102_1; subst e_hE_0_102_1
  have e_hE_0_104_1 := funext hE_0_104_1; subst e_hE_0_104_1
  have e_hE_0_105_1 := funext hE_0_105_1; subst e_hE_0_105_1
  have e_hE_0_108_1 := funext hE_0_108_1; subst e_hE_0_108_1
  have e_hE_0_109_1 := funext hE_0_109_1; subst e_hE_0_109_1
  try simp only [Int.add_zero] at *
  first
    | omega
    | (have h := lid_bd ‹LID _ _ _ _ _ _ _ _ _›; omega)
    | (have h := ‹LYJ _ _ _ _›.1.1.1; omega)
    | (have h := (lic_bd ‹LIC _ _ _ _ _ _ _›).1; omega)
    | (have h := (lic_bd ‹LIF _ _ _ _ _ _›).1; omega)
    | (have h := ‹LSA _ _ _ _ _ _ _ _ _ _›.2.1; omega)
    | (have h := lli_bd ‹LLI _ _ _ _ _ _›; have h2 := ‹LSA _ _ _ _ _ _ _ _ _ _›.2.1; omega)
def o_Mo_list_17 : or_T := (238, 18, [(0, (2, 0, 0, [165])), (2, (2, 0, 0, [165])), (4, (0, 0, 23, [])), (5, (0, 0, 75, [])), (6, (0, 1, 76, [])), (7, (2, 0, 0, [235])), (8, (0, 0, 23, [])), (9, (2, 0, 0, [239])), (10, (0, 76, 76, [])), (11, (0, 0, 1748, [])), (12, (2, 0, 0, [238])), (13, (0, 0, 76, [])), (14, (0, 0, 1824, [])), (15, (0, 0, 76, [])), (16, (0, 1, 1, [])), (17, (0, 1, 77, []))], [(1, [17, 15, 16], []), (10, [15, 12, 4], []), (9, [12, 2], [105]), (20, [2], [60, 4, 6, 445, 5, 100, 101, 107, 2, 95, 102, 104, 108, 109]), (20, [4, 2, 5], [50, 2, 0, 1101, 1100, 2, 11, 0, 6, 4, 2, 1, 0, 0, 1, 2, 1, 101, 0, 2, 1, 2, 2, 1, 100]), (24, [0, 2], []), (100, [9, 14, 5], []), (1, [14, 11, 13], []), (10, [13, 12, 4], []), (3, [11, 10, 4], []), (9, [9, 2], [106]), (7, [8, 4], [0]), (10, [8, 7, 5], []), (9, [7, 2], [102]), (7, [5, 6], [2]), (9, [6, 2], [100]), (20, [2], [60, 4, 6, 445, 5, 100, 101, 107, 2, 95, 102, 104, 108, 109]), (20, [2, 4, 5], [60, 1, 3, 447, 100, 102, 105, 106]), (20, [4, 2, 5], [50, 2, 0, 1101, 1100, 2, 11, 0, 6, 4, 2, 1, 0, 0, 1, 2, 1, 101, 0, 2, 1, 2, 2, 1, 100])], [(17, (0, 1, 76, []))], [], [], [], [(17, 15, 1, 1), (14, 13, 0, 1748), (14, 11, 0, 76), (8, 4, 0, 0), (5, 6, -4294967296, -1)])
theorem oo_Mo_list_17 {kA : Nat → ClassId} : or_ok PRD kA GG o_Mo_list_17 := by
  refine or_mk fun A ta ws vs hD hth hl => ?_
  intro t0 r0 t2 r2 t4 k4 t5 k5 t6 k6 t7 r7 t8 k8 t9 r9 t10 k10 t11 k11 t12 r12 t13 k13 t14 k14 t15 k15 t16 k16 t17 k17 d0 d1 d2 d3 d4 f0 f1 f2 f3 f4 f5 ta1 w1 le1 s1 f7 f8 f9 f10 f11 f12 f13 f14 f15 f16 f17 f18
  replace f1 := shm_107 f1
  replace f2 := shm_619 f2
  replace f5 := shm_5 f5
  have s1 : (∀ b j, w_el ws b j = if b = v_ad (n_v vs 9) ∧ j = (v_iv (n_v vs 14)).toNat then v_iv (n_v vs 5) else w_el w1 b j) ∧ ∀ b k, w_fd ws b k = w_fd w1 b k := s1.2
  replace f16 := shm_674 f16
  replace f17 := shm_1720 f17
  have q2 : n_v vs 2 = n_v vs 0 := f5.symm
  simp only [q2] at f2 f16 f17
  have ar_0_2_1 : w_ar w1 (n_v vs 0) 2 = w_ar ws (n_v vs 0) 2 := congrArg v_ad (s1.2 _ _).symm
  have cr_0_2 := fdq_10 hD hth r0
  have ar_0_95_1 : w_ar w1 (n_v vs 0) 95 = w_ar ws (n_v vs 0) 95 := congrArg v_ad (s1.2 _ _).symm
  have cr_0_95 := fdq_130 hD hth r0
  have ar_0_102_1 : w_ar w1 (n_v vs 0) 102 = w_ar ws (n_v vs 0) 102 := congrArg v_ad (s1.2 _ _).symm
  have cr_0_102 := fdq_159 hD hth r0
  have ar_0_104_1 : w_ar w1 (n_v vs 0) 104 = w_ar ws (n_v vs 0) 104 := congrArg v_ad (s1.2 _ _).symm
  have cr_0_104 := fdq_170 hD hth r0
  have ar_0_105_1 : w_ar w1 (n_v vs 0) 105 = w_ar ws (n_v vs 0) 105 := congrArg v_ad (s1.2 _ _).symm
  have cr_0_105 := fdq_122 hD hth r0
  have ar_0_106_1 : w_ar w1 (n_v vs 0) 106 = w_ar ws (n_v vs 0) 106 := congrArg v_ad (s1.2 _ _).symm
  have ar_0_108_1 : w_ar w1 (n_v vs 0) 108 = w_ar ws (n_v vs 0) 108 := congrArg v_ad (s1.2 _ _).symm
  have cr_0_108 := fdq_160 hD hth r0
  have ar_0_109_1 : w_ar w1 (n_v vs 0) 109 = w_ar ws (n_v vs 0) 109 := congrArg v_ad (s1.2 _ _).symm
  have cr_0_109 := fdq_161 hD hth r0
  have ad_12 : v_ad (n_v vs 12) = w_ar ws (n_v vs 0) 105 := congrArg v_ad f2
  simp only [ad_12] at f1
  have h1 : v_iv (n_v vs 15) = w_ei ws (w_ar ws (n_v vs 0) 105) (v_iv (n_v vs 4)) := f1
  simp only [ar_0_2_1, ar_0_95_1, ar_0_102_1, ar_0_104_1, ar_0_108_1, ar_0_109_1, ar_0_105_1, ar_0_106_1] at f16 f17
  have fe_0_5_1 : w_fi ws (n_v vs 0) 5 = w_fi w1 (n_v vs 0) 5 := congrArg v_iv (s1.2 _ _)
  have fe_0_100_1 : w_fi ws (n_v vs 0) 100 = w_fi w1 (n_v vs 0) 100 := congrArg v_iv (s1.2 _ _)
  have fe_0_101_1 : w_fi ws (n_v vs 0) 101 = w_fi w1 (n_v vs 0) 101 := congrArg v_iv (s1.2 _ _)
  have fe_0_107_1 : w_fi ws (n_v vs 0) 107 = w_fi w1 (n_v vs 0) 107 := congrArg v_iv (s1.2 _ _)
  have hE_0_2_1 : ∀ j : Int, w_ei ws (w_ar ws (n_v vs 0) 2) j = w_ei w1 (w_ar ws (n_v vs 0) 2) j := el_kp s1.1 r9 cr_0_2 (by decide)
  have hE_0_95_1 : ∀ j : Int, w_ei ws (w_ar ws (n_v vs 0) 95) j = w_ei w1 (w_ar ws (n_v vs 0) 95) j := el_kp s1.1 r9 cr_0_95 (by decide)
  have hE_0_102_1 : ∀ j : Int, w_ei ws (w_ar ws (n_v vs 0) 102) j = w_ei w1 (w_ar ws (n_v vs 0) 102) j := el_kp s1.1 r9 cr_0_102 (by decide)
  have hE_0_104_1 : ∀ j : Int, w_ei ws (w_ar ws (n_v vs 0) 104) j = w_ei w1 (w_ar ws (n_v vs 0) 104) j := el_kp s1.1 r9 cr_0_104 (by decide)
  have hE_0_105_1 : ∀ j : Int, w_ei ws (w_ar ws (n_v vs 0) 105) j = w_ei w1 (w_ar ws (n_v vs 0) 105) j := el_kp s1.1 r9 cr_0_105 (by decide)
  have hE_0_108_1 : ∀ j : Int, w_ei ws (w_ar ws (n_v vs 0) 108) j = w_ei w1 (w_ar ws (n_v vs 0) 108) j := el_kp s1.1 r9 cr_0_108 (by decide)
  have hE_0_109_1 : ∀ j : Int, w_ei ws (w_ar ws (n_v vs 0) 109) j = w_ei w1 (w_ar ws (n_v vs 0) 109) j := el_kp s1.1 r9 cr_0_109 (by decide)
  have kz_0_100 := fdq_162 hD hth r0
  have kz_0_101 := fdq_125 hD hth r0
  have kz_0_107 := fdq_163 hD hth r0
  have hrf0 : 1 ≤ v_iv (n_v vs 17) ∧ v_iv (n_v vs 17) ≤ 76 := vc_Mo_list_17_r0 (v_iv (n_v vs 4)) (v_iv (n_v vs 5)) (v_iv (n_v vs 15)) (v_iv (n_v vs 17)) (w_ei ws (w_ar ws (n_v vs 0) 105)) (w_ei ws (w_ar ws (n_v vs 0) 2)) (w_ei ws (w_ar ws (n_v vs 0) 95)) (w_ei ws (w_ar ws (n_v vs 0) 102)) (w_ei ws (w_ar ws (n_v vs 0) 104)) (w_ei ws (w_ar ws (n_v vs 0) 108)) (w_ei ws (w_ar ws (n_v vs 0) 109)) (w_fi ws (n_v vs 0) 5) (w_fi ws (n_v vs 0) 100) (w_fi ws (n_v vs 0) 101) (w_fi ws (n_v vs 0) 107) (w_ei w1 (w_ar ws (n_v vs 0) 105)) (w_ei w1 (w_ar ws (n_v vs 0) 102)) (w_fi w1 (n_v vs 0) 100) (w_ei w1 (w_ar ws (n_v vs 0) 2)) (w_ei w1 (w_ar ws (n_v vs 0) 95)) (w_ei w1 (w_ar ws (n_v vs 0) 104)) (w_ei w1 (w_ar ws (n_v vs 0) 108)) (w_ei w1 (w_ar ws (n_v vs 0) 109)) (w_fi w1 (n_v vs 0) 5) (w_fi w1 (n_v vs 0) 101) (w_fi w1 (n_v vs 0) 107) (w_ei w1 (w_ar ws (n_v vs 0) 106)) k4 k5 k15 k17 d0 h1 f16 f17 fe_0_5_1 fe_0_100_1 fe_0_101_1 fe_0_107_1 hE_0_2_1 hE_0_95_1 hE_0_102_1 hE_0_104_1 hE_0_105_1 hE_0_108_1 hE_0_109_1 kz_0_100 kz_0_101 kz_0_107
  have rf17 : tv_ok ta (0, 1, 76, []) (n_v vs 17) := tv_in t17 (by first | omega | grind) (by first | omega | grind)
  refine ⟨List.forall_mem_cons.mpr ⟨rf17, (fun _ h => (by cases h))⟩, [], trivial, ?_, (fun _ h => (by cases h))⟩
  rw [List.append_nil]
  exact (fun _ h => (by cases h))
set_option maxHeartbeats 4000000 in
theorem vc_Mo_list_18_0 (x4 : Int) (x5 : Int) (x6 : Int) (x8 : Int) (x11 : Int) (x13 : Int) (x14 : Int) (x15 : Int) (x17 : Int) (x18 : Int) (all_0 : Int → Int) (turned_0 : Int → Int) (itemLayer_0 : Int → Int) (firstJoint_0 : Int → Int) (lineA_0 : Int → Int) (lineB_0 : Int → Int) (r_0 : Int) (items_0 : Int) (layerMany_0 : Int) (lines_0 : Int) (layerSize_1 : Int → Int) (all_1 : Int → Int) (turned_1 : Int → Int) (itemLayer_1 : Int → Int) (firstJoint_1 : Int → Int) (lineA_1 : Int → Int) (lineB_1 : Int → Int) (r_1 : Int) (items_1 : Int) (layerMany_1 : Int) (lines_1 : Int) (layerSize_2 : Int → Int) (itemLayer_2 : Int → Int) (items_2 : Int) (all_2 : Int → Int) (turned_2 : Int → Int) (firstJoint_2 : Int → Int) (lineA_2 : Int → Int) (lineB_2 : Int → Int) (r_2 : Int) (layerMany_2 : Int) (lines_2 : Int) (layerItem_2 : Int → Int) (layerSize_0 : Int → Int) (layerItem_0 : Int → Int) (layerItem_1 : Int → Int) (k4 : 0 ≤ x4 ∧ x4 ≤ 23) (k5 : 0 ≤ x5 ∧ x5 ≤ 75) (k6 : 1 ≤ x6 ∧ x6 ≤ 76) (k8 : 0 ≤ x8 ∧ x8 ≤ 23) (k11 : 0 ≤ x11 ∧ x11 ≤ 1748) (k13 : 0 ≤ x13 ∧ x13 ≤ 76) (k14 : 0 ≤ x14 ∧ x14 ≤ 1824) (k15 : 0 ≤ x15 ∧ x15 ≤ 76) (k17 : 1 ≤ x17 ∧ x17 ≤ 76) (k18 : 1 ≤ x18 ∧ x18 ≤ 76) (d0 : x5 + 1 ≤ x18 ∧ x18 ≤ x5 + 1) (d1 : x6 + (-4294967296) ≤ x18 ∧ x18 ≤ x6 + 0) (d2 : x15 + 1 ≤ x17 ∧ x17 ≤ x15 + 1) (d5 : x4 + 0 ≤ x8 ∧ x8 ≤ x4 + 0) (d6 : x6 + (-4294967296) ≤ x5 ∧ x5 ≤ x6 + (-1)) (f0 : x18 = x5 + 1) (h6 : x15 = layerSize_1 (x4)) (f11 : x14 = x11 + x13) (h12 : x13 = layerSize_2 (x4)) (f13 : x11 = 76 * x4) (f15 : x8 = x4) (h16 : x8 = itemLayer_2 (x5)) (g19 : x6 = items_2) (f21 : LLI (items_2) (itemLayer_2) (layerSize_2) (layerItem_2) (x4) (x5)) (fe_0_5_1 : r_0 = r_1) (fe_0_100_1 : items_0 = items_1) (fe_0_101_1 : layerMany_0 = layerMany_1) (fe_0_107_1 : lines_0 = lines_1) (fe_0_5_2 : r_1 = r_2) (fe_0_100_2 : items_1 = items_2) (fe_0_101_2 : layerMany_1 = layerMany_2) (fe_0_107_2 : lines_1 = lines_2) (hE_0_2_1 : ∀ j : Int, all_0 j = all_1 j) (hE_0_2_2 : ∀ j : Int, all_1 j = all_2 j) (hE_0_95_1 : ∀ j : Int, turned_0 j = turned_1 j) (hE_0_95_2 : ∀ j : Int, turned_1 j = turned_2 j) (hE_0_102_1 : ∀ j : Int, itemLayer_0 j = itemLayer_1 j) (hE_0_102_2 : ∀ j : Int, itemLayer_1 j = itemLayer_2 j) (hE_0_104_1 : ∀ j : Int, firstJoint_0 j = firstJoint_1 j) (hE_0_104_2 : ∀ j : Int, firstJoint_1 j = firstJoint_2 j) (hE_0_105_1 : ∀ j : Int, 0 ≤ j → (j = x4 → layerSize_0 j = x17) ∧ (j ≠ x4 → layerSize_0 j = layerSize_1 j)) (hE_0_105_2 : ∀ j : Int, layerSize_1 j = layerSize_2 j) (hE_0_106_1 : ∀ j : Int, layerItem_0 j = layerItem_1 j) (hE_0_106_2 : ∀ j : Int, 0 ≤ j → (j = x14 → layerItem_1 j = x5) ∧ (j ≠ x14 → layerItem_1 j = layerItem_2 j)) (hE_0_108_1 : ∀ j : Int, lineA_0 j = lineA_1 j) (hE_0_108_2 : ∀ j : Int, lineA_1 j = lineA_2 j) (hE_0_109_1 : ∀ j : Int, lineB_0 j = lineB_1 j) (hE_0_109_2 : ∀ j : Int, lineB_1 j = lineB_2 j) (kz_0_100 : 0 ≤ items_0 ∧ items_0 ≤ 76) (kz_0_101 : 0 ≤ layerMany_0 ∧ layerMany_0 ≤ 76) (kz_0_107 : 0 ≤ lines_0 ∧ lines_0 ≤ 130) : LLI (items_0) (itemLayer_0) (layerSize_0) (layerItem_0) (x4) (x18) := by
  subst fe_0_5_1
  subst fe_0_100_1
  subst fe_0_101_1
  subst fe_0_107_1
  subst fe_0_5_2
  subst fe_0_100_2
  subst fe_0_101_2
  subst fe_0_107_2
  have e_hE_0_2_1 := funext hE_0_2_1; subst e_hE_0_2_1
  have e_hE_0_2_2 := funext hE_0_2_2; subst e_hE_0_2_2
  have e_hE_0_95_1 := funext hE_0_95_1; subst e_hE_0_95_1
  have e_hE_0_95_2 := funext hE_0_95_2; subst e_hE_0_95_2
  have e_hE_0_102_1 := funext hE_0_102_1; subst e_hE_0_102_1
  have e_hE_0_102_2 := funext hE_0_102_2; subst e_hE_0_102_2
  have e_hE_0_104_1 := funext hE_0_104_1; subst e_hE_0_104_1
  have e_hE_0_104_2 := funext hE_0_104_2; subst e_hE_0_104_2
  have e_hE_0_105_2 := funext hE_0_105_2; subst e_hE_0_105_2
  have e_hE_0_106_1 := funext hE_0_106_1; subst e_hE_0_106_1
  have e_hE_0_108_1 := funext hE_0_108_1; subst e_hE_0_108_1
  have e_hE_0_108_2 := funext hE_0_108_2; subst e_hE_0_108_2
  have e_hE_0_109_1 := funext hE_0_109_1; subst e_hE_0_109_1
  have e_hE_0_109_2 := funext hE_0_109_2; subst e_hE_0_109_2
  first
    | exact lli_start ‹LLS _ _ _ _ _› (by omega) ‹LSA _ _ _ _ _ _ _ _ _ _›.2.1.2.1 (by assumption) rfl (by omega) (by omega)
    | exact lli_skip ‹LLI _ _ _ _ _ _› (by assumption) (by assumption) (by omega)
    | exact lli_take (v := x8) (q := x14) (x := x17) ‹LLI _ _ _ _ _ _› (by omega) (by assumption) (by assumption) (by omega) (by assumption) (by omega) rfl (by assumption) rfl (by omega)
set_option maxHeartbeats 4000000 in
theorem vc_Mo_list_18_1 (x4 : Int) (x5 : Int) (x6 : Int) (x8 : Int) (x18 : Int) (all_0 : Int → Int) (turned_0 : Int → Int) (itemLayer_0 : Int → Int) (firstJoint_0 : Int → Int) (lineA_0 : Int → Int) (lineB_0 : Int → Int) (r_0 : Int) (items_0 : Int) (layerMany_0 : Int) (lines_0 : Int) (layerSize_1 : Int → Int) (all_1 : Int → Int) (turned_1 : Int → Int) (itemLayer_1 : Int → Int) (firstJoint_1 : Int → Int) (lineA_1 : Int → Int) (lineB_1 : Int → Int) (r_1 : Int) (items_1 : Int) (layerMany_1 : Int) (lines_1 : Int) (layerSize_2 : Int → Int) (itemLayer_2 : Int → Int) (items_2 : Int) (all_2 : Int → Int) (turned_2 : Int → Int) (firstJoint_2 : Int → Int) (lineA_2 : Int → Int) (lineB_2 : Int → Int) (r_2 : Int) (layerMany_2 : Int) (lines_2 : Int) (layerItem_0 : Int → Int) (layerItem_1 : Int → Int) (k4 : 0 ≤ x4 ∧ x4 ≤ 23) (k5 : 0 ≤ x5 ∧ x5 ≤ 75) (k6 : 1 ≤ x6 ∧ x6 ≤ 76) (k8 : 0 ≤ x8 ∧ x8 ≤ 23) (k18 : 1 ≤ x18 ∧ x18 ≤ 76) (d0 : x5 + 1 ≤ x18 ∧ x18 ≤ x5 + 1) (d6 : x6 + (-4294967296) ≤ x5 ∧ x5 ≤ x6 + (-1)) (f2 : ((x4 + 1) ≤ layerMany_0) ∧ (x5 ≤ items_0)) (f15 : x8 = x4) (h16 : x8 = itemLayer_2 (x5)) (g19 : x6 = items_2) (fe_0_5_1 : r_0 = r_1) (fe_0_100_1 : items_0 = items_1) (fe_0_101_1 : layerMany_0 = layerMany_1) (fe_0_107_1 : lines_0 = lines_1) (fe_0_5_2 : r_1 = r_2) (fe_0_100_2 : items_1 = items_2) (fe_0_101_2 : layerMany_1 = layerMany_2) (fe_0_107_2 : lines_1 = lines_2) (hE_0_2_1 : ∀ j : Int, all_0 j = all_1 j) (hE_0_2_2 : ∀ j : Int, all_1 j = all_2 j) (hE_0_95_1 : ∀ j : Int, turned_0 j = turned_1 j) (hE_0_95_2 : ∀ j : Int, turned_1 j = turned_2 j) (hE_0_102_1 : ∀ j : Int, itemLayer_0 j = itemLayer_1 j) (hE_0_102_2 : ∀ j : Int, itemLayer_1 j = itemLayer_2 j) (hE_0_104_1 : ∀ j : Int, firstJoint_0 j = firstJoint_1 j) (hE_0_104_2 : ∀ j : Int, firstJoint_1 j = firstJoint_2 j) (hE_0_105_2 : ∀ j : Int, layerSize_1 j = layerSize_2 j) (hE_0_106_1 : ∀ j : Int, layerItem_0 j = layerItem_1 j) (hE_0_108_1 : ∀ j : Int, lineA_0 j = lineA_1 j) (hE_0_108_2 : ∀ j : Int, lineA_1 j = lineA_2 j) (hE_0_109_1 : ∀ j : Int, lineB_0 j = lineB_1 j) (hE_0_109_2 : ∀ j : Int, lineB_1 j = lineB_2 j) (kz_0_100 : 0 ≤ items_0 ∧ items_0 ≤ 76) (kz_0_101 : 0 ≤ layerMany_0 ∧ layerMany_0 ≤ 76) (kz_0_107 : 0 ≤ lines_0 ∧ lines_0 ≤ 130) : ((x4 + 1) ≤ layerMany_0) ∧ (x18 ≤ items_0) := by
  subst fe_0_5_1
  subst fe_0_100_1
  subst fe_0_101_1
  subst fe_0_107_1
  subst fe_0_5_2
  subst fe_0_100_2
  subst fe_0_101_2
  subst fe_0_107_2
  have e_hE_0_2_1 := funext hE_0_2_1; subst e_hE_0_2_1
  have e_hE_0_2_2 := funext hE_0_2_2; subst e_hE_0_2_2
  have e_hE_0_95_1 := funext hE_0_95_1; subst e_hE_0_95_1
  have e_hE_0_95_2 := funext hE_0_95_2; subst e_hE_0_95_2
  have e_hE_0_102_1 := funext hE_0_102_1; subst e_hE_0_102_1
  have e_hE_0_102_2 := funext hE_0_102_2; subst e_hE_0_102_2
  have e_hE_0_104_1 := funext hE_0_104_1; subst e_hE_0_104_1
  have e_hE_0_104_2 := funext hE_0_104_2; subst e_hE_0_104_2
  have e_hE_0_105_2 := funext hE_0_105_2; subst e_hE_0_105_2
  have e_hE_0_106_1 := funext hE_0_106_1; subst e_hE_0_106_1
  have e_hE_0_108_1 := funext hE_0_108_1; subst e_hE_0_108_1
  have e_hE_0_108_2 := funext hE_0_108_2; subst e_hE_0_108_2
  have e_hE_0_109_1 := funext hE_0_109_1; subst e_hE_0_109_1
  have e_hE_0_109_2 := funext hE_0_109_2; subst e_hE_0_109_2
  try simp only [Int.add_zero] at *
  first
    | omega
    | (have h := lid_bd ‹LID _ _ _ _ _ _ _ _ _›; omega)
    | (have h := ‹LYJ _ _ _ _›.1.1.1; omega)
    | (have h := (lic_bd ‹LIC _ _ _ _ _ _ _›).1; omega)
    | (have h := (lic_bd ‹LIF _ _ _ _ _ _›).1; omega)
    | (have h := ‹LSA _ _ _ _ _ _ _ _ _ _›.2.1; omega)
    | (have h := lli_bd ‹LLI _ _ _ _ _ _›; have h2 := ‹LSA _ _ _ _ _ _ _ _ _ _›.2.1; omega)
def o_Mo_list_18 : or_T := (191, 19, [(0, (2, 0, 0, [165])), (4, (0, 0, 23, [])), (5, (0, 0, 75, [])), (6, (0, 1, 76, [])), (8, (0, 0, 23, [])), (9, (2, 0, 0, [239])), (10, (0, 76, 76, [])), (11, (0, 0, 1748, [])), (12, (2, 0, 0, [238])), (13, (0, 0, 76, [])), (14, (0, 0, 1824, [])), (15, (0, 0, 76, [])), (17, (0, 1, 76, [])), (18, (0, 1, 76, []))], [(6, [18, 5], [1]), (20, [4, 2, 5], [50, 2, 0, 1101, 1100, 2, 11, 0, 6, 4, 2, 1, 0, 0, 1, 2, 1, 101, 0, 2, 1, 2, 2, 1, 100]), (24, [0, 2], []), (100, [12, 4, 17], []), (10, [15, 12, 4], []), (9, [12, 2], [105]), (100, [9, 14, 5], []), (1, [14, 11, 13], []), (10, [13, 12, 4], []), (3, [11, 10, 4], []), (9, [9, 2], [106]), (7, [8, 4], [0]), (10, [8, 7, 5], []), (9, [7, 2], [102]), (9, [6, 2], [100]), (20, [2, 4, 5], [60, 1, 3, 447, 100, 102, 105, 106])], [], [], [(20, [2, 4, 18], [60, 1, 3, 447, 100, 102, 105, 106]), (20, [4, 2, 18], [50, 2, 0, 1101, 1100, 2, 11, 0, 6, 4, 2, 1, 0, 0, 1, 2, 1, 101, 0, 2, 1, 2, 2, 1, 100])], [], [(18, 5, 1, 1), (18, 6, -4294967296, 0), (17, 15, 1, 1), (14, 13, 0, 1748), (14, 11, 0, 76), (8, 4, 0, 0), (5, 6, -4294967296, -1)])
theorem oo_Mo_list_18 {kA : Nat → ClassId} : or_ok PRD kA GG o_Mo_list_18 := by
  refine or_mk fun A ta ws vs hD hth hl => ?_
  intro t0 r0 t4 k4 t5 k5 t6 k6 t8 k8 t9 r9 t10 k10 t11 k11 t12 r12 t13 k13 t14 k14 t15 k15 t17 k17 t18 k18 d0 d1 d2 d3 d4 d5 d6 f0 f2 f3 ta1 w1 le1 s1 f6 f7 ta2 w2 le2 s2 f11 f12 f13 f14 f15 f16 f17 f19 f21
  replace f0 := shm_4 f0
  replace f2 := shm_1721 f2
  replace f3 := shm_5 f3
  have s1 : (∀ b j, w_el ws b j = if b = v_ad (n_v vs 12) ∧ j = (v_iv (n_v vs 4)).toNat then v_iv (n_v vs 17) else w_el w1 b j) ∧ ∀ b k, w_fd ws b k = w_fd w1 b k := s1.2
  replace f6 := shm_107 f6
  replace f7 := shm_619 f7
  have s2 : (∀ b j, w_el w1 b j = if b = v_ad (n_v vs 9) ∧ j = (v_iv (n_v vs 14)).toNat then v_iv (n_v vs 5) else w_el w2 b j) ∧ ∀ b k, w_fd w1 b k = w_fd w2 b k := s2.2
  replace f11 := shm_12 f11
  replace f12 := shm_107 f12
  replace f13 := shm_38 f13
  rw [show v_iv (n_v vs 10) = 76 from by omega] at f13
  replace f14 := shm_679 f14
  replace f15 := shm_37 f15
  replace f16 := shm_107 f16
  replace f17 := shm_673 f17
  replace f19 := shm_1555 f19
  replace f21 := shm_1720 f21
  have q2 : n_v vs 2 = n_v vs 0 := f3.symm
  simp only [q2] at f2 f7 f14 f17 f19 f21
  have ar_0_2_1 : w_ar w1 (n_v vs 0) 2 = w_ar ws (n_v vs 0) 2 := congrArg v_ad (s1.2 _ _).symm
  have ar_0_2_2 : w_ar w2 (n_v vs 0) 2 = w_ar ws (n_v vs 0) 2 := by rw [← ar_0_2_1]; show v_ad (w_fd w2 _ _) = v_ad (w_fd w1 _ _); rw [s2.2]
  have cr_0_2 := fdq_10 hD hth r0
  have ar_0_95_1 : w_ar w1 (n_v vs 0) 95 = w_ar ws (n_v vs 0) 95 := congrArg v_ad (s1.2 _ _).symm
  have ar_0_95_2 : w_ar w2 (n_v vs 0) 95 = w_ar ws (n_v vs 0) 95 := by rw [← ar_0_95_1]; show v_ad (w_fd w2 _ _) = v_ad (w_fd w1 _ _); rw [s2.2]
  have cr_0_95 := fdq_130 hD hth r0
  have ar_0_102_1 : w_ar w1 (n_v vs 0) 102 = w_ar ws (n_v vs 0) 102 := congrArg v_ad (s1.2 _ _).symm
  have ar_0_102_2 : w_ar w2 (n_v vs 0) 102 = w_ar ws (n_v vs 0) 102 := by rw [← ar_0_102_1]; show v_ad (w_fd w2 _ _) = v_ad (w_fd w1 _ _); rw [s2.2]
  have cr_0_102 := fdq_159 hD hth r0
  have ar_0_104_1 : w_ar w1 (n_v vs 0) 104 = w_ar ws (n_v vs 0) 104 := congrArg v_ad (s1.2 _ _).symm
  have ar_0_104_2 : w_ar w2 (n_v vs 0) 104 = w_ar ws (n_v vs 0) 104 := by rw [← ar_0_104_1]; show v_ad (w_fd w2 _ _) = v_ad (w_fd w1 _ _); rw [s2.2]
  have cr_0_104 := fdq_170 hD hth r0
  have ar_0_105_1 : w_ar w1 (n_v vs 0) 105 = w_ar ws (n_v vs 0) 105 := congrArg v_ad (s1.2 _ _).symm
  have ar_0_105_2 : w_ar w2 (n_v vs 0) 105 = w_ar ws (n_v vs 0) 105 := by rw [← ar_0_105_1]; show v_ad (w_fd w2 _ _) = v_ad (w_fd w1 _ _); rw [s2.2]
  have cr_0_105 := fdq_122 hD hth r0
  have ar_0_106_1 : w_ar w1 (n_v vs 0) 106 = w_ar ws (n_v vs 0) 106 := congrArg v_ad (s1.2 _ _).symm
  have ar_0_106_2 : w_ar w2 (n_v vs 0) 106 = w_ar ws (n_v vs 0) 106 := by rw [← ar_0_106_1]; show v_ad (w_fd w2 _ _) = v_ad (w_fd w1 _ _); rw [s2.2]
  have cr_0_106 := fdq_123 hD hth r0
  have ar_0_108_1 : w_ar w1 (n_v vs 0) 108 = w_ar ws (n_v vs 0) 108 := congrArg v_ad (s1.2 _ _).symm
  have ar_0_108_2 : w_ar w2 (n_v vs 0) 108 = w_ar ws (n_v vs 0) 108 := by rw [← ar_0_108_1]; show v_ad (w_fd w2 _ _) = v_ad (w_fd w1 _ _); rw [s2.2]
  have cr_0_108 := fdq_160 hD hth r0
  have ar_0_109_1 : w_ar w1 (n_v vs 0) 109 = w_ar ws (n_v vs 0) 109 := congrArg v_ad (s1.2 _ _).symm
  have ar_0_109_2 : w_ar w2 (n_v vs 0) 109 = w_ar ws (n_v vs 0) 109 := by rw [← ar_0_109_1]; show v_ad (w_fd w2 _ _) = v_ad (w_fd w1 _ _); rw [s2.2]
  have cr_0_109 := fdq_161 hD hth r0
  have ad_12 : v_ad (n_v vs 12) = w_ar ws (n_v vs 0) 105 := (congrArg v_ad f7).trans ar_0_105_1
  have ad_9 : v_ad (n_v vs 9) = w_ar ws (n_v vs 0) 106 := (congrArg v_ad f14).trans ar_0_106_2
  have ad_7 : v_ad (n_v vs 7) = w_ar ws (n_v vs 0) 102 := (congrArg v_ad f17).trans ar_0_102_2
  simp only [ad_12] at f6
  have h6 : v_iv (n_v vs 15) = w_ei w1 (w_ar ws (n_v vs 0) 105) (v_iv (n_v vs 4)) := f6
  simp only [ar_0_2_1, ar_0_95_1, ar_0_102_1, ar_0_104_1, ar_0_108_1, ar_0_109_1, ad_12] at f12
  have h12 : v_iv (n_v vs 13) = w_ei w2 (w_ar ws (n_v vs 0) 105) (v_iv (n_v vs 4)) := f12
  simp only [ad_7] at f16
  have h16 : v_iv (n_v vs 8) = w_ei w2 (w_ar ws (n_v vs 0) 102) (v_iv (n_v vs 5)) := f16
  have g19 : v_iv (n_v vs 6) = w_fi w2 (n_v vs 0) 100 := congrArg v_iv f19
  simp only [ar_0_2_2, ar_0_95_2, ar_0_102_2, ar_0_104_2, ar_0_108_2, ar_0_109_2, ar_0_105_2, ar_0_106_2] at f21
  have fe_0_5_1 : w_fi ws (n_v vs 0) 5 = w_fi w1 (n_v vs 0) 5 := congrArg v_iv (s1.2 _ _)
  have fe_0_100_1 : w_fi ws (n_v vs 0) 100 = w_fi w1 (n_v vs 0) 100 := congrArg v_iv (s1.2 _ _)
  have fe_0_101_1 : w_fi ws (n_v vs 0) 101 = w_fi w1 (n_v vs 0) 101 := congrArg v_iv (s1.2 _ _)
  have fe_0_107_1 : w_fi ws (n_v vs 0) 107 = w_fi w1 (n_v vs 0) 107 := congrArg v_iv (s1.2 _ _)
  have fe_0_5_2 : w_fi w1 (n_v vs 0) 5 = w_fi w2 (n_v vs 0) 5 := congrArg v_iv (s2.2 _ _)
  have fe_0_100_2 : w_fi w1 (n_v vs 0) 100 = w_fi w2 (n_v vs 0) 100 := congrArg v_iv (s2.2 _ _)
  have fe_0_101_2 : w_fi w1 (n_v vs 0) 101 = w_fi w2 (n_v vs 0) 101 := congrArg v_iv (s2.2 _ _)
  have fe_0_107_2 : w_fi w1 (n_v vs 0) 107 = w_fi w2 (n_v vs 0) 107 := congrArg v_iv (s2.2 _ _)
  have hE_0_2_1 : ∀ j : Int, w_ei ws (w_ar ws (n_v vs 0) 2) j = w_ei w1 (w_ar ws (n_v vs 0) 2) j := el_kp s1.1 r12 cr_0_2 (by decide)
  have hE_0_2_2 : ∀ j : Int, w_ei w1 (w_ar ws (n_v vs 0) 2) j = w_ei w2 (w_ar ws (n_v vs 0) 2) j := el_kp s2.1 r9 cr_0_2 (by decide)
  have hE_0_95_1 : ∀ j : Int, w_ei ws (w_ar ws (n_v vs 0) 95) j = w_ei w1 (w_ar ws (n_v vs 0) 95) j := el_kp s1.1 r12 cr_0_95 (by decide)
  have hE_0_95_2 : ∀ j : Int, w_ei w1 (w_ar ws (n_v vs 0) 95) j = w_ei w2 (w_ar ws (n_v vs 0) 95) j := el_kp s2.1 r9 cr_0_95 (by decide)
  have hE_0_102_1 : ∀ j : Int, w_ei ws (w_ar ws (n_v vs 0) 102) j = w_ei w1 (w_ar ws (n_v vs 0) 102) j := el_kp s1.1 r12 cr_0_102 (by decide)
  have hE_0_102_2 : ∀ j : Int, w_ei w1 (w_ar ws (n_v vs 0) 102) j = w_ei w2 (w_ar ws (n_v vs 0) 102) j := el_kp s2.1 r9 cr_0_102 (by decide)
  have hE_0_104_1 : ∀ j : Int, w_ei ws (w_ar ws (n_v vs 0) 104) j = w_ei w1 (w_ar ws (n_v vs 0) 104) j := el_kp s1.1 r12 cr_0_104 (by decide)
  have hE_0_104_2 : ∀ j : Int, w_ei w1 (w_ar ws (n_v vs 0) 104) j = w_ei w2 (w_ar ws (n_v vs 0) 104) j := el_kp s2.1 r9 cr_0_104 (by decide)
  have hE_0_105_1 : ∀ j : Int, 0 ≤ j → (j = v_iv (n_v vs 4) → w_ei ws (w_ar ws (n_v vs 0) 105) j = v_iv (n_v vs 17)) ∧ (j ≠ v_iv (n_v vs 4) → w_ei ws (w_ar ws (n_v vs 0) 105) j = w_ei w1 (w_ar ws (n_v vs 0) 105) j) := fun j hj => ⟨fun h => by unfold w_ei; rw [s1.1, if_pos ⟨ad_12.symm, by rw [h]⟩], fun h => by unfold w_ei; rw [s1.1, if_neg (fun e => h (by have := e.2; omega))]⟩
  have hE_0_105_2 : ∀ j : Int, w_ei w1 (w_ar ws (n_v vs 0) 105) j = w_ei w2 (w_ar ws (n_v vs 0) 105) j := el_kp s2.1 r9 cr_0_105 (by decide)
  have hE_0_106_1 : ∀ j : Int, w_ei ws (w_ar ws (n_v vs 0) 106) j = w_ei w1 (w_ar ws (n_v vs 0) 106) j := el_kp s1.1 r12 cr_0_106 (by decide)
  have hE_0_106_2 : ∀ j : Int, 0 ≤ j → (j = v_iv (n_v vs 14) → w_ei w1 (w_ar ws (n_v vs 0) 106) j = v_iv (n_v vs 5)) ∧ (j ≠ v_iv (n_v vs 14) → w_ei w1 (w_ar ws (n_v vs 0) 106) j = w_ei w2 (w_ar ws (n_v vs 0) 106) j) := fun j hj => ⟨fun h => by unfold w_ei; rw [s2.1, if_pos ⟨ad_9.symm, by rw [h]⟩], fun h => by unfold w_ei; rw [s2.1, if_neg (fun e => h (by have := e.2; omega))]⟩
  have hE_0_108_1 : ∀ j : Int, w_ei ws (w_ar ws (n_v vs 0) 108) j = w_ei w1 (w_ar ws (n_v vs 0) 108) j := el_kp s1.1 r12 cr_0_108 (by decide)
  have hE_0_108_2 : ∀ j : Int, w_ei w1 (w_ar ws (n_v vs 0) 108) j = w_ei w2 (w_ar ws (n_v vs 0) 108) j := el_kp s2.1 r9 cr_0_108 (by decide)
  have hE_0_109_1 : ∀ j : Int, w_ei ws (w_ar ws (n_v vs 0) 109) j = w_ei w1 (w_ar ws (n_v vs 0) 109) j := el_kp s1.1 r12 cr_0_109 (by decide)
  have hE_0_109_2 : ∀ j : Int, w_ei w1 (w_ar ws (n_v vs 0) 109) j = w_ei w2 (w_ar ws (n_v vs 0) 109) j := el_kp s2.1 r9 cr_0_109 (by decide)
  have kz_0_100 := fdq_162 hD hth r0
  have kz_0_101 := fdq_125 hD hth r0
  have kz_0_107 := fdq_163 hD hth r0
  have nf0 : fc_1 PRD (20, [2, 4, 18], [60, 1, 3, 447, 100, 102, 105, 106]) ws (vs) := by
    refine ⟨nf_in hl rfl, sgq_1720 ?_⟩
    · show LLI (w_fi ws (n_v vs 2) 100) (w_ei ws (w_ar ws (n_v vs 2) 102)) (w_ei ws (w_ar ws (n_v vs 2) 105)) (w_ei ws (w_ar ws (n_v vs 2) 106)) (v_iv (n_v vs 4)) (v_iv (n_v vs 18))
      rw [q2]
      exact vc_Mo_list_18_0 (v_iv (n_v vs 4)) (v_iv (n_v vs 5)) (v_iv (n_v vs 6)) (v_iv (n_v vs 8)) (v_iv (n_v vs 11)) (v_iv (n_v vs 13)) (v_iv (n_v vs 14)) (v_iv (n_v vs 15)) (v_iv (n_v vs 17)) (v_iv (n_v vs 18)) (w_ei ws (w_ar ws (n_v vs 0) 2)) (w_ei ws (w_ar ws (n_v vs 0) 95)) (w_ei ws (w_ar ws (n_v vs 0) 102)) (w_ei ws (w_ar ws (n_v vs 0) 104)) (w_ei ws (w_ar ws (n_v vs 0) 108)) (w_ei ws (w_ar ws (n_v vs 0) 109)) (w_fi ws (n_v vs 0) 5) (w_fi ws (n_v vs 0) 100) (w_fi ws (n_v vs 0) 101) (w_fi ws (n_v vs 0) 107) (w_ei w1 (w_ar ws (n_v vs 0) 105)) (w_ei w1 (w_ar ws (n_v vs 0) 2)) (w_ei w1 (w_ar ws (n_v vs 0) 95)) (w_ei w1 (w_ar ws (n_v vs 0) 102)) (w_ei w1 (w_ar ws (n_v vs 0) 104)) (w_ei w1 (w_ar ws (n_v vs 0) 108)) (w_ei w1 (w_ar ws (n_v vs 0) 109)) (w_fi w1 (n_v vs 0) 5) (w_fi w1 (n_v vs 0) 100) (w_fi w1 (n_v vs 0) 101) (w_fi w1 (n_v vs 0) 107) (w_ei w2 (w_ar ws (n_v vs 0) 105)) (w_ei w2 (w_ar ws (n_v vs 0) 102)) (w_fi w2 (n_v vs 0) 100) (w_ei w2 (w_ar ws (n_v vs 0) 2)) (w_ei w2 (w_ar ws (n_v vs 0) 95)) (w_ei w2 (w_ar ws (n_v vs 0) 104)) (w_ei w2 (w_ar ws (n_v vs 0) 108)) (w_ei w2 (w_ar ws (n_v vs 0) 109)) (w_fi w2 (n_v vs 0) 5) (w_fi w2 (n_v vs 0) 101) (w_fi w2 (n_v vs 0) 107) (w_ei w2 (w_ar ws (n_v vs 0) 106)) (w_ei ws (w_ar ws (n_v vs 0) 105)) (w_ei ws (w_ar ws (n_v vs 0) 106)) (w_ei w1 (w_ar ws (n_v vs 0) 106)) k4 k5 k6 k8 k11 k13 k14 k15 k17 k18 d0 d1 d2 d5 d6 f0 h6 f11 h12 f13 f15 h16 g19 f21 fe_0_5_1 fe_0_100_1 fe_0_101_1 fe_0_107_1 fe_0_5_2 fe_0_100_2 fe_0_101_2 fe_0_107_2 hE_0_2_1 hE_0_2_2 hE_0_95_1 hE_0_95_2 hE_0_102_1 hE_0_102_2 hE_0_104_1 hE_0_104_2 hE_0_105_1 hE_0_105_2 hE_0_106_1 hE_0_106_2 hE_0_108_1 hE_0_108_2 hE_0_109_1 hE_0_109_2 kz_0_100 kz_0_101 kz_0_107
  have nf1 : fc_1 PRD (20, [4, 2, 18], [50, 2, 0, 1101, 1100, 2, 11, 0, 6, 4, 2, 1, 0, 0, 1, 2, 1, 101, 0, 2, 1, 2, 2, 1, 100]) ws (vs) := by
    refine ⟨nf_in hl rfl, sgq_1721 ?_⟩
    · show ((v_iv (n_v vs 4) + 1) ≤ w_fi ws (n_v vs 2) 101) ∧ (v_iv (n_v vs 18) ≤ w_fi ws (n_v vs 2) 100)
      rw [q2]
      exact vc_Mo_list_18_1 (v_iv (n_v vs 4)) (v_iv (n_v vs 5)) (v_iv (n_v vs 6)) (v_iv (n_v vs 8)) (v_iv (n_v vs 18)) (w_ei ws (w_ar ws (n_v vs 0) 2)) (w_ei ws (w_ar ws (n_v vs 0) 95)) (w_ei ws (w_ar ws (n_v vs 0) 102)) (w_ei ws (w_ar ws (n_v vs 0) 104)) (w_ei ws (w_ar ws (n_v vs 0) 108)) (w_ei ws (w_ar ws (n_v vs 0) 109)) (w_fi ws (n_v vs 0) 5) (w_fi ws (n_v vs 0) 100) (w_fi ws (n_v vs 0) 101) (w_fi ws (n_v vs 0) 107) (w_ei w1 (w_ar ws (n_v vs 0) 105)) (w_ei w1 (w_ar ws (n_v vs 0) 2)) (w_ei w1 (w_ar ws (n_v vs 0) 95)) (w_ei w1 (w_ar ws (n_v vs 0) 102)) (w_ei w1 (w_ar ws (n_v vs 0) 104)) (w_ei w1 (w_ar ws (n_v vs 0) 108)) (w_ei w1 (w_ar ws (n_v vs 0) 109)) (w_fi w1 (n_v vs 0) 5) (w_fi w1 (n_v vs 0) 100) (w_fi w1 (n_v vs 0) 101) (w_fi w1 (n_v vs 0) 107) (w_ei w2 (w_ar ws (n_v vs 0) 105)) (w_ei w2 (w_ar ws (n_v vs 0) 102)) (w_fi w2 (n_v vs 0) 100) (w_ei w2 (w_ar ws (n_v vs 0) 2)) (w_ei w2 (w_ar ws (n_v vs 0) 95)) (w_ei w2 (w_ar ws (n_v vs 0) 104)) (w_ei w2 (w_ar ws (n_v vs 0) 108)) (w_ei w2 (w_ar ws (n_v vs 0) 109)) (w_fi w2 (n_v vs 0) 5) (w_fi w2 (n_v vs 0) 101) (w_fi w2 (n_v vs 0) 107) (w_ei ws (w_ar ws (n_v vs 0) 106)) (w_ei w1 (w_ar ws (n_v vs 0) 106)) k4 k5 k6 k8 k18 d0 d6 f2 f15 h16 g19 fe_0_5_1 fe_0_100_1 fe_0_101_1 fe_0_107_1 fe_0_5_2 fe_0_100_2 fe_0_101_2 fe_0_107_2 hE_0_2_1 hE_0_2_2 hE_0_95_1 hE_0_95_2 hE_0_102_1 hE_0_102_2 hE_0_104_1 hE_0_104_2 hE_0_105_2 hE_0_106_1 hE_0_108_1 hE_0_108_2 hE_0_109_1 hE_0_109_2 kz_0_100 kz_0_101 kz_0_107
  refine ⟨(fun _ h => (by cases h)), [], trivial, ?_, (fun _ h => (by cases h))⟩
  rw [List.append_nil]
  exact List.forall_mem_cons.mpr ⟨⟨show (20 : Nat) < 100 from by decide, nf0⟩, List.forall_mem_cons.mpr ⟨⟨show (20 : Nat) < 100 from by decide, nf1⟩, (fun _ h => (by cases h))⟩⟩
set_option maxHeartbeats 4000000 in
theorem vc_Mo_list_19_0 (x4 : Int) (x5 : Int) (x8 : Int) (x9 : Int) (itemLayer_0 : Int → Int) (items_0 : Int) (layerSize_0 : Int → Int) (layerItem_0 : Int → Int) (k4 : 0 ≤ x4 ∧ x4 ≤ 23) (k5 : 0 ≤ x5 ∧ x5 ≤ 75) (k8 : 0 ≤ x8 ∧ x8 ≤ 75) (k9 : 1 ≤ x9 ∧ x9 ≤ 76) (f0 : x9 = x5 + 1) (f1 : x8 ≠ x4) (h2 : x8 = itemLayer_0 (x5)) (f7 : LLI (items_0) (itemLayer_0) (layerSize_0) (layerItem_0) (x4) (x5)) (kz_0_100 : 0 ≤ items_0 ∧ items_0 ≤ 76) : LLI (items_0) (itemLayer_0) (layerSize_0) (layerItem_0) (x4) (x9) := by
  first
    | exact lli_start ‹LLS _ _ _ _ _› (by omega) ‹LSA _ _ _ _ _ _ _ _ _ _›.2.1.2.1 (by assumption) rfl (by omega) (by omega)
    | exact lli_skip ‹LLI _ _ _ _ _ _› (by assumption) (by assumption) (by omega)
    | exact lli_take (v := x8) (q := x14) (x := x17) ‹LLI _ _ _ _ _ _› (by omega) (by assumption) (by assumption) (by omega) (by assumption) (by omega) rfl (by assumption) rfl (by omega)
set_option maxHeartbeats 4000000 in
theorem vc_Mo_list_19_1 (x4 : Int) (x5 : Int) (x6 : Int) (x8 : Int) (x9 : Int) (itemLayer_0 : Int → Int) (items_0 : Int) (layerMany_0 : Int) (k4 : 0 ≤ x4 ∧ x4 ≤ 23) (k5 : 0 ≤ x5 ∧ x5 ≤ 75) (k6 : 1 ≤ x6 ∧ x6 ≤ 76) (k8 : 0 ≤ x8 ∧ x8 ≤ 75) (k9 : 1 ≤ x9 ∧ x9 ≤ 76) (d0 : x5 + 1 ≤ x9 ∧ x9 ≤ x5 + 1) (d2 : x6 + (-4294967296) ≤ x5 ∧ x5 ≤ x6 + (-1)) (h2 : x8 = itemLayer_0 (x5)) (g5 : x6 = items_0) (f8 : ((x4 + 1) ≤ layerMany_0) ∧ (x5 ≤ items_0)) (kz_0_100 : 0 ≤ items_0 ∧ items_0 ≤ 76) (kz_0_101 : 0 ≤ layerMany_0 ∧ layerMany_0 ≤ 76) : ((x4 + 1) ≤ layerMany_0) ∧ (x9 ≤ items_0) := by
  try simp only [Int.add_zero] at *
  first
    | omega
    | (have h := lid_bd ‹LID _ _ _ _ _ _ _ _ _›; omega)
    | (have h := ‹LYJ _ _ _ _›.1.1.1; omega)
    | (have h := (lic_bd ‹LIC _ _ _ _ _ _ _›).1; omega)
    | (have h := (lic_bd ‹LIF _ _ _ _ _ _›).1; omega)
    | (have h := ‹LSA _ _ _ _ _ _ _ _ _ _›.2.1; omega)
    | (have h := lli_bd ‹LLI _ _ _ _ _ _›; have h2 := ‹LSA _ _ _ _ _ _ _ _ _ _›.2.1; omega)
def o_Mo_list_19 : or_T := (191, 10, [(0, (2, 0, 0, [165])), (4, (0, 0, 23, [])), (5, (0, 0, 75, [])), (6, (0, 1, 76, [])), (8, (0, 0, 75, [])), (9, (0, 1, 76, []))], [(6, [9, 5], [1]), (7, [8, 4], [1]), (10, [8, 7, 5], []), (9, [7, 2], [102]), (9, [6, 2], [100]), (20, [2, 4, 5], [60, 1, 3, 447, 100, 102, 105, 106]), (20, [4, 2, 5], [50, 2, 0, 1101, 1100, 2, 11, 0, 6, 4, 2, 1, 0, 0, 1, 2, 1, 101, 0, 2, 1, 2, 2, 1, 100]), (24, [0, 2], [])], [], [], [(20, [2, 4, 9], [60, 1, 3, 447, 100, 102, 105, 106]), (20, [4, 2, 9], [50, 2, 0, 1101, 1100, 2, 11, 0, 6, 4, 2, 1, 0, 0, 1, 2, 1, 101, 0, 2, 1, 2, 2, 1, 100])], [], [(9, 5, 1, 1), (5, 6, -4294967296, -1)])
theorem oo_Mo_list_19 {kA : Nat → ClassId} : or_ok PRD kA GG o_Mo_list_19 := by
  refine or_mk fun A ta ws vs hD hth hl => ?_
  intro t0 r0 t4 k4 t5 k5 t6 k6 t8 k8 t9 k9 d0 d2 f0 f1 f2 f3 f5 f7 f8 f9
  replace f0 := shm_4 f0
  replace f1 := shm_40 f1
  replace f2 := shm_107 f2
  replace f3 := shm_673 f3
  replace f5 := shm_1555 f5
  replace f7 := shm_1720 f7
  replace f8 := shm_1721 f8
  replace f9 := shm_5 f9
  have q2 : n_v vs 2 = n_v vs 0 := f9.symm
  simp only [q2] at f3 f5 f7 f8
  have ad_7 : v_ad (n_v vs 7) = w_ar ws (n_v vs 0) 102 := congrArg v_ad f3
  simp only [ad_7] at f2
  have h2 : v_iv (n_v vs 8) = w_ei ws (w_ar ws (n_v vs 0) 102) (v_iv (n_v vs 5)) := f2
  have g5 : v_iv (n_v vs 6) = w_fi ws (n_v vs 0) 100 := congrArg v_iv f5
  have kz_0_100 := fdq_162 hD hth r0
  have kz_0_101 := fdq_125 hD hth r0
  have nf0 : fc_1 PRD (20, [2, 4, 9], [60, 1, 3, 447, 100, 102, 105, 106]) ws (vs) := by
    refine ⟨nf_in hl rfl, sgq_1720 ?_⟩
    · show LLI (w_fi ws (n_v vs 2) 100) (w_ei ws (w_ar ws (n_v vs 2) 102)) (w_ei ws (w_ar ws (n_v vs 2) 105)) (w_ei ws (w_ar ws (n_v vs 2) 106)) (v_iv (n_v vs 4)) (v_iv (n_v vs 9))
      rw [q2]
      exact vc_Mo_list_19_0 (v_iv (n_v vs 4)) (v_iv (n_v vs 5)) (v_iv (n_v vs 8)) (v_iv (n_v vs 9)) (w_ei ws (w_ar ws (n_v vs 0) 102)) (w_fi ws (n_v vs 0) 100) (w_ei ws (w_ar ws (n_v vs 0) 105)) (w_ei ws (w_ar ws (n_v vs 0) 106)) k4 k5 k8 k9 f0 f1 h2 f7 kz_0_100
  have nf1 : fc_1 PRD (20, [4, 2, 9], [50, 2, 0, 1101, 1100, 2, 11, 0, 6, 4, 2, 1, 0, 0, 1, 2, 1, 101, 0, 2, 1, 2, 2, 1, 100]) ws (vs) := by
    refine ⟨nf_in hl rfl, sgq_1721 ?_⟩
    · show ((v_iv (n_v vs 4) + 1) ≤ w_fi ws (n_v vs 2) 101) ∧ (v_iv (n_v vs 9) ≤ w_fi ws (n_v vs 2) 100)
      rw [q2]
      exact vc_Mo_list_19_1 (v_iv (n_v vs 4)) (v_iv (n_v vs 5)) (v_iv (n_v vs 6)) (v_iv (n_v vs 8)) (v_iv (n_v vs 9)) (w_ei ws (w_ar ws (n_v vs 0) 102)) (w_fi ws (n_v vs 0) 100) (w_fi ws (n_v vs 0) 101) k4 k5 k6 k8 k9 d0 d2 h2 g5 f8 kz_0_100 kz_0_101
  refine ⟨(fun _ h => (by cases h)), [], trivial, ?_, (fun _ h => (by cases h))⟩
  rw [List.append_nil]
  exact List.forall_mem_cons.mpr ⟨⟨show (20 : Nat) < 100 from by decide, nf0⟩, List.forall_mem_cons.mpr ⟨⟨show (20 : Nat) < 100 from by decide, nf1⟩, (fun _ h => (by cases h))⟩⟩
def n_Mo_list_an : List an_T := [(12, [(0, (2, 0, 0, [165])), (1, (0, 0, 24, [])), (2, (0, 0, 48, []))], [], (0, 0), [(0, 0, 99988), (1, 4, 48), (0, 0, 100000), (0, 0, 0), (0, 0, 0)], [(1, 3, (Int.negSucc 999999999999), 0), (1, 5, (Int.negSucc 999999999999), 0), (3, 1, (Int.negSucc 999999999999), 0), (3, 5, (Int.negSucc 999999999999), 0)], [((0, 100), (0, 0, 75, []))], [(2, 0, 0, [165]), (0, 0, 24, [])], 0, [], [(20, [2, 4], [60, 2, 4, 441, 5, 100, 2, 95, 102, 104]), (20, [2], [60, 3, 4, 439, 5, 107, 100, 2, 102, 108, 109]), (20, [2, 4], [50, 3, 1, 107, 100, 5, 2, 1, 3, 2, 0, 107, 4, 11, 5, 3, 2, 0, 100, 3, 0, 2, 2, 0, 5, 1, 1]), (20, [4, 2], [50, 1, 1, 1005, 1002, 0, 2, 1, 0, 3, 1, 2, 4, 3, 2, 1, 5, 0, 1]), (20, [2], [50, 1, 1, 5, 2, 0, 2, 0, 0, 3, 0, 2, 2, 0, 5]), (24, [0, 2], [])]), (50, [(0, (2, 0, 0, [165])), (1, (0, 0, 24, [])), (2, (0, 0, 47, [])), (3, (0, 0, 74, [])), (4, (0, 1, 76, []))], [], (0, 0), [(0, 0, 99988), (1, 4, 48), (0, 0, 99950), (1, 6, 76), (0, 0, 100000)], [(1, 3, (Int.negSucc 999999999999), 0), (1, 7, (Int.negSucc 999999999999), 0), (3, 1, (Int.negSucc 999999999999), 0), (3, 7, (Int.negSucc 999999999999), 0), (5, 7, (Int.negSucc 999999999999), 23)], [((0, 100), (0, 0, 75, []))], [(2, 0, 0, [165]), (0, 0, 24, [])], 0, [], [(20, [2, 4, 5, 6], [60, 2, 4, 442, 5, 100, 2, 95, 102, 104]), (20, [2], [60, 3, 4, 439, 5, 107, 100, 2, 102, 108, 109]), (20, [4, 2], [50, 1, 1, 1005, 1002, 0, 6, 4, 2, 1, 0, 0, 1, 3, 1, 2, 4, 3, 2, 1, 5, 0, 1]), (20, [2, 4], [50, 3, 1, 107, 100, 5, 2, 1, 3, 2, 0, 107, 4, 11, 5, 3, 2, 0, 100, 3, 0, 2, 2, 0, 5, 1, 1]), (20, [2], [50, 1, 1, 5, 2, 0, 2, 0, 0, 3, 0, 2, 2, 0, 5]), (24, [0, 2], [])]), (139, [(0, (2, 0, 0, [165])), (1, (0, 0, 24, [])), (2, (0, 0, 76, []))], [], (0, 0), [(0, 0, 99861), (1, 4, 76), (0, 0, 100000), (0, 0, 0), (0, 0, 0)], [(1, 3, (Int.negSucc 999999999999), 0), (3, 1, (Int.negSucc 999999999999), 0), (5, 4, (Int.negSucc 999999999999), 23)], [((0, 101), (0, 0, 24, []))], [(2, 0, 0, [165]), (0, 0, 24, [])], 0, [], [(20, [2], [60, 2, 4, 443, 5, 100, 2, 95, 102, 104]), (20, [2], [60, 3, 4, 439, 5, 107, 100, 2, 102, 108, 109]), (20, [2, 4], [60, 1, 1, 444, 101, 102]), (20, [2], [50, 3, 1, 107, 100, 5, 2, 1, 3, 2, 0, 107, 4, 11, 5, 3, 2, 0, 100, 3, 0, 2, 2, 0, 5, 3, 0, 2, 4, 3, 2, 0, 5, 0, 1]), (24, [0, 2], [])]), (174, [(0, (2, 0, 0, [165])), (1, (0, 0, 24, [])), (2, (0, 0, 24, []))], [], (0, 0), [(0, 0, 99826), (1, 4, 24), (0, 0, 100000), (0, 0, 0), (0, 0, 0)], [(1, 3, (Int.negSucc 999999999999), 0), (3, 1, (Int.negSucc 999999999999), 0)], [], [(2, 0, 0, [165]), (0, 0, 24, [])], 0, [], [(20, [2], [60, 4, 6, 445, 5, 100, 101, 107, 2, 95, 102, 104, 108, 109]), (20, [2, 4], [60, 1, 3, 446, 100, 102, 105, 106]), (24, [0, 2], [])]), (191, [(0, (2, 0, 0, [165])), (1, (0, 0, 24, [])), (2, (0, 0, 23, [])), (3, (0, 0, 76, []))], [], (0, 0), [(0, 0, 99826), (1, 4, 24), (0, 0, 99809), (1, 5, 76), (0, 0, 100000)], [(1, 3, (Int.negSucc 999999999999), 0), (3, 1, (Int.negSucc 999999999999), 0)], [], [(2, 0, 0, [165]), (0, 0, 24, [])], 0, [], [(20, [2], [60, 4, 6, 445, 5, 100, 101, 107, 2, 95, 102, 104, 108, 109]), (20, [2, 4, 5], [60, 1, 3, 447, 100, 102, 105, 106]), (20, [4, 2, 5], [50, 2, 0, 1101, 1100, 2, 11, 0, 6, 4, 2, 1, 0, 0, 1, 2, 1, 101, 0, 2, 1, 2, 2, 1, 100]), (24, [0, 2], [])])]
def t_Mo_list_ct : ct_L := [(0, 855, e_Mo_max), (1, 401, e_Mo_edges), (1, 816, e_Mo_from), (1, 818, e_Mo_to), (280, 850, e_Mo_line_at_g1), (373, 850, e_Mo_line_at_g2)]
set_option maxRecDepth 100000 in
theorem c_Mo_list {l : Launch} {D : va_G} {kA : Nat → ClassId} (h_Mo_edges : ct_ok PRD l D kA GG y_Mo_edges z_Mo_edges e_Mo_edges) (h_Mo_from : ct_ok PRD l D kA GG y_Mo_from z_Mo_from e_Mo_from) (h_Mo_line_at_g1 : ct_ok PRD l D kA GG y_Mo_line_at_g1 z_Mo_line_at_g1 e_Mo_line_at_g1) (h_Mo_line_at_g2 : ct_ok PRD l D kA GG y_Mo_line_at_g2 z_Mo_line_at_g2 e_Mo_line_at_g2) (h_Mo_max : ct_ok PRD l D kA GG y_Mo_max z_Mo_max e_Mo_max) (h_Mo_to : ct_ok PRD l D kA GG y_Mo_to z_Mo_to e_Mo_to) : ct_ok PRD l D kA GG y_Mo_list z_Mo_list e_Mo_list := chk_all_ok (FT := [(222, 13, 102), (225, 13, 103), (228, 13, 104), (231, 13, 105), (234, 13, 106), (844, 13, 100), (852, 13, 101)]) (PT := [(844, 13, 100, .int), (847, 13, 107, .int), (852, 13, 101, .int)]) (CT := t_Mo_list_ct) (KT := []) (NT := []) (AN := n_Mo_list_an) (OT := [o_Mo_list_0, o_Mo_list_1, o_Mo_list_2, o_Mo_list_3, o_Mo_list_4, o_Mo_list_5, o_Mo_list_6, o_Mo_list_7, o_Mo_list_8, o_Mo_list_9, o_Mo_list_10, o_Mo_list_11, o_Mo_list_12, o_Mo_list_13, o_Mo_list_14, o_Mo_list_15, o_Mo_list_16, o_Mo_list_17, o_Mo_list_18, o_Mo_list_19]) 5 604 (List.forall_mem_cons.mpr ⟨oo_Mo_list_0, List.forall_mem_cons.mpr ⟨oo_Mo_list_1, List.forall_mem_cons.mpr ⟨oo_Mo_list_2, List.forall_mem_cons.mpr ⟨oo_Mo_list_3, List.forall_mem_cons.mpr ⟨oo_Mo_list_4, List.forall_mem_cons.mpr ⟨oo_Mo_list_5, List.forall_mem_cons.mpr ⟨oo_Mo_list_6, List.forall_mem_cons.mpr ⟨oo_Mo_list_7, List.forall_mem_cons.mpr ⟨oo_Mo_list_8, List.forall_mem_cons.mpr ⟨oo_Mo_list_9, List.forall_mem_cons.mpr ⟨oo_Mo_list_10, List.forall_mem_cons.mpr ⟨oo_Mo_list_11, List.forall_mem_cons.mpr ⟨oo_Mo_list_12, List.forall_mem_cons.mpr ⟨oo_Mo_list_13, List.forall_mem_cons.mpr ⟨oo_Mo_list_14, List.forall_mem_cons.mpr ⟨oo_Mo_list_15, List.forall_mem_cons.mpr ⟨oo_Mo_list_16, List.forall_mem_cons.mpr ⟨oo_Mo_list_17, List.forall_mem_cons.mpr ⟨oo_Mo_list_18, List.forall_mem_cons.mpr ⟨oo_Mo_list_19, List.forall_mem_nil _⟩⟩⟩⟩⟩⟩⟩⟩⟩⟩⟩⟩⟩⟩⟩⟩⟩⟩⟩⟩) (by decide +kernel) ⟨List.forall_mem_cons.mpr ⟨gf_Mo_222, List.forall_mem_cons.mpr ⟨gf_Mo_225, List.forall_mem_cons.mpr ⟨gf_Mo_228, List.forall_mem_cons.mpr ⟨gf_Mo_231, List.forall_mem_cons.mpr ⟨gf_Mo_234, List.forall_mem_cons.mpr ⟨gf_Mo_844, List.forall_mem_cons.mpr ⟨gf_Mo_852, List.forall_mem_nil _⟩⟩⟩⟩⟩⟩⟩, List.forall_mem_cons.mpr ⟨pf_Mo_844, List.forall_mem_cons.mpr ⟨pf_Mo_847, List.forall_mem_cons.mpr ⟨pf_Mo_852, List.forall_mem_nil _⟩⟩⟩, List.forall_mem_cons.mpr ⟨cl_static (y := y_Mo_max) h_Mo_max wm_3430 wm_9 wm_3428 wm_3429 ⟨by decide, by decide, by decide +kernel⟩ (by decide), List.forall_mem_cons.mpr ⟨cl_virtual (y := y_Mo_edges) (ci := 13) rfl rfl ⟨_, _, rfl⟩ (by decide +kernel) h_Mo_edges wm_3037 wm_9 wm_3034 wm_3036 wv_13_6 ⟨by decide, by decide, by decide +kernel⟩ (by decide), List.forall_mem_cons.mpr ⟨cl_virtual (y := y_Mo_from) (ci := 13) rfl rfl ⟨_, _, rfl⟩ (by decide +kernel) h_Mo_from wm_3395 wm_9 wm_3392 wm_3394 wv_18_1 ⟨by decide, by decide, by decide +kernel⟩ (by decide), List.forall_mem_cons.mpr ⟨cl_virtual (y := y_Mo_to) (ci := 13) rfl rfl ⟨_, _, rfl⟩ (by decide +kernel) h_Mo_to wm_3399 wm_9 wm_3396 wm_3398 wv_18_2 ⟨by decide, by decide, by decide +kernel⟩ (by decide), List.forall_mem_cons.mpr ⟨cl_virtual (y := y_Mo_line_at_g1) (ci := 13) rfl rfl ⟨_, _, rfl⟩ (by decide +kernel) h_Mo_line_at_g1 wm_3427 wm_9 wm_3424 wm_3426 wv_18_9 ⟨by decide, by decide, by decide +kernel⟩ (by decide), List.forall_mem_cons.mpr ⟨cl_virtual (y := y_Mo_line_at_g2) (ci := 13) rfl rfl ⟨_, _, rfl⟩ (by decide +kernel) h_Mo_line_at_g2 wm_3427 wm_9 wm_3424 wm_3426 wv_18_9 ⟨by decide, by decide, by decide +kernel⟩ (by decide), List.forall_mem_nil _⟩⟩⟩⟩⟩⟩, List.forall_mem_nil _, List.forall_mem_nil _, GG_pl⟩ (by decide +kernel)
set_option maxHeartbeats 4000000 in
theorem vc_Mo_middle_0_0 (x4 : Int) (x5 : Int) (pm_0 : Int) (k4 : 0 ≤ x4 ∧ x4 ≤ 79) (k5 : 1 ≤ x5 ∧ x5 ≤ 80) (d0 : x5 + (-4294967296) ≤ x4 ∧ x4 ≤ x5 + (-1)) (g3 : x5 = pm_0) (kz_0_32 : 0 ≤ pm_0 ∧ pm_0 ≤ 80) : 1 * x4 + ((-1) * pm_0 + 0) ≤ (-1) := by
  omega
def o_Mo_middle_0 : or_T := (37, 7, [(0, (2, 0, 0, [165])), (4, (0, 0, 79, [])), (5, (0, 1, 80, []))], [(9, [5, 0], [32])], [], [], [(20, [4, 0], [30, -1, 1, 0, 0, -1, 1, 32])], [], [(4, 5, -4294967296, -1)])
theorem oo_Mo_middle_0 {kA : Nat → ClassId} : or_ok PRD kA GG o_Mo_middle_0 := by
  refine or_mk fun A ta ws vs hD hth hl => ?_
  intro t0 r0 t4 k4 t5 k5 d0 f3
  replace f3 := shm_525 f3
  have g3 : v_iv (n_v vs 5) = w_fi ws (n_v vs 0) 32 := congrArg v_iv f3
  have kz_0_32 := fdq_140 hD hth r0
  have nf0 : fc_1 PRD (20, [4, 0], [30, -1, 1, 0, 0, -1, 1, 32]) ws (vs) := ⟨nf_in hl rfl, sgq_975 (vc_Mo_middle_0_0 (v_iv (n_v vs 4)) (v_iv (n_v vs 5)) (w_fi ws (n_v vs 0) 32) k4 k5 d0 g3 kz_0_32)⟩
  refine ⟨(fun _ h => (by cases h)), [], trivial, ?_, (fun _ h => (by cases h))⟩
  rw [List.append_nil]
  exact List.forall_mem_cons.mpr ⟨⟨show (20 : Nat) < 100 from by decide, nf0⟩, (fun _ h => (by cases h))⟩
def n_Mo_middle_an : List an_T := [(11, [(0, (2, 0, 0, [165])), (1, (0, 0, 23, [])), (2, (0, (Int.negSucc 999999), 1000000, [])), (3, (0, (Int.negSucc 999999), 1000000, [])), (4, (0, 0, 80, []))], [], (0, 0), [(0, 0, 99989), (1, 4, 80), (0, 0, 100000)], [(3, 4, (Int.negSucc 999999999999), 999998)], [], [], 0, [], [(20, [0], [60, 3, 8, 316, 31, 32, 53, 33, 34, 35, 36, 37, 54, 56, 57])])]
def t_Mo_middle_ct : ct_L := [(0, 547, e_Mo_min), (0, 855, e_Mo_max), (1, 600, e_Mo_at1), (1, 928, e_Mo_barX), (213, 931, e_jMath_floorDiv1_v101), (213, 931, e_jMath_floorDiv1_v162), (213, 931, e_jMath_floorDiv1_v163)]
set_option maxRecDepth 100000 in
theorem c_Mo_middle {l : Launch} {D : va_G} {kA : Nat → ClassId} (h_Mo_at1 : ct_ok PRD l D kA GG y_Mo_at1 z_Mo_at1 e_Mo_at1) (h_Mo_barX : ct_ok PRD l D kA GG y_Mo_barX z_Mo_barX e_Mo_barX) (h_Mo_max : ct_ok PRD l D kA GG y_Mo_max z_Mo_max e_Mo_max) (h_Mo_min : ct_ok PRD l D kA GG y_Mo_min z_Mo_min e_Mo_min) : ct_ok PRD l D kA GG y_Mo_middle z_Mo_middle e_Mo_middle := chk_all_ok (FT := [(159, 13, 74), (597, 13, 32)]) (PT := []) (CT := t_Mo_middle_ct) (KT := [(1, 546, .int (1000000), (0, 1000000, 1000000, [])), (1, 776, .int (Int32.ofInt (-1000000)), (0, -1000000, -1000000, []))]) (NT := []) (AN := n_Mo_middle_an) (OT := [o_Mo_middle_0]) 3 332 (List.forall_mem_cons.mpr ⟨oo_Mo_middle_0, List.forall_mem_nil _⟩) (by decide +kernel) ⟨List.forall_mem_cons.mpr ⟨gf_Mo_159, List.forall_mem_cons.mpr ⟨gf_Mo_597, List.forall_mem_nil _⟩⟩, List.forall_mem_nil _, List.forall_mem_cons.mpr ⟨cl_static (y := y_Mo_min) h_Mo_min wm_3174 wm_9 wm_3172 wm_3173 ⟨by decide, by decide, by decide +kernel⟩ (by decide), List.forall_mem_cons.mpr ⟨cl_static (y := y_Mo_max) h_Mo_max wm_3430 wm_9 wm_3428 wm_3429 ⟨by decide, by decide, by decide +kernel⟩ (by decide), List.forall_mem_cons.mpr ⟨cl_virtual (y := y_Mo_at1) (ci := 13) rfl rfl ⟨_, _, rfl⟩ (by decide +kernel) h_Mo_at1 wm_3159 wm_9 wm_3156 wm_3158 wv_14_15 ⟨by decide, by decide, by decide +kernel⟩ (by decide), List.forall_mem_cons.mpr ⟨cl_virtual (y := y_Mo_barX) (ci := 13) rfl rfl ⟨_, _, rfl⟩ (by decide +kernel) h_Mo_barX wm_3555 wm_9 wm_3552 wm_3554 wv_20_8 ⟨by decide, by decide, by decide +kernel⟩ (by decide), List.forall_mem_cons.mpr ⟨cl_static (y := y_jMath_floorDiv1) c_jMath_floorDiv1_v101 wm_1617 wm_10 wm_3556 wm_1616 ⟨by decide, by decide, by decide +kernel⟩ (by decide), List.forall_mem_cons.mpr ⟨cl_static (y := y_jMath_floorDiv1) c_jMath_floorDiv1_v162 wm_1617 wm_10 wm_3556 wm_1616 ⟨by decide, by decide, by decide +kernel⟩ (by decide), List.forall_mem_cons.mpr ⟨cl_static (y := y_jMath_floorDiv1) c_jMath_floorDiv1_v163 wm_1617 wm_10 wm_3556 wm_1616 ⟨by decide, by decide, by decide +kernel⟩ (by decide), List.forall_mem_nil _⟩⟩⟩⟩⟩⟩⟩, List.forall_mem_cons.mpr ⟨kx_Mo_1_546, List.forall_mem_cons.mpr ⟨kx_Mo_1_776, List.forall_mem_nil _⟩⟩, List.forall_mem_nil _, GG_pl⟩ (by decide +kernel)
set_option maxHeartbeats 4000000 in
theorem vc_Mo_need_at_gc_0_0 (x1 : Int) (x3 : Int) (x4 : Int) (x5 : Int) (x6 : Int) (x7 : Int) (x8 : Int) (place_0 : Int) (kind_0 : Int) (fault_0 : Int) (value_0 : Int) (from_0 : Int) (pos_0 : Int) (tape_0 : Int → Int) (all_0 : Int → Int) (limit_0 : Int) (faultPlace_0 : Int) (r_0 : Int) (k1 : 125 ≤ x1 ∧ x1 ≤ 125) (k3 : 0 ≤ x3 ∧ x3 ≤ 7) (k4 : 0 ≤ x4 ∧ x4 ≤ 4) (k5 : 0 ≤ x5 ∧ x5 ≤ 0) (k6 : 0 ≤ x6 ∧ x6 ≤ 0) (k7 : 1 ≤ x7 ∧ x7 ≤ 1) (k8 : 0 ≤ x8 ∧ x8 ≤ 2000) (f1 : x6 = 0) (f3 : SGQ (fault_0) (kind_0) (value_0) (x1) (x6)) (g5 : x5 = fault_0) (f10 : zNc (limit_0) (pos_0) (kind_0) (place_0) (value_0) (from_0) (fault_0) (faultPlace_0) (r_0) (tape_0) (all_0) (x3) (x4)) (kz_0_8 : 0 ≤ fault_0 ∧ fault_0 ≤ 5) (kz_0_9 : 0 ≤ faultPlace_0 ∧ faultPlace_0 ≤ 2000) (kz_0_10 : 0 ≤ limit_0 ∧ limit_0 ≤ 2000) (kz_0_11 : 0 ≤ pos_0 ∧ pos_0 ≤ 2000) (kz_0_12 : 0 ≤ kind_0 ∧ kind_0 ≤ 4) (kz_0_13 : 0 ≤ place_0 ∧ place_0 ≤ 2000) (kz_0_14 : (-49) ≤ value_0 ∧ value_0 ≤ 1048575) (kz_0_15 : 0 ≤ from_0 ∧ from_0 ≤ 2000) : FSX (limit_0) (tape_0) (x7) (x8) := by
  first
    | exact fsx_cg (ndq_flt (or_r ‹zONs _ _ _ _ _ _ _ _ _ _ _ _ _› (fs_n (by omega))) (sgq_f ‹SGQ _ _ _ _ _› (by omega) (by omega) (by omega))) (by omega) (by omega)
    | exact fsx_cg (ndq_flt (or_r ‹zONo _ _ _ _ _ _ _ _ _ _ _ _ _› (fs_n (by omega))) (sgq_f ‹SGQ _ _ _ _ _› (by omega) (by omega) (by omega))) (by omega) (by omega)
    | exact fsx_cg (ndq_flt (or_r ‹zONew _ _ _ _ _ _ _ _ _ _ _ _ _ _› (fs_n (by omega))) (sgq_f ‹SGQ _ _ _ _ _› (by omega) (by omega) (by omega))) (by omega) (by omega)
    | exact fsx_cg (ndq_flt (or_r ‹zONes _ _ _ _ _ _ _ _ _ _ _ _ _ _› (fs_n (by omega))).2 (sgq_f ‹SGQ _ _ _ _ _› (by omega) (by omega) (by omega))) (by omega) (by omega)
    | (exfalso; have h := or_r ‹zNc _ _ _ _ _ _ _ _ _ _ _ _ _› (fs_n (by omega)); exact sgq_f (C := 125) ‹SGQ _ _ _ _ _› (by omega) (by omega) (by omega) ⟨h.1, h.2.1⟩)
    | (exfalso; exact sgq_f (C := 93) ‹SGQ _ _ _ _ _› (by omega) (by omega) (by omega) ⟨(‹zNbs _ _ _ _ _ _ _ _ _ _ _ _ _ _›).2.1, (‹zNbs _ _ _ _ _ _ _ _ _ _ _ _ _ _›).2.2⟩)
    | (exfalso; exact sgq_f (C := 93) ‹SGQ _ _ _ _ _› (by omega) (by omega) (by omega) ⟨(‹zNbw _ _ _ _ _ _ _ _ _ _ _ _ _ _›).2.1, (‹zNbw _ _ _ _ _ _ _ _ _ _ _ _ _ _›).2.2⟩)
set_option maxHeartbeats 4000000 in
theorem vc_Mo_need_at_gc_0_1 (x2 : Int) (x5 : Int) (x6 : Int) (kind_0 : Int) (fault_0 : Int) (from_0 : Int) (pos_0 : Int) (tape_0 : Int → Int) (gx : Int) (k2 : 0 ≤ x2 ∧ x2 ≤ 2000) (k5 : 0 ≤ x5 ∧ x5 ≤ 0) (k6 : 0 ≤ x6 ∧ x6 ≤ 0) (f2 : (x6 = 1) → ((kind_0 = 3) ∧ (fault_0 = 0))) (g5 : x5 = fault_0) (f7 : ((kind_0 = 1) → (pos_0 ≤ (from_0 + 8))) ∧ ((kind_0 = 0) ∨ ((from_0 + 1) ≤ pos_0))) (f9 : (1 ≤ fault_0) ∨ ((kind_0 = 0) ∨ ((x2 + 1) ≤ pos_0))) (hK_0_1 : ∀ j : Int, 0 ≤ j → j < 2000 → (-128) ≤ tape_0 j ∧ tape_0 j ≤ 127) (kz_0_8 : 0 ≤ fault_0 ∧ fault_0 ≤ 5) (kz_0_11 : 0 ≤ pos_0 ∧ pos_0 ≤ 2000) (kz_0_12 : 0 ≤ kind_0 ∧ kind_0 ≤ 4) (kz_0_15 : 0 ≤ from_0 ∧ from_0 ≤ 2000) (ex2 : gx = fault_0) : 1 * fault_0 + ((-1) * gx + 0) ≤ 0 := by
  first | with_reducible assumption | ((have f7_c0 := f7.1); (have f7_c1 := f7.2); (try and_intros) <;> first | with_reducible assumption | (clear f7_c0 f7_c1 f7 f9 hK_0_1 f2; omega)) | ((have f7_c0 := f7.1); (have f7_c1 := f7.2); (first | have f2_b := f2 (by clear f7_c0 f7_c1 f7 f9 hK_0_1 f2; omega) | skip); (first | have f2_d := f2 (by with_reducible assumption) | skip); (try and_intros) <;> first | with_reducible assumption | (clear f7_c0 f7_c1 f7 f9 hK_0_1 f2; omega)) | ((have f7_c0 := f7.1); (have f7_c1 := f7.2); (first | have f2_b := f2 (by clear f7_c0 f7_c1 f7 f9 hK_0_1 f2; omega) | skip); (first | have f2_d := f2 (by with_reducible assumption) | skip); (try and_intros) <;> first | with_reducible assumption | (clear f7_c0 f7_c1 f7 hK_0_1 f2; omega)) | omega
set_option maxHeartbeats 4000000 in
theorem vc_Mo_need_at_gc_0_2 (x2 : Int) (x5 : Int) (x6 : Int) (kind_0 : Int) (fault_0 : Int) (from_0 : Int) (pos_0 : Int) (tape_0 : Int → Int) (gx : Int) (k2 : 0 ≤ x2 ∧ x2 ≤ 2000) (k5 : 0 ≤ x5 ∧ x5 ≤ 0) (k6 : 0 ≤ x6 ∧ x6 ≤ 0) (f2 : (x6 = 1) → ((kind_0 = 3) ∧ (fault_0 = 0))) (g5 : x5 = fault_0) (f7 : ((kind_0 = 1) → (pos_0 ≤ (from_0 + 8))) ∧ ((kind_0 = 0) ∨ ((from_0 + 1) ≤ pos_0))) (f9 : (1 ≤ fault_0) ∨ ((kind_0 = 0) ∨ ((x2 + 1) ≤ pos_0))) (hK_0_1 : ∀ j : Int, 0 ≤ j → j < 2000 → (-128) ≤ tape_0 j ∧ tape_0 j ≤ 127) (kz_0_8 : 0 ≤ fault_0 ∧ fault_0 ≤ 5) (kz_0_11 : 0 ≤ pos_0 ∧ pos_0 ≤ 2000) (kz_0_12 : 0 ≤ kind_0 ∧ kind_0 ≤ 4) (kz_0_15 : 0 ≤ from_0 ∧ from_0 ≤ 2000) (ex2 : gx = fault_0) : (-1) * fault_0 + (1 * gx + 0) ≤ 0 := by
  first | with_reducible assumption | ((have f7_c0 := f7.1); (have f7_c1 := f7.2); (try and_intros) <;> first | with_reducible assumption | (clear f7_c0 f7_c1 f7 f9 hK_0_1 f2; omega)) | ((have f7_c0 := f7.1); (have f7_c1 := f7.2); (first | have f2_b := f2 (by clear f7_c0 f7_c1 f7 f9 hK_0_1 f2; omega) | skip); (first | have f2_d := f2 (by with_reducible assumption) | skip); (try and_intros) <;> first | with_reducible assumption | (clear f7_c0 f7_c1 f7 f9 hK_0_1 f2; omega)) | ((have f7_c0 := f7.1); (have f7_c1 := f7.2); (first | have f2_b := f2 (by clear f7_c0 f7_c1 f7 f9 hK_0_1 f2; omega) | skip); (first | have f2_d := f2 (by with_reducible assumption) | skip); (try and_intros) <;> first | with_reducible assumption | (clear f7_c0 f7_c1 f7 hK_0_1 f2; omega)) | omega
set_option maxHeartbeats 4000000 in
theorem vc_Mo_need_at_gc_0_3 (x5 : Int) (fault_0 : Int) (gx : Int) (k5 : 0 ≤ x5 ∧ x5 ≤ 0) (g5 : x5 = fault_0) (kz_0_8 : 0 ≤ fault_0 ∧ fault_0 ≤ 5) (ex2 : gx = fault_0) : ZH0 (gx) := by
  exact ⟨by omega, by omega, trivial⟩
def o_Mo_need_at_gc_0 : or_T := (29, 9, [(0, (2, 0, 0, [165])), (1, (0, 125, 125, [])), (2, (0, 0, 2000, [])), (3, (0, 0, 7, [])), (4, (0, 0, 4, [])), (5, (0, 0, 0, [])), (6, (0, 0, 0, [])), (7, (0, 1, 1, [])), (8, (0, 0, 2000, []))], [(8, [6], [0]), (20, [6, 0], [50, 2, 0, 1012, 1008, 4, 6, 1, 2, 1, 0, 0, 1, 2, 7, 1, 3, 2, 1, 12, 0, 3, 1, 3, 2, 1, 8, 0, 0]), (20, [0, 1, 6], [60, 3, 0, 963, 8, 12, 14]), (9, [5, 0], [8]), (20, [0], [50, 3, 0, 12, 11, 15, 2, 21, 4, 7, 1, 3, 2, 0, 12, 0, 1, 0, 3, 2, 0, 11, 4, 3, 2, 0, 15, 0, 8, 3, 7, 1, 3, 2, 0, 12, 0, 0, 0, 7, 4, 3, 2, 0, 15, 0, 1, 2, 0, 11]), (20, [0, 2], [50, 3, 0, 8, 12, 11, 3, 7, 0, 2, 0, 1, 2, 0, 8, 3, 7, 1, 3, 2, 0, 12, 0, 0, 0, 6, 4, 2, 1, 1, 0, 1, 2, 0, 11]), (20, [0, 3, 4], [60, 9, 2, 1022, 10, 11, 12, 13, 14, 15, 8, 9, 5, 1, 2])], [], [(0, 0, 5, [])], [(20, [0, 7, 8], [60, 1, 1, 1026, 10, 1]), (20, [0, 9], [30, 0, 1, 1, 8, -1, 0, 0]), (20, [0, 9], [30, 0, -1, 1, 8, 1, 0, 0]), (20, [9], [61, 0, 1029])], [], [])
theorem oo_Mo_need_at_gc_0 {kA : Nat → ClassId} : or_ok PRD kA GG o_Mo_need_at_gc_0 := by
  refine or_mk fun A ta ws vs hD hth hl => ?_
  intro t0 r0 t1 k1 t2 k2 t3 k3 t4 k4 t5 k5 t6 k6 t7 k7 t8 k8 f1 f2 f3 f5 f7 f9 f10
  replace f1 := shm_192 f1
  replace f2 := shm_730 f2
  replace f3 := shm_731 f3
  replace f5 := shm_293 f5
  replace f7 := shm_1438 f7
  replace f9 := shm_1722 f9
  replace f10 := shm_1723 f10
  have cr_0_1 := fdq_39 hD hth r0
  have g5 : v_iv (n_v vs 5) = w_fi ws (n_v vs 0) 8 := congrArg v_iv f5
  have hK_0_1 := elq_7 hD hth cr_0_1
  have kz_0_8 := fdq_34 hD hth r0
  have kz_0_9 := fdq_44 hD hth r0
  have kz_0_10 := fdq_43 hD hth r0
  have kz_0_11 := fdq_237 hD hth r0
  have kz_0_12 := fdq_187 hD hth r0
  have kz_0_13 := fdq_238 hD hth r0
  have kz_0_14 := fdq_188 hD hth r0
  have kz_0_15 := fdq_239 hD hth r0
  obtain ⟨x, ex, hx⟩ := iv_ex (ta := ta) (lo := 0) (hi := 5) (z := w_fi ws (n_v vs 0) 8) (by omega) (by omega) (by omega) (by omega)
  have ex2 : v_iv (Value.int x) = w_fi ws (n_v vs 0) 8 := ex
  have ex3 : 0 ≤ v_iv (Value.int x) ∧ v_iv (Value.int x) ≤ 5 := tv_rng hx
  have e_0 : n_v (vs ++ [Value.int x]) 0 = n_v vs 0 := n_v_old (by rw [hl]; decide)
  have e_7 : n_v (vs ++ [Value.int x]) 7 = n_v vs 7 := n_v_old (by rw [hl]; decide)
  have e_8 : n_v (vs ++ [Value.int x]) 8 = n_v vs 8 := n_v_old (by rw [hl]; decide)
  have e_9 : n_v (vs ++ [Value.int x]) 9 = Value.int x := n_v_new hl
  have nf0 : fc_1 PRD (20, [0, 7, 8], [60, 1, 1, 1026, 10, 1]) ws (vs ++ [Value.int x]) := by
    refine ⟨nf_inA hl rfl, sgq_1724 ?_⟩
    · show FSX (w_fi ws (n_v (vs ++ [Value.int x]) 0) 10) (w_ei ws (w_ar ws (n_v (vs ++ [Value.int x]) 0) 1)) (v_iv (n_v (vs ++ [Value.int x]) 7)) (v_iv (n_v (vs ++ [Value.int x]) 8))
      simp only [e_0, e_7, e_8]
      exact vc_Mo_need_at_gc_0_0 (v_iv (n_v vs 1)) (v_iv (n_v vs 3)) (v_iv (n_v vs 4)) (v_iv (n_v vs 5)) (v_iv (n_v vs 6)) (v_iv (n_v vs 7)) (v_iv (n_v vs 8)) (w_fi ws (n_v vs 0) 13) (w_fi ws (n_v vs 0) 12) (w_fi ws (n_v vs 0) 8) (w_fi ws (n_v vs 0) 14) (w_fi ws (n_v vs 0) 15) (w_fi ws (n_v vs 0) 11) (w_ei ws (w_ar ws (n_v vs 0) 1)) (w_ei ws (w_ar ws (n_v vs 0) 2)) (w_fi ws (n_v vs 0) 10) (w_fi ws (n_v vs 0) 9) (w_fi ws (n_v vs 0) 5) k1 k3 k4 k5 k6 k7 k8 f1 f3 g5 f10 kz_0_8 kz_0_9 kz_0_10 kz_0_11 kz_0_12 kz_0_13 kz_0_14 kz_0_15
  have nf1 : fc_1 PRD (20, [0, 9], [30, 0, 1, 1, 8, -1, 0, 0]) ws (vs ++ [Value.int x]) := by
    refine ⟨nf_inA hl rfl, sgq_303 ?_⟩
    · show 1 * w_fi ws (n_v (vs ++ [Value.int x]) 0) 8 + ((-1) * v_iv (n_v (vs ++ [Value.int x]) 9) + 0) ≤ 0
      simp only [e_0, e_9]
      exact vc_Mo_need_at_gc_0_1 (v_iv (n_v vs 2)) (v_iv (n_v vs 5)) (v_iv (n_v vs 6)) (w_fi ws (n_v vs 0) 12) (w_fi ws (n_v vs 0) 8) (w_fi ws (n_v vs 0) 15) (w_fi ws (n_v vs 0) 11) (w_ei ws (w_ar ws (n_v vs 0) 1)) (v_iv (Value.int x)) k2 k5 k6 f2 g5 f7 f9 hK_0_1 kz_0_8 kz_0_11 kz_0_12 kz_0_15 ex2
  have nf2 : fc_1 PRD (20, [0, 9], [30, 0, -1, 1, 8, 1, 0, 0]) ws (vs ++ [Value.int x]) := by
    refine ⟨nf_inA hl rfl, sgq_304 ?_⟩
    · show (-1) * w_fi ws (n_v (vs ++ [Value.int x]) 0) 8 + (1 * v_iv (n_v (vs ++ [Value.int x]) 9) + 0) ≤ 0
      simp only [e_0, e_9]
      exact vc_Mo_need_at_gc_0_2 (v_iv (n_v vs 2)) (v_iv (n_v vs 5)) (v_iv (n_v vs 6)) (w_fi ws (n_v vs 0) 12) (w_fi ws (n_v vs 0) 8) (w_fi ws (n_v vs 0) 15) (w_fi ws (n_v vs 0) 11) (w_ei ws (w_ar ws (n_v vs 0) 1)) (v_iv (Value.int x)) k2 k5 k6 f2 g5 f7 f9 hK_0_1 kz_0_8 kz_0_11 kz_0_12 kz_0_15 ex2
  have nf3 : fc_1 PRD (20, [9], [61, 0, 1029]) ws (vs ++ [Value.int x]) := by
    refine ⟨nf_inA hl rfl, sgq_1725 ?_⟩
    · show ZH0 (v_iv (n_v (vs ++ [Value.int x]) 9))
      rw [e_9]
      exact vc_Mo_need_at_gc_0_3 (v_iv (n_v vs 5)) (w_fi ws (n_v vs 0) 8) (v_iv (Value.int x)) k5 g5 kz_0_8 ex2
  exact ⟨(fun _ h => (by cases h)), [Value.int x], ag_one hx, List.forall_mem_cons.mpr ⟨⟨show (20 : Nat) < 100 from by decide, nf0⟩, List.forall_mem_cons.mpr ⟨⟨show (20 : Nat) < 100 from by decide, nf1⟩, List.forall_mem_cons.mpr ⟨⟨show (20 : Nat) < 100 from by decide, nf2⟩, List.forall_mem_cons.mpr ⟨⟨show (20 : Nat) < 100 from by decide, nf3⟩, (fun _ h => (by cases h))⟩⟩⟩⟩, (fun _ h => (by cases h))⟩
set_option maxHeartbeats 4000000 in
theorem vc_Mo_need_at_gc_1_0 (x2 : Int) (x7 : Int) (x8 : Int) (x9 : Int) (tape_0 : Int → Int) (from_0 : Int) (pos_0 : Int) (kind_0 : Int) (fault_0 : Int) (faultPlace_0 : Int) (k2 : 0 ≤ x2 ∧ x2 ≤ 2000) (k7 : 1 ≤ x7 ∧ x7 ≤ 1) (k8 : 0 ≤ x8 ∧ x8 ≤ 2000) (k9 : 0 ≤ x9 ∧ x9 ≤ 5) (f4 : ((kind_0 = 1) → (pos_0 ≤ (from_0 + 8))) ∧ ((kind_0 = 0) ∨ ((from_0 + 1) ≤ pos_0))) (f6 : (-1) * fault_0 + 0 ≤ (-1)) (f7 : ((1 ≤ x9) ∧ (fault_0 = x9)) ∨ ((x9 = 0) ∧ ((fault_0 = x7) ∧ (faultPlace_0 = x8)))) (hK_0_1 : ∀ j : Int, 0 ≤ j → j < 2000 → (-128) ≤ tape_0 j ∧ tape_0 j ≤ 127) (kz_0_8 : 0 ≤ fault_0 ∧ fault_0 ≤ 5) (kz_0_9 : 0 ≤ faultPlace_0 ∧ faultPlace_0 ≤ 2000) (kz_0_11 : 0 ≤ pos_0 ∧ pos_0 ≤ 2000) (kz_0_12 : 0 ≤ kind_0 ∧ kind_0 ≤ 4) (kz_0_15 : 0 ≤ from_0 ∧ from_0 ≤ 2000) : (1 ≤ fault_0) ∨ ((x2 + 1) ≤ pos_0) := by
  first | with_reducible assumption | ((have f4_c0 := f4.1); (have f4_c1 := f4.2); (try and_intros) <;> first | with_reducible assumption | (clear f4_c0 f4_c1 f4 f7 hK_0_1; omega)) | ((have f4_c0 := f4.1); (have f4_c1 := f4.2); (try and_intros) <;> first | with_reducible assumption | (clear f4_c0 f4_c1 f4 hK_0_1; omega)) | omega
set_option maxHeartbeats 4000000 in
theorem vc_Mo_need_at_gc_1_1 (x3 : Int) (x4 : Int) (x7 : Int) (x8 : Int) (x9 : Int) (place_0 : Int) (tape_0 : Int → Int) (limit_0 : Int) (from_0 : Int) (pos_0 : Int) (kind_0 : Int) (fault_0 : Int) (faultPlace_0 : Int) (value_0 : Int) (all_0 : Int → Int) (r_0 : Int) (k3 : 0 ≤ x3 ∧ x3 ≤ 7) (k4 : 0 ≤ x4 ∧ x4 ≤ 4) (k7 : 1 ≤ x7 ∧ x7 ≤ 1) (k8 : 0 ≤ x8 ∧ x8 ≤ 2000) (k9 : 0 ≤ x9 ∧ x9 ≤ 5) (f1 : FSX (limit_0) (tape_0) (x7) (x8)) (f2 : ZH0 (x9)) (f7 : ((1 ≤ x9) ∧ (fault_0 = x9)) ∨ ((x9 = 0) ∧ ((fault_0 = x7) ∧ (faultPlace_0 = x8)))) (kz_0_8 : 0 ≤ fault_0 ∧ fault_0 ≤ 5) (kz_0_9 : 0 ≤ faultPlace_0 ∧ faultPlace_0 ≤ 2000) (kz_0_10 : 0 ≤ limit_0 ∧ limit_0 ≤ 2000) (kz_0_11 : 0 ≤ pos_0 ∧ pos_0 ≤ 2000) (kz_0_12 : 0 ≤ kind_0 ∧ kind_0 ≤ 4) (kz_0_13 : 0 ≤ place_0 ∧ place_0 ≤ 2000) (kz_0_14 : (-49) ≤ value_0 ∧ value_0 ≤ 1048575) (kz_0_15 : 0 ≤ from_0 ∧ from_0 ≤ 2000) : zOS0 (limit_0) (pos_0) (kind_0) (place_0) (value_0) (from_0) (fault_0) (faultPlace_0) (r_0) (tape_0) (all_0) (x3) (x4) := by
  first
    | exact Or.inr (rsq_of ‹zTS0 _ _ _ _ _ _ _ _› ‹TKR _ _ _ _ _ _ _ _›)
    | exact Or.inl (fs_w ‹FSX _ _ _ _› ‹ZH0 _› (by assumption))
    | exact Or.inl (or_l ‹zONs _ _ _ _ _ _ _ _ _ _ _ _ _› (fun q => by have := ndq_0 q; omega))
    | exact Or.inl (or_l ‹zNc _ _ _ _ _ _ _ _ _ _ _ _ _› (fun q => by have := ndq_0 q.2.2; omega))
def o_Mo_need_at_gc_1 : or_T := (32, 10, [(0, (2, 0, 0, [165])), (2, (0, 0, 2000, [])), (3, (0, 0, 7, [])), (4, (0, 0, 4, [])), (7, (0, 1, 1, [])), (8, (0, 0, 2000, [])), (9, (0, 0, 5, []))], [(20, [0, 7, 8], [60, 1, 1, 1026, 10, 1]), (20, [9], [61, 0, 1029]), (20, [0], [50, 3, 0, 12, 11, 15, 2, 21, 4, 7, 1, 3, 2, 0, 12, 0, 1, 0, 3, 2, 0, 11, 4, 3, 2, 0, 15, 0, 8, 3, 7, 1, 3, 2, 0, 12, 0, 0, 0, 7, 4, 3, 2, 0, 15, 0, 1, 2, 0, 11]), (20, [0], [30, -1, -1, 1, 8]), (20, [9, 0, 7, 8], [50, 2, 0, 1008, 1009, 3, 15, 2, 6, 0, 2, 0, 1, 1, 0, 1, 3, 2, 1, 8, 1, 0, 2, 6, 1, 2, 1, 0, 0, 0, 2, 7, 1, 3, 2, 1, 8, 1, 2, 1, 3, 2, 1, 9, 1, 3])], [], [], [(20, [0, 2], [50, 2, 0, 8, 11, 3, 7, 0, 2, 0, 1, 2, 0, 8, 0, 6, 4, 2, 1, 1, 0, 1, 2, 0, 11]), (20, [0, 3, 4], [60, 9, 2, 1007, 10, 11, 12, 13, 14, 15, 8, 9, 5, 1, 2])], [], [])
theorem oo_Mo_need_at_gc_1 {kA : Nat → ClassId} : or_ok PRD kA GG o_Mo_need_at_gc_1 := by
  refine or_mk fun A ta ws vs hD hth hl => ?_
  intro t0 r0 t2 k2 t3 k3 t4 k4 t7 k7 t8 k8 t9 k9 f1 f2 f4 f6 f7
  have cr_0_1 := fdq_39 hD hth r0
  have hK_0_1 := elq_7 hD hth cr_0_1
  have kz_0_8 := fdq_34 hD hth r0
  have kz_0_9 := fdq_44 hD hth r0
  have kz_0_10 := fdq_43 hD hth r0
  have kz_0_11 := fdq_237 hD hth r0
  have kz_0_12 := fdq_187 hD hth r0
  have kz_0_13 := fdq_238 hD hth r0
  have kz_0_14 := fdq_188 hD hth r0
  have kz_0_15 := fdq_239 hD hth r0
  have nf0 : fc_1 PRD (20, [0, 2], [50, 2, 0, 8, 11, 3, 7, 0, 2, 0, 1, 2, 0, 8, 0, 6, 4, 2, 1, 1, 0, 1, 2, 0, 11]) ws (vs) := ⟨nf_in hl rfl, sgq_1726 (vc_Mo_need_at_gc_1_0 (v_iv (n_v vs 2)) (v_iv (n_v vs 7)) (v_iv (n_v vs 8)) (v_iv (n_v vs 9)) (w_ei ws (w_ar ws (n_v vs 0) 1)) (w_fi ws (n_v vs 0) 15) (w_fi ws (n_v vs 0) 11) (w_fi ws (n_v vs 0) 12) (w_fi ws (n_v vs 0) 8) (w_fi ws (n_v vs 0) 9) k2 k7 k8 k9 (shm_1438 f4) (shm_305 f6) (shm_306 f7) hK_0_1 kz_0_8 kz_0_9 kz_0_11 kz_0_12 kz_0_15)⟩
  have nf1 : fc_1 PRD (20, [0, 3, 4], [60, 9, 2, 1007, 10, 11, 12, 13, 14, 15, 8, 9, 5, 1, 2]) ws (vs) := ⟨nf_in hl rfl, sgq_1727 (vc_Mo_need_at_gc_1_1 (v_iv (n_v vs 3)) (v_iv (n_v vs 4)) (v_iv (n_v vs 7)) (v_iv (n_v vs 8)) (v_iv (n_v vs 9)) (w_fi ws (n_v vs 0) 13) (w_ei ws (w_ar ws (n_v vs 0) 1)) (w_fi ws (n_v vs 0) 10) (w_fi ws (n_v vs 0) 15) (w_fi ws (n_v vs 0) 11) (w_fi ws (n_v vs 0) 12) (w_fi ws (n_v vs 0) 8) (w_fi ws (n_v vs 0) 9) (w_fi ws (n_v vs 0) 14) (w_ei ws (w_ar ws (n_v vs 0) 2)) (w_fi ws (n_v vs 0) 5) k3 k4 k7 k8 k9 (shm_1724 f1) (shm_1725 f2) (shm_306 f7) kz_0_8 kz_0_9 kz_0_10 kz_0_11 kz_0_12 kz_0_13 kz_0_14 kz_0_15)⟩
  refine ⟨(fun _ h => (by cases h)), [], trivial, ?_, (fun _ h => (by cases h))⟩
  rw [List.append_nil]
  exact List.forall_mem_cons.mpr ⟨⟨show (20 : Nat) < 100 from by decide, nf0⟩, List.forall_mem_cons.mpr ⟨⟨show (20 : Nat) < 100 from by decide, nf1⟩, (fun _ h => (by cases h))⟩⟩
set_option maxHeartbeats 4000000 in
theorem vc_Mo_need_at_gc_2_0 (x2 : Int) (x6 : Int) (kind_0 : Int) (fault_0 : Int) (from_0 : Int) (pos_0 : Int) (tape_0 : Int → Int) (gx : Int) (k2 : 0 ≤ x2 ∧ x2 ≤ 2000) (k6 : 1 ≤ x6 ∧ x6 ≤ 1) (f1 : (x6 = 1) → ((kind_0 = 3) ∧ (fault_0 = 0))) (f6 : ((kind_0 = 1) → (pos_0 ≤ (from_0 + 8))) ∧ ((kind_0 = 0) ∨ ((from_0 + 1) ≤ pos_0))) (f8 : (1 ≤ fault_0) ∨ ((kind_0 = 0) ∨ ((x2 + 1) ≤ pos_0))) (hK_0_1 : ∀ j : Int, 0 ≤ j → j < 2000 → (-128) ≤ tape_0 j ∧ tape_0 j ≤ 127) (kz_0_8 : 0 ≤ fault_0 ∧ fault_0 ≤ 5) (kz_0_11 : 0 ≤ pos_0 ∧ pos_0 ≤ 2000) (kz_0_12 : 0 ≤ kind_0 ∧ kind_0 ≤ 4) (kz_0_15 : 0 ≤ from_0 ∧ from_0 ≤ 2000) (ex2 : gx = pos_0) : 1 * gx + ((-1) * pos_0 + 0) ≤ 0 := by
  first | with_reducible assumption | ((have f6_c0 := f6.1); (have f6_c1 := f6.2); (try and_intros) <;> first | with_reducible assumption | (clear f6_c0 f6_c1 f6 f8 hK_0_1 f1; omega)) | ((have f6_c0 := f6.1); (have f6_c1 := f6.2); (first | have f1_b := f1 (by clear f6_c0 f6_c1 f6 f8 hK_0_1 f1; omega) | skip); (first | have f1_d := f1 (by with_reducible assumption) | skip); (try and_intros) <;> first | with_reducible assumption | (clear f6_c0 f6_c1 f6 f8 hK_0_1 f1; omega)) | ((have f6_c0 := f6.1); (have f6_c1 := f6.2); (first | have f1_b := f1 (by clear f6_c0 f6_c1 f6 f8 hK_0_1 f1; omega) | skip); (first | have f1_d := f1 (by with_reducible assumption) | skip); (try and_intros) <;> first | with_reducible assumption | (clear f6_c0 f6_c1 f6 hK_0_1 f1; omega)) | omega
set_option maxHeartbeats 4000000 in
theorem vc_Mo_need_at_gc_2_1 (x2 : Int) (x6 : Int) (kind_0 : Int) (fault_0 : Int) (from_0 : Int) (pos_0 : Int) (tape_0 : Int → Int) (gx : Int) (k2 : 0 ≤ x2 ∧ x2 ≤ 2000) (k6 : 1 ≤ x6 ∧ x6 ≤ 1) (f1 : (x6 = 1) → ((kind_0 = 3) ∧ (fault_0 = 0))) (f6 : ((kind_0 = 1) → (pos_0 ≤ (from_0 + 8))) ∧ ((kind_0 = 0) ∨ ((from_0 + 1) ≤ pos_0))) (f8 : (1 ≤ fault_0) ∨ ((kind_0 = 0) ∨ ((x2 + 1) ≤ pos_0))) (hK_0_1 : ∀ j : Int, 0 ≤ j → j < 2000 → (-128) ≤ tape_0 j ∧ tape_0 j ≤ 127) (kz_0_8 : 0 ≤ fault_0 ∧ fault_0 ≤ 5) (kz_0_11 : 0 ≤ pos_0 ∧ pos_0 ≤ 2000) (kz_0_12 : 0 ≤ kind_0 ∧ kind_0 ≤ 4) (kz_0_15 : 0 ≤ from_0 ∧ from_0 ≤ 2000) (ex2 : gx = pos_0) : gx = pos_0 := by
  first | with_reducible assumption | ((have f6_c0 := f6.1); (have f6_c1 := f6.2); (try and_intros) <;> first | with_reducible assumption | (clear f6_c0 f6_c1 f6 f8 hK_0_1 f1; omega)) | ((have f6_c0 := f6.1); (have f6_c1 := f6.2); (first | have f1_b := f1 (by clear f6_c0 f6_c1 f6 f8 hK_0_1 f1; omega) | skip); (first | have f1_d := f1 (by with_reducible assumption) | skip); (try and_intros) <;> first | with_reducible assumption | (clear f6_c0 f6_c1 f6 f8 hK_0_1 f1; omega)) | ((have f6_c0 := f6.1); (have f6_c1 := f6.2); (first | have f1_b := f1 (by clear f6_c0 f6_c1 f6 f8 hK_0_1 f1; omega) | skip); (first | have f1_d := f1 (by with_reducible assumption) | skip); (try and_intros) <;> first | with_reducible assumption | (clear f6_c0 f6_c1 f6 hK_0_1 f1; omega)) | omega
set_option maxHeartbeats 4000000 in
theorem vc_Mo_need_at_gc_2_2 (x3 : Int) (x4 : Int) (x5 : Int) (kind_0 : Int) (fault_0 : Int) (value_0 : Int) (from_0 : Int) (pos_0 : Int) (tape_0 : Int → Int) (all_0 : Int → Int) (limit_0 : Int) (place_0 : Int) (faultPlace_0 : Int) (r_0 : Int) (k3 : 0 ≤ x3 ∧ x3 ≤ 7) (k4 : 0 ≤ x4 ∧ x4 ≤ 4) (k5 : 0 ≤ x5 ∧ x5 ≤ 0) (g4 : x5 = fault_0) (f9 : zNc (limit_0) (pos_0) (kind_0) (place_0) (value_0) (from_0) (fault_0) (faultPlace_0) (r_0) (tape_0) (all_0) (x3) (x4)) (kz_0_8 : 0 ≤ fault_0 ∧ fault_0 ≤ 5) (kz_0_9 : 0 ≤ faultPlace_0 ∧ faultPlace_0 ≤ 2000) (kz_0_10 : 0 ≤ limit_0 ∧ limit_0 ≤ 2000) (kz_0_11 : 0 ≤ pos_0 ∧ pos_0 ≤ 2000) (kz_0_12 : 0 ≤ kind_0 ∧ kind_0 ≤ 4) (kz_0_13 : 0 ≤ place_0 ∧ place_0 ≤ 2000) (kz_0_14 : (-49) ≤ value_0 ∧ value_0 ≤ 1048575) (kz_0_15 : 0 ≤ from_0 ∧ from_0 ≤ 2000) : ZLM (limit_0) (pos_0) := by
  first
    | exact ndq_lim (or_r ‹zONs _ _ _ _ _ _ _ _ _ _ _ _ _› (fs_n (by omega)))
    | exact ndq_lim (or_r ‹zONo _ _ _ _ _ _ _ _ _ _ _ _ _› (fs_n (by omega)))
    | exact ndq_lim (or_r ‹zONew _ _ _ _ _ _ _ _ _ _ _ _ _ _› (fs_n (by omega)))
    | exact ndq_lim (or_r ‹zONes _ _ _ _ _ _ _ _ _ _ _ _ _ _› (fs_n (by omega))).2
    | exact ndq_lim (or_r ‹zNc _ _ _ _ _ _ _ _ _ _ _ _ _› (fs_n (by omega))).2.2
    | exact zlm_r (‹zNbs _ _ _ _ _ _ _ _ _ _ _ _ _ _›).1.2.2
    | exact zlm_r (‹zNbw _ _ _ _ _ _ _ _ _ _ _ _ _ _›).1.2
set_option maxHeartbeats 4000000 in
theorem vc_Mo_need_at_gc_2_3 (x2 : Int) (x5 : Int) (x6 : Int) (kind_0 : Int) (fault_0 : Int) (from_0 : Int) (pos_0 : Int) (tape_0 : Int → Int) (gx : Int) (k2 : 0 ≤ x2 ∧ x2 ≤ 2000) (k5 : 0 ≤ x5 ∧ x5 ≤ 0) (k6 : 1 ≤ x6 ∧ x6 ≤ 1) (f1 : (x6 = 1) → ((kind_0 = 3) ∧ (fault_0 = 0))) (g4 : x5 = fault_0) (f6 : ((kind_0 = 1) → (pos_0 ≤ (from_0 + 8))) ∧ ((kind_0 = 0) ∨ ((from_0 + 1) ≤ pos_0))) (f7 : 1 * x2 + ((-1) * pos_0 + 0) ≤ 0) (f8 : (1 ≤ fault_0) ∨ ((kind_0 = 0) ∨ ((x2 + 1) ≤ pos_0))) (hK_0_1 : ∀ j : Int, 0 ≤ j → j < 2000 → (-128) ≤ tape_0 j ∧ tape_0 j ≤ 127) (kz_0_8 : 0 ≤ fault_0 ∧ fault_0 ≤ 5) (kz_0_11 : 0 ≤ pos_0 ∧ pos_0 ≤ 2000) (kz_0_12 : 0 ≤ kind_0 ∧ kind_0 ≤ 4) (kz_0_15 : 0 ≤ from_0 ∧ from_0 ≤ 2000) (ex2 : gx = pos_0) : 1 * x2 + ((-1) * gx + 0) ≤ (-1) := by
  first | with_reducible assumption | ((have f6_c0 := f6.1); (have f6_c1 := f6.2); (try and_intros) <;> first | with_reducible assumption | (clear f6_c0 f6_c1 f6 f8 hK_0_1 f1; omega)) | ((have f6_c0 := f6.1); (have f6_c1 := f6.2); (first | have f1_b := f1 (by clear f6_c0 f6_c1 f6 f8 hK_0_1 f1; omega) | skip); (first | have f1_d := f1 (by with_reducible assumption) | skip); (try and_intros) <;> first | with_reducible assumption | (clear f6_c0 f6_c1 f6 f8 hK_0_1 f1; omega)) | ((have f6_c0 := f6.1); (have f6_c1 := f6.2); (first | have f1_b := f1 (by clear f6_c0 f6_c1 f6 f8 hK_0_1 f1; omega) | skip); (first | have f1_d := f1 (by with_reducible assumption) | skip); (try and_intros) <;> first | with_reducible assumption | (clear f6_c0 f6_c1 f6 hK_0_1 f1; omega)) | omega
set_option maxHeartbeats 4000000 in
theorem vc_Mo_need_at_gc_2_4 (x1 : Int) (x3 : Int) (x4 : Int) (x5 : Int) (x6 : Int) (kind_0 : Int) (fault_0 : Int) (value_0 : Int) (from_0 : Int) (pos_0 : Int) (tape_0 : Int → Int) (all_0 : Int → Int) (limit_0 : Int) (place_0 : Int) (faultPlace_0 : Int) (r_0 : Int) (gx : Int) (k1 : 125 ≤ x1 ∧ x1 ≤ 125) (k3 : 0 ≤ x3 ∧ x3 ≤ 7) (k4 : 0 ≤ x4 ∧ x4 ≤ 4) (k5 : 0 ≤ x5 ∧ x5 ≤ 0) (k6 : 1 ≤ x6 ∧ x6 ≤ 1) (f0 : x6 ≠ 0) (f2 : SGQ (fault_0) (kind_0) (value_0) (x1) (x6)) (g4 : x5 = fault_0) (f9 : zNc (limit_0) (pos_0) (kind_0) (place_0) (value_0) (from_0) (fault_0) (faultPlace_0) (r_0) (tape_0) (all_0) (x3) (x4)) (kz_0_8 : 0 ≤ fault_0 ∧ fault_0 ≤ 5) (kz_0_9 : 0 ≤ faultPlace_0 ∧ faultPlace_0 ≤ 2000) (kz_0_10 : 0 ≤ limit_0 ∧ limit_0 ≤ 2000) (kz_0_11 : 0 ≤ pos_0 ∧ pos_0 ≤ 2000) (kz_0_12 : 0 ≤ kind_0 ∧ kind_0 ≤ 4) (kz_0_13 : 0 ≤ place_0 ∧ place_0 ≤ 2000) (kz_0_14 : (-49) ≤ value_0 ∧ value_0 ≤ 1048575) (kz_0_15 : 0 ≤ from_0 ∧ from_0 ≤ 2000) (ex2 : gx = pos_0) : zTS0 (limit_0) (fault_0) (r_0) (tape_0) (all_0) (x3) (x4) (gx) := by
  have e : gx = pos_0 := by omega
  rw [e]
  first
    | exact ndq_go (or_r ‹zONs _ _ _ _ _ _ _ _ _ _ _ _ _› (fs_n (by omega))) (sgq_t (C := 59) ‹SGQ _ _ _ _ _› (by omega) (by omega)).2.1 (sgq_t (C := 59) ‹SGQ _ _ _ _ _› (by omega) (by omega)).2.2
    | exact ndq_go (or_r ‹zNc _ _ _ _ _ _ _ _ _ _ _ _ _› (fs_n (by omega))).2.2 (sgq_t (C := 125) ‹SGQ _ _ _ _ _› (by omega) (by omega)).2.1 (sgq_t (C := 125) ‹SGQ _ _ _ _ _› (by omega) (by omega)).2.2
def o_Mo_need_at_gc_2 : or_T := (17, 7, [(0, (2, 0, 0, [165])), (1, (0, 125, 125, [])), (2, (0, 0, 2000, [])), (3, (0, 0, 7, [])), (4, (0, 0, 4, [])), (5, (0, 0, 0, [])), (6, (0, 1, 1, []))], [(8, [6], [1]), (20, [6, 0], [50, 2, 0, 1012, 1008, 4, 6, 1, 2, 1, 0, 0, 1, 2, 7, 1, 3, 2, 1, 12, 0, 3, 1, 3, 2, 1, 8, 0, 0]), (20, [0, 1, 6], [60, 3, 0, 963, 8, 12, 14]), (9, [5, 0], [8]), (20, [0], [50, 3, 0, 12, 11, 15, 2, 21, 4, 7, 1, 3, 2, 0, 12, 0, 1, 0, 3, 2, 0, 11, 4, 3, 2, 0, 15, 0, 8, 3, 7, 1, 3, 2, 0, 12, 0, 0, 0, 7, 4, 3, 2, 0, 15, 0, 1, 2, 0, 11]), (20, [2, 0], [30, 0, 1, 0, 0, -1, 1, 11]), (20, [0, 2], [50, 3, 0, 8, 12, 11, 3, 7, 0, 2, 0, 1, 2, 0, 8, 3, 7, 1, 3, 2, 0, 12, 0, 0, 0, 6, 4, 2, 1, 1, 0, 1, 2, 0, 11]), (20, [0, 3, 4], [60, 9, 2, 1022, 10, 11, 12, 13, 14, 15, 8, 9, 5, 1, 2])], [], [(0, 0, 2000, [])], [(20, [7, 0], [30, 0, 1, 0, 0, -1, 1, 11]), (20, [7, 0], [50, 1, 0, 1011, 1, 2, 1, 0, 2, 1, 11]), (20, [0], [60, 2, 0, 947, 10, 11]), (23, [2, 7], [-1, 1, -1]), (20, [0, 3, 4, 7], [60, 3, 2, 970, 10, 8, 5, 1, 2])], [], [])
theorem oo_Mo_need_at_gc_2 {kA : Nat → ClassId} : or_ok PRD kA GG o_Mo_need_at_gc_2 := by
  refine or_mk fun A ta ws vs hD hth hl => ?_
  intro t0 r0 t1 k1 t2 k2 t3 k3 t4 k4 t5 k5 t6 k6 f0 f1 f2 f4 f6 f7 f8 f9
  replace f0 := shm_142 f0
  replace f1 := shm_730 f1
  replace f2 := shm_731 f2
  replace f4 := shm_293 f4
  replace f6 := shm_1438 f6
  replace f7 := shm_1431 f7
  replace f8 := shm_1722 f8
  replace f9 := shm_1723 f9
  have cr_0_1 := fdq_39 hD hth r0
  have g4 : v_iv (n_v vs 5) = w_fi ws (n_v vs 0) 8 := congrArg v_iv f4
  have hK_0_1 := elq_7 hD hth cr_0_1
  have kz_0_8 := fdq_34 hD hth r0
  have kz_0_9 := fdq_44 hD hth r0
  have kz_0_10 := fdq_43 hD hth r0
  have kz_0_11 := fdq_237 hD hth r0
  have kz_0_12 := fdq_187 hD hth r0
  have kz_0_13 := fdq_238 hD hth r0
  have kz_0_14 := fdq_188 hD hth r0
  have kz_0_15 := fdq_239 hD hth r0
  obtain ⟨x, ex, hx⟩ := iv_ex (ta := ta) (lo := 0) (hi := 2000) (z := w_fi ws (n_v vs 0) 11) (by omega) (by omega) (by omega) (by omega)
  have ex2 : v_iv (Value.int x) = w_fi ws (n_v vs 0) 11 := ex
  have ex3 : 0 ≤ v_iv (Value.int x) ∧ v_iv (Value.int x) ≤ 2000 := tv_rng hx
  have e_0 : n_v (vs ++ [Value.int x]) 0 = n_v vs 0 := n_v_old (by rw [hl]; decide)
  have e_2 : n_v (vs ++ [Value.int x]) 2 = n_v vs 2 := n_v_old (by rw [hl]; decide)
  have e_3 : n_v (vs ++ [Value.int x]) 3 = n_v vs 3 := n_v_old (by rw [hl]; decide)
  have e_4 : n_v (vs ++ [Value.int x]) 4 = n_v vs 4 := n_v_old (by rw [hl]; decide)
  have e_7 : n_v (vs ++ [Value.int x]) 7 = Value.int x := n_v_new hl
  have nf0 : fc_1 PRD (20, [7, 0], [30, 0, 1, 0, 0, -1, 1, 11]) ws (vs ++ [Value.int x]) := by
    refine ⟨nf_inA hl rfl, sgq_1431 ?_⟩
    · show 1 * v_iv (n_v (vs ++ [Value.int x]) 7) + ((-1) * w_fi ws (n_v (vs ++ [Value.int x]) 0) 11 + 0) ≤ 0
      simp only [e_0, e_7]
      exact vc_Mo_need_at_gc_2_0 (v_iv (n_v vs 2)) (v_iv (n_v vs 6)) (w_fi ws (n_v vs 0) 12) (w_fi ws (n_v vs 0) 8) (w_fi ws (n_v vs 0) 15) (w_fi ws (n_v vs 0) 11) (w_ei ws (w_ar ws (n_v vs 0) 1)) (v_iv (Value.int x)) k2 k6 f1 f6 f8 hK_0_1 kz_0_8 kz_0_11 kz_0_12 kz_0_15 ex2
  have nf1 : fc_1 PRD (20, [7, 0], [50, 1, 0, 1011, 1, 2, 1, 0, 2, 1, 11]) ws (vs ++ [Value.int x]) := by
    refine ⟨nf_inA hl rfl, sgq_1432 ?_⟩
    · show v_iv (n_v (vs ++ [Value.int x]) 7) = w_fi ws (n_v (vs ++ [Value.int x]) 0) 11
      simp only [e_0, e_7]
      exact vc_Mo_need_at_gc_2_1 (v_iv (n_v vs 2)) (v_iv (n_v vs 6)) (w_fi ws (n_v vs 0) 12) (w_fi ws (n_v vs 0) 8) (w_fi ws (n_v vs 0) 15) (w_fi ws (n_v vs 0) 11) (w_ei ws (w_ar ws (n_v vs 0) 1)) (v_iv (Value.int x)) k2 k6 f1 f6 f8 hK_0_1 kz_0_8 kz_0_11 kz_0_12 kz_0_15 ex2
  have nf2 : fc_1 PRD (20, [0], [60, 2, 0, 947, 10, 11]) ws (vs ++ [Value.int x]) := by
    refine ⟨nf_inA hl rfl, sgq_1433 ?_⟩
    · show ZLM (w_fi ws (n_v (vs ++ [Value.int x]) 0) 10) (w_fi ws (n_v (vs ++ [Value.int x]) 0) 11)
      rw [e_0]
      exact vc_Mo_need_at_gc_2_2 (v_iv (n_v vs 3)) (v_iv (n_v vs 4)) (v_iv (n_v vs 5)) (w_fi ws (n_v vs 0) 12) (w_fi ws (n_v vs 0) 8) (w_fi ws (n_v vs 0) 14) (w_fi ws (n_v vs 0) 15) (w_fi ws (n_v vs 0) 11) (w_ei ws (w_ar ws (n_v vs 0) 1)) (w_ei ws (w_ar ws (n_v vs 0) 2)) (w_fi ws (n_v vs 0) 10) (w_fi ws (n_v vs 0) 13) (w_fi ws (n_v vs 0) 9) (w_fi ws (n_v vs 0) 5) k3 k4 k5 g4 f9 kz_0_8 kz_0_9 kz_0_10 kz_0_11 kz_0_12 kz_0_13 kz_0_14 kz_0_15
  have nf3 : fc_1 PRD (23, [2, 7], [-1, 1, -1]) ws (vs ++ [Value.int x]) := by
    refine ⟨nf_inA hl rfl, sgq_193 ?_⟩
    · show 1 * v_iv (n_v (vs ++ [Value.int x]) 2) + ((-1) * v_iv (n_v (vs ++ [Value.int x]) 7) + 0) ≤ (-1)
      simp only [e_2, e_7]
      exact vc_Mo_need_at_gc_2_3 (v_iv (n_v vs 2)) (v_iv (n_v vs 5)) (v_iv (n_v vs 6)) (w_fi ws (n_v vs 0) 12) (w_fi ws (n_v vs 0) 8) (w_fi ws (n_v vs 0) 15) (w_fi ws (n_v vs 0) 11) (w_ei ws (w_ar ws (n_v vs 0) 1)) (v_iv (Value.int x)) k2 k5 k6 f1 g4 f6 f7 f8 hK_0_1 kz_0_8 kz_0_11 kz_0_12 kz_0_15 ex2
  have nf4 : fc_1 PRD (20, [0, 3, 4, 7], [60, 3, 2, 970, 10, 8, 5, 1, 2]) ws (vs ++ [Value.int x]) := by
    refine ⟨nf_inA hl rfl, sgq_1728 ?_⟩
    · show zTS0 (w_fi ws (n_v (vs ++ [Value.int x]) 0) 10) (w_fi ws (n_v (vs ++ [Value.int x]) 0) 8) (w_fi ws (n_v (vs ++ [Value.int x]) 0) 5) (w_ei ws (w_ar ws (n_v (vs ++ [Value.int x]) 0) 1)) (w_ei ws (w_ar ws (n_v (vs ++ [Value.int x]) 0) 2)) (v_iv (n_v (vs ++ [Value.int x]) 3)) (v_iv (n_v (vs ++ [Value.int x]) 4)) (v_iv (n_v (vs ++ [Value.int x]) 7))
      simp only [e_0, e_3, e_4, e_7]
      exact vc_Mo_need_at_gc_2_4 (v_iv (n_v vs 1)) (v_iv (n_v vs 3)) (v_iv (n_v vs 4)) (v_iv (n_v vs 5)) (v_iv (n_v vs 6)) (w_fi ws (n_v vs 0) 12) (w_fi ws (n_v vs 0) 8) (w_fi ws (n_v vs 0) 14) (w_fi ws (n_v vs 0) 15) (w_fi ws (n_v vs 0) 11) (w_ei ws (w_ar ws (n_v vs 0) 1)) (w_ei ws (w_ar ws (n_v vs 0) 2)) (w_fi ws (n_v vs 0) 10) (w_fi ws (n_v vs 0) 13) (w_fi ws (n_v vs 0) 9) (w_fi ws (n_v vs 0) 5) (v_iv (Value.int x)) k1 k3 k4 k5 k6 f0 f2 g4 f9 kz_0_8 kz_0_9 kz_0_10 kz_0_11 kz_0_12 kz_0_13 kz_0_14 kz_0_15 ex2
  exact ⟨(fun _ h => (by cases h)), [Value.int x], ag_one hx, List.forall_mem_cons.mpr ⟨⟨show (20 : Nat) < 100 from by decide, nf0⟩, List.forall_mem_cons.mpr ⟨⟨show (20 : Nat) < 100 from by decide, nf1⟩, List.forall_mem_cons.mpr ⟨⟨show (20 : Nat) < 100 from by decide, nf2⟩, List.forall_mem_cons.mpr ⟨⟨show (23 : Nat) < 100 from by decide, nf3⟩, List.forall_mem_cons.mpr ⟨⟨show (20 : Nat) < 100 from by decide, nf4⟩, (fun _ h => (by cases h))⟩⟩⟩⟩⟩, (fun _ h => (by cases h))⟩
set_option maxHeartbeats 4000000 in
theorem vc_Mo_need_at_gc_3_0 (x2 : Int) (x7 : Int) (tape_0 : Int → Int) (from_0 : Int) (pos_0 : Int) (kind_0 : Int) (k2 : 0 ≤ x2 ∧ x2 ≤ 2000) (k7 : 0 ≤ x7 ∧ x7 ≤ 2000) (f1 : 1 * x2 + ((-1) * x7 + 0) ≤ (-1)) (f3 : 1 * from_0 + ((-1) * pos_0 + 0) ≤ 0) (f4 : ((kind_0 = 1) → (pos_0 ≤ (from_0 + 8))) ∧ ((kind_0 = 0) ∨ ((from_0 + 1) ≤ pos_0))) (f5 : 1 * x7 + ((-1) * from_0 + 0) ≤ 0) (hK_0_1 : ∀ j : Int, 0 ≤ j → j < 2000 → (-128) ≤ tape_0 j ∧ tape_0 j ≤ 127) (kz_0_11 : 0 ≤ pos_0 ∧ pos_0 ≤ 2000) (kz_0_12 : 0 ≤ kind_0 ∧ kind_0 ≤ 4) (kz_0_15 : 0 ≤ from_0 ∧ from_0 ≤ 2000) : 1 * x2 + ((-1) * pos_0 + 0) ≤ 0 := by
  first | with_reducible assumption | ((have f4_c0 := f4.1); (have f4_c1 := f4.2); (try and_intros) <;> first | with_reducible assumption | (clear f4_c0 f4_c1 f4 hK_0_1; omega)) | omega
set_option maxHeartbeats 4000000 in
theorem vc_Mo_need_at_gc_3_1 (x2 : Int) (x7 : Int) (fault_0 : Int) (tape_0 : Int → Int) (from_0 : Int) (pos_0 : Int) (kind_0 : Int) (k2 : 0 ≤ x2 ∧ x2 ≤ 2000) (k7 : 0 ≤ x7 ∧ x7 ≤ 2000) (f1 : 1 * x2 + ((-1) * x7 + 0) ≤ (-1)) (f3 : 1 * from_0 + ((-1) * pos_0 + 0) ≤ 0) (f4 : ((kind_0 = 1) → (pos_0 ≤ (from_0 + 8))) ∧ ((kind_0 = 0) ∨ ((from_0 + 1) ≤ pos_0))) (f5 : 1 * x7 + ((-1) * from_0 + 0) ≤ 0) (hK_0_1 : ∀ j : Int, 0 ≤ j → j < 2000 → (-128) ≤ tape_0 j ∧ tape_0 j ≤ 127) (kz_0_8 : 0 ≤ fault_0 ∧ fault_0 ≤ 5) (kz_0_11 : 0 ≤ pos_0 ∧ pos_0 ≤ 2000) (kz_0_12 : 0 ≤ kind_0 ∧ kind_0 ≤ 4) (kz_0_15 : 0 ≤ from_0 ∧ from_0 ≤ 2000) : (1 ≤ fault_0) ∨ ((x2 + 1) ≤ pos_0) := by
  first | with_reducible assumption | ((have f4_c0 := f4.1); (have f4_c1 := f4.2); (try and_intros) <;> first | with_reducible assumption | (clear f4_c0 f4_c1 f4 hK_0_1; omega)) | omega
set_option maxHeartbeats 4000000 in
theorem vc_Mo_need_at_gc_3_2 (x3 : Int) (x4 : Int) (x7 : Int) (fault_0 : Int) (tape_0 : Int → Int) (all_0 : Int → Int) (limit_0 : Int) (r_0 : Int) (from_0 : Int) (pos_0 : Int) (kind_0 : Int) (place_0 : Int) (value_0 : Int) (faultPlace_0 : Int) (k3 : 0 ≤ x3 ∧ x3 ≤ 7) (k4 : 0 ≤ x4 ∧ x4 ≤ 4) (k7 : 0 ≤ x7 ∧ x7 ≤ 2000) (f2 : zTS0 (limit_0) (fault_0) (r_0) (tape_0) (all_0) (x3) (x4) (x7)) (f6 : TKR (limit_0) (pos_0) (kind_0) (place_0) (value_0) (from_0) (tape_0) (x7)) (kz_0_8 : 0 ≤ fault_0 ∧ fault_0 ≤ 5) (kz_0_9 : 0 ≤ faultPlace_0 ∧ faultPlace_0 ≤ 2000) (kz_0_10 : 0 ≤ limit_0 ∧ limit_0 ≤ 2000) (kz_0_11 : 0 ≤ pos_0 ∧ pos_0 ≤ 2000) (kz_0_12 : 0 ≤ kind_0 ∧ kind_0 ≤ 4) (kz_0_13 : 0 ≤ place_0 ∧ place_0 ≤ 2000) (kz_0_14 : (-49) ≤ value_0 ∧ value_0 ≤ 1048575) (kz_0_15 : 0 ≤ from_0 ∧ from_0 ≤ 2000) : zOS0 (limit_0) (pos_0) (kind_0) (place_0) (value_0) (from_0) (fault_0) (faultPlace_0) (r_0) (tape_0) (all_0) (x3) (x4) := by
  first
    | exact Or.inr (rsq_of ‹zTS0 _ _ _ _ _ _ _ _› ‹TKR _ _ _ _ _ _ _ _›)
    | exact Or.inl (fs_w ‹FSX _ _ _ _› ‹ZH0 _› (by assumption))
    | exact Or.inl (or_l ‹zONs _ _ _ _ _ _ _ _ _ _ _ _ _› (fun q => by have := ndq_0 q; omega))
    | exact Or.inl (or_l ‹zNc _ _ _ _ _ _ _ _ _ _ _ _ _› (fun q => by have := ndq_0 q.2.2; omega))
def o_Mo_need_at_gc_3 : or_T := (32, 8, [(0, (2, 0, 0, [165])), (2, (0, 0, 2000, [])), (3, (0, 0, 7, [])), (4, (0, 0, 4, [])), (7, (0, 0, 2000, []))], [(23, [2, 7], [-1, 1, -1]), (20, [0, 3, 4, 7], [60, 3, 2, 970, 10, 8, 5, 1, 2]), (20, [0, 0], [30, 0, 1, 1, 15, -1, 1, 11]), (20, [0], [50, 3, 0, 12, 11, 15, 2, 21, 4, 7, 1, 3, 2, 0, 12, 0, 1, 0, 3, 2, 0, 11, 4, 3, 2, 0, 15, 0, 8, 3, 7, 1, 3, 2, 0, 12, 0, 0, 0, 7, 4, 3, 2, 0, 15, 0, 1, 2, 0, 11]), (20, [7, 0], [30, 0, 1, 0, 0, -1, 1, 15]), (20, [0, 7], [60, 6, 1, 948, 10, 11, 12, 13, 14, 15, 1])], [], [], [(20, [2, 0], [30, 0, 1, 0, 0, -1, 1, 11]), (20, [0, 2], [50, 2, 0, 8, 11, 3, 7, 0, 2, 0, 1, 2, 0, 8, 0, 6, 4, 2, 1, 1, 0, 1, 2, 0, 11]), (20, [0, 3, 4], [60, 9, 2, 1007, 10, 11, 12, 13, 14, 15, 8, 9, 5, 1, 2])], [], [])
theorem oo_Mo_need_at_gc_3 {kA : Nat → ClassId} : or_ok PRD kA GG o_Mo_need_at_gc_3 := by
  refine or_mk fun A ta ws vs hD hth hl => ?_
  intro t0 r0 t2 k2 t3 k3 t4 k4 t7 k7 f1 f2 f3 f4 f5 f6
  have cr_0_1 := fdq_39 hD hth r0
  have hK_0_1 := elq_7 hD hth cr_0_1
  have kz_0_8 := fdq_34 hD hth r0
  have kz_0_9 := fdq_44 hD hth r0
  have kz_0_10 := fdq_43 hD hth r0
  have kz_0_11 := fdq_237 hD hth r0
  have kz_0_12 := fdq_187 hD hth r0
  have kz_0_13 := fdq_238 hD hth r0
  have kz_0_14 := fdq_188 hD hth r0
  have kz_0_15 := fdq_239 hD hth r0
  have nf0 : fc_1 PRD (20, [2, 0], [30, 0, 1, 0, 0, -1, 1, 11]) ws (vs) := ⟨nf_in hl rfl, sgq_1431 (vc_Mo_need_at_gc_3_0 (v_iv (n_v vs 2)) (v_iv (n_v vs 7)) (w_ei ws (w_ar ws (n_v vs 0) 1)) (w_fi ws (n_v vs 0) 15) (w_fi ws (n_v vs 0) 11) (w_fi ws (n_v vs 0) 12) k2 k7 (shm_193 f1) (shm_1437 f3) (shm_1438 f4) (shm_1436 f5) hK_0_1 kz_0_11 kz_0_12 kz_0_15)⟩
  have nf1 : fc_1 PRD (20, [0, 2], [50, 2, 0, 8, 11, 3, 7, 0, 2, 0, 1, 2, 0, 8, 0, 6, 4, 2, 1, 1, 0, 1, 2, 0, 11]) ws (vs) := ⟨nf_in hl rfl, sgq_1726 (vc_Mo_need_at_gc_3_1 (v_iv (n_v vs 2)) (v_iv (n_v vs 7)) (w_fi ws (n_v vs 0) 8) (w_ei ws (w_ar ws (n_v vs 0) 1)) (w_fi ws (n_v vs 0) 15) (w_fi ws (n_v vs 0) 11) (w_fi ws (n_v vs 0) 12) k2 k7 (shm_193 f1) (shm_1437 f3) (shm_1438 f4) (shm_1436 f5) hK_0_1 kz_0_8 kz_0_11 kz_0_12 kz_0_15)⟩
  have nf2 : fc_1 PRD (20, [0, 3, 4], [60, 9, 2, 1007, 10, 11, 12, 13, 14, 15, 8, 9, 5, 1, 2]) ws (vs) := ⟨nf_in hl rfl, sgq_1727 (vc_Mo_need_at_gc_3_2 (v_iv (n_v vs 3)) (v_iv (n_v vs 4)) (v_iv (n_v vs 7)) (w_fi ws (n_v vs 0) 8) (w_ei ws (w_ar ws (n_v vs 0) 1)) (w_ei ws (w_ar ws (n_v vs 0) 2)) (w_fi ws (n_v vs 0) 10) (w_fi ws (n_v vs 0) 5) (w_fi ws (n_v vs 0) 15) (w_fi ws (n_v vs 0) 11) (w_fi ws (n_v vs 0) 12) (w_fi ws (n_v vs 0) 13) (w_fi ws (n_v vs 0) 14) (w_fi ws (n_v vs 0) 9) k3 k4 k7 (shm_1728 f2) (shm_1439 f6) kz_0_8 kz_0_9 kz_0_10 kz_0_11 kz_0_12 kz_0_13 kz_0_14 kz_0_15)⟩
  refine ⟨(fun _ h => (by cases h)), [], trivial, ?_, (fun _ h => (by cases h))⟩
  rw [List.append_nil]
  exact List.forall_mem_cons.mpr ⟨⟨show (20 : Nat) < 100 from by decide, nf0⟩, List.forall_mem_cons.mpr ⟨⟨show (20 : Nat) < 100 from by decide, nf1⟩, List.forall_mem_cons.mpr ⟨⟨show (20 : Nat) < 100 from by decide, nf2⟩, (fun _ h => (by cases h))⟩⟩⟩
set_option maxHeartbeats 4000000 in
theorem vc_Mo_need_at_gc_4_0 (x2 : Int) (x5 : Int) (fault_0 : Int) (from_0 : Int) (pos_0 : Int) (kind_0 : Int) (tape_0 : Int → Int) (k2 : 0 ≤ x2 ∧ x2 ≤ 2000) (k5 : 1 ≤ x5 ∧ x5 ≤ 5) (g1 : x5 = fault_0) (f3 : ((kind_0 = 1) → (pos_0 ≤ (from_0 + 8))) ∧ ((kind_0 = 0) ∨ ((from_0 + 1) ≤ pos_0))) (f5 : (1 ≤ fault_0) ∨ ((kind_0 = 0) ∨ ((x2 + 1) ≤ pos_0))) (hK_0_1 : ∀ j : Int, 0 ≤ j → j < 2000 → (-128) ≤ tape_0 j ∧ tape_0 j ≤ 127) (kz_0_8 : 0 ≤ fault_0 ∧ fault_0 ≤ 5) (kz_0_11 : 0 ≤ pos_0 ∧ pos_0 ≤ 2000) (kz_0_12 : 0 ≤ kind_0 ∧ kind_0 ≤ 4) (kz_0_15 : 0 ≤ from_0 ∧ from_0 ≤ 2000) : (1 ≤ fault_0) ∨ ((x2 + 1) ≤ pos_0) := by
  first | with_reducible assumption | ((have f3_c0 := f3.1); (have f3_c1 := f3.2); (try and_intros) <;> first | with_reducible assumption | (clear f3_c0 f3_c1 f3 f5 hK_0_1; omega)) | ((have f3_c0 := f3.1); (have f3_c1 := f3.2); (try and_intros) <;> first | with_reducible assumption | (clear f3_c0 f3_c1 f3 hK_0_1; omega)) | omega
set_option maxHeartbeats 4000000 in
theorem vc_Mo_need_at_gc_4_1 (x3 : Int) (x4 : Int) (x5 : Int) (fault_0 : Int) (from_0 : Int) (pos_0 : Int) (kind_0 : Int) (tape_0 : Int → Int) (all_0 : Int → Int) (limit_0 : Int) (place_0 : Int) (value_0 : Int) (faultPlace_0 : Int) (r_0 : Int) (k3 : 0 ≤ x3 ∧ x3 ≤ 7) (k4 : 0 ≤ x4 ∧ x4 ≤ 4) (k5 : 1 ≤ x5 ∧ x5 ≤ 5) (g1 : x5 = fault_0) (f6 : zNc (limit_0) (pos_0) (kind_0) (place_0) (value_0) (from_0) (fault_0) (faultPlace_0) (r_0) (tape_0) (all_0) (x3) (x4)) (kz_0_8 : 0 ≤ fault_0 ∧ fault_0 ≤ 5) (kz_0_9 : 0 ≤ faultPlace_0 ∧ faultPlace_0 ≤ 2000) (kz_0_10 : 0 ≤ limit_0 ∧ limit_0 ≤ 2000) (kz_0_11 : 0 ≤ pos_0 ∧ pos_0 ≤ 2000) (kz_0_12 : 0 ≤ kind_0 ∧ kind_0 ≤ 4) (kz_0_13 : 0 ≤ place_0 ∧ place_0 ≤ 2000) (kz_0_14 : (-49) ≤ value_0 ∧ value_0 ≤ 1048575) (kz_0_15 : 0 ≤ from_0 ∧ from_0 ≤ 2000) : zOS0 (limit_0) (pos_0) (kind_0) (place_0) (value_0) (from_0) (fault_0) (faultPlace_0) (r_0) (tape_0) (all_0) (x3) (x4) := by
  first
    | exact Or.inr (rsq_of ‹zTS0 _ _ _ _ _ _ _ _› ‹TKR _ _ _ _ _ _ _ _›)
    | exact Or.inl (fs_w ‹FSX _ _ _ _› ‹ZH0 _› (by assumption))
    | exact Or.inl (or_l ‹zONs _ _ _ _ _ _ _ _ _ _ _ _ _› (fun q => by have := ndq_0 q; omega))
    | exact Or.inl (or_l ‹zNc _ _ _ _ _ _ _ _ _ _ _ _ _› (fun q => by have := ndq_0 q.2.2; omega))
def o_Mo_need_at_gc_4 : or_T := (7, 6, [(0, (2, 0, 0, [165])), (2, (0, 0, 2000, [])), (3, (0, 0, 7, [])), (4, (0, 0, 4, [])), (5, (0, 1, 5, []))], [(9, [5, 0], [8]), (20, [0], [50, 3, 0, 12, 11, 15, 2, 21, 4, 7, 1, 3, 2, 0, 12, 0, 1, 0, 3, 2, 0, 11, 4, 3, 2, 0, 15, 0, 8, 3, 7, 1, 3, 2, 0, 12, 0, 0, 0, 7, 4, 3, 2, 0, 15, 0, 1, 2, 0, 11]), (20, [0, 2], [50, 3, 0, 8, 12, 11, 3, 7, 0, 2, 0, 1, 2, 0, 8, 3, 7, 1, 3, 2, 0, 12, 0, 0, 0, 6, 4, 2, 1, 1, 0, 1, 2, 0, 11]), (20, [0, 3, 4], [60, 9, 2, 1022, 10, 11, 12, 13, 14, 15, 8, 9, 5, 1, 2])], [], [], [(20, [0, 2], [50, 2, 0, 8, 11, 3, 7, 0, 2, 0, 1, 2, 0, 8, 0, 6, 4, 2, 1, 1, 0, 1, 2, 0, 11]), (20, [0, 3, 4], [60, 9, 2, 1007, 10, 11, 12, 13, 14, 15, 8, 9, 5, 1, 2])], [], [])
theorem oo_Mo_need_at_gc_4 {kA : Nat → ClassId} : or_ok PRD kA GG o_Mo_need_at_gc_4 := by
  refine or_mk fun A ta ws vs hD hth hl => ?_
  intro t0 r0 t2 k2 t3 k3 t4 k4 t5 k5 f1 f3 f5 f6
  replace f1 := shm_293 f1
  have cr_0_1 := fdq_39 hD hth r0
  have g1 : v_iv (n_v vs 5) = w_fi ws (n_v vs 0) 8 := congrArg v_iv f1
  have hK_0_1 := elq_7 hD hth cr_0_1
  have kz_0_8 := fdq_34 hD hth r0
  have kz_0_9 := fdq_44 hD hth r0
  have kz_0_10 := fdq_43 hD hth r0
  have kz_0_11 := fdq_237 hD hth r0
  have kz_0_12 := fdq_187 hD hth r0
  have kz_0_13 := fdq_238 hD hth r0
  have kz_0_14 := fdq_188 hD hth r0
  have kz_0_15 := fdq_239 hD hth r0
  have nf0 : fc_1 PRD (20, [0, 2], [50, 2, 0, 8, 11, 3, 7, 0, 2, 0, 1, 2, 0, 8, 0, 6, 4, 2, 1, 1, 0, 1, 2, 0, 11]) ws (vs) := ⟨nf_in hl rfl, sgq_1726 (vc_Mo_need_at_gc_4_0 (v_iv (n_v vs 2)) (v_iv (n_v vs 5)) (w_fi ws (n_v vs 0) 8) (w_fi ws (n_v vs 0) 15) (w_fi ws (n_v vs 0) 11) (w_fi ws (n_v vs 0) 12) (w_ei ws (w_ar ws (n_v vs 0) 1)) k2 k5 g1 (shm_1438 f3) (shm_1722 f5) hK_0_1 kz_0_8 kz_0_11 kz_0_12 kz_0_15)⟩
  have nf1 : fc_1 PRD (20, [0, 3, 4], [60, 9, 2, 1007, 10, 11, 12, 13, 14, 15, 8, 9, 5, 1, 2]) ws (vs) := ⟨nf_in hl rfl, sgq_1727 (vc_Mo_need_at_gc_4_1 (v_iv (n_v vs 3)) (v_iv (n_v vs 4)) (v_iv (n_v vs 5)) (w_fi ws (n_v vs 0) 8) (w_fi ws (n_v vs 0) 15) (w_fi ws (n_v vs 0) 11) (w_fi ws (n_v vs 0) 12) (w_ei ws (w_ar ws (n_v vs 0) 1)) (w_ei ws (w_ar ws (n_v vs 0) 2)) (w_fi ws (n_v vs 0) 10) (w_fi ws (n_v vs 0) 13) (w_fi ws (n_v vs 0) 14) (w_fi ws (n_v vs 0) 9) (w_fi ws (n_v vs 0) 5) k3 k4 k5 g1 (shm_1723 f6) kz_0_8 kz_0_9 kz_0_10 kz_0_11 kz_0_12 kz_0_13 kz_0_14 kz_0_15)⟩
  refine ⟨(fun _ h => (by cases h)), [], trivial, ?_, (fun _ h => (by cases h))⟩
  rw [List.append_nil]
  exact List.forall_mem_cons.mpr ⟨⟨show (20 : Nat) < 100 from by decide, nf0⟩, List.forall_mem_cons.mpr ⟨⟨show (20 : Nat) < 100 from by decide, nf1⟩, (fun _ h => (by cases h))⟩⟩
def n_Mo_need_at_gc_an : List an_T := []
def t_Mo_need_at_gc_ct : ct_L := [(1, 457, e_Mo_sign), (1, 460, e_Mo_next), (1, 463, e_Mo_wrong)]
set_option maxRecDepth 100000 in
theorem c_Mo_need_at_gc {l : Launch} {D : va_G} {kA : Nat → ClassId} (h_Mo_next : ct_ok PRD l D kA GG y_Mo_next z_Mo_next e_Mo_next) (h_Mo_sign : ct_ok PRD l D kA GG y_Mo_sign z_Mo_sign e_Mo_sign) (h_Mo_wrong : ct_ok PRD l D kA GG y_Mo_wrong z_Mo_wrong e_Mo_wrong) : ct_ok PRD l D kA GG y_Mo_need_at_gc z_Mo_need_at_gc e_Mo_need_at_gc := chk_all_ok (FT := [(413, 13, 8), (428, 13, 13)]) (PT := []) (CT := t_Mo_need_at_gc_ct) (KT := []) (NT := []) (AN := n_Mo_need_at_gc_an) (OT := [o_Mo_need_at_gc_0, o_Mo_need_at_gc_1, o_Mo_need_at_gc_2, o_Mo_need_at_gc_3, o_Mo_need_at_gc_4]) 0 200 (List.forall_mem_cons.mpr ⟨oo_Mo_need_at_gc_0, List.forall_mem_cons.mpr ⟨oo_Mo_need_at_gc_1, List.forall_mem_cons.mpr ⟨oo_Mo_need_at_gc_2, List.forall_mem_cons.mpr ⟨oo_Mo_need_at_gc_3, List.forall_mem_cons.mpr ⟨oo_Mo_need_at_gc_4, List.forall_mem_nil _⟩⟩⟩⟩⟩) (by decide +kernel) ⟨List.forall_mem_cons.mpr ⟨gf_Mo_413, List.forall_mem_cons.mpr ⟨gf_Mo_428, List.forall_mem_nil _⟩⟩, List.forall_mem_nil _, List.forall_mem_cons.mpr ⟨cl_virtual (y := y_Mo_sign) (ci := 13) rfl rfl ⟨_, _, rfl⟩ (by decide +kernel) h_Mo_sign wm_3058 wm_9 wm_3055 wm_3057 wv_13_11 ⟨by decide, by decide, by decide +kernel⟩ (by decide), List.forall_mem_cons.mpr ⟨cl_virtual (y := y_Mo_next) (ci := 13) rfl rfl ⟨_, _, rfl⟩ (by decide +kernel) h_Mo_next wm_2982 wm_9 wm_2979 wm_2981 wv_12_11 ⟨by decide, by decide, by decide +kernel⟩ (by decide), List.forall_mem_cons.mpr ⟨cl_virtual (y := y_Mo_wrong) (ci := 13) rfl rfl ⟨_, _, rfl⟩ (by decide +kernel) h_Mo_wrong wm_3017 wm_9 wm_3014 wm_3016 wv_13_1 ⟨by decide, by decide, by decide +kernel⟩ (by decide), List.forall_mem_nil _⟩⟩⟩, List.forall_mem_nil _, List.forall_mem_nil _, GG_pl⟩ (by decide +kernel)

set_option maxHeartbeats 4000000 in
theorem vc_Mo_need_at_go_0_0 (x1 : Int) (x3 : Int) (x4 : Int) (x5 : Int) (x6 : Int) (x7 : Int) (x8 : Int) (place_0 : Int) (kind_0 : Int) (fault_0 : Int) (value_0 : Int) (from_0 : Int) (pos_0 : Int) (tape_0 : Int → Int) (all_0 : Int → Int) (limit_0 : Int) (faultPlace_0 : Int) (r_0 : Int) (k1 : 123 ≤ x1 ∧ x1 ≤ 123) (k3 : 0 ≤ x3 ∧ x3 ≤ 7) (k4 : 0 ≤ x4 ∧ x4 ≤ 4) (k5 : 0 ≤ x5 ∧ x5 ≤ 0) (k6 : 0 ≤ x6 ∧ x6 ≤ 0) (k7 : 1 ≤ x7 ∧ x7 ≤ 1) (k8 : 0 ≤ x8 ∧ x8 ≤ 2000) (g0 : x8 = place_0) (f1 : x6 = 0) (f3 : SGQ (fault_0) (kind_0) (value_0) (x1) (x6)) (g5 : x5 = fault_0) (f10 : zONo (limit_0) (pos_0) (kind_0) (place_0) (value_0) (from_0) (fault_0) (faultPlace_0) (r_0) (tape_0) (all_0) (x3) (x4)) (kz_0_8 : 0 ≤ fault_0 ∧ fault_0 ≤ 5) (kz_0_9 : 0 ≤ faultPlace_0 ∧ faultPlace_0 ≤ 2000) (kz_0_10 : 0 ≤ limit_0 ∧ limit_0 ≤ 2000) (kz_0_11 : 0 ≤ pos_0 ∧ pos_0 ≤ 2000) (kz_0_12 : 0 ≤ kind_0 ∧ kind_0 ≤ 4) (kz_0_13 : 0 ≤ place_0 ∧ place_0 ≤ 2000) (kz_0_14 : (-49) ≤ value_0 ∧ value_0 ≤ 1048575) (kz_0_15 : 0 ≤ from_0 ∧ from_0 ≤ 2000) : FSX (limit_0) (tape_0) (x7) (x8) := by
  first
    | exact fsx_cg (ndq_flt (or_r ‹zONs _ _ _ _ _ _ _ _ _ _ _ _ _› (fs_n (by omega))) (sgq_f ‹SGQ _ _ _ _ _› (by omega) (by omega) (by omega))) (by omega) (by omega)
    | exact fsx_cg (ndq_flt (or_r ‹zONo _ _ _ _ _ _ _ _ _ _ _ _ _› (fs_n (by omega))) (sgq_f ‹SGQ _ _ _ _ _› (by omega) (by omega) (by omega))) (by omega) (by omega)
    | exact fsx_cg (ndq_flt (or_r ‹zONew _ _ _ _ _ _ _ _ _ _ _ _ _ _› (fs_n (by omega))) (sgq_f ‹SGQ _ _ _ _ _› (by omega) (by omega) (by omega))) (by omega) (by omega)
    | exact fsx_cg (ndq_flt (or_r ‹zONes _ _ _ _ _ _ _ _ _ _ _ _ _ _› (fs_n (by omega))).2 (sgq_f ‹SGQ _ _ _ _ _› (by omega) (by omega) (by omega))) (by omega) (by omega)
    | (exfalso; have h := or_r ‹zNc _ _ _ _ _ _ _ _ _ _ _ _ _› (fs_n (by omega)); exact sgq_f (C := 125) ‹SGQ _ _ _ _ _› (by omega) (by omega) (by omega) ⟨h.1, h.2.1⟩)
    | (exfalso; exact sgq_f (C := 93) ‹SGQ _ _ _ _ _› (by omega) (by omega) (by omega) ⟨(‹zNbs _ _ _ _ _ _ _ _ _ _ _ _ _ _›).2.1, (‹zNbs _ _ _ _ _ _ _ _ _ _ _ _ _ _›).2.2⟩)
    | (exfalso; exact sgq_f (C := 93) ‹SGQ _ _ _ _ _› (by omega) (by omega) (by omega) ⟨(‹zNbw _ _ _ _ _ _ _ _ _ _ _ _ _ _›).2.1, (‹zNbw _ _ _ _ _ _ _ _ _ _ _ _ _ _›).2.2⟩)
set_option maxHeartbeats 4000000 in
theorem vc_Mo_need_at_go_0_1 (x2 : Int) (x5 : Int) (x6 : Int) (kind_0 : Int) (fault_0 : Int) (from_0 : Int) (pos_0 : Int) (tape_0 : Int → Int) (gx : Int) (k2 : 0 ≤ x2 ∧ x2 ≤ 2000) (k5 : 0 ≤ x5 ∧ x5 ≤ 0) (k6 : 0 ≤ x6 ∧ x6 ≤ 0) (f2 : (x6 = 1) → ((kind_0 = 3) ∧ (fault_0 = 0))) (g5 : x5 = fault_0) (f7 : ((kind_0 = 1) → (pos_0 ≤ (from_0 + 8))) ∧ ((kind_0 = 0) ∨ ((from_0 + 1) ≤ pos_0))) (f9 : (1 ≤ fault_0) ∨ ((kind_0 = 0) ∨ ((x2 + 1) ≤ pos_0))) (hK_0_1 : ∀ j : Int, 0 ≤ j → j < 2000 → (-128) ≤ tape_0 j ∧ tape_0 j ≤ 127) (kz_0_8 : 0 ≤ fault_0 ∧ fault_0 ≤ 5) (kz_0_11 : 0 ≤ pos_0 ∧ pos_0 ≤ 2000) (kz_0_12 : 0 ≤ kind_0 ∧ kind_0 ≤ 4) (kz_0_15 : 0 ≤ from_0 ∧ from_0 ≤ 2000) (ex2 : gx = fault_0) : 1 * fault_0 + ((-1) * gx + 0) ≤ 0 := by
  first | with_reducible assumption | ((have f7_c0 := f7.1); (have f7_c1 := f7.2); (try and_intros) <;> first | with_reducible assumption | (clear f7_c0 f7_c1 f7 f9 hK_0_1 f2; omega)) | ((have f7_c0 := f7.1); (have f7_c1 := f7.2); (first | have f2_b := f2 (by clear f7_c0 f7_c1 f7 f9 hK_0_1 f2; omega) | skip); (first | have f2_d := f2 (by with_reducible assumption) | skip); (try and_intros) <;> first | with_reducible assumption | (clear f7_c0 f7_c1 f7 f9 hK_0_1 f2; omega)) | ((have f7_c0 := f7.1); (have f7_c1 := f7.2); (first | have f2_b := f2 (by clear f7_c0 f7_c1 f7 f9 hK_0_1 f2; omega) | skip); (first | have f2_d := f2 (by with_reducible assumption) | skip); (try and_intros) <;> first | with_reducible assumption | (clear f7_c0 f7_c1 f7 hK_0_1 f2; omega)) | omega
set_option maxHeartbeats 4000000 in
theorem vc_Mo_need_at_go_0_2 (x2 : Int) (x5 : Int) (x6 : Int) (kind_0 : Int) (fault_0 : Int) (from_0 : Int) (pos_0 : Int) (tape_0 : Int → Int) (gx : Int) (k2 : 0 ≤ x2 ∧ x2 ≤ 2000) (k5 : 0 ≤ x5 ∧ x5 ≤ 0) (k6 : 0 ≤ x6 ∧ x6 ≤ 0) (f2 : (x6 = 1) → ((kind_0 = 3) ∧ (fault_0 = 0))) (g5 : x5 = fault_0) (f7 : ((kind_0 = 1) → (pos_0 ≤ (from_0 + 8))) ∧ ((kind_0 = 0) ∨ ((from_0 + 1) ≤ pos_0))) (f9 : (1 ≤ fault_0) ∨ ((kind_0 = 0) ∨ ((x2 + 1) ≤ pos_0))) (hK_0_1 : ∀ j : Int, 0 ≤ j → j < 2000 → (-128) ≤ tape_0 j ∧ tape_0 j ≤ 127) (kz_0_8 : 0 ≤ fault_0 ∧ fault_0 ≤ 5) (kz_0_11 : 0 ≤ pos_0 ∧ pos_0 ≤ 2000) (kz_0_12 : 0 ≤ kind_0 ∧ kind_0 ≤ 4) (kz_0_15 : 0 ≤ from_0 ∧ from_0 ≤ 2000) (ex2 : gx = fault_0) : (-1) * fault_0 + (1 * gx + 0) ≤ 0 := by
  first | with_reducible assumption | ((have f7_c0 := f7.1); (have f7_c1 := f7.2); (try and_intros) <;> first | with_reducible assumption | (clear f7_c0 f7_c1 f7 f9 hK_0_1 f2; omega)) | ((have f7_c0 := f7.1); (have f7_c1 := f7.2); (first | have f2_b := f2 (by clear f7_c0 f7_c1 f7 f9 hK_0_1 f2; omega) | skip); (first | have f2_d := f2 (by with_reducible assumption) | skip); (try and_intros) <;> first | with_reducible assumption | (clear f7_c0 f7_c1 f7 f9 hK_0_1 f2; omega)) | ((have f7_c0 := f7.1); (have f7_c1 := f7.2); (first | have f2_b := f2 (by clear f7_c0 f7_c1 f7 f9 hK_0_1 f2; omega) | skip); (first | have f2_d := f2 (by with_reducible assumption) | skip); (try and_intros) <;> first | with_reducible assumption | (clear f7_c0 f7_c1 f7 hK_0_1 f2; omega)) | omega
set_option maxHeartbeats 4000000 in
theorem vc_Mo_need_at_go_0_3 (x5 : Int) (fault_0 : Int) (gx : Int) (k5 : 0 ≤ x5 ∧ x5 ≤ 0) (g5 : x5 = fault_0) (kz_0_8 : 0 ≤ fault_0 ∧ fault_0 ≤ 5) (ex2 : gx = fault_0) : ZH0 (gx) := by
  exact ⟨by omega, by omega, trivial⟩
def o_Mo_need_at_go_0 : or_T := (29, 9, [(0, (2, 0, 0, [165])), (1, (0, 123, 123, [])), (2, (0, 0, 2000, [])), (3, (0, 0, 7, [])), (4, (0, 0, 4, [])), (5, (0, 0, 0, [])), (6, (0, 0, 0, [])), (7, (0, 1, 1, [])), (8, (0, 0, 2000, []))], [(9, [8, 0], [13]), (8, [6], [0]), (20, [6, 0], [50, 2, 0, 1012, 1008, 4, 6, 1, 2, 1, 0, 0, 1, 2, 7, 1, 3, 2, 1, 12, 0, 3, 1, 3, 2, 1, 8, 0, 0]), (20, [0, 1, 6], [60, 3, 0, 963, 8, 12, 14]), (9, [5, 0], [8]), (20, [0], [50, 3, 0, 12, 11, 15, 2, 21, 4, 7, 1, 3, 2, 0, 12, 0, 1, 0, 3, 2, 0, 11, 4, 3, 2, 0, 15, 0, 8, 3, 7, 1, 3, 2, 0, 12, 0, 0, 0, 7, 4, 3, 2, 0, 15, 0, 1, 2, 0, 11]), (20, [0, 2], [50, 3, 0, 8, 12, 11, 3, 7, 0, 2, 0, 1, 2, 0, 8, 3, 7, 1, 3, 2, 0, 12, 0, 0, 0, 6, 4, 2, 1, 1, 0, 1, 2, 0, 11]), (20, [0, 3, 4], [60, 9, 2, 1021, 10, 11, 12, 13, 14, 15, 8, 9, 5, 1, 2])], [], [(0, 0, 5, [])], [(20, [0, 7, 8], [60, 1, 1, 1026, 10, 1]), (20, [0, 9], [30, 0, 1, 1, 8, -1, 0, 0]), (20, [0, 9], [30, 0, -1, 1, 8, 1, 0, 0]), (20, [9], [61, 0, 1029])], [], [])
theorem oo_Mo_need_at_go_0 {kA : Nat → ClassId} : or_ok PRD kA GG o_Mo_need_at_go_0 := by
  refine or_mk fun A ta ws vs hD hth hl => ?_
  intro t0 r0 t1 k1 t2 k2 t3 k3 t4 k4 t5 k5 t6 k6 t7 k7 t8 k8 f0 f1 f2 f3 f5 f7 f9 f10
  replace f0 := shm_361 f0
  replace f1 := shm_192 f1
  replace f2 := shm_730 f2
  replace f3 := shm_731 f3
  replace f5 := shm_293 f5
  replace f7 := shm_1438 f7
  replace f9 := shm_1722 f9
  replace f10 := shm_1729 f10
  have cr_0_1 := fdq_39 hD hth r0
  have g0 : v_iv (n_v vs 8) = w_fi ws (n_v vs 0) 13 := congrArg v_iv f0
  have g5 : v_iv (n_v vs 5) = w_fi ws (n_v vs 0) 8 := congrArg v_iv f5
  have hK_0_1 := elq_7 hD hth cr_0_1
  have kz_0_8 := fdq_34 hD hth r0
  have kz_0_9 := fdq_44 hD hth r0
  have kz_0_10 := fdq_43 hD hth r0
  have kz_0_11 := fdq_237 hD hth r0
  have kz_0_12 := fdq_187 hD hth r0
  have kz_0_13 := fdq_238 hD hth r0
  have kz_0_14 := fdq_188 hD hth r0
  have kz_0_15 := fdq_239 hD hth r0
  obtain ⟨x, ex, hx⟩ := iv_ex (ta := ta) (lo := 0) (hi := 5) (z := w_fi ws (n_v vs 0) 8) (by omega) (by omega) (by omega) (by omega)
  have ex2 : v_iv (Value.int x) = w_fi ws (n_v vs 0) 8 := ex
  have ex3 : 0 ≤ v_iv (Value.int x) ∧ v_iv (Value.int x) ≤ 5 := tv_rng hx
  have e_0 : n_v (vs ++ [Value.int x]) 0 = n_v vs 0 := n_v_old (by rw [hl]; decide)
  have e_7 : n_v (vs ++ [Value.int x]) 7 = n_v vs 7 := n_v_old (by rw [hl]; decide)
  have e_8 : n_v (vs ++ [Value.int x]) 8 = n_v vs 8 := n_v_old (by rw [hl]; decide)
  have e_9 : n_v (vs ++ [Value.int x]) 9 = Value.int x := n_v_new hl
  have nf0 : fc_1 PRD (20, [0, 7, 8], [60, 1, 1, 1026, 10, 1]) ws (vs ++ [Value.int x]) := by
    refine ⟨nf_inA hl rfl, sgq_1724 ?_⟩
    · show FSX (w_fi ws (n_v (vs ++ [Value.int x]) 0) 10) (w_ei ws (w_ar ws (n_v (vs ++ [Value.int x]) 0) 1)) (v_iv (n_v (vs ++ [Value.int x]) 7)) (v_iv (n_v (vs ++ [Value.int x]) 8))
      simp only [e_0, e_7, e_8]
      exact vc_Mo_need_at_go_0_0 (v_iv (n_v vs 1)) (v_iv (n_v vs 3)) (v_iv (n_v vs 4)) (v_iv (n_v vs 5)) (v_iv (n_v vs 6)) (v_iv (n_v vs 7)) (v_iv (n_v vs 8)) (w_fi ws (n_v vs 0) 13) (w_fi ws (n_v vs 0) 12) (w_fi ws (n_v vs 0) 8) (w_fi ws (n_v vs 0) 14) (w_fi ws (n_v vs 0) 15) (w_fi ws (n_v vs 0) 11) (w_ei ws (w_ar ws (n_v vs 0) 1)) (w_ei ws (w_ar ws (n_v vs 0) 2)) (w_fi ws (n_v vs 0) 10) (w_fi ws (n_v vs 0) 9) (w_fi ws (n_v vs 0) 5) k1 k3 k4 k5 k6 k7 k8 g0 f1 f3 g5 f10 kz_0_8 kz_0_9 kz_0_10 kz_0_11 kz_0_12 kz_0_13 kz_0_14 kz_0_15
  have nf1 : fc_1 PRD (20, [0, 9], [30, 0, 1, 1, 8, -1, 0, 0]) ws (vs ++ [Value.int x]) := by
    refine ⟨nf_inA hl rfl, sgq_303 ?_⟩
    · show 1 * w_fi ws (n_v (vs ++ [Value.int x]) 0) 8 + ((-1) * v_iv (n_v (vs ++ [Value.int x]) 9) + 0) ≤ 0
      simp only [e_0, e_9]
      exact vc_Mo_need_at_go_0_1 (v_iv (n_v vs 2)) (v_iv (n_v vs 5)) (v_iv (n_v vs 6)) (w_fi ws (n_v vs 0) 12) (w_fi ws (n_v vs 0) 8) (w_fi ws (n_v vs 0) 15) (w_fi ws (n_v vs 0) 11) (w_ei ws (w_ar ws (n_v vs 0) 1)) (v_iv (Value.int x)) k2 k5 k6 f2 g5 f7 f9 hK_0_1 kz_0_8 kz_0_11 kz_0_12 kz_0_15 ex2
  have nf2 : fc_1 PRD (20, [0, 9], [30, 0, -1, 1, 8, 1, 0, 0]) ws (vs ++ [Value.int x]) := by
    refine ⟨nf_inA hl rfl, sgq_304 ?_⟩
    · show (-1) * w_fi ws (n_v (vs ++ [Value.int x]) 0) 8 + (1 * v_iv (n_v (vs ++ [Value.int x]) 9) + 0) ≤ 0
      simp only [e_0, e_9]
      exact vc_Mo_need_at_go_0_2 (v_iv (n_v vs 2)) (v_iv (n_v vs 5)) (v_iv (n_v vs 6)) (w_fi ws (n_v vs 0) 12) (w_fi ws (n_v vs 0) 8) (w_fi ws (n_v vs 0) 15) (w_fi ws (n_v vs 0) 11) (w_ei ws (w_ar ws (n_v vs 0) 1)) (v_iv (Value.int x)) k2 k5 k6 f2 g5 f7 f9 hK_0_1 kz_0_8 kz_0_11 kz_0_12 kz_0_15 ex2
  have nf3 : fc_1 PRD (20, [9], [61, 0, 1029]) ws (vs ++ [Value.int x]) := by
    refine ⟨nf_inA hl rfl, sgq_1725 ?_⟩
    · show ZH0 (v_iv (n_v (vs ++ [Value.int x]) 9))
      rw [e_9]
      exact vc_Mo_need_at_go_0_3 (v_iv (n_v vs 5)) (w_fi ws (n_v vs 0) 8) (v_iv (Value.int x)) k5 g5 kz_0_8 ex2
  exact ⟨(fun _ h => (by cases h)), [Value.int x], ag_one hx, List.forall_mem_cons.mpr ⟨⟨show (20 : Nat) < 100 from by decide, nf0⟩, List.forall_mem_cons.mpr ⟨⟨show (20 : Nat) < 100 from by decide, nf1⟩, List.forall_mem_cons.mpr ⟨⟨show (20 : Nat) < 100 from by decide, nf2⟩, List.forall_mem_cons.mpr ⟨⟨show (20 : Nat) < 100 from by decide, nf3⟩, (fun _ h => (by cases h))⟩⟩⟩⟩, (fun _ h => (by cases h))⟩
set_option maxHeartbeats 4000000 in
theorem vc_Mo_need_at_go_1_0 (x2 : Int) (x7 : Int) (x8 : Int) (x9 : Int) (tape_0 : Int → Int) (from_0 : Int) (pos_0 : Int) (kind_0 : Int) (fault_0 : Int) (faultPlace_0 : Int) (k2 : 0 ≤ x2 ∧ x2 ≤ 2000) (k7 : 1 ≤ x7 ∧ x7 ≤ 1) (k8 : 0 ≤ x8 ∧ x8 ≤ 2000) (k9 : 0 ≤ x9 ∧ x9 ≤ 5) (f4 : ((kind_0 = 1) → (pos_0 ≤ (from_0 + 8))) ∧ ((kind_0 = 0) ∨ ((from_0 + 1) ≤ pos_0))) (f6 : (-1) * fault_0 + 0 ≤ (-1)) (f7 : ((1 ≤ x9) ∧ (fault_0 = x9)) ∨ ((x9 = 0) ∧ ((fault_0 = x7) ∧ (faultPlace_0 = x8)))) (hK_0_1 : ∀ j : Int, 0 ≤ j → j < 2000 → (-128) ≤ tape_0 j ∧ tape_0 j ≤ 127) (kz_0_8 : 0 ≤ fault_0 ∧ fault_0 ≤ 5) (kz_0_9 : 0 ≤ faultPlace_0 ∧ faultPlace_0 ≤ 2000) (kz_0_11 : 0 ≤ pos_0 ∧ pos_0 ≤ 2000) (kz_0_12 : 0 ≤ kind_0 ∧ kind_0 ≤ 4) (kz_0_15 : 0 ≤ from_0 ∧ from_0 ≤ 2000) : (1 ≤ fault_0) ∨ ((x2 + 1) ≤ pos_0) := by
  first | with_reducible assumption | ((have f4_c0 := f4.1); (have f4_c1 := f4.2); (try and_intros) <;> first | with_reducible assumption | (clear f4_c0 f4_c1 f4 f7 hK_0_1; omega)) | ((have f4_c0 := f4.1); (have f4_c1 := f4.2); (try and_intros) <;> first | with_reducible assumption | (clear f4_c0 f4_c1 f4 hK_0_1; omega)) | omega
set_option maxHeartbeats 4000000 in
theorem vc_Mo_need_at_go_1_1 (x3 : Int) (x4 : Int) (x7 : Int) (x8 : Int) (x9 : Int) (place_0 : Int) (tape_0 : Int → Int) (limit_0 : Int) (from_0 : Int) (pos_0 : Int) (kind_0 : Int) (fault_0 : Int) (faultPlace_0 : Int) (value_0 : Int) (all_0 : Int → Int) (r_0 : Int) (k3 : 0 ≤ x3 ∧ x3 ≤ 7) (k4 : 0 ≤ x4 ∧ x4 ≤ 4) (k7 : 1 ≤ x7 ∧ x7 ≤ 1) (k8 : 0 ≤ x8 ∧ x8 ≤ 2000) (k9 : 0 ≤ x9 ∧ x9 ≤ 5) (f1 : FSX (limit_0) (tape_0) (x7) (x8)) (f2 : ZH0 (x9)) (f7 : ((1 ≤ x9) ∧ (fault_0 = x9)) ∨ ((x9 = 0) ∧ ((fault_0 = x7) ∧ (faultPlace_0 = x8)))) (kz_0_8 : 0 ≤ fault_0 ∧ fault_0 ≤ 5) (kz_0_9 : 0 ≤ faultPlace_0 ∧ faultPlace_0 ≤ 2000) (kz_0_10 : 0 ≤ limit_0 ∧ limit_0 ≤ 2000) (kz_0_11 : 0 ≤ pos_0 ∧ pos_0 ≤ 2000) (kz_0_12 : 0 ≤ kind_0 ∧ kind_0 ≤ 4) (kz_0_13 : 0 ≤ place_0 ∧ place_0 ≤ 2000) (kz_0_14 : (-49) ≤ value_0 ∧ value_0 ≤ 1048575) (kz_0_15 : 0 ≤ from_0 ∧ from_0 ≤ 2000) : zOP0 (limit_0) (pos_0) (kind_0) (place_0) (value_0) (from_0) (fault_0) (faultPlace_0) (r_0) (tape_0) (all_0) (x3) (x4) := by
  first
    | exact Or.inr (rsq_of ‹zT0p _ _ _ _ _ _ _ _› ‹TKR _ _ _ _ _ _ _ _›)
    | exact Or.inl (fs_w ‹FSX _ _ _ _› ‹ZH0 _› (by assumption))
    | exact Or.inl (or_l ‹zONo _ _ _ _ _ _ _ _ _ _ _ _ _› (fun q => by have := ndq_0 q; omega))
def o_Mo_need_at_go_1 : or_T := (32, 10, [(0, (2, 0, 0, [165])), (2, (0, 0, 2000, [])), (3, (0, 0, 7, [])), (4, (0, 0, 4, [])), (7, (0, 1, 1, [])), (8, (0, 0, 2000, [])), (9, (0, 0, 5, []))], [(20, [0, 7, 8], [60, 1, 1, 1026, 10, 1]), (20, [9], [61, 0, 1029]), (20, [0], [50, 3, 0, 12, 11, 15, 2, 21, 4, 7, 1, 3, 2, 0, 12, 0, 1, 0, 3, 2, 0, 11, 4, 3, 2, 0, 15, 0, 8, 3, 7, 1, 3, 2, 0, 12, 0, 0, 0, 7, 4, 3, 2, 0, 15, 0, 1, 2, 0, 11]), (20, [0], [30, -1, -1, 1, 8]), (20, [9, 0, 7, 8], [50, 2, 0, 1008, 1009, 3, 15, 2, 6, 0, 2, 0, 1, 1, 0, 1, 3, 2, 1, 8, 1, 0, 2, 6, 1, 2, 1, 0, 0, 0, 2, 7, 1, 3, 2, 1, 8, 1, 2, 1, 3, 2, 1, 9, 1, 3])], [], [], [(20, [0, 2], [50, 2, 0, 8, 11, 3, 7, 0, 2, 0, 1, 2, 0, 8, 0, 6, 4, 2, 1, 1, 0, 1, 2, 0, 11]), (20, [0, 3, 4], [60, 9, 2, 1023, 10, 11, 12, 13, 14, 15, 8, 9, 5, 1, 2])], [], [])
theorem oo_Mo_need_at_go_1 {kA : Nat → ClassId} : or_ok PRD kA GG o_Mo_need_at_go_1 := by
  refine or_mk fun A ta ws vs hD hth hl => ?_
  intro t0 r0 t2 k2 t3 k3 t4 k4 t7 k7 t8 k8 t9 k9 f1 f2 f4 f6 f7
  have cr_0_1 := fdq_39 hD hth r0
  have hK_0_1 := elq_7 hD hth cr_0_1
  have kz_0_8 := fdq_34 hD hth r0
  have kz_0_9 := fdq_44 hD hth r0
  have kz_0_10 := fdq_43 hD hth r0
  have kz_0_11 := fdq_237 hD hth r0
  have kz_0_12 := fdq_187 hD hth r0
  have kz_0_13 := fdq_238 hD hth r0
  have kz_0_14 := fdq_188 hD hth r0
  have kz_0_15 := fdq_239 hD hth r0
  have nf0 : fc_1 PRD (20, [0, 2], [50, 2, 0, 8, 11, 3, 7, 0, 2, 0, 1, 2, 0, 8, 0, 6, 4, 2, 1, 1, 0, 1, 2, 0, 11]) ws (vs) := ⟨nf_in hl rfl, sgq_1726 (vc_Mo_need_at_go_1_0 (v_iv (n_v vs 2)) (v_iv (n_v vs 7)) (v_iv (n_v vs 8)) (v_iv (n_v vs 9)) (w_ei ws (w_ar ws (n_v vs 0) 1)) (w_fi ws (n_v vs 0) 15) (w_fi ws (n_v vs 0) 11) (w_fi ws (n_v vs 0) 12) (w_fi ws (n_v vs 0) 8) (w_fi ws (n_v vs 0) 9) k2 k7 k8 k9 (shm_1438 f4) (shm_305 f6) (shm_306 f7) hK_0_1 kz_0_8 kz_0_9 kz_0_11 kz_0_12 kz_0_15)⟩
  have nf1 : fc_1 PRD (20, [0, 3, 4], [60, 9, 2, 1023, 10, 11, 12, 13, 14, 15, 8, 9, 5, 1, 2]) ws (vs) := ⟨nf_in hl rfl, sgq_1730 (vc_Mo_need_at_go_1_1 (v_iv (n_v vs 3)) (v_iv (n_v vs 4)) (v_iv (n_v vs 7)) (v_iv (n_v vs 8)) (v_iv (n_v vs 9)) (w_fi ws (n_v vs 0) 13) (w_ei ws (w_ar ws (n_v vs 0) 1)) (w_fi ws (n_v vs 0) 10) (w_fi ws (n_v vs 0) 15) (w_fi ws (n_v vs 0) 11) (w_fi ws (n_v vs 0) 12) (w_fi ws (n_v vs 0) 8) (w_fi ws (n_v vs 0) 9) (w_fi ws (n_v vs 0) 14) (w_ei ws (w_ar ws (n_v vs 0) 2)) (w_fi ws (n_v vs 0) 5) k3 k4 k7 k8 k9 (shm_1724 f1) (shm_1725 f2) (shm_306 f7) kz_0_8 kz_0_9 kz_0_10 kz_0_11 kz_0_12 kz_0_13 kz_0_14 kz_0_15)⟩
  refine ⟨(fun _ h => (by cases h)), [], trivial, ?_, (fun _ h => (by cases h))⟩
  rw [List.append_nil]
  exact List.forall_mem_cons.mpr ⟨⟨show (20 : Nat) < 100 from by decide, nf0⟩, List.forall_mem_cons.mpr ⟨⟨show (20 : Nat) < 100 from by decide, nf1⟩, (fun _ h => (by cases h))⟩⟩
set_option maxHeartbeats 4000000 in
theorem vc_Mo_need_at_go_2_0 (x2 : Int) (x6 : Int) (kind_0 : Int) (fault_0 : Int) (from_0 : Int) (pos_0 : Int) (tape_0 : Int → Int) (gx : Int) (k2 : 0 ≤ x2 ∧ x2 ≤ 2000) (k6 : 1 ≤ x6 ∧ x6 ≤ 1) (f1 : (x6 = 1) → ((kind_0 = 3) ∧ (fault_0 = 0))) (f6 : ((kind_0 = 1) → (pos_0 ≤ (from_0 + 8))) ∧ ((kind_0 = 0) ∨ ((from_0 + 1) ≤ pos_0))) (f8 : (1 ≤ fault_0) ∨ ((kind_0 = 0) ∨ ((x2 + 1) ≤ pos_0))) (hK_0_1 : ∀ j : Int, 0 ≤ j → j < 2000 → (-128) ≤ tape_0 j ∧ tape_0 j ≤ 127) (kz_0_8 : 0 ≤ fault_0 ∧ fault_0 ≤ 5) (kz_0_11 : 0 ≤ pos_0 ∧ pos_0 ≤ 2000) (kz_0_12 : 0 ≤ kind_0 ∧ kind_0 ≤ 4) (kz_0_15 : 0 ≤ from_0 ∧ from_0 ≤ 2000) (ex2 : gx = pos_0) : 1 * gx + ((-1) * pos_0 + 0) ≤ 0 := by
  first | with_reducible assumption | ((have f6_c0 := f6.1); (have f6_c1 := f6.2); (try and_intros) <;> first | with_reducible assumption | (clear f6_c0 f6_c1 f6 f8 hK_0_1 f1; omega)) | ((have f6_c0 := f6.1); (have f6_c1 := f6.2); (first | have f1_b := f1 (by clear f6_c0 f6_c1 f6 f8 hK_0_1 f1; omega) | skip); (first | have f1_d := f1 (by with_reducible assumption) | skip); (try and_intros) <;> first | with_reducible assumption | (clear f6_c0 f6_c1 f6 f8 hK_0_1 f1; omega)) | ((have f6_c0 := f6.1); (have f6_c1 := f6.2); (first | have f1_b := f1 (by clear f6_c0 f6_c1 f6 f8 hK_0_1 f1; omega) | skip); (first | have f1_d := f1 (by with_reducible assumption) | skip); (try and_intros) <;> first | with_reducible assumption | (clear f6_c0 f6_c1 f6 hK_0_1 f1; omega)) | omega
set_option maxHeartbeats 4000000 in
theorem vc_Mo_need_at_go_2_1 (x2 : Int) (x6 : Int) (kind_0 : Int) (fault_0 : Int) (from_0 : Int) (pos_0 : Int) (tape_0 : Int → Int) (gx : Int) (k2 : 0 ≤ x2 ∧ x2 ≤ 2000) (k6 : 1 ≤ x6 ∧ x6 ≤ 1) (f1 : (x6 = 1) → ((kind_0 = 3) ∧ (fault_0 = 0))) (f6 : ((kind_0 = 1) → (pos_0 ≤ (from_0 + 8))) ∧ ((kind_0 = 0) ∨ ((from_0 + 1) ≤ pos_0))) (f8 : (1 ≤ fault_0) ∨ ((kind_0 = 0) ∨ ((x2 + 1) ≤ pos_0))) (hK_0_1 : ∀ j : Int, 0 ≤ j → j < 2000 → (-128) ≤ tape_0 j ∧ tape_0 j ≤ 127) (kz_0_8 : 0 ≤ fault_0 ∧ fault_0 ≤ 5) (kz_0_11 : 0 ≤ pos_0 ∧ pos_0 ≤ 2000) (kz_0_12 : 0 ≤ kind_0 ∧ kind_0 ≤ 4) (kz_0_15 : 0 ≤ from_0 ∧ from_0 ≤ 2000) (ex2 : gx = pos_0) : gx = pos_0 := by
  first | with_reducible assumption | ((have f6_c0 := f6.1); (have f6_c1 := f6.2); (try and_intros) <;> first | with_reducible assumption | (clear f6_c0 f6_c1 f6 f8 hK_0_1 f1; omega)) | ((have f6_c0 := f6.1); (have f6_c1 := f6.2); (first | have f1_b := f1 (by clear f6_c0 f6_c1 f6 f8 hK_0_1 f1; omega) | skip); (first | have f1_d := f1 (by with_reducible assumption) | skip); (try and_intros) <;> first | with_reducible assumption | (clear f6_c0 f6_c1 f6 f8 hK_0_1 f1; omega)) | ((have f6_c0 := f6.1); (have f6_c1 := f6.2); (first | have f1_b := f1 (by clear f6_c0 f6_c1 f6 f8 hK_0_1 f1; omega) | skip); (first | have f1_d := f1 (by with_reducible assumption) | skip); (try and_intros) <;> first | with_reducible assumption | (clear f6_c0 f6_c1 f6 hK_0_1 f1; omega)) | omega
set_option maxHeartbeats 4000000 in
theorem vc_Mo_need_at_go_2_2 (x3 : Int) (x4 : Int) (x5 : Int) (kind_0 : Int) (fault_0 : Int) (value_0 : Int) (from_0 : Int) (pos_0 : Int) (tape_0 : Int → Int) (all_0 : Int → Int) (limit_0 : Int) (place_0 : Int) (faultPlace_0 : Int) (r_0 : Int) (k3 : 0 ≤ x3 ∧ x3 ≤ 7) (k4 : 0 ≤ x4 ∧ x4 ≤ 4) (k5 : 0 ≤ x5 ∧ x5 ≤ 0) (g4 : x5 = fault_0) (f9 : zONo (limit_0) (pos_0) (kind_0) (place_0) (value_0) (from_0) (fault_0) (faultPlace_0) (r_0) (tape_0) (all_0) (x3) (x4)) (kz_0_8 : 0 ≤ fault_0 ∧ fault_0 ≤ 5) (kz_0_9 : 0 ≤ faultPlace_0 ∧ faultPlace_0 ≤ 2000) (kz_0_10 : 0 ≤ limit_0 ∧ limit_0 ≤ 2000) (kz_0_11 : 0 ≤ pos_0 ∧ pos_0 ≤ 2000) (kz_0_12 : 0 ≤ kind_0 ∧ kind_0 ≤ 4) (kz_0_13 : 0 ≤ place_0 ∧ place_0 ≤ 2000) (kz_0_14 : (-49) ≤ value_0 ∧ value_0 ≤ 1048575) (kz_0_15 : 0 ≤ from_0 ∧ from_0 ≤ 2000) : ZLM (limit_0) (pos_0) := by
  first
    | exact ndq_lim (or_r ‹zONs _ _ _ _ _ _ _ _ _ _ _ _ _› (fs_n (by omega)))
    | exact ndq_lim (or_r ‹zONo _ _ _ _ _ _ _ _ _ _ _ _ _› (fs_n (by omega)))
    | exact ndq_lim (or_r ‹zONew _ _ _ _ _ _ _ _ _ _ _ _ _ _› (fs_n (by omega)))
    | exact ndq_lim (or_r ‹zONes _ _ _ _ _ _ _ _ _ _ _ _ _ _› (fs_n (by omega))).2
    | exact ndq_lim (or_r ‹zNc _ _ _ _ _ _ _ _ _ _ _ _ _› (fs_n (by omega))).2.2
    | exact zlm_r (‹zNbs _ _ _ _ _ _ _ _ _ _ _ _ _ _›).1.2.2
    | exact zlm_r (‹zNbw _ _ _ _ _ _ _ _ _ _ _ _ _ _›).1.2
set_option maxHeartbeats 4000000 in
theorem vc_Mo_need_at_go_2_3 (x2 : Int) (x5 : Int) (x6 : Int) (kind_0 : Int) (fault_0 : Int) (from_0 : Int) (pos_0 : Int) (tape_0 : Int → Int) (gx : Int) (k2 : 0 ≤ x2 ∧ x2 ≤ 2000) (k5 : 0 ≤ x5 ∧ x5 ≤ 0) (k6 : 1 ≤ x6 ∧ x6 ≤ 1) (f1 : (x6 = 1) → ((kind_0 = 3) ∧ (fault_0 = 0))) (g4 : x5 = fault_0) (f6 : ((kind_0 = 1) → (pos_0 ≤ (from_0 + 8))) ∧ ((kind_0 = 0) ∨ ((from_0 + 1) ≤ pos_0))) (f7 : 1 * x2 + ((-1) * pos_0 + 0) ≤ 0) (f8 : (1 ≤ fault_0) ∨ ((kind_0 = 0) ∨ ((x2 + 1) ≤ pos_0))) (hK_0_1 : ∀ j : Int, 0 ≤ j → j < 2000 → (-128) ≤ tape_0 j ∧ tape_0 j ≤ 127) (kz_0_8 : 0 ≤ fault_0 ∧ fault_0 ≤ 5) (kz_0_11 : 0 ≤ pos_0 ∧ pos_0 ≤ 2000) (kz_0_12 : 0 ≤ kind_0 ∧ kind_0 ≤ 4) (kz_0_15 : 0 ≤ from_0 ∧ from_0 ≤ 2000) (ex2 : gx = pos_0) : 1 * x2 + ((-1) * gx + 0) ≤ (-1) := by
  first | with_reducible assumption | ((have f6_c0 := f6.1); (have f6_c1 := f6.2); (try and_intros) <;> first | with_reducible assumption | (clear f6_c0 f6_c1 f6 f8 hK_0_1 f1; omega)) | ((have f6_c0 := f6.1); (have f6_c1 := f6.2); (first | have f1_b := f1 (by clear f6_c0 f6_c1 f6 f8 hK_0_1 f1; omega) | skip); (first | have f1_d := f1 (by with_reducible assumption) | skip); (try and_intros) <;> first | with_reducible assumption | (clear f6_c0 f6_c1 f6 f8 hK_0_1 f1; omega)) | ((have f6_c0 := f6.1); (have f6_c1 := f6.2); (first | have f1_b := f1 (by clear f6_c0 f6_c1 f6 f8 hK_0_1 f1; omega) | skip); (first | have f1_d := f1 (by with_reducible assumption) | skip); (try and_intros) <;> first | with_reducible assumption | (clear f6_c0 f6_c1 f6 hK_0_1 f1; omega)) | omega
set_option maxHeartbeats 4000000 in
theorem vc_Mo_need_at_go_2_4 (x1 : Int) (x3 : Int) (x4 : Int) (x5 : Int) (x6 : Int) (kind_0 : Int) (fault_0 : Int) (value_0 : Int) (from_0 : Int) (pos_0 : Int) (tape_0 : Int → Int) (all_0 : Int → Int) (limit_0 : Int) (place_0 : Int) (faultPlace_0 : Int) (r_0 : Int) (gx : Int) (k1 : 123 ≤ x1 ∧ x1 ≤ 123) (k3 : 0 ≤ x3 ∧ x3 ≤ 7) (k4 : 0 ≤ x4 ∧ x4 ≤ 4) (k5 : 0 ≤ x5 ∧ x5 ≤ 0) (k6 : 1 ≤ x6 ∧ x6 ≤ 1) (f0 : x6 ≠ 0) (f2 : SGQ (fault_0) (kind_0) (value_0) (x1) (x6)) (g4 : x5 = fault_0) (f9 : zONo (limit_0) (pos_0) (kind_0) (place_0) (value_0) (from_0) (fault_0) (faultPlace_0) (r_0) (tape_0) (all_0) (x3) (x4)) (kz_0_8 : 0 ≤ fault_0 ∧ fault_0 ≤ 5) (kz_0_9 : 0 ≤ faultPlace_0 ∧ faultPlace_0 ≤ 2000) (kz_0_10 : 0 ≤ limit_0 ∧ limit_0 ≤ 2000) (kz_0_11 : 0 ≤ pos_0 ∧ pos_0 ≤ 2000) (kz_0_12 : 0 ≤ kind_0 ∧ kind_0 ≤ 4) (kz_0_13 : 0 ≤ place_0 ∧ place_0 ≤ 2000) (kz_0_14 : (-49) ≤ value_0 ∧ value_0 ≤ 1048575) (kz_0_15 : 0 ≤ from_0 ∧ from_0 ≤ 2000) (ex2 : gx = pos_0) : zT0p (limit_0) (fault_0) (r_0) (tape_0) (all_0) (x3) (x4) (gx) := by
  have e : gx = pos_0 := by omega
  rw [e]
  first
    | exact ndq_go (or_r ‹zONo _ _ _ _ _ _ _ _ _ _ _ _ _› (fs_n (by omega))) (sgq_t (C := 123) ‹SGQ _ _ _ _ _› (by omega) (by omega)).2.1 (sgq_t (C := 123) ‹SGQ _ _ _ _ _› (by omega) (by omega)).2.2
def o_Mo_need_at_go_2 : or_T := (17, 7, [(0, (2, 0, 0, [165])), (1, (0, 123, 123, [])), (2, (0, 0, 2000, [])), (3, (0, 0, 7, [])), (4, (0, 0, 4, [])), (5, (0, 0, 0, [])), (6, (0, 1, 1, []))], [(8, [6], [1]), (20, [6, 0], [50, 2, 0, 1012, 1008, 4, 6, 1, 2, 1, 0, 0, 1, 2, 7, 1, 3, 2, 1, 12, 0, 3, 1, 3, 2, 1, 8, 0, 0]), (20, [0, 1, 6], [60, 3, 0, 963, 8, 12, 14]), (9, [5, 0], [8]), (20, [0], [50, 3, 0, 12, 11, 15, 2, 21, 4, 7, 1, 3, 2, 0, 12, 0, 1, 0, 3, 2, 0, 11, 4, 3, 2, 0, 15, 0, 8, 3, 7, 1, 3, 2, 0, 12, 0, 0, 0, 7, 4, 3, 2, 0, 15, 0, 1, 2, 0, 11]), (20, [2, 0], [30, 0, 1, 0, 0, -1, 1, 11]), (20, [0, 2], [50, 3, 0, 8, 12, 11, 3, 7, 0, 2, 0, 1, 2, 0, 8, 3, 7, 1, 3, 2, 0, 12, 0, 0, 0, 6, 4, 2, 1, 1, 0, 1, 2, 0, 11]), (20, [0, 3, 4], [60, 9, 2, 1021, 10, 11, 12, 13, 14, 15, 8, 9, 5, 1, 2])], [], [(0, 0, 2000, [])], [(20, [7, 0], [30, 0, 1, 0, 0, -1, 1, 11]), (20, [7, 0], [50, 1, 0, 1011, 1, 2, 1, 0, 2, 1, 11]), (20, [0], [60, 2, 0, 947, 10, 11]), (23, [2, 7], [-1, 1, -1]), (20, [0, 3, 4, 7], [60, 3, 2, 988, 10, 8, 5, 1, 2])], [], [])
theorem oo_Mo_need_at_go_2 {kA : Nat → ClassId} : or_ok PRD kA GG o_Mo_need_at_go_2 := by
  refine or_mk fun A ta ws vs hD hth hl => ?_
  intro t0 r0 t1 k1 t2 k2 t3 k3 t4 k4 t5 k5 t6 k6 f0 f1 f2 f4 f6 f7 f8 f9
  replace f0 := shm_142 f0
  replace f1 := shm_730 f1
  replace f2 := shm_731 f2
  replace f4 := shm_293 f4
  replace f6 := shm_1438 f6
  replace f7 := shm_1431 f7
  replace f8 := shm_1722 f8
  replace f9 := shm_1729 f9
  have cr_0_1 := fdq_39 hD hth r0
  have g4 : v_iv (n_v vs 5) = w_fi ws (n_v vs 0) 8 := congrArg v_iv f4
  have hK_0_1 := elq_7 hD hth cr_0_1
  have kz_0_8 := fdq_34 hD hth r0
  have kz_0_9 := fdq_44 hD hth r0
  have kz_0_10 := fdq_43 hD hth r0
  have kz_0_11 := fdq_237 hD hth r0
  have kz_0_12 := fdq_187 hD hth r0
  have kz_0_13 := fdq_238 hD hth r0
  have kz_0_14 := fdq_188 hD hth r0
  have kz_0_15 := fdq_239 hD hth r0
  obtain ⟨x, ex, hx⟩ := iv_ex (ta := ta) (lo := 0) (hi := 2000) (z := w_fi ws (n_v vs 0) 11) (by omega) (by omega) (by omega) (by omega)
  have ex2 : v_iv (Value.int x) = w_fi ws (n_v vs 0) 11 := ex
  have ex3 : 0 ≤ v_iv (Value.int x) ∧ v_iv (Value.int x) ≤ 2000 := tv_rng hx
  have e_0 : n_v (vs ++ [Value.int x]) 0 = n_v vs 0 := n_v_old (by rw [hl]; decide)
  have e_2 : n_v (vs ++ [Value.int x]) 2 = n_v vs 2 := n_v_old (by rw [hl]; decide)
  have e_3 : n_v (vs ++ [Value.int x]) 3 = n_v vs 3 := n_v_old (by rw [hl]; decide)
  have e_4 : n_v (vs ++ [Value.int x]) 4 = n_v vs 4 := n_v_old (by rw [hl]; decide)
  have e_7 : n_v (vs ++ [Value.int x]) 7 = Value.int x := n_v_new hl
  have nf0 : fc_1 PRD (20, [7, 0], [30, 0, 1, 0, 0, -1, 1, 11]) ws (vs ++ [Value.int x]) := by
    refine ⟨nf_inA hl rfl, sgq_1431 ?_⟩
    · show 1 * v_iv (n_v (vs ++ [Value.int x]) 7) + ((-1) * w_fi ws (n_v (vs ++ [Value.int x]) 0) 11 + 0) ≤ 0
      simp only [e_0, e_7]
      exact vc_Mo_need_at_go_2_0 (v_iv (n_v vs 2)) (v_iv (n_v vs 6)) (w_fi ws (n_v vs 0) 12) (w_fi ws (n_v vs 0) 8) (w_fi ws (n_v vs 0) 15) (w_fi ws (n_v vs 0) 11) (w_ei ws (w_ar ws (n_v vs 0) 1)) (v_iv (Value.int x)) k2 k6 f1 f6 f8 hK_0_1 kz_0_8 kz_0_11 kz_0_12 kz_0_15 ex2
  have nf1 : fc_1 PRD (20, [7, 0], [50, 1, 0, 1011, 1, 2, 1, 0, 2, 1, 11]) ws (vs ++ [Value.int x]) := by
    refine ⟨nf_inA hl rfl, sgq_1432 ?_⟩
    · show v_iv (n_v (vs ++ [Value.int x]) 7) = w_fi ws (n_v (vs ++ [Value.int x]) 0) 11
      simp only [e_0, e_7]
      exact vc_Mo_need_at_go_2_1 (v_iv (n_v vs 2)) (v_iv (n_v vs 6)) (w_fi ws (n_v vs 0) 12) (w_fi ws (n_v vs 0) 8) (w_fi ws (n_v vs 0) 15) (w_fi ws (n_v vs 0) 11) (w_ei ws (w_ar ws (n_v vs 0) 1)) (v_iv (Value.int x)) k2 k6 f1 f6 f8 hK_0_1 kz_0_8 kz_0_11 kz_0_12 kz_0_15 ex2
  have nf2 : fc_1 PRD (20, [0], [60, 2, 0, 947, 10, 11]) ws (vs ++ [Value.int x]) := by
    refine ⟨nf_inA hl rfl, sgq_1433 ?_⟩
    · show ZLM (w_fi ws (n_v (vs ++ [Value.int x]) 0) 10) (w_fi ws (n_v (vs ++ [Value.int x]) 0) 11)
      rw [e_0]
      exact vc_Mo_need_at_go_2_2 (v_iv (n_v vs 3)) (v_iv (n_v vs 4)) (v_iv (n_v vs 5)) (w_fi ws (n_v vs 0) 12) (w_fi ws (n_v vs 0) 8) (w_fi ws (n_v vs 0) 14) (w_fi ws (n_v vs 0) 15) (w_fi ws (n_v vs 0) 11) (w_ei ws (w_ar ws (n_v vs 0) 1)) (w_ei ws (w_ar ws (n_v vs 0) 2)) (w_fi ws (n_v vs 0) 10) (w_fi ws (n_v vs 0) 13) (w_fi ws (n_v vs 0) 9) (w_fi ws (n_v vs 0) 5) k3 k4 k5 g4 f9 kz_0_8 kz_0_9 kz_0_10 kz_0_11 kz_0_12 kz_0_13 kz_0_14 kz_0_15
  have nf3 : fc_1 PRD (23, [2, 7], [-1, 1, -1]) ws (vs ++ [Value.int x]) := by
    refine ⟨nf_inA hl rfl, sgq_193 ?_⟩
    · show 1 * v_iv (n_v (vs ++ [Value.int x]) 2) + ((-1) * v_iv (n_v (vs ++ [Value.int x]) 7) + 0) ≤ (-1)
      simp only [e_2, e_7]
      exact vc_Mo_need_at_go_2_3 (v_iv (n_v vs 2)) (v_iv (n_v vs 5)) (v_iv (n_v vs 6)) (w_fi ws (n_v vs 0) 12) (w_fi ws (n_v vs 0) 8) (w_fi ws (n_v vs 0) 15) (w_fi ws (n_v vs 0) 11) (w_ei ws (w_ar ws (n_v vs 0) 1)) (v_iv (Value.int x)) k2 k5 k6 f1 g4 f6 f7 f8 hK_0_1 kz_0_8 kz_0_11 kz_0_12 kz_0_15 ex2
  have nf4 : fc_1 PRD (20, [0, 3, 4, 7], [60, 3, 2, 988, 10, 8, 5, 1, 2]) ws (vs ++ [Value.int x]) := by
    refine ⟨nf_inA hl rfl, sgq_1731 ?_⟩
    · show zT0p (w_fi ws (n_v (vs ++ [Value.int x]) 0) 10) (w_fi ws (n_v (vs ++ [Value.int x]) 0) 8) (w_fi ws (n_v (vs ++ [Value.int x]) 0) 5) (w_ei ws (w_ar ws (n_v (vs ++ [Value.int x]) 0) 1)) (w_ei ws (w_ar ws (n_v (vs ++ [Value.int x]) 0) 2)) (v_iv (n_v (vs ++ [Value.int x]) 3)) (v_iv (n_v (vs ++ [Value.int x]) 4)) (v_iv (n_v (vs ++ [Value.int x]) 7))
      simp only [e_0, e_3, e_4, e_7]
      exact vc_Mo_need_at_go_2_4 (v_iv (n_v vs 1)) (v_iv (n_v vs 3)) (v_iv (n_v vs 4)) (v_iv (n_v vs 5)) (v_iv (n_v vs 6)) (w_fi ws (n_v vs 0) 12) (w_fi ws (n_v vs 0) 8) (w_fi ws (n_v vs 0) 14) (w_fi ws (n_v vs 0) 15) (w_fi ws (n_v vs 0) 11) (w_ei ws (w_ar ws (n_v vs 0) 1)) (w_ei ws (w_ar ws (n_v vs 0) 2)) (w_fi ws (n_v vs 0) 10) (w_fi ws (n_v vs 0) 13) (w_fi ws (n_v vs 0) 9) (w_fi ws (n_v vs 0) 5) (v_iv (Value.int x)) k1 k3 k4 k5 k6 f0 f2 g4 f9 kz_0_8 kz_0_9 kz_0_10 kz_0_11 kz_0_12 kz_0_13 kz_0_14 kz_0_15 ex2
  exact ⟨(fun _ h => (by cases h)), [Value.int x], ag_one hx, List.forall_mem_cons.mpr ⟨⟨show (20 : Nat) < 100 from by decide, nf0⟩, List.forall_mem_cons.mpr ⟨⟨show (20 : Nat) < 100 from by decide, nf1⟩, List.forall_mem_cons.mpr ⟨⟨show (20 : Nat) < 100 from by decide, nf2⟩, List.forall_mem_cons.mpr ⟨⟨show (23 : Nat) < 100 from by decide, nf3⟩, List.forall_mem_cons.mpr ⟨⟨show (20 : Nat) < 100 from by decide, nf4⟩, (fun _ h => (by cases h))⟩⟩⟩⟩⟩, (fun _ h => (by cases h))⟩
set_option maxHeartbeats 4000000 in
theorem vc_Mo_need_at_go_3_0 (x2 : Int) (x7 : Int) (tape_0 : Int → Int) (from_0 : Int) (pos_0 : Int) (kind_0 : Int) (k2 : 0 ≤ x2 ∧ x2 ≤ 2000) (k7 : 0 ≤ x7 ∧ x7 ≤ 2000) (f1 : 1 * x2 + ((-1) * x7 + 0) ≤ (-1)) (f3 : 1 * from_0 + ((-1) * pos_0 + 0) ≤ 0) (f4 : ((kind_0 = 1) → (pos_0 ≤ (from_0 + 8))) ∧ ((kind_0 = 0) ∨ ((from_0 + 1) ≤ pos_0))) (f5 : 1 * x7 + ((-1) * from_0 + 0) ≤ 0) (hK_0_1 : ∀ j : Int, 0 ≤ j → j < 2000 → (-128) ≤ tape_0 j ∧ tape_0 j ≤ 127) (kz_0_11 : 0 ≤ pos_0 ∧ pos_0 ≤ 2000) (kz_0_12 : 0 ≤ kind_0 ∧ kind_0 ≤ 4) (kz_0_15 : 0 ≤ from_0 ∧ from_0 ≤ 2000) : 1 * x2 + ((-1) * pos_0 + 0) ≤ 0 := by
  first | with_reducible assumption | ((have f4_c0 := f4.1); (have f4_c1 := f4.2); (try and_intros) <;> first | with_reducible assumption | (clear f4_c0 f4_c1 f4 hK_0_1; omega)) | omega
set_option maxHeartbeats 4000000 in
theorem vc_Mo_need_at_go_3_1 (x2 : Int) (x7 : Int) (fault_0 : Int) (tape_0 : Int → Int) (from_0 : Int) (pos_0 : Int) (kind_0 : Int) (k2 : 0 ≤ x2 ∧ x2 ≤ 2000) (k7 : 0 ≤ x7 ∧ x7 ≤ 2000) (f1 : 1 * x2 + ((-1) * x7 + 0) ≤ (-1)) (f3 : 1 * from_0 + ((-1) * pos_0 + 0) ≤ 0) (f4 : ((kind_0 = 1) → (pos_0 ≤ (from_0 + 8))) ∧ ((kind_0 = 0) ∨ ((from_0 + 1) ≤ pos_0))) (f5 : 1 * x7 + ((-1) * from_0 + 0) ≤ 0) (hK_0_1 : ∀ j : Int, 0 ≤ j → j < 2000 → (-128) ≤ tape_0 j ∧ tape_0 j ≤ 127) (kz_0_8 : 0 ≤ fault_0 ∧ fault_0 ≤ 5) (kz_0_11 : 0 ≤ pos_0 ∧ pos_0 ≤ 2000) (kz_0_12 : 0 ≤ kind_0 ∧ kind_0 ≤ 4) (kz_0_15 : 0 ≤ from_0 ∧ from_0 ≤ 2000) : (1 ≤ fault_0) ∨ ((x2 + 1) ≤ pos_0) := by
  first | with_reducible assumption | ((have f4_c0 := f4.1); (have f4_c1 := f4.2); (try and_intros) <;> first | with_reducible assumption | (clear f4_c0 f4_c1 f4 hK_0_1; omega)) | omega
set_option maxHeartbeats 4000000 in
theorem vc_Mo_need_at_go_3_2 (x3 : Int) (x4 : Int) (x7 : Int) (fault_0 : Int) (tape_0 : Int → Int) (all_0 : Int → Int) (limit_0 : Int) (r_0 : Int) (from_0 : Int) (pos_0 : Int) (kind_0 : Int) (place_0 : Int) (value_0 : Int) (faultPlace_0 : Int) (k3 : 0 ≤ x3 ∧ x3 ≤ 7) (k4 : 0 ≤ x4 ∧ x4 ≤ 4) (k7 : 0 ≤ x7 ∧ x7 ≤ 2000) (f2 : zT0p (limit_0) (fault_0) (r_0) (tape_0) (all_0) (x3) (x4) (x7)) (f6 : TKR (limit_0) (pos_0) (kind_0) (place_0) (value_0) (from_0) (tape_0) (x7)) (kz_0_8 : 0 ≤ fault_0 ∧ fault_0 ≤ 5) (kz_0_9 : 0 ≤ faultPlace_0 ∧ faultPlace_0 ≤ 2000) (kz_0_10 : 0 ≤ limit_0 ∧ limit_0 ≤ 2000) (kz_0_11 : 0 ≤ pos_0 ∧ pos_0 ≤ 2000) (kz_0_12 : 0 ≤ kind_0 ∧ kind_0 ≤ 4) (kz_0_13 : 0 ≤ place_0 ∧ place_0 ≤ 2000) (kz_0_14 : (-49) ≤ value_0 ∧ value_0 ≤ 1048575) (kz_0_15 : 0 ≤ from_0 ∧ from_0 ≤ 2000) : zOP0 (limit_0) (pos_0) (kind_0) (place_0) (value_0) (from_0) (fault_0) (faultPlace_0) (r_0) (tape_0) (all_0) (x3) (x4) := by
  first
    | exact Or.inr (rsq_of ‹zT0p _ _ _ _ _ _ _ _› ‹TKR _ _ _ _ _ _ _ _›)
    | exact Or.inl (fs_w ‹FSX _ _ _ _› ‹ZH0 _› (by assumption))
    | exact Or.inl (or_l ‹zONo _ _ _ _ _ _ _ _ _ _ _ _ _› (fun q => by have := ndq_0 q; omega))
def o_Mo_need_at_go_3 : or_T := (32, 8, [(0, (2, 0, 0, [165])), (2, (0, 0, 2000, [])), (3, (0, 0, 7, [])), (4, (0, 0, 4, [])), (7, (0, 0, 2000, []))], [(23, [2, 7], [-1, 1, -1]), (20, [0, 3, 4, 7], [60, 3, 2, 988, 10, 8, 5, 1, 2]), (20, [0, 0], [30, 0, 1, 1, 15, -1, 1, 11]), (20, [0], [50, 3, 0, 12, 11, 15, 2, 21, 4, 7, 1, 3, 2, 0, 12, 0, 1, 0, 3, 2, 0, 11, 4, 3, 2, 0, 15, 0, 8, 3, 7, 1, 3, 2, 0, 12, 0, 0, 0, 7, 4, 3, 2, 0, 15, 0, 1, 2, 0, 11]), (20, [7, 0], [30, 0, 1, 0, 0, -1, 1, 15]), (20, [0, 7], [60, 6, 1, 948, 10, 11, 12, 13, 14, 15, 1])], [], [], [(20, [2, 0], [30, 0, 1, 0, 0, -1, 1, 11]), (20, [0, 2], [50, 2, 0, 8, 11, 3, 7, 0, 2, 0, 1, 2, 0, 8, 0, 6, 4, 2, 1, 1, 0, 1, 2, 0, 11]), (20, [0, 3, 4], [60, 9, 2, 1023, 10, 11, 12, 13, 14, 15, 8, 9, 5, 1, 2])], [], [])
theorem oo_Mo_need_at_go_3 {kA : Nat → ClassId} : or_ok PRD kA GG o_Mo_need_at_go_3 := by
  refine or_mk fun A ta ws vs hD hth hl => ?_
  intro t0 r0 t2 k2 t3 k3 t4 k4 t7 k7 f1 f2 f3 f4 f5 f6
  have cr_0_1 := fdq_39 hD hth r0
  have hK_0_1 := elq_7 hD hth cr_0_1
  have kz_0_8 := fdq_34 hD hth r0
  have kz_0_9 := fdq_44 hD hth r0
  have kz_0_10 := fdq_43 hD hth r0
  have kz_0_11 := fdq_237 hD hth r0
  have kz_0_12 := fdq_187 hD hth r0
  have kz_0_13 := fdq_238 hD hth r0
  have kz_0_14 := fdq_188 hD hth r0
  have kz_0_15 := fdq_239 hD hth r0
  have nf0 : fc_1 PRD (20, [2, 0], [30, 0, 1, 0, 0, -1, 1, 11]) ws (vs) := ⟨nf_in hl rfl, sgq_1431 (vc_Mo_need_at_go_3_0 (v_iv (n_v vs 2)) (v_iv (n_v vs 7)) (w_ei ws (w_ar ws (n_v vs 0) 1)) (w_fi ws (n_v vs 0) 15) (w_fi ws (n_v vs 0) 11) (w_fi ws (n_v vs 0) 12) k2 k7 (shm_193 f1) (shm_1437 f3) (shm_1438 f4) (shm_1436 f5) hK_0_1 kz_0_11 kz_0_12 kz_0_15)⟩
  have nf1 : fc_1 PRD (20, [0, 2], [50, 2, 0, 8, 11, 3, 7, 0, 2, 0, 1, 2, 0, 8, 0, 6, 4, 2, 1, 1, 0, 1, 2, 0, 11]) ws (vs) := ⟨nf_in hl rfl, sgq_1726 (vc_Mo_need_at_go_3_1 (v_iv (n_v vs 2)) (v_iv (n_v vs 7)) (w_fi ws (n_v vs 0) 8) (w_ei ws (w_ar ws (n_v vs 0) 1)) (w_fi ws (n_v vs 0) 15) (w_fi ws (n_v vs 0) 11) (w_fi ws (n_v vs 0) 12) k2 k7 (shm_193 f1) (shm_1437 f3) (shm_1438 f4) (shm_1436 f5) hK_0_1 kz_0_8 kz_0_11 kz_0_12 kz_0_15)⟩
  have nf2 : fc_1 PRD (20, [0, 3, 4], [60, 9, 2, 1023, 10, 11, 12, 13, 14, 15, 8, 9, 5, 1, 2]) ws (vs) := ⟨nf_in hl rfl, sgq_1730 (vc_Mo_need_at_go_3_2 (v_iv (n_v vs 3)) (v_iv (n_v vs 4)) (v_iv (n_v vs 7)) (w_fi ws (n_v vs 0) 8) (w_ei ws (w_ar ws (n_v vs 0) 1)) (w_ei ws (w_ar ws (n_v vs 0) 2)) (w_fi ws (n_v vs 0) 10) (w_fi ws (n_v vs 0) 5) (w_fi ws (n_v vs 0) 15) (w_fi ws (n_v vs 0) 11) (w_fi ws (n_v vs 0) 12) (w_fi ws (n_v vs 0) 13) (w_fi ws (n_v vs 0) 14) (w_fi ws (n_v vs 0) 9) k3 k4 k7 (shm_1731 f2) (shm_1439 f6) kz_0_8 kz_0_9 kz_0_10 kz_0_11 kz_0_12 kz_0_13 kz_0_14 kz_0_15)⟩
  refine ⟨(fun _ h => (by cases h)), [], trivial, ?_, (fun _ h => (by cases h))⟩
  rw [List.append_nil]
  exact List.forall_mem_cons.mpr ⟨⟨show (20 : Nat) < 100 from by decide, nf0⟩, List.forall_mem_cons.mpr ⟨⟨show (20 : Nat) < 100 from by decide, nf1⟩, List.forall_mem_cons.mpr ⟨⟨show (20 : Nat) < 100 from by decide, nf2⟩, (fun _ h => (by cases h))⟩⟩⟩
set_option maxHeartbeats 4000000 in
theorem vc_Mo_need_at_go_4_0 (x2 : Int) (x5 : Int) (fault_0 : Int) (from_0 : Int) (pos_0 : Int) (kind_0 : Int) (tape_0 : Int → Int) (k2 : 0 ≤ x2 ∧ x2 ≤ 2000) (k5 : 1 ≤ x5 ∧ x5 ≤ 5) (g1 : x5 = fault_0) (f3 : ((kind_0 = 1) → (pos_0 ≤ (from_0 + 8))) ∧ ((kind_0 = 0) ∨ ((from_0 + 1) ≤ pos_0))) (f5 : (1 ≤ fault_0) ∨ ((kind_0 = 0) ∨ ((x2 + 1) ≤ pos_0))) (hK_0_1 : ∀ j : Int, 0 ≤ j → j < 2000 → (-128) ≤ tape_0 j ∧ tape_0 j ≤ 127) (kz_0_8 : 0 ≤ fault_0 ∧ fault_0 ≤ 5) (kz_0_11 : 0 ≤ pos_0 ∧ pos_0 ≤ 2000) (kz_0_12 : 0 ≤ kind_0 ∧ kind_0 ≤ 4) (kz_0_15 : 0 ≤ from_0 ∧ from_0 ≤ 2000) : (1 ≤ fault_0) ∨ ((x2 + 1) ≤ pos_0) := by
  first | with_reducible assumption | ((have f3_c0 := f3.1); (have f3_c1 := f3.2); (try and_intros) <;> first | with_reducible assumption | (clear f3_c0 f3_c1 f3 f5 hK_0_1; omega)) | ((have f3_c0 := f3.1); (have f3_c1 := f3.2); (try and_intros) <;> first | with_reducible assumption | (clear f3_c0 f3_c1 f3 hK_0_1; omega)) | omega
set_option maxHeartbeats 4000000 in
theorem vc_Mo_need_at_go_4_1 (x3 : Int) (x4 : Int) (x5 : Int) (fault_0 : Int) (from_0 : Int) (pos_0 : Int) (kind_0 : Int) (tape_0 : Int → Int) (all_0 : Int → Int) (limit_0 : Int) (place_0 : Int) (value_0 : Int) (faultPlace_0 : Int) (r_0 : Int) (k3 : 0 ≤ x3 ∧ x3 ≤ 7) (k4 : 0 ≤ x4 ∧ x4 ≤ 4) (k5 : 1 ≤ x5 ∧ x5 ≤ 5) (g1 : x5 = fault_0) (f6 : zONo (limit_0) (pos_0) (kind_0) (place_0) (value_0) (from_0) (fault_0) (faultPlace_0) (r_0) (tape_0) (all_0) (x3) (x4)) (kz_0_8 : 0 ≤ fault_0 ∧ fault_0 ≤ 5) (kz_0_9 : 0 ≤ faultPlace_0 ∧ faultPlace_0 ≤ 2000) (kz_0_10 : 0 ≤ limit_0 ∧ limit_0 ≤ 2000) (kz_0_11 : 0 ≤ pos_0 ∧ pos_0 ≤ 2000) (kz_0_12 : 0 ≤ kind_0 ∧ kind_0 ≤ 4) (kz_0_13 : 0 ≤ place_0 ∧ place_0 ≤ 2000) (kz_0_14 : (-49) ≤ value_0 ∧ value_0 ≤ 1048575) (kz_0_15 : 0 ≤ from_0 ∧ from_0 ≤ 2000) : zOP0 (limit_0) (pos_0) (kind_0) (place_0) (value_0) (from_0) (fault_0) (faultPlace_0) (r_0) (tape_0) (all_0) (x3) (x4) := by
  first
    | exact Or.inr (rsq_of ‹zT0p _ _ _ _ _ _ _ _› ‹TKR _ _ _ _ _ _ _ _›)
    | exact Or.inl (fs_w ‹FSX _ _ _ _› ‹ZH0 _› (by assumption))
    | exact Or.inl (or_l ‹zONo _ _ _ _ _ _ _ _ _ _ _ _ _› (fun q => by have := ndq_0 q; omega))
def o_Mo_need_at_go_4 : or_T := (7, 6, [(0, (2, 0, 0, [165])), (2, (0, 0, 2000, [])), (3, (0, 0, 7, [])), (4, (0, 0, 4, [])), (5, (0, 1, 5, []))], [(9, [5, 0], [8]), (20, [0], [50, 3, 0, 12, 11, 15, 2, 21, 4, 7, 1, 3, 2, 0, 12, 0, 1, 0, 3, 2, 0, 11, 4, 3, 2, 0, 15, 0, 8, 3, 7, 1, 3, 2, 0, 12, 0, 0, 0, 7, 4, 3, 2, 0, 15, 0, 1, 2, 0, 11]), (20, [0, 2], [50, 3, 0, 8, 12, 11, 3, 7, 0, 2, 0, 1, 2, 0, 8, 3, 7, 1, 3, 2, 0, 12, 0, 0, 0, 6, 4, 2, 1, 1, 0, 1, 2, 0, 11]), (20, [0, 3, 4], [60, 9, 2, 1021, 10, 11, 12, 13, 14, 15, 8, 9, 5, 1, 2])], [], [], [(20, [0, 2], [50, 2, 0, 8, 11, 3, 7, 0, 2, 0, 1, 2, 0, 8, 0, 6, 4, 2, 1, 1, 0, 1, 2, 0, 11]), (20, [0, 3, 4], [60, 9, 2, 1023, 10, 11, 12, 13, 14, 15, 8, 9, 5, 1, 2])], [], [])
theorem oo_Mo_need_at_go_4 {kA : Nat → ClassId} : or_ok PRD kA GG o_Mo_need_at_go_4 := by
  refine or_mk fun A ta ws vs hD hth hl => ?_
  intro t0 r0 t2 k2 t3 k3 t4 k4 t5 k5 f1 f3 f5 f6
  replace f1 := shm_293 f1
  have cr_0_1 := fdq_39 hD hth r0
  have g1 : v_iv (n_v vs 5) = w_fi ws (n_v vs 0) 8 := congrArg v_iv f1
  have hK_0_1 := elq_7 hD hth cr_0_1
  have kz_0_8 := fdq_34 hD hth r0
  have kz_0_9 := fdq_44 hD hth r0
  have kz_0_10 := fdq_43 hD hth r0
  have kz_0_11 := fdq_237 hD hth r0
  have kz_0_12 := fdq_187 hD hth r0
  have kz_0_13 := fdq_238 hD hth r0
  have kz_0_14 := fdq_188 hD hth r0
  have kz_0_15 := fdq_239 hD hth r0
  have nf0 : fc_1 PRD (20, [0, 2], [50, 2, 0, 8, 11, 3, 7, 0, 2, 0, 1, 2, 0, 8, 0, 6, 4, 2, 1, 1, 0, 1, 2, 0, 11]) ws (vs) := ⟨nf_in hl rfl, sgq_1726 (vc_Mo_need_at_go_4_0 (v_iv (n_v vs 2)) (v_iv (n_v vs 5)) (w_fi ws (n_v vs 0) 8) (w_fi ws (n_v vs 0) 15) (w_fi ws (n_v vs 0) 11) (w_fi ws (n_v vs 0) 12) (w_ei ws (w_ar ws (n_v vs 0) 1)) k2 k5 g1 (shm_1438 f3) (shm_1722 f5) hK_0_1 kz_0_8 kz_0_11 kz_0_12 kz_0_15)⟩
  have nf1 : fc_1 PRD (20, [0, 3, 4], [60, 9, 2, 1023, 10, 11, 12, 13, 14, 15, 8, 9, 5, 1, 2]) ws (vs) := ⟨nf_in hl rfl, sgq_1730 (vc_Mo_need_at_go_4_1 (v_iv (n_v vs 3)) (v_iv (n_v vs 4)) (v_iv (n_v vs 5)) (w_fi ws (n_v vs 0) 8) (w_fi ws (n_v vs 0) 15) (w_fi ws (n_v vs 0) 11) (w_fi ws (n_v vs 0) 12) (w_ei ws (w_ar ws (n_v vs 0) 1)) (w_ei ws (w_ar ws (n_v vs 0) 2)) (w_fi ws (n_v vs 0) 10) (w_fi ws (n_v vs 0) 13) (w_fi ws (n_v vs 0) 14) (w_fi ws (n_v vs 0) 9) (w_fi ws (n_v vs 0) 5) k3 k4 k5 g1 (shm_1729 f6) kz_0_8 kz_0_9 kz_0_10 kz_0_11 kz_0_12 kz_0_13 kz_0_14 kz_0_15)⟩
  refine ⟨(fun _ h => (by cases h)), [], trivial, ?_, (fun _ h => (by cases h))⟩
  rw [List.append_nil]
  exact List.forall_mem_cons.mpr ⟨⟨show (20 : Nat) < 100 from by decide, nf0⟩, List.forall_mem_cons.mpr ⟨⟨show (20 : Nat) < 100 from by decide, nf1⟩, (fun _ h => (by cases h))⟩⟩
def n_Mo_need_at_go_an : List an_T := []
def t_Mo_need_at_go_ct : ct_L := [(1, 457, e_Mo_sign), (1, 460, e_Mo_next), (1, 463, e_Mo_wrong)]
set_option maxRecDepth 100000 in
theorem c_Mo_need_at_go {l : Launch} {D : va_G} {kA : Nat → ClassId} (h_Mo_next : ct_ok PRD l D kA GG y_Mo_next z_Mo_next e_Mo_next) (h_Mo_sign : ct_ok PRD l D kA GG y_Mo_sign z_Mo_sign e_Mo_sign) (h_Mo_wrong : ct_ok PRD l D kA GG y_Mo_wrong z_Mo_wrong e_Mo_wrong) : ct_ok PRD l D kA GG y_Mo_need_at_go z_Mo_need_at_go e_Mo_need_at_go := chk_all_ok (FT := [(413, 13, 8), (428, 13, 13)]) (PT := []) (CT := t_Mo_need_at_go_ct) (KT := []) (NT := []) (AN := n_Mo_need_at_go_an) (OT := [o_Mo_need_at_go_0, o_Mo_need_at_go_1, o_Mo_need_at_go_2, o_Mo_need_at_go_3, o_Mo_need_at_go_4]) 0 200 (List.forall_mem_cons.mpr ⟨oo_Mo_need_at_go_0, List.forall_mem_cons.mpr ⟨oo_Mo_need_at_go_1, List.forall_mem_cons.mpr ⟨oo_Mo_need_at_go_2, List.forall_mem_cons.mpr ⟨oo_Mo_need_at_go_3, List.forall_mem_cons.mpr ⟨oo_Mo_need_at_go_4, List.forall_mem_nil _⟩⟩⟩⟩⟩) (by decide +kernel) ⟨List.forall_mem_cons.mpr ⟨gf_Mo_413, List.forall_mem_cons.mpr ⟨gf_Mo_428, List.forall_mem_nil _⟩⟩, List.forall_mem_nil _, List.forall_mem_cons.mpr ⟨cl_virtual (y := y_Mo_sign) (ci := 13) rfl rfl ⟨_, _, rfl⟩ (by decide +kernel) h_Mo_sign wm_3058 wm_9 wm_3055 wm_3057 wv_13_11 ⟨by decide, by decide, by decide +kernel⟩ (by decide), List.forall_mem_cons.mpr ⟨cl_virtual (y := y_Mo_next) (ci := 13) rfl rfl ⟨_, _, rfl⟩ (by decide +kernel) h_Mo_next wm_2982 wm_9 wm_2979 wm_2981 wv_12_11 ⟨by decide, by decide, by decide +kernel⟩ (by decide), List.forall_mem_cons.mpr ⟨cl_virtual (y := y_Mo_wrong) (ci := 13) rfl rfl ⟨_, _, rfl⟩ (by decide +kernel) h_Mo_wrong wm_3017 wm_9 wm_3014 wm_3016 wv_13_1 ⟨by decide, by decide, by decide +kernel⟩ (by decide), List.forall_mem_nil _⟩⟩⟩, List.forall_mem_nil _, List.forall_mem_nil _, GG_pl⟩ (by decide +kernel)
set_option maxHeartbeats 4000000 in
theorem vc_Mo_need_at_gs_0_0 (x1 : Int) (x3 : Int) (x4 : Int) (x5 : Int) (x6 : Int) (x7 : Int) (x8 : Int) (place_0 : Int) (kind_0 : Int) (fault_0 : Int) (value_0 : Int) (from_0 : Int) (pos_0 : Int) (tape_0 : Int → Int) (all_0 : Int → Int) (limit_0 : Int) (faultPlace_0 : Int) (r_0 : Int) (k1 : 59 ≤ x1 ∧ x1 ≤ 59) (k3 : 0 ≤ x3 ∧ x3 ≤ 7) (k4 : 0 ≤ x4 ∧ x4 ≤ 4) (k5 : 0 ≤ x5 ∧ x5 ≤ 0) (k6 : 0 ≤ x6 ∧ x6 ≤ 0) (k7 : 1 ≤ x7 ∧ x7 ≤ 1) (k8 : 0 ≤ x8 ∧ x8 ≤ 2000) (g0 : x8 = place_0) (f1 : x6 = 0) (f3 : SGQ (fault_0) (kind_0) (value_0) (x1) (x6)) (g5 : x5 = fault_0) (f10 : zONs (limit_0) (pos_0) (kind_0) (place_0) (value_0) (from_0) (fault_0) (faultPlace_0) (r_0) (tape_0) (all_0) (x3) (x4)) (kz_0_8 : 0 ≤ fault_0 ∧ fault_0 ≤ 5) (kz_0_9 : 0 ≤ faultPlace_0 ∧ faultPlace_0 ≤ 2000) (kz_0_10 : 0 ≤ limit_0 ∧ limit_0 ≤ 2000) (kz_0_11 : 0 ≤ pos_0 ∧ pos_0 ≤ 2000) (kz_0_12 : 0 ≤ kind_0 ∧ kind_0 ≤ 4) (kz_0_13 : 0 ≤ place_0 ∧ place_0 ≤ 2000) (kz_0_14 : (-49) ≤ value_0 ∧ value_0 ≤ 1048575) (kz_0_15 : 0 ≤ from_0 ∧ from_0 ≤ 2000) : FSX (limit_0) (tape_0) (x7) (x8) := by
  first
    | exact fsx_cg (ndq_flt (or_r ‹zONs _ _ _ _ _ _ _ _ _ _ _ _ _› (fs_n (by omega))) (sgq_f ‹SGQ _ _ _ _ _› (by omega) (by omega) (by omega))) (by omega) (by omega)
    | exact fsx_cg (ndq_flt (or_r ‹zONo _ _ _ _ _ _ _ _ _ _ _ _ _› (fs_n (by omega))) (sgq_f ‹SGQ _ _ _ _ _› (by omega) (by omega) (by omega))) (by omega) (by omega)
    | exact fsx_cg (ndq_flt (or_r ‹zONew _ _ _ _ _ _ _ _ _ _ _ _ _ _› (fs_n (by omega))) (sgq_f ‹SGQ _ _ _ _ _› (by omega) (by omega) (by omega))) (by omega) (by omega)
    | exact fsx_cg (ndq_flt (or_r ‹zONes _ _ _ _ _ _ _ _ _ _ _ _ _ _› (fs_n (by omega))).2 (sgq_f ‹SGQ _ _ _ _ _› (by omega) (by omega) (by omega))) (by omega) (by omega)
    | (exfalso; have h := or_r ‹zNc _ _ _ _ _ _ _ _ _ _ _ _ _› (fs_n (by omega)); exact sgq_f (C := 125) ‹SGQ _ _ _ _ _› (by omega) (by omega) (by omega) ⟨h.1, h.2.1⟩)
    | (exfalso; exact sgq_f (C := 93) ‹SGQ _ _ _ _ _› (by omega) (by omega) (by omega) ⟨(‹zNbs _ _ _ _ _ _ _ _ _ _ _ _ _ _›).2.1, (‹zNbs _ _ _ _ _ _ _ _ _ _ _ _ _ _›).2.2⟩)
    | (exfalso; exact sgq_f (C := 93) ‹SGQ _ _ _ _ _› (by omega) (by omega) (by omega) ⟨(‹zNbw _ _ _ _ _ _ _ _ _ _ _ _ _ _›).2.1, (‹zNbw _ _ _ _ _ _ _ _ _ _ _ _ _ _›).2.2⟩)
set_option maxHeartbeats 4000000 in
theorem vc_Mo_need_at_gs_0_1 (x2 : Int) (x5 : Int) (x6 : Int) (kind_0 : Int) (fault_0 : Int) (from_0 : Int) (pos_0 : Int) (tape_0 : Int → Int) (gx : Int) (k2 : 0 ≤ x2 ∧ x2 ≤ 2000) (k5 : 0 ≤ x5 ∧ x5 ≤ 0) (k6 : 0 ≤ x6 ∧ x6 ≤ 0) (f2 : (x6 = 1) → ((kind_0 = 3) ∧ (fault_0 = 0))) (g5 : x5 = fault_0) (f7 : ((kind_0 = 1) → (pos_0 ≤ (from_0 + 8))) ∧ ((kind_0 = 0) ∨ ((from_0 + 1) ≤ pos_0))) (f9 : (1 ≤ fault_0) ∨ ((kind_0 = 0) ∨ ((x2 + 1) ≤ pos_0))) (hK_0_1 : ∀ j : Int, 0 ≤ j → j < 2000 → (-128) ≤ tape_0 j ∧ tape_0 j ≤ 127) (kz_0_8 : 0 ≤ fault_0 ∧ fault_0 ≤ 5) (kz_0_11 : 0 ≤ pos_0 ∧ pos_0 ≤ 2000) (kz_0_12 : 0 ≤ kind_0 ∧ kind_0 ≤ 4) (kz_0_15 : 0 ≤ from_0 ∧ from_0 ≤ 2000) (ex2 : gx = fault_0) : 1 * fault_0 + ((-1) * gx + 0) ≤ 0 := by
  first | with_reducible assumption | ((have f7_c0 := f7.1); (have f7_c1 := f7.2); (try and_intros) <;> first | with_reducible assumption | (clear f7_c0 f7_c1 f7 f9 hK_0_1 f2; omega)) | ((have f7_c0 := f7.1); (have f7_c1 := f7.2); (first | have f2_b := f2 (by clear f7_c0 f7_c1 f7 f9 hK_0_1 f2; omega) | skip); (first | have f2_d := f2 (by with_reducible assumption) | skip); (try and_intros) <;> first | with_reducible assumption | (clear f7_c0 f7_c1 f7 f9 hK_0_1 f2; omega)) | ((have f7_c0 := f7.1); (have f7_c1 := f7.2); (first | have f2_b := f2 (by clear f7_c0 f7_c1 f7 f9 hK_0_1 f2; omega) | skip); (first | have f2_d := f2 (by with_reducible assumption) | skip); (try and_intros) <;> first | with_reducible assumption | (clear f7_c0 f7_c1 f7 hK_0_1 f2; omega)) | omega
set_option maxHeartbeats 4000000 in
theorem vc_Mo_need_at_gs_0_2 (x2 : Int) (x5 : Int) (x6 : Int) (kind_0 : Int) (fault_0 : Int) (from_0 : Int) (pos_0 : Int) (tape_0 : Int → Int) (gx : Int) (k2 : 0 ≤ x2 ∧ x2 ≤ 2000) (k5 : 0 ≤ x5 ∧ x5 ≤ 0) (k6 : 0 ≤ x6 ∧ x6 ≤ 0) (f2 : (x6 = 1) → ((kind_0 = 3) ∧ (fault_0 = 0))) (g5 : x5 = fault_0) (f7 : ((kind_0 = 1) → (pos_0 ≤ (from_0 + 8))) ∧ ((kind_0 = 0) ∨ ((from_0 + 1) ≤ pos_0))) (f9 : (1 ≤ fault_0) ∨ ((kind_0 = 0) ∨ ((x2 + 1) ≤ pos_0))) (hK_0_1 : ∀ j : Int, 0 ≤ j → j < 2000 → (-128) ≤ tape_0 j ∧ tape_0 j ≤ 127) (kz_0_8 : 0 ≤ fault_0 ∧ fault_0 ≤ 5) (kz_0_11 : 0 ≤ pos_0 ∧ pos_0 ≤ 2000) (kz_0_12 : 0 ≤ kind_0 ∧ kind_0 ≤ 4) (kz_0_15 : 0 ≤ from_0 ∧ from_0 ≤ 2000) (ex2 : gx = fault_0) : (-1) * fault_0 + (1 * gx + 0) ≤ 0 := by
  first | with_reducible assumption | ((have f7_c0 := f7.1); (have f7_c1 := f7.2); (try and_intros) <;> first | with_reducible assumption | (clear f7_c0 f7_c1 f7 f9 hK_0_1 f2; omega)) | ((have f7_c0 := f7.1); (have f7_c1 := f7.2); (first | have f2_b := f2 (by clear f7_c0 f7_c1 f7 f9 hK_0_1 f2; omega) | skip); (first | have f2_d := f2 (by with_reducible assumption) | skip); (try and_intros) <;> first | with_reducible assumption | (clear f7_c0 f7_c1 f7 f9 hK_0_1 f2; omega)) | ((have f7_c0 := f7.1); (have f7_c1 := f7.2); (first | have f2_b := f2 (by clear f7_c0 f7_c1 f7 f9 hK_0_1 f2; omega) | skip); (first | have f2_d := f2 (by with_reducible assumption) | skip); (try and_intros) <;> first | with_reducible assumption | (clear f7_c0 f7_c1 f7 hK_0_1 f2; omega)) | omega
set_option maxHeartbeats 4000000 in
theorem vc_Mo_need_at_gs_0_3 (x5 : Int) (fault_0 : Int) (gx : Int) (k5 : 0 ≤ x5 ∧ x5 ≤ 0) (g5 : x5 = fault_0) (kz_0_8 : 0 ≤ fault_0 ∧ fault_0 ≤ 5) (ex2 : gx = fault_0) : ZH0 (gx) := by
  exact ⟨by omega, by omega, trivial⟩
def o_Mo_need_at_gs_0 : or_T := (29, 9, [(0, (2, 0, 0, [165])), (1, (0, 59, 59, [])), (2, (0, 0, 2000, [])), (3, (0, 0, 7, [])), (4, (0, 0, 4, [])), (5, (0, 0, 0, [])), (6, (0, 0, 0, [])), (7, (0, 1, 1, [])), (8, (0, 0, 2000, []))], [(9, [8, 0], [13]), (8, [6], [0]), (20, [6, 0], [50, 2, 0, 1012, 1008, 4, 6, 1, 2, 1, 0, 0, 1, 2, 7, 1, 3, 2, 1, 12, 0, 3, 1, 3, 2, 1, 8, 0, 0]), (20, [0, 1, 6], [60, 3, 0, 963, 8, 12, 14]), (9, [5, 0], [8]), (20, [0], [50, 3, 0, 12, 11, 15, 2, 21, 4, 7, 1, 3, 2, 0, 12, 0, 1, 0, 3, 2, 0, 11, 4, 3, 2, 0, 15, 0, 8, 3, 7, 1, 3, 2, 0, 12, 0, 0, 0, 7, 4, 3, 2, 0, 15, 0, 1, 2, 0, 11]), (20, [0, 2], [50, 3, 0, 8, 12, 11, 3, 7, 0, 2, 0, 1, 2, 0, 8, 3, 7, 1, 3, 2, 0, 12, 0, 0, 0, 6, 4, 2, 1, 1, 0, 1, 2, 0, 11]), (20, [0, 3, 4], [60, 9, 2, 1018, 10, 11, 12, 13, 14, 15, 8, 9, 5, 1, 2])], [], [(0, 0, 5, [])], [(20, [0, 7, 8], [60, 1, 1, 1026, 10, 1]), (20, [0, 9], [30, 0, 1, 1, 8, -1, 0, 0]), (20, [0, 9], [30, 0, -1, 1, 8, 1, 0, 0]), (20, [9], [61, 0, 1029])], [], [])
theorem oo_Mo_need_at_gs_0 {kA : Nat → ClassId} : or_ok PRD kA GG o_Mo_need_at_gs_0 := by
  refine or_mk fun A ta ws vs hD hth hl => ?_
  intro t0 r0 t1 k1 t2 k2 t3 k3 t4 k4 t5 k5 t6 k6 t7 k7 t8 k8 f0 f1 f2 f3 f5 f7 f9 f10
  replace f0 := shm_361 f0
  replace f1 := shm_192 f1
  replace f2 := shm_730 f2
  replace f3 := shm_731 f3
  replace f5 := shm_293 f5
  replace f7 := shm_1438 f7
  replace f9 := shm_1722 f9
  replace f10 := shm_1732 f10
  have cr_0_1 := fdq_39 hD hth r0
  have g0 : v_iv (n_v vs 8) = w_fi ws (n_v vs 0) 13 := congrArg v_iv f0
  have g5 : v_iv (n_v vs 5) = w_fi ws (n_v vs 0) 8 := congrArg v_iv f5
  have hK_0_1 := elq_7 hD hth cr_0_1
  have kz_0_8 := fdq_34 hD hth r0
  have kz_0_9 := fdq_44 hD hth r0
  have kz_0_10 := fdq_43 hD hth r0
  have kz_0_11 := fdq_237 hD hth r0
  have kz_0_12 := fdq_187 hD hth r0
  have kz_0_13 := fdq_238 hD hth r0
  have kz_0_14 := fdq_188 hD hth r0
  have kz_0_15 := fdq_239 hD hth r0
  obtain ⟨x, ex, hx⟩ := iv_ex (ta := ta) (lo := 0) (hi := 5) (z := w_fi ws (n_v vs 0) 8) (by omega) (by omega) (by omega) (by omega)
  have ex2 : v_iv (Value.int x) = w_fi ws (n_v vs 0) 8 := ex
  have ex3 : 0 ≤ v_iv (Value.int x) ∧ v_iv (Value.int x) ≤ 5 := tv_rng hx
  have e_0 : n_v (vs ++ [Value.int x]) 0 = n_v vs 0 := n_v_old (by rw [hl]; decide)
  have e_7 : n_v (vs ++ [Value.int x]) 7 = n_v vs 7 := n_v_old (by rw [hl]; decide)
  have e_8 : n_v (vs ++ [Value.int x]) 8 = n_v vs 8 := n_v_old (by rw [hl]; decide)
  have e_9 : n_v (vs ++ [Value.int x]) 9 = Value.int x := n_v_new hl
  have nf0 : fc_1 PRD (20, [0, 7, 8], [60, 1, 1, 1026, 10, 1]) ws (vs ++ [Value.int x]) := by
    refine ⟨nf_inA hl rfl, sgq_1724 ?_⟩
    · show FSX (w_fi ws (n_v (vs ++ [Value.int x]) 0) 10) (w_ei ws (w_ar ws (n_v (vs ++ [Value.int x]) 0) 1)) (v_iv (n_v (vs ++ [Value.int x]) 7)) (v_iv (n_v (vs ++ [Value.int x]) 8))
      simp only [e_0, e_7, e_8]
      exact vc_Mo_need_at_gs_0_0 (v_iv (n_v vs 1)) (v_iv (n_v vs 3)) (v_iv (n_v vs 4)) (v_iv (n_v vs 5)) (v_iv (n_v vs 6)) (v_iv (n_v vs 7)) (v_iv (n_v vs 8)) (w_fi ws (n_v vs 0) 13) (w_fi ws (n_v vs 0) 12) (w_fi ws (n_v vs 0) 8) (w_fi ws (n_v vs 0) 14) (w_fi ws (n_v vs 0) 15) (w_fi ws (n_v vs 0) 11) (w_ei ws (w_ar ws (n_v vs 0) 1)) (w_ei ws (w_ar ws (n_v vs 0) 2)) (w_fi ws (n_v vs 0) 10) (w_fi ws (n_v vs 0) 9) (w_fi ws (n_v vs 0) 5) k1 k3 k4 k5 k6 k7 k8 g0 f1 f3 g5 f10 kz_0_8 kz_0_9 kz_0_10 kz_0_11 kz_0_12 kz_0_13 kz_0_14 kz_0_15
  have nf1 : fc_1 PRD (20, [0, 9], [30, 0, 1, 1, 8, -1, 0, 0]) ws (vs ++ [Value.int x]) := by
    refine ⟨nf_inA hl rfl, sgq_303 ?_⟩
    · show 1 * w_fi ws (n_v (vs ++ [Value.int x]) 0) 8 + ((-1) * v_iv (n_v (vs ++ [Value.int x]) 9) + 0) ≤ 0
      simp only [e_0, e_9]
      exact vc_Mo_need_at_gs_0_1 (v_iv (n_v vs 2)) (v_iv (n_v vs 5)) (v_iv (n_v vs 6)) (w_fi ws (n_v vs 0) 12) (w_fi ws (n_v vs 0) 8) (w_fi ws (n_v vs 0) 15) (w_fi ws (n_v vs 0) 11) (w_ei ws (w_ar ws (n_v vs 0) 1)) (v_iv (Value.int x)) k2 k5 k6 f2 g5 f7 f9 hK_0_1 kz_0_8 kz_0_11 kz_0_12 kz_0_15 ex2
  have nf2 : fc_1 PRD (20, [0, 9], [30, 0, -1, 1, 8, 1, 0, 0]) ws (vs ++ [Value.int x]) := by
    refine ⟨nf_inA hl rfl, sgq_304 ?_⟩
    · show (-1) * w_fi ws (n_v (vs ++ [Value.int x]) 0) 8 + (1 * v_iv (n_v (vs ++ [Value.int x]) 9) + 0) ≤ 0
      simp only [e_0, e_9]
      exact vc_Mo_need_at_gs_0_2 (v_iv (n_v vs 2)) (v_iv (n_v vs 5)) (v_iv (n_v vs 6)) (w_fi ws (n_v vs 0) 12) (w_fi ws (n_v vs 0) 8) (w_fi ws (n_v vs 0) 15) (w_fi ws (n_v vs 0) 11) (w_ei ws (w_ar ws (n_v vs 0) 1)) (v_iv (Value.int x)) k2 k5 k6 f2 g5 f7 f9 hK_0_1 kz_0_8 kz_0_11 kz_0_12 kz_0_15 ex2
  have nf3 : fc_1 PRD (20, [9], [61, 0, 1029]) ws (vs ++ [Value.int x]) := by
    refine ⟨nf_inA hl rfl, sgq_1725 ?_⟩
    · show ZH0 (v_iv (n_v (vs ++ [Value.int x]) 9))
      rw [e_9]
      exact vc_Mo_need_at_gs_0_3 (v_iv (n_v vs 5)) (w_fi ws (n_v vs 0) 8) (v_iv (Value.int x)) k5 g5 kz_0_8 ex2
  exact ⟨(fun _ h => (by cases h)), [Value.int x], ag_one hx, List.forall_mem_cons.mpr ⟨⟨show (20 : Nat) < 100 from by decide, nf0⟩, List.forall_mem_cons.mpr ⟨⟨show (20 : Nat) < 100 from by decide, nf1⟩, List.forall_mem_cons.mpr ⟨⟨show (20 : Nat) < 100 from by decide, nf2⟩, List.forall_mem_cons.mpr ⟨⟨show (20 : Nat) < 100 from by decide, nf3⟩, (fun _ h => (by cases h))⟩⟩⟩⟩, (fun _ h => (by cases h))⟩
set_option maxHeartbeats 4000000 in
theorem vc_Mo_need_at_gs_1_0 (x2 : Int) (x7 : Int) (x8 : Int) (x9 : Int) (tape_0 : Int → Int) (from_0 : Int) (pos_0 : Int) (kind_0 : Int) (fault_0 : Int) (faultPlace_0 : Int) (k2 : 0 ≤ x2 ∧ x2 ≤ 2000) (k7 : 1 ≤ x7 ∧ x7 ≤ 1) (k8 : 0 ≤ x8 ∧ x8 ≤ 2000) (k9 : 0 ≤ x9 ∧ x9 ≤ 5) (f4 : ((kind_0 = 1) → (pos_0 ≤ (from_0 + 8))) ∧ ((kind_0 = 0) ∨ ((from_0 + 1) ≤ pos_0))) (f6 : (-1) * fault_0 + 0 ≤ (-1)) (f7 : ((1 ≤ x9) ∧ (fault_0 = x9)) ∨ ((x9 = 0) ∧ ((fault_0 = x7) ∧ (faultPlace_0 = x8)))) (hK_0_1 : ∀ j : Int, 0 ≤ j → j < 2000 → (-128) ≤ tape_0 j ∧ tape_0 j ≤ 127) (kz_0_8 : 0 ≤ fault_0 ∧ fault_0 ≤ 5) (kz_0_9 : 0 ≤ faultPlace_0 ∧ faultPlace_0 ≤ 2000) (kz_0_11 : 0 ≤ pos_0 ∧ pos_0 ≤ 2000) (kz_0_12 : 0 ≤ kind_0 ∧ kind_0 ≤ 4) (kz_0_15 : 0 ≤ from_0 ∧ from_0 ≤ 2000) : (1 ≤ fault_0) ∨ ((x2 + 1) ≤ pos_0) := by
  first | with_reducible assumption | ((have f4_c0 := f4.1); (have f4_c1 := f4.2); (try and_intros) <;> first | with_reducible assumption | (clear f4_c0 f4_c1 f4 f7 hK_0_1; omega)) | ((have f4_c0 := f4.1); (have f4_c1 := f4.2); (try and_intros) <;> first | with_reducible assumption | (clear f4_c0 f4_c1 f4 hK_0_1; omega)) | omega
set_option maxHeartbeats 4000000 in
theorem vc_Mo_need_at_gs_1_1 (x3 : Int) (x4 : Int) (x7 : Int) (x8 : Int) (x9 : Int) (place_0 : Int) (tape_0 : Int → Int) (limit_0 : Int) (from_0 : Int) (pos_0 : Int) (kind_0 : Int) (fault_0 : Int) (faultPlace_0 : Int) (value_0 : Int) (all_0 : Int → Int) (r_0 : Int) (k3 : 0 ≤ x3 ∧ x3 ≤ 7) (k4 : 0 ≤ x4 ∧ x4 ≤ 4) (k7 : 1 ≤ x7 ∧ x7 ≤ 1) (k8 : 0 ≤ x8 ∧ x8 ≤ 2000) (k9 : 0 ≤ x9 ∧ x9 ≤ 5) (f1 : FSX (limit_0) (tape_0) (x7) (x8)) (f2 : ZH0 (x9)) (f7 : ((1 ≤ x9) ∧ (fault_0 = x9)) ∨ ((x9 = 0) ∧ ((fault_0 = x7) ∧ (faultPlace_0 = x8)))) (kz_0_8 : 0 ≤ fault_0 ∧ fault_0 ≤ 5) (kz_0_9 : 0 ≤ faultPlace_0 ∧ faultPlace_0 ≤ 2000) (kz_0_10 : 0 ≤ limit_0 ∧ limit_0 ≤ 2000) (kz_0_11 : 0 ≤ pos_0 ∧ pos_0 ≤ 2000) (kz_0_12 : 0 ≤ kind_0 ∧ kind_0 ≤ 4) (kz_0_13 : 0 ≤ place_0 ∧ place_0 ≤ 2000) (kz_0_14 : (-49) ≤ value_0 ∧ value_0 ≤ 1048575) (kz_0_15 : 0 ≤ from_0 ∧ from_0 ≤ 2000) : zOS0 (limit_0) (pos_0) (kind_0) (place_0) (value_0) (from_0) (fault_0) (faultPlace_0) (r_0) (tape_0) (all_0) (x3) (x4) := by
  first
    | exact Or.inr (rsq_of ‹zTS0 _ _ _ _ _ _ _ _› ‹TKR _ _ _ _ _ _ _ _›)
    | exact Or.inl (fs_w ‹FSX _ _ _ _› ‹ZH0 _› (by assumption))
    | exact Or.inl (or_l ‹zONs _ _ _ _ _ _ _ _ _ _ _ _ _› (fun q => by have := ndq_0 q; omega))
    | exact Or.inl (or_l ‹zNc _ _ _ _ _ _ _ _ _ _ _ _ _› (fun q => by have := ndq_0 q.2.2; omega))
def o_Mo_need_at_gs_1 : or_T := (32, 10, [(0, (2, 0, 0, [165])), (2, (0, 0, 2000, [])), (3, (0, 0, 7, [])), (4, (0, 0, 4, [])), (7, (0, 1, 1, [])), (8, (0, 0, 2000, [])), (9, (0, 0, 5, []))], [(20, [0, 7, 8], [60, 1, 1, 1026, 10, 1]), (20, [9], [61, 0, 1029]), (20, [0], [50, 3, 0, 12, 11, 15, 2, 21, 4, 7, 1, 3, 2, 0, 12, 0, 1, 0, 3, 2, 0, 11, 4, 3, 2, 0, 15, 0, 8, 3, 7, 1, 3, 2, 0, 12, 0, 0, 0, 7, 4, 3, 2, 0, 15, 0, 1, 2, 0, 11]), (20, [0], [30, -1, -1, 1, 8]), (20, [9, 0, 7, 8], [50, 2, 0, 1008, 1009, 3, 15, 2, 6, 0, 2, 0, 1, 1, 0, 1, 3, 2, 1, 8, 1, 0, 2, 6, 1, 2, 1, 0, 0, 0, 2, 7, 1, 3, 2, 1, 8, 1, 2, 1, 3, 2, 1, 9, 1, 3])], [], [], [(20, [0, 2], [50, 2, 0, 8, 11, 3, 7, 0, 2, 0, 1, 2, 0, 8, 0, 6, 4, 2, 1, 1, 0, 1, 2, 0, 11]), (20, [0, 3, 4], [60, 9, 2, 1007, 10, 11, 12, 13, 14, 15, 8, 9, 5, 1, 2])], [], [])
theorem oo_Mo_need_at_gs_1 {kA : Nat → ClassId} : or_ok PRD kA GG o_Mo_need_at_gs_1 := by
  refine or_mk fun A ta ws vs hD hth hl => ?_
  intro t0 r0 t2 k2 t3 k3 t4 k4 t7 k7 t8 k8 t9 k9 f1 f2 f4 f6 f7
  have cr_0_1 := fdq_39 hD hth r0
  have hK_0_1 := elq_7 hD hth cr_0_1
  have kz_0_8 := fdq_34 hD hth r0
  have kz_0_9 := fdq_44 hD hth r0
  have kz_0_10 := fdq_43 hD hth r0
  have kz_0_11 := fdq_237 hD hth r0
  have kz_0_12 := fdq_187 hD hth r0
  have kz_0_13 := fdq_238 hD hth r0
  have kz_0_14 := fdq_188 hD hth r0
  have kz_0_15 := fdq_239 hD hth r0
  have nf0 : fc_1 PRD (20, [0, 2], [50, 2, 0, 8, 11, 3, 7, 0, 2, 0, 1, 2, 0, 8, 0, 6, 4, 2, 1, 1, 0, 1, 2, 0, 11]) ws (vs) := ⟨nf_in hl rfl, sgq_1726 (vc_Mo_need_at_gs_1_0 (v_iv (n_v vs 2)) (v_iv (n_v vs 7)) (v_iv (n_v vs 8)) (v_iv (n_v vs 9)) (w_ei ws (w_ar ws (n_v vs 0) 1)) (w_fi ws (n_v vs 0) 15) (w_fi ws (n_v vs 0) 11) (w_fi ws (n_v vs 0) 12) (w_fi ws (n_v vs 0) 8) (w_fi ws (n_v vs 0) 9) k2 k7 k8 k9 (shm_1438 f4) (shm_305 f6) (shm_306 f7) hK_0_1 kz_0_8 kz_0_9 kz_0_11 kz_0_12 kz_0_15)⟩
  have nf1 : fc_1 PRD (20, [0, 3, 4], [60, 9, 2, 1007, 10, 11, 12, 13, 14, 15, 8, 9, 5, 1, 2]) ws (vs) := ⟨nf_in hl rfl, sgq_1727 (vc_Mo_need_at_gs_1_1 (v_iv (n_v vs 3)) (v_iv (n_v vs 4)) (v_iv (n_v vs 7)) (v_iv (n_v vs 8)) (v_iv (n_v vs 9)) (w_fi ws (n_v vs 0) 13) (w_ei ws (w_ar ws (n_v vs 0) 1)) (w_fi ws (n_v vs 0) 10) (w_fi ws (n_v vs 0) 15) (w_fi ws (n_v vs 0) 11) (w_fi ws (n_v vs 0) 12) (w_fi ws (n_v vs 0) 8) (w_fi ws (n_v vs 0) 9) (w_fi ws (n_v vs 0) 14) (w_ei ws (w_ar ws (n_v vs 0) 2)) (w_fi ws (n_v vs 0) 5) k3 k4 k7 k8 k9 (shm_1724 f1) (shm_1725 f2) (shm_306 f7) kz_0_8 kz_0_9 kz_0_10 kz_0_11 kz_0_12 kz_0_13 kz_0_14 kz_0_15)⟩
  refine ⟨(fun _ h => (by cases h)), [], trivial, ?_, (fun _ h => (by cases h))⟩
  rw [List.append_nil]
  exact List.forall_mem_cons.mpr ⟨⟨show (20 : Nat) < 100 from by decide, nf0⟩, List.forall_mem_cons.mpr ⟨⟨show (20 : Nat) < 100 from by decide, nf1⟩, (fun _ h => (by cases h))⟩⟩
set_option maxHeartbeats 4000000 in
theorem vc_Mo_need_at_gs_2_0 (x2 : Int) (x6 : Int) (kind_0 : Int) (fault_0 : Int) (from_0 : Int) (pos_0 : Int) (tape_0 : Int → Int) (gx : Int) (k2 : 0 ≤ x2 ∧ x2 ≤ 2000) (k6 : 1 ≤ x6 ∧ x6 ≤ 1) (f1 : (x6 = 1) → ((kind_0 = 3) ∧ (fault_0 = 0))) (f6 : ((kind_0 = 1) → (pos_0 ≤ (from_0 + 8))) ∧ ((kind_0 = 0) ∨ ((from_0 + 1) ≤ pos_0))) (f8 : (1 ≤ fault_0) ∨ ((kind_0 = 0) ∨ ((x2 + 1) ≤ pos_0))) (hK_0_1 : ∀ j : Int, 0 ≤ j → j < 2000 → (-128) ≤ tape_0 j ∧ tape_0 j ≤ 127) (kz_0_8 : 0 ≤ fault_0 ∧ fault_0 ≤ 5) (kz_0_11 : 0 ≤ pos_0 ∧ pos_0 ≤ 2000) (kz_0_12 : 0 ≤ kind_0 ∧ kind_0 ≤ 4) (kz_0_15 : 0 ≤ from_0 ∧ from_0 ≤ 2000) (ex2 : gx = pos_0) : 1 * gx + ((-1) * pos_0 + 0) ≤ 0 := by
  first | with_reducible assumption | ((have f6_c0 := f6.1); (have f6_c1 := f6.2); (try and_intros) <;> first | with_reducible assumption | (clear f6_c0 f6_c1 f6 f8 hK_0_1 f1; omega)) | ((have f6_c0 := f6.1); (have f6_c1 := f6.2); (first | have f1_b := f1 (by clear f6_c0 f6_c1 f6 f8 hK_0_1 f1; omega) | skip); (first | have f1_d := f1 (by with_reducible assumption) | skip); (try and_intros) <;> first | with_reducible assumption | (clear f6_c0 f6_c1 f6 f8 hK_0_1 f1; omega)) | ((have f6_c0 := f6.1); (have f6_c1 := f6.2); (first | have f1_b := f1 (by clear f6_c0 f6_c1 f6 f8 hK_0_1 f1; omega) | skip); (first | have f1_d := f1 (by with_reducible assumption) | skip); (try and_intros) <;> first | with_reducible assumption | (clear f6_c0 f6_c1 f6 hK_0_1 f1; omega)) | omega
set_option maxHeartbeats 4000000 in
theorem vc_Mo_need_at_gs_2_1 (x2 : Int) (x6 : Int) (kind_0 : Int) (fault_0 : Int) (from_0 : Int) (pos_0 : Int) (tape_0 : Int → Int) (gx : Int) (k2 : 0 ≤ x2 ∧ x2 ≤ 2000) (k6 : 1 ≤ x6 ∧ x6 ≤ 1) (f1 : (x6 = 1) → ((kind_0 = 3) ∧ (fault_0 = 0))) (f6 : ((kind_0 = 1) → (pos_0 ≤ (from_0 + 8))) ∧ ((kind_0 = 0) ∨ ((from_0 + 1) ≤ pos_0))) (f8 : (1 ≤ fault_0) ∨ ((kind_0 = 0) ∨ ((x2 + 1) ≤ pos_0))) (hK_0_1 : ∀ j : Int, 0 ≤ j → j < 2000 → (-128) ≤ tape_0 j ∧ tape_0 j ≤ 127) (kz_0_8 : 0 ≤ fault_0 ∧ fault_0 ≤ 5) (kz_0_11 : 0 ≤ pos_0 ∧ pos_0 ≤ 2000) (kz_0_12 : 0 ≤ kind_0 ∧ kind_0 ≤ 4) (kz_0_15 : 0 ≤ from_0 ∧ from_0 ≤ 2000) (ex2 : gx = pos_0) : gx = pos_0 := by
  first | with_reducible assumption | ((have f6_c0 := f6.1); (have f6_c1 := f6.2); (try and_intros) <;> first | with_reducible assumption | (clear f6_c0 f6_c1 f6 f8 hK_0_1 f1; omega)) | ((have f6_c0 := f6.1); (have f6_c1 := f6.2); (first | have f1_b := f1 (by clear f6_c0 f6_c1 f6 f8 hK_0_1 f1; omega) | skip); (first | have f1_d := f1 (by with_reducible assumption) | skip); (try and_intros) <;> first | with_reducible assumption | (clear f6_c0 f6_c1 f6 f8 hK_0_1 f1; omega)) | ((have f6_c0 := f6.1); (have f6_c1 := f6.2); (first | have f1_b := f1 (by clear f6_c0 f6_c1 f6 f8 hK_0_1 f1; omega) | skip); (first | have f1_d := f1 (by with_reducible assumption) | skip); (try and_intros) <;> first | with_reducible assumption | (clear f6_c0 f6_c1 f6 hK_0_1 f1; omega)) | omega
set_option maxHeartbeats 4000000 in
theorem vc_Mo_need_at_gs_2_2 (x3 : Int) (x4 : Int) (x5 : Int) (kind_0 : Int) (fault_0 : Int) (value_0 : Int) (from_0 : Int) (pos_0 : Int) (tape_0 : Int → Int) (all_0 : Int → Int) (limit_0 : Int) (place_0 : Int) (faultPlace_0 : Int) (r_0 : Int) (k3 : 0 ≤ x3 ∧ x3 ≤ 7) (k4 : 0 ≤ x4 ∧ x4 ≤ 4) (k5 : 0 ≤ x5 ∧ x5 ≤ 0) (g4 : x5 = fault_0) (f9 : zONs (limit_0) (pos_0) (kind_0) (place_0) (value_0) (from_0) (fault_0) (faultPlace_0) (r_0) (tape_0) (all_0) (x3) (x4)) (kz_0_8 : 0 ≤ fault_0 ∧ fault_0 ≤ 5) (kz_0_9 : 0 ≤ faultPlace_0 ∧ faultPlace_0 ≤ 2000) (kz_0_10 : 0 ≤ limit_0 ∧ limit_0 ≤ 2000) (kz_0_11 : 0 ≤ pos_0 ∧ pos_0 ≤ 2000) (kz_0_12 : 0 ≤ kind_0 ∧ kind_0 ≤ 4) (kz_0_13 : 0 ≤ place_0 ∧ place_0 ≤ 2000) (kz_0_14 : (-49) ≤ value_0 ∧ value_0 ≤ 1048575) (kz_0_15 : 0 ≤ from_0 ∧ from_0 ≤ 2000) : ZLM (limit_0) (pos_0) := by
  first
    | exact ndq_lim (or_r ‹zONs _ _ _ _ _ _ _ _ _ _ _ _ _› (fs_n (by omega)))
    | exact ndq_lim (or_r ‹zONo _ _ _ _ _ _ _ _ _ _ _ _ _› (fs_n (by omega)))
    | exact ndq_lim (or_r ‹zONew _ _ _ _ _ _ _ _ _ _ _ _ _ _› (fs_n (by omega)))
    | exact ndq_lim (or_r ‹zONes _ _ _ _ _ _ _ _ _ _ _ _ _ _› (fs_n (by omega))).2
    | exact ndq_lim (or_r ‹zNc _ _ _ _ _ _ _ _ _ _ _ _ _› (fs_n (by omega))).2.2
    | exact zlm_r (‹zNbs _ _ _ _ _ _ _ _ _ _ _ _ _ _›).1.2.2
    | exact zlm_r (‹zNbw _ _ _ _ _ _ _ _ _ _ _ _ _ _›).1.2
set_option maxHeartbeats 4000000 in
theorem vc_Mo_need_at_gs_2_3 (x2 : Int) (x5 : Int) (x6 : Int) (kind_0 : Int) (fault_0 : Int) (from_0 : Int) (pos_0 : Int) (tape_0 : Int → Int) (gx : Int) (k2 : 0 ≤ x2 ∧ x2 ≤ 2000) (k5 : 0 ≤ x5 ∧ x5 ≤ 0) (k6 : 1 ≤ x6 ∧ x6 ≤ 1) (f1 : (x6 = 1) → ((kind_0 = 3) ∧ (fault_0 = 0))) (g4 : x5 = fault_0) (f6 : ((kind_0 = 1) → (pos_0 ≤ (from_0 + 8))) ∧ ((kind_0 = 0) ∨ ((from_0 + 1) ≤ pos_0))) (f7 : 1 * x2 + ((-1) * pos_0 + 0) ≤ 0) (f8 : (1 ≤ fault_0) ∨ ((kind_0 = 0) ∨ ((x2 + 1) ≤ pos_0))) (hK_0_1 : ∀ j : Int, 0 ≤ j → j < 2000 → (-128) ≤ tape_0 j ∧ tape_0 j ≤ 127) (kz_0_8 : 0 ≤ fault_0 ∧ fault_0 ≤ 5) (kz_0_11 : 0 ≤ pos_0 ∧ pos_0 ≤ 2000) (kz_0_12 : 0 ≤ kind_0 ∧ kind_0 ≤ 4) (kz_0_15 : 0 ≤ from_0 ∧ from_0 ≤ 2000) (ex2 : gx = pos_0) : 1 * x2 + ((-1) * gx + 0) ≤ (-1) := by
  first | with_reducible assumption | ((have f6_c0 := f6.1); (have f6_c1 := f6.2); (try and_intros) <;> first | with_reducible assumption | (clear f6_c0 f6_c1 f6 f8 hK_0_1 f1; omega)) | ((have f6_c0 := f6.1); (have f6_c1 := f6.2); (first | have f1_b := f1 (by clear f6_c0 f6_c1 f6 f8 hK_0_1 f1; omega) | skip); (first | have f1_d := f1 (by with_reducible assumption) | skip); (try and_intros) <;> first | with_reducible assumption | (clear f6_c0 f6_c1 f6 f8 hK_0_1 f1; omega)) | ((have f6_c0 := f6.1); (have f6_c1 := f6.2); (first | have f1_b := f1 (by clear f6_c0 f6_c1 f6 f8 hK_0_1 f1; omega) | skip); (first | have f1_d := f1 (by with_reducible assumption) | skip); (try and_intros) <;> first | with_reducible assumption | (clear f6_c0 f6_c1 f6 hK_0_1 f1; omega)) | omega
set_option maxHeartbeats 4000000 in
theorem vc_Mo_need_at_gs_2_4 (x1 : Int) (x3 : Int) (x4 : Int) (x5 : Int) (x6 : Int) (kind_0 : Int) (fault_0 : Int) (value_0 : Int) (from_0 : Int) (pos_0 : Int) (tape_0 : Int → Int) (all_0 : Int → Int) (limit_0 : Int) (place_0 : Int) (faultPlace_0 : Int) (r_0 : Int) (gx : Int) (k1 : 59 ≤ x1 ∧ x1 ≤ 59) (k3 : 0 ≤ x3 ∧ x3 ≤ 7) (k4 : 0 ≤ x4 ∧ x4 ≤ 4) (k5 : 0 ≤ x5 ∧ x5 ≤ 0) (k6 : 1 ≤ x6 ∧ x6 ≤ 1) (f0 : x6 ≠ 0) (f2 : SGQ (fault_0) (kind_0) (value_0) (x1) (x6)) (g4 : x5 = fault_0) (f9 : zONs (limit_0) (pos_0) (kind_0) (place_0) (value_0) (from_0) (fault_0) (faultPlace_0) (r_0) (tape_0) (all_0) (x3) (x4)) (kz_0_8 : 0 ≤ fault_0 ∧ fault_0 ≤ 5) (kz_0_9 : 0 ≤ faultPlace_0 ∧ faultPlace_0 ≤ 2000) (kz_0_10 : 0 ≤ limit_0 ∧ limit_0 ≤ 2000) (kz_0_11 : 0 ≤ pos_0 ∧ pos_0 ≤ 2000) (kz_0_12 : 0 ≤ kind_0 ∧ kind_0 ≤ 4) (kz_0_13 : 0 ≤ place_0 ∧ place_0 ≤ 2000) (kz_0_14 : (-49) ≤ value_0 ∧ value_0 ≤ 1048575) (kz_0_15 : 0 ≤ from_0 ∧ from_0 ≤ 2000) (ex2 : gx = pos_0) : zTS0 (limit_0) (fault_0) (r_0) (tape_0) (all_0) (x3) (x4) (gx) := by
  have e : gx = pos_0 := by omega
  rw [e]
  first
    | exact ndq_go (or_r ‹zONs _ _ _ _ _ _ _ _ _ _ _ _ _› (fs_n (by omega))) (sgq_t (C := 59) ‹SGQ _ _ _ _ _› (by omega) (by omega)).2.1 (sgq_t (C := 59) ‹SGQ _ _ _ _ _› (by omega) (by omega)).2.2
    | exact ndq_go (or_r ‹zNc _ _ _ _ _ _ _ _ _ _ _ _ _› (fs_n (by omega))).2.2 (sgq_t (C := 125) ‹SGQ _ _ _ _ _› (by omega) (by omega)).2.1 (sgq_t (C := 125) ‹SGQ _ _ _ _ _› (by omega) (by omega)).2.2
def o_Mo_need_at_gs_2 : or_T := (17, 7, [(0, (2, 0, 0, [165])), (1, (0, 59, 59, [])), (2, (0, 0, 2000, [])), (3, (0, 0, 7, [])), (4, (0, 0, 4, [])), (5, (0, 0, 0, [])), (6, (0, 1, 1, []))], [(8, [6], [1]), (20, [6, 0], [50, 2, 0, 1012, 1008, 4, 6, 1, 2, 1, 0, 0, 1, 2, 7, 1, 3, 2, 1, 12, 0, 3, 1, 3, 2, 1, 8, 0, 0]), (20, [0, 1, 6], [60, 3, 0, 963, 8, 12, 14]), (9, [5, 0], [8]), (20, [0], [50, 3, 0, 12, 11, 15, 2, 21, 4, 7, 1, 3, 2, 0, 12, 0, 1, 0, 3, 2, 0, 11, 4, 3, 2, 0, 15, 0, 8, 3, 7, 1, 3, 2, 0, 12, 0, 0, 0, 7, 4, 3, 2, 0, 15, 0, 1, 2, 0, 11]), (20, [2, 0], [30, 0, 1, 0, 0, -1, 1, 11]), (20, [0, 2], [50, 3, 0, 8, 12, 11, 3, 7, 0, 2, 0, 1, 2, 0, 8, 3, 7, 1, 3, 2, 0, 12, 0, 0, 0, 6, 4, 2, 1, 1, 0, 1, 2, 0, 11]), (20, [0, 3, 4], [60, 9, 2, 1018, 10, 11, 12, 13, 14, 15, 8, 9, 5, 1, 2])], [], [(0, 0, 2000, [])], [(20, [7, 0], [30, 0, 1, 0, 0, -1, 1, 11]), (20, [7, 0], [50, 1, 0, 1011, 1, 2, 1, 0, 2, 1, 11]), (20, [0], [60, 2, 0, 947, 10, 11]), (23, [2, 7], [-1, 1, -1]), (20, [0, 3, 4, 7], [60, 3, 2, 970, 10, 8, 5, 1, 2])], [], [])
theorem oo_Mo_need_at_gs_2 {kA : Nat → ClassId} : or_ok PRD kA GG o_Mo_need_at_gs_2 := by
  refine or_mk fun A ta ws vs hD hth hl => ?_
  intro t0 r0 t1 k1 t2 k2 t3 k3 t4 k4 t5 k5 t6 k6 f0 f1 f2 f4 f6 f7 f8 f9
  replace f0 := shm_142 f0
  replace f1 := shm_730 f1
  replace f2 := shm_731 f2
  replace f4 := shm_293 f4
  replace f6 := shm_1438 f6
  replace f7 := shm_1431 f7
  replace f8 := shm_1722 f8
  replace f9 := shm_1732 f9
  have cr_0_1 := fdq_39 hD hth r0
  have g4 : v_iv (n_v vs 5) = w_fi ws (n_v vs 0) 8 := congrArg v_iv f4
  have hK_0_1 := elq_7 hD hth cr_0_1
  have kz_0_8 := fdq_34 hD hth r0
  have kz_0_9 := fdq_44 hD hth r0
  have kz_0_10 := fdq_43 hD hth r0
  have kz_0_11 := fdq_237 hD hth r0
  have kz_0_12 := fdq_187 hD hth r0
  have kz_0_13 := fdq_238 hD hth r0
  have kz_0_14 := fdq_188 hD hth r0
  have kz_0_15 := fdq_239 hD hth r0
  obtain ⟨x, ex, hx⟩ := iv_ex (ta := ta) (lo := 0) (hi := 2000) (z := w_fi ws (n_v vs 0) 11) (by omega) (by omega) (by omega) (by omega)
  have ex2 : v_iv (Value.int x) = w_fi ws (n_v vs 0) 11 := ex
  have ex3 : 0 ≤ v_iv (Value.int x) ∧ v_iv (Value.int x) ≤ 2000 := tv_rng hx
  have e_0 : n_v (vs ++ [Value.int x]) 0 = n_v vs 0 := n_v_old (by rw [hl]; decide)
  have e_2 : n_v (vs ++ [Value.int x]) 2 = n_v vs 2 := n_v_old (by rw [hl]; decide)
  have e_3 : n_v (vs ++ [Value.int x]) 3 = n_v vs 3 := n_v_old (by rw [hl]; decide)
  have e_4 : n_v (vs ++ [Value.int x]) 4 = n_v vs 4 := n_v_old (by rw [hl]; decide)
  have e_7 : n_v (vs ++ [Value.int x]) 7 = Value.int x := n_v_new hl
  have nf0 : fc_1 PRD (20, [7, 0], [30, 0, 1, 0, 0, -1, 1, 11]) ws (vs ++ [Value.int x]) := by
    refine ⟨nf_inA hl rfl, sgq_1431 ?_⟩
    · show 1 * v_iv (n_v (vs ++ [Value.int x]) 7) + ((-1) * w_fi ws (n_v (vs ++ [Value.int x]) 0) 11 + 0) ≤ 0
      simp only [e_0, e_7]
      exact vc_Mo_need_at_gs_2_0 (v_iv (n_v vs 2)) (v_iv (n_v vs 6)) (w_fi ws (n_v vs 0) 12) (w_fi ws (n_v vs 0) 8) (w_fi ws (n_v vs 0) 15) (w_fi ws (n_v vs 0) 11) (w_ei ws (w_ar ws (n_v vs 0) 1)) (v_iv (Value.int x)) k2 k6 f1 f6 f8 hK_0_1 kz_0_8 kz_0_11 kz_0_12 kz_0_15 ex2
  have nf1 : fc_1 PRD (20, [7, 0], [50, 1, 0, 1011, 1, 2, 1, 0, 2, 1, 11]) ws (vs ++ [Value.int x]) := by
    refine ⟨nf_inA hl rfl, sgq_1432 ?_⟩
    · show v_iv (n_v (vs ++ [Value.int x]) 7) = w_fi ws (n_v (vs ++ [Value.int x]) 0) 11
      simp only [e_0, e_7]
      exact vc_Mo_need_at_gs_2_1 (v_iv (n_v vs 2)) (v_iv (n_v vs 6)) (w_fi ws (n_v vs 0) 12) (w_fi ws (n_v vs 0) 8) (w_fi ws (n_v vs 0) 15) (w_fi ws (n_v vs 0) 11) (w_ei ws (w_ar ws (n_v vs 0) 1)) (v_iv (Value.int x)) k2 k6 f1 f6 f8 hK_0_1 kz_0_8 kz_0_11 kz_0_12 kz_0_15 ex2
  have nf2 : fc_1 PRD (20, [0], [60, 2, 0, 947, 10, 11]) ws (vs ++ [Value.int x]) := by
    refine ⟨nf_inA hl rfl, sgq_1433 ?_⟩
    · show ZLM (w_fi ws (n_v (vs ++ [Value.int x]) 0) 10) (w_fi ws (n_v (vs ++ [Value.int x]) 0) 11)
      rw [e_0]
      exact vc_Mo_need_at_gs_2_2 (v_iv (n_v vs 3)) (v_iv (n_v vs 4)) (v_iv (n_v vs 5)) (w_fi ws (n_v vs 0) 12) (w_fi ws (n_v vs 0) 8) (w_fi ws (n_v vs 0) 14) (w_fi ws (n_v vs 0) 15) (w_fi ws (n_v vs 0) 11) (w_ei ws (w_ar ws (n_v vs 0) 1)) (w_ei ws (w_ar ws (n_v vs 0) 2)) (w_fi ws (n_v vs 0) 10) (w_fi ws (n_v vs 0) 13) (w_fi ws (n_v vs 0) 9) (w_fi ws (n_v vs 0) 5) k3 k4 k5 g4 f9 kz_0_8 kz_0_9 kz_0_10 kz_0_11 kz_0_12 kz_0_13 kz_0_14 kz_0_15
  have nf3 : fc_1 PRD (23, [2, 7], [-1, 1, -1]) ws (vs ++ [Value.int x]) := by
    refine ⟨nf_inA hl rfl, sgq_193 ?_⟩
    · show 1 * v_iv (n_v (vs ++ [Value.int x]) 2) + ((-1) * v_iv (n_v (vs ++ [Value.int x]) 7) + 0) ≤ (-1)
      simp only [e_2, e_7]
      exact vc_Mo_need_at_gs_2_3 (v_iv (n_v vs 2)) (v_iv (n_v vs 5)) (v_iv (n_v vs 6)) (w_fi ws (n_v vs 0) 12) (w_fi ws (n_v vs 0) 8) (w_fi ws (n_v vs 0) 15) (w_fi ws (n_v vs 0) 11) (w_ei ws (w_ar ws (n_v vs 0) 1)) (v_iv (Value.int x)) k2 k5 k6 f1 g4 f6 f7 f8 hK_0_1 kz_0_8 kz_0_11 kz_0_12 kz_0_15 ex2
  have nf4 : fc_1 PRD (20, [0, 3, 4, 7], [60, 3, 2, 970, 10, 8, 5, 1, 2]) ws (vs ++ [Value.int x]) := by
    refine ⟨nf_inA hl rfl, sgq_1728 ?_⟩
    · show zTS0 (w_fi ws (n_v (vs ++ [Value.int x]) 0) 10) (w_fi ws (n_v (vs ++ [Value.int x]) 0) 8) (w_fi ws (n_v (vs ++ [Value.int x]) 0) 5) (w_ei ws (w_ar ws (n_v (vs ++ [Value.int x]) 0) 1)) (w_ei ws (w_ar ws (n_v (vs ++ [Value.int x]) 0) 2)) (v_iv (n_v (vs ++ [Value.int x]) 3)) (v_iv (n_v (vs ++ [Value.int x]) 4)) (v_iv (n_v (vs ++ [Value.int x]) 7))
      simp only [e_0, e_3, e_4, e_7]
      exact vc_Mo_need_at_gs_2_4 (v_iv (n_v vs 1)) (v_iv (n_v vs 3)) (v_iv (n_v vs 4)) (v_iv (n_v vs 5)) (v_iv (n_v vs 6)) (w_fi ws (n_v vs 0) 12) (w_fi ws (n_v vs 0) 8) (w_fi ws (n_v vs 0) 14) (w_fi ws (n_v vs 0) 15) (w_fi ws (n_v vs 0) 11) (w_ei ws (w_ar ws (n_v vs 0) 1)) (w_ei ws (w_ar ws (n_v vs 0) 2)) (w_fi ws (n_v vs 0) 10) (w_fi ws (n_v vs 0) 13) (w_fi ws (n_v vs 0) 9) (w_fi ws (n_v vs 0) 5) (v_iv (Value.int x)) k1 k3 k4 k5 k6 f0 f2 g4 f9 kz_0_8 kz_0_9 kz_0_10 kz_0_11 kz_0_12 kz_0_13 kz_0_14 kz_0_15 ex2
  exact ⟨(fun _ h => (by cases h)), [Value.int x], ag_one hx, List.forall_mem_cons.mpr ⟨⟨show (20 : Nat) < 100 from by decide, nf0⟩, List.forall_mem_cons.mpr ⟨⟨show (20 : Nat) < 100 from by decide, nf1⟩, List.forall_mem_cons.mpr ⟨⟨show (20 : Nat) < 100 from by decide, nf2⟩, List.forall_mem_cons.mpr ⟨⟨show (23 : Nat) < 100 from by decide, nf3⟩, List.forall_mem_cons.mpr ⟨⟨show (20 : Nat) < 100 from by decide, nf4⟩, (fun _ h => (by cases h))⟩⟩⟩⟩⟩, (fun _ h => (by cases h))⟩
set_option maxHeartbeats 4000000 in
theorem vc_Mo_need_at_gs_3_0 (x2 : Int) (x7 : Int) (tape_0 : Int → Int) (from_0 : Int) (pos_0 : Int) (kind_0 : Int) (k2 : 0 ≤ x2 ∧ x2 ≤ 2000) (k7 : 0 ≤ x7 ∧ x7 ≤ 2000) (f1 : 1 * x2 + ((-1) * x7 + 0) ≤ (-1)) (f3 : 1 * from_0 + ((-1) * pos_0 + 0) ≤ 0) (f4 : ((kind_0 = 1) → (pos_0 ≤ (from_0 + 8))) ∧ ((kind_0 = 0) ∨ ((from_0 + 1) ≤ pos_0))) (f5 : 1 * x7 + ((-1) * from_0 + 0) ≤ 0) (hK_0_1 : ∀ j : Int, 0 ≤ j → j < 2000 → (-128) ≤ tape_0 j ∧ tape_0 j ≤ 127) (kz_0_11 : 0 ≤ pos_0 ∧ pos_0 ≤ 2000) (kz_0_12 : 0 ≤ kind_0 ∧ kind_0 ≤ 4) (kz_0_15 : 0 ≤ from_0 ∧ from_0 ≤ 2000) : 1 * x2 + ((-1) * pos_0 + 0) ≤ 0 := by
  first | with_reducible assumption | ((have f4_c0 := f4.1); (have f4_c1 := f4.2); (try and_intros) <;> first | with_reducible assumption | (clear f4_c0 f4_c1 f4 hK_0_1; omega)) | omega
set_option maxHeartbeats 4000000 in
theorem vc_Mo_need_at_gs_3_1 (x2 : Int) (x7 : Int) (fault_0 : Int) (tape_0 : Int → Int) (from_0 : Int) (pos_0 : Int) (kind_0 : Int) (k2 : 0 ≤ x2 ∧ x2 ≤ 2000) (k7 : 0 ≤ x7 ∧ x7 ≤ 2000) (f1 : 1 * x2 + ((-1) * x7 + 0) ≤ (-1)) (f3 : 1 * from_0 + ((-1) * pos_0 + 0) ≤ 0) (f4 : ((kind_0 = 1) → (pos_0 ≤ (from_0 + 8))) ∧ ((kind_0 = 0) ∨ ((from_0 + 1) ≤ pos_0))) (f5 : 1 * x7 + ((-1) * from_0 + 0) ≤ 0) (hK_0_1 : ∀ j : Int, 0 ≤ j → j < 2000 → (-128) ≤ tape_0 j ∧ tape_0 j ≤ 127) (kz_0_8 : 0 ≤ fault_0 ∧ fault_0 ≤ 5) (kz_0_11 : 0 ≤ pos_0 ∧ pos_0 ≤ 2000) (kz_0_12 : 0 ≤ kind_0 ∧ kind_0 ≤ 4) (kz_0_15 : 0 ≤ from_0 ∧ from_0 ≤ 2000) : (1 ≤ fault_0) ∨ ((x2 + 1) ≤ pos_0) := by
  first | with_reducible assumption | ((have f4_c0 := f4.1); (have f4_c1 := f4.2); (try and_intros) <;> first | with_reducible assumption | (clear f4_c0 f4_c1 f4 hK_0_1; omega)) | omega
set_option maxHeartbeats 4000000 in
theorem vc_Mo_need_at_gs_3_2 (x3 : Int) (x4 : Int) (x7 : Int) (fault_0 : Int) (tape_0 : Int → Int) (all_0 : Int → Int) (limit_0 : Int) (r_0 : Int) (from_0 : Int) (pos_0 : Int) (kind_0 : Int) (place_0 : Int) (value_0 : Int) (faultPlace_0 : Int) (k3 : 0 ≤ x3 ∧ x3 ≤ 7) (k4 : 0 ≤ x4 ∧ x4 ≤ 4) (k7 : 0 ≤ x7 ∧ x7 ≤ 2000) (f2 : zTS0 (limit_0) (fault_0) (r_0) (tape_0) (all_0) (x3) (x4) (x7)) (f6 : TKR (limit_0) (pos_0) (kind_0) (place_0) (value_0) (from_0) (tape_0) (x7)) (kz_0_8 : 0 ≤ fault_0 ∧ fault_0 ≤ 5) (kz_0_9 : 0 ≤ faultPlace_0 ∧ faultPlace_0 ≤ 2000) (kz_0_10 : 0 ≤ limit_0 ∧ limit_0 ≤ 2000) (kz_0_11 : 0 ≤ pos_0 ∧ pos_0 ≤ 2000) (kz_0_12 : 0 ≤ kind_0 ∧ kind_0 ≤ 4) (kz_0_13 : 0 ≤ place_0 ∧ place_0 ≤ 2000) (kz_0_14 : (-49) ≤ value_0 ∧ value_0 ≤ 1048575) (kz_0_15 : 0 ≤ from_0 ∧ from_0 ≤ 2000) : zOS0 (limit_0) (pos_0) (kind_0) (place_0) (value_0) (from_0) (fault_0) (faultPlace_0) (r_0) (tape_0) (all_0) (x3) (x4) := by
  first
    | exact Or.inr (rsq_of ‹zTS0 _ _ _ _ _ _ _ _› ‹TKR _ _ _ _ _ _ _ _›)
    | exact Or.inl (fs_w ‹FSX _ _ _ _› ‹ZH0 _› (by assumption))
    | exact Or.inl (or_l ‹zONs _ _ _ _ _ _ _ _ _ _ _ _ _› (fun q => by have := ndq_0 q; omega))
    | exact Or.inl (or_l ‹zNc _ _ _ _ _ _ _ _ _ _ _ _ _› (fun q => by have := ndq_0 q.2.2; omega))
def o_Mo_need_at_gs_3 : or_T := (32, 8, [(0, (2, 0, 0, [165])), (2, (0, 0, 2000, [])), (3, (0, 0, 7, [])), (4, (0, 0, 4, [])), (7, (0, 0, 2000, []))], [(23, [2, 7], [-1, 1, -1]), (20, [0, 3, 4, 7], [60, 3, 2, 970, 10, 8, 5, 1, 2]), (20, [0, 0], [30, 0, 1, 1, 15, -1, 1, 11]), (20, [0], [50, 3, 0, 12, 11, 15, 2, 21, 4, 7, 1, 3, 2, 0, 12, 0, 1, 0, 3, 2, 0, 11, 4, 3, 2, 0, 15, 0, 8, 3, 7, 1, 3, 2, 0, 12, 0, 0, 0, 7, 4, 3, 2, 0, 15, 0, 1, 2, 0, 11]), (20, [7, 0], [30, 0, 1, 0, 0, -1, 1, 15]), (20, [0, 7], [60, 6, 1, 948, 10, 11, 12, 13, 14, 15, 1])], [], [], [(20, [2, 0], [30, 0, 1, 0, 0, -1, 1, 11]), (20, [0, 2], [50, 2, 0, 8, 11, 3, 7, 0, 2, 0, 1, 2, 0, 8, 0, 6, 4, 2, 1, 1, 0, 1, 2, 0, 11]), (20, [0, 3, 4], [60, 9, 2, 1007, 10, 11, 12, 13, 14, 15, 8, 9, 5, 1, 2])], [], [])
theorem oo_Mo_need_at_gs_3 {kA : Nat → ClassId} : or_ok PRD kA GG o_Mo_need_at_gs_3 := by
  refine or_mk fun A ta ws vs hD hth hl => ?_
  intro t0 r0 t2 k2 t3 k3 t4 k4 t7 k7 f1 f2 f3 f4 f5 f6
  have cr_0_1 := fdq_39 hD hth r0
  have hK_0_1 := elq_7 hD hth cr_0_1
  have kz_0_8 := fdq_34 hD hth r0
  have kz_0_9 := fdq_44 hD hth r0
  have kz_0_10 := fdq_43 hD hth r0
  have kz_0_11 := fdq_237 hD hth r0
  have kz_0_12 := fdq_187 hD hth r0
  have kz_0_13 := fdq_238 hD hth r0
  have kz_0_14 := fdq_188 hD hth r0
  have kz_0_15 := fdq_239 hD hth r0
  have nf0 : fc_1 PRD (20, [2, 0], [30, 0, 1, 0, 0, -1, 1, 11]) ws (vs) := ⟨nf_in hl rfl, sgq_1431 (vc_Mo_need_at_gs_3_0 (v_iv (n_v vs 2)) (v_iv (n_v vs 7)) (w_ei ws (w_ar ws (n_v vs 0) 1)) (w_fi ws (n_v vs 0) 15) (w_fi ws (n_v vs 0) 11) (w_fi ws (n_v vs 0) 12) k2 k7 (shm_193 f1) (shm_1437 f3) (shm_1438 f4) (shm_1436 f5) hK_0_1 kz_0_11 kz_0_12 kz_0_15)⟩
  have nf1 : fc_1 PRD (20, [0, 2], [50, 2, 0, 8, 11, 3, 7, 0, 2, 0, 1, 2, 0, 8, 0, 6, 4, 2, 1, 1, 0, 1, 2, 0, 11]) ws (vs) := ⟨nf_in hl rfl, sgq_1726 (vc_Mo_need_at_gs_3_1 (v_iv (n_v vs 2)) (v_iv (n_v vs 7)) (w_fi ws (n_v vs 0) 8) (w_ei ws (w_ar ws (n_v vs 0) 1)) (w_fi ws (n_v vs 0) 15) (w_fi ws (n_v vs 0) 11) (w_fi ws (n_v vs 0) 12) k2 k7 (shm_193 f1) (shm_1437 f3) (shm_1438 f4) (shm_1436 f5) hK_0_1 kz_0_8 kz_0_11 kz_0_12 kz_0_15)⟩
  have nf2 : fc_1 PRD (20, [0, 3, 4], [60, 9, 2, 1007, 10, 11, 12, 13, 14, 15, 8, 9, 5, 1, 2]) ws (vs) := ⟨nf_in hl rfl, sgq_1727 (vc_Mo_need_at_gs_3_2 (v_iv (n_v vs 3)) (v_iv (n_v vs 4)) (v_iv (n_v vs 7)) (w_fi ws (n_v vs 0) 8) (w_ei ws (w_ar ws (n_v vs 0) 1)) (w_ei ws (w_ar ws (n_v vs 0) 2)) (w_fi ws (n_v vs 0) 10) (w_fi ws (n_v vs 0) 5) (w_fi ws (n_v vs 0) 15) (w_fi ws (n_v vs 0) 11) (w_fi ws (n_v vs 0) 12) (w_fi ws (n_v vs 0) 13) (w_fi ws (n_v vs 0) 14) (w_fi ws (n_v vs 0) 9) k3 k4 k7 (shm_1728 f2) (shm_1439 f6) kz_0_8 kz_0_9 kz_0_10 kz_0_11 kz_0_12 kz_0_13 kz_0_14 kz_0_15)⟩
  refine ⟨(fun _ h => (by cases h)), [], trivial, ?_, (fun _ h => (by cases h))⟩
  rw [List.append_nil]
  exact List.forall_mem_cons.mpr ⟨⟨show (20 : Nat) < 100 from by decide, nf0⟩, List.forall_mem_cons.mpr ⟨⟨show (20 : Nat) < 100 from by decide, nf1⟩, List.forall_mem_cons.mpr ⟨⟨show (20 : Nat) < 100 from by decide, nf2⟩, (fun _ h => (by cases h))⟩⟩⟩
set_option maxHeartbeats 4000000 in
theorem vc_Mo_need_at_gs_4_0 (x2 : Int) (x5 : Int) (fault_0 : Int) (from_0 : Int) (pos_0 : Int) (kind_0 : Int) (tape_0 : Int → Int) (k2 : 0 ≤ x2 ∧ x2 ≤ 2000) (k5 : 1 ≤ x5 ∧ x5 ≤ 5) (g1 : x5 = fault_0) (f3 : ((kind_0 = 1) → (pos_0 ≤ (from_0 + 8))) ∧ ((kind_0 = 0) ∨ ((from_0 + 1) ≤ pos_0))) (f5 : (1 ≤ fault_0) ∨ ((kind_0 = 0) ∨ ((x2 + 1) ≤ pos_0))) (hK_0_1 : ∀ j : Int, 0 ≤ j → j < 2000 → (-128) ≤ tape_0 j ∧ tape_0 j ≤ 127) (kz_0_8 : 0 ≤ fault_0 ∧ fault_0 ≤ 5) (kz_0_11 : 0 ≤ pos_0 ∧ pos_0 ≤ 2000) (kz_0_12 : 0 ≤ kind_0 ∧ kind_0 ≤ 4) (kz_0_15 : 0 ≤ from_0 ∧ from_0 ≤ 2000) : (1 ≤ fault_0) ∨ ((x2 + 1) ≤ pos_0) := by
  first | with_reducible assumption | ((have f3_c0 := f3.1); (have f3_c1 := f3.2); (try and_intros) <;> first | with_reducible assumption | (clear f3_c0 f3_c1 f3 f5 hK_0_1; omega)) | ((have f3_c0 := f3.1); (have f3_c1 := f3.2); (try and_intros) <;> first | with_reducible assumption | (clear f3_c0 f3_c1 f3 hK_0_1; omega)) | omega
set_option maxHeartbeats 4000000 in
theorem vc_Mo_need_at_gs_4_1 (x3 : Int) (x4 : Int) (x5 : Int) (fault_0 : Int) (from_0 : Int) (pos_0 : Int) (kind_0 : Int) (tape_0 : Int → Int) (all_0 : Int → Int) (limit_0 : Int) (place_0 : Int) (value_0 : Int) (faultPlace_0 : Int) (r_0 : Int) (k3 : 0 ≤ x3 ∧ x3 ≤ 7) (k4 : 0 ≤ x4 ∧ x4 ≤ 4) (k5 : 1 ≤ x5 ∧ x5 ≤ 5) (g1 : x5 = fault_0) (f6 : zONs (limit_0) (pos_0) (kind_0) (place_0) (value_0) (from_0) (fault_0) (faultPlace_0) (r_0) (tape_0) (all_0) (x3) (x4)) (kz_0_8 : 0 ≤ fault_0 ∧ fault_0 ≤ 5) (kz_0_9 : 0 ≤ faultPlace_0 ∧ faultPlace_0 ≤ 2000) (kz_0_10 : 0 ≤ limit_0 ∧ limit_0 ≤ 2000) (kz_0_11 : 0 ≤ pos_0 ∧ pos_0 ≤ 2000) (kz_0_12 : 0 ≤ kind_0 ∧ kind_0 ≤ 4) (kz_0_13 : 0 ≤ place_0 ∧ place_0 ≤ 2000) (kz_0_14 : (-49) ≤ value_0 ∧ value_0 ≤ 1048575) (kz_0_15 : 0 ≤ from_0 ∧ from_0 ≤ 2000) : zOS0 (limit_0) (pos_0) (kind_0) (place_0) (value_0) (from_0) (fault_0) (faultPlace_0) (r_0) (tape_0) (all_0) (x3) (x4) := by
  first
    | exact Or.inr (rsq_of ‹zTS0 _ _ _ _ _ _ _ _› ‹TKR _ _ _ _ _ _ _ _›)
    | exact Or.inl (fs_w ‹FSX _ _ _ _› ‹ZH0 _› (by assumption))
    | exact Or.inl (or_l ‹zONs _ _ _ _ _ _ _ _ _ _ _ _ _› (fun q => by have := ndq_0 q; omega))
    | exact Or.inl (or_l ‹zNc _ _ _ _ _ _ _ _ _ _ _ _ _› (fun q => by have := ndq_0 q.2.2; omega))
def o_Mo_need_at_gs_4 : or_T := (7, 6, [(0, (2, 0, 0, [165])), (2, (0, 0, 2000, [])), (3, (0, 0, 7, [])), (4, (0, 0, 4, [])), (5, (0, 1, 5, []))], [(9, [5, 0], [8]), (20, [0], [50, 3, 0, 12, 11, 15, 2, 21, 4, 7, 1, 3, 2, 0, 12, 0, 1, 0, 3, 2, 0, 11, 4, 3, 2, 0, 15, 0, 8, 3, 7, 1, 3, 2, 0, 12, 0, 0, 0, 7, 4, 3, 2, 0, 15, 0, 1, 2, 0, 11]), (20, [0, 2], [50, 3, 0, 8, 12, 11, 3, 7, 0, 2, 0, 1, 2, 0, 8, 3, 7, 1, 3, 2, 0, 12, 0, 0, 0, 6, 4, 2, 1, 1, 0, 1, 2, 0, 11]), (20, [0, 3, 4], [60, 9, 2, 1018, 10, 11, 12, 13, 14, 15, 8, 9, 5, 1, 2])], [], [], [(20, [0, 2], [50, 2, 0, 8, 11, 3, 7, 0, 2, 0, 1, 2, 0, 8, 0, 6, 4, 2, 1, 1, 0, 1, 2, 0, 11]), (20, [0, 3, 4], [60, 9, 2, 1007, 10, 11, 12, 13, 14, 15, 8, 9, 5, 1, 2])], [], [])
theorem oo_Mo_need_at_gs_4 {kA : Nat → ClassId} : or_ok PRD kA GG o_Mo_need_at_gs_4 := by
  refine or_mk fun A ta ws vs hD hth hl => ?_
  intro t0 r0 t2 k2 t3 k3 t4 k4 t5 k5 f1 f3 f5 f6
  replace f1 := shm_293 f1
  have cr_0_1 := fdq_39 hD hth r0
  have g1 : v_iv (n_v vs 5) = w_fi ws (n_v vs 0) 8 := congrArg v_iv f1
  have hK_0_1 := elq_7 hD hth cr_0_1
  have kz_0_8 := fdq_34 hD hth r0
  have kz_0_9 := fdq_44 hD hth r0
  have kz_0_10 := fdq_43 hD hth r0
  have kz_0_11 := fdq_237 hD hth r0
  have kz_0_12 := fdq_187 hD hth r0
  have kz_0_13 := fdq_238 hD hth r0
  have kz_0_14 := fdq_188 hD hth r0
  have kz_0_15 := fdq_239 hD hth r0
  have nf0 : fc_1 PRD (20, [0, 2], [50, 2, 0, 8, 11, 3, 7, 0, 2, 0, 1, 2, 0, 8, 0, 6, 4, 2, 1, 1, 0, 1, 2, 0, 11]) ws (vs) := ⟨nf_in hl rfl, sgq_1726 (vc_Mo_need_at_gs_4_0 (v_iv (n_v vs 2)) (v_iv (n_v vs 5)) (w_fi ws (n_v vs 0) 8) (w_fi ws (n_v vs 0) 15) (w_fi ws (n_v vs 0) 11) (w_fi ws (n_v vs 0) 12) (w_ei ws (w_ar ws (n_v vs 0) 1)) k2 k5 g1 (shm_1438 f3) (shm_1722 f5) hK_0_1 kz_0_8 kz_0_11 kz_0_12 kz_0_15)⟩
  have nf1 : fc_1 PRD (20, [0, 3, 4], [60, 9, 2, 1007, 10, 11, 12, 13, 14, 15, 8, 9, 5, 1, 2]) ws (vs) := ⟨nf_in hl rfl, sgq_1727 (vc_Mo_need_at_gs_4_1 (v_iv (n_v vs 3)) (v_iv (n_v vs 4)) (v_iv (n_v vs 5)) (w_fi ws (n_v vs 0) 8) (w_fi ws (n_v vs 0) 15) (w_fi ws (n_v vs 0) 11) (w_fi ws (n_v vs 0) 12) (w_ei ws (w_ar ws (n_v vs 0) 1)) (w_ei ws (w_ar ws (n_v vs 0) 2)) (w_fi ws (n_v vs 0) 10) (w_fi ws (n_v vs 0) 13) (w_fi ws (n_v vs 0) 14) (w_fi ws (n_v vs 0) 9) (w_fi ws (n_v vs 0) 5) k3 k4 k5 g1 (shm_1732 f6) kz_0_8 kz_0_9 kz_0_10 kz_0_11 kz_0_12 kz_0_13 kz_0_14 kz_0_15)⟩
  refine ⟨(fun _ h => (by cases h)), [], trivial, ?_, (fun _ h => (by cases h))⟩
  rw [List.append_nil]
  exact List.forall_mem_cons.mpr ⟨⟨show (20 : Nat) < 100 from by decide, nf0⟩, List.forall_mem_cons.mpr ⟨⟨show (20 : Nat) < 100 from by decide, nf1⟩, (fun _ h => (by cases h))⟩⟩
def n_Mo_need_at_gs_an : List an_T := []
def t_Mo_need_at_gs_ct : ct_L := [(1, 457, e_Mo_sign), (1, 460, e_Mo_next), (1, 463, e_Mo_wrong)]
set_option maxRecDepth 100000 in
theorem c_Mo_need_at_gs {l : Launch} {D : va_G} {kA : Nat → ClassId} (h_Mo_next : ct_ok PRD l D kA GG y_Mo_next z_Mo_next e_Mo_next) (h_Mo_sign : ct_ok PRD l D kA GG y_Mo_sign z_Mo_sign e_Mo_sign) (h_Mo_wrong : ct_ok PRD l D kA GG y_Mo_wrong z_Mo_wrong e_Mo_wrong) : ct_ok PRD l D kA GG y_Mo_need_at_gs z_Mo_need_at_gs e_Mo_need_at_gs := chk_all_ok (FT := [(413, 13, 8), (428, 13, 13)]) (PT := []) (CT := t_Mo_need_at_gs_ct) (KT := []) (NT := []) (AN := n_Mo_need_at_gs_an) (OT := [o_Mo_need_at_gs_0, o_Mo_need_at_gs_1, o_Mo_need_at_gs_2, o_Mo_need_at_gs_3, o_Mo_need_at_gs_4]) 0 200 (List.forall_mem_cons.mpr ⟨oo_Mo_need_at_gs_0, List.forall_mem_cons.mpr ⟨oo_Mo_need_at_gs_1, List.forall_mem_cons.mpr ⟨oo_Mo_need_at_gs_2, List.forall_mem_cons.mpr ⟨oo_Mo_need_at_gs_3, List.forall_mem_cons.mpr ⟨oo_Mo_need_at_gs_4, List.forall_mem_nil _⟩⟩⟩⟩⟩) (by decide +kernel) ⟨List.forall_mem_cons.mpr ⟨gf_Mo_413, List.forall_mem_cons.mpr ⟨gf_Mo_428, List.forall_mem_nil _⟩⟩, List.forall_mem_nil _, List.forall_mem_cons.mpr ⟨cl_virtual (y := y_Mo_sign) (ci := 13) rfl rfl ⟨_, _, rfl⟩ (by decide +kernel) h_Mo_sign wm_3058 wm_9 wm_3055 wm_3057 wv_13_11 ⟨by decide, by decide, by decide +kernel⟩ (by decide), List.forall_mem_cons.mpr ⟨cl_virtual (y := y_Mo_next) (ci := 13) rfl rfl ⟨_, _, rfl⟩ (by decide +kernel) h_Mo_next wm_2982 wm_9 wm_2979 wm_2981 wv_12_11 ⟨by decide, by decide, by decide +kernel⟩ (by decide), List.forall_mem_cons.mpr ⟨cl_virtual (y := y_Mo_wrong) (ci := 13) rfl rfl ⟨_, _, rfl⟩ (by decide +kernel) h_Mo_wrong wm_3017 wm_9 wm_3014 wm_3016 wv_13_1 ⟨by decide, by decide, by decide +kernel⟩ (by decide), List.forall_mem_nil _⟩⟩⟩, List.forall_mem_nil _, List.forall_mem_nil _, GG_pl⟩ (by decide +kernel)
set_option maxHeartbeats 4000000 in
theorem vc_Mo_need_at_gs5002b_0_0 (x1 : Int) (x3 : Int) (x4 : Int) (x5 : Int) (x6 : Int) (x7 : Int) (x8 : Int) (x9 : Int) (x10 : Int) (place_0 : Int) (kind_0 : Int) (fault_0 : Int) (value_0 : Int) (from_0 : Int) (pos_0 : Int) (tape_0 : Int → Int) (all_0 : Int → Int) (limit_0 : Int) (r_0 : Int) (k1 : 93 ≤ x1 ∧ x1 ≤ 93) (k3 : (-1) ≤ x3 ∧ x3 ≤ 48) (k4 : (-2147483648) ≤ x4 ∧ x4 ≤ 2147483647) (k5 : 0 ≤ x5 ∧ x5 ≤ 7) (k6 : 0 ≤ x6 ∧ x6 ≤ 4) (k7 : 0 ≤ x7 ∧ x7 ≤ 0) (k8 : 0 ≤ x8 ∧ x8 ≤ 0) (k9 : 1 ≤ x9 ∧ x9 ≤ 1) (k10 : 0 ≤ x10 ∧ x10 ≤ 2000) (f1 : x8 = 0) (f3 : SGQ (fault_0) (kind_0) (value_0) (x1) (x8)) (g5 : x7 = fault_0) (f10 : zNbs (limit_0) (pos_0) (kind_0) (place_0) (value_0) (from_0) (fault_0) (r_0) (tape_0) (all_0) (x3) (x4) (x5) (x6)) (kz_0_8 : 0 ≤ fault_0 ∧ fault_0 ≤ 5) (kz_0_10 : 0 ≤ limit_0 ∧ limit_0 ≤ 2000) (kz_0_11 : 0 ≤ pos_0 ∧ pos_0 ≤ 2000) (kz_0_12 : 0 ≤ kind_0 ∧ kind_0 ≤ 4) (kz_0_13 : 0 ≤ place_0 ∧ place_0 ≤ 2000) (kz_0_14 : (-49) ≤ value_0 ∧ value_0 ≤ 1048575) (kz_0_15 : 0 ≤ from_0 ∧ from_0 ≤ 2000) : FSX (limit_0) (tape_0) (x9) (x10) := by
  first
    | exact fsx_cg (ndq_flt (or_r ‹zONs _ _ _ _ _ _ _ _ _ _ _ _ _› (fs_n (by omega))) (sgq_f ‹SGQ _ _ _ _ _› (by omega) (by omega) (by omega))) (by omega) (by omega)
    | exact fsx_cg (ndq_flt (or_r ‹zONo _ _ _ _ _ _ _ _ _ _ _ _ _› (fs_n (by omega))) (sgq_f ‹SGQ _ _ _ _ _› (by omega) (by omega) (by omega))) (by omega) (by omega)
    | exact fsx_cg (ndq_flt (or_r ‹zONew _ _ _ _ _ _ _ _ _ _ _ _ _ _› (fs_n (by omega))) (sgq_f ‹SGQ _ _ _ _ _› (by omega) (by omega) (by omega))) (by omega) (by omega)
    | exact fsx_cg (ndq_flt (or_r ‹zONes _ _ _ _ _ _ _ _ _ _ _ _ _ _› (fs_n (by omega))).2 (sgq_f ‹SGQ _ _ _ _ _› (by omega) (by omega) (by omega))) (by omega) (by omega)
    | (exfalso; have h := or_r ‹zNc _ _ _ _ _ _ _ _ _ _ _ _ _› (fs_n (by omega)); exact sgq_f (C := 125) ‹SGQ _ _ _ _ _› (by omega) (by omega) (by omega) ⟨h.1, h.2.1⟩)
    | (exfalso; exact sgq_f (C := 93) ‹SGQ _ _ _ _ _› (by omega) (by omega) (by omega) ⟨(‹zNbs _ _ _ _ _ _ _ _ _ _ _ _ _ _›).2.1, (‹zNbs _ _ _ _ _ _ _ _ _ _ _ _ _ _›).2.2⟩)
    | (exfalso; exact sgq_f (C := 93) ‹SGQ _ _ _ _ _› (by omega) (by omega) (by omega) ⟨(‹zNbw _ _ _ _ _ _ _ _ _ _ _ _ _ _›).2.1, (‹zNbw _ _ _ _ _ _ _ _ _ _ _ _ _ _›).2.2⟩)
set_option maxHeartbeats 4000000 in
theorem vc_Mo_need_at_gs5002b_0_1 (x2 : Int) (x7 : Int) (x8 : Int) (kind_0 : Int) (fault_0 : Int) (from_0 : Int) (pos_0 : Int) (tape_0 : Int → Int) (gx : Int) (k2 : 0 ≤ x2 ∧ x2 ≤ 2000) (k7 : 0 ≤ x7 ∧ x7 ≤ 0) (k8 : 0 ≤ x8 ∧ x8 ≤ 0) (f2 : (x8 = 1) → ((kind_0 = 3) ∧ (fault_0 = 0))) (g5 : x7 = fault_0) (f7 : ((kind_0 = 1) → (pos_0 ≤ (from_0 + 8))) ∧ ((kind_0 = 0) ∨ ((from_0 + 1) ≤ pos_0))) (f9 : (1 ≤ fault_0) ∨ ((kind_0 = 0) ∨ ((x2 + 1) ≤ pos_0))) (hK_0_1 : ∀ j : Int, 0 ≤ j → j < 2000 → (-128) ≤ tape_0 j ∧ tape_0 j ≤ 127) (kz_0_8 : 0 ≤ fault_0 ∧ fault_0 ≤ 5) (kz_0_11 : 0 ≤ pos_0 ∧ pos_0 ≤ 2000) (kz_0_12 : 0 ≤ kind_0 ∧ kind_0 ≤ 4) (kz_0_15 : 0 ≤ from_0 ∧ from_0 ≤ 2000) (ex2 : gx = fault_0) : 1 * fault_0 + ((-1) * gx + 0) ≤ 0 := by
  first | with_reducible assumption | ((have f7_c0 := f7.1); (have f7_c1 := f7.2); (try and_intros) <;> first | with_reducible assumption | (clear f7_c0 f7_c1 f7 f9 hK_0_1 f2; omega)) | ((have f7_c0 := f7.1); (have f7_c1 := f7.2); (first | have f2_b := f2 (by clear f7_c0 f7_c1 f7 f9 hK_0_1 f2; omega) | skip); (first | have f2_d := f2 (by with_reducible assumption) | skip); (try and_intros) <;> first | with_reducible assumption | (clear f7_c0 f7_c1 f7 f9 hK_0_1 f2; omega)) | ((have f7_c0 := f7.1); (have f7_c1 := f7.2); (first | have f2_b := f2 (by clear f7_c0 f7_c1 f7 f9 hK_0_1 f2; omega) | skip); (first | have f2_d := f2 (by with_reducible assumption) | skip); (try and_intros) <;> first | with_reducible assumption | (clear f7_c0 f7_c1 f7 hK_0_1 f2; omega)) | omega
set_option maxHeartbeats 4000000 in
theorem vc_Mo_need_at_gs5002b_0_2 (x2 : Int) (x7 : Int) (x8 : Int) (kind_0 : Int) (fault_0 : Int) (from_0 : Int) (pos_0 : Int) (tape_0 : Int → Int) (gx : Int) (k2 : 0 ≤ x2 ∧ x2 ≤ 2000) (k7 : 0 ≤ x7 ∧ x7 ≤ 0) (k8 : 0 ≤ x8 ∧ x8 ≤ 0) (f2 : (x8 = 1) → ((kind_0 = 3) ∧ (fault_0 = 0))) (g5 : x7 = fault_0) (f7 : ((kind_0 = 1) → (pos_0 ≤ (from_0 + 8))) ∧ ((kind_0 = 0) ∨ ((from_0 + 1) ≤ pos_0))) (f9 : (1 ≤ fault_0) ∨ ((kind_0 = 0) ∨ ((x2 + 1) ≤ pos_0))) (hK_0_1 : ∀ j : Int, 0 ≤ j → j < 2000 → (-128) ≤ tape_0 j ∧ tape_0 j ≤ 127) (kz_0_8 : 0 ≤ fault_0 ∧ fault_0 ≤ 5) (kz_0_11 : 0 ≤ pos_0 ∧ pos_0 ≤ 2000) (kz_0_12 : 0 ≤ kind_0 ∧ kind_0 ≤ 4) (kz_0_15 : 0 ≤ from_0 ∧ from_0 ≤ 2000) (ex2 : gx = fault_0) : (-1) * fault_0 + (1 * gx + 0) ≤ 0 := by
  first | with_reducible assumption | ((have f7_c0 := f7.1); (have f7_c1 := f7.2); (try and_intros) <;> first | with_reducible assumption | (clear f7_c0 f7_c1 f7 f9 hK_0_1 f2; omega)) | ((have f7_c0 := f7.1); (have f7_c1 := f7.2); (first | have f2_b := f2 (by clear f7_c0 f7_c1 f7 f9 hK_0_1 f2; omega) | skip); (first | have f2_d := f2 (by with_reducible assumption) | skip); (try and_intros) <;> first | with_reducible assumption | (clear f7_c0 f7_c1 f7 f9 hK_0_1 f2; omega)) | ((have f7_c0 := f7.1); (have f7_c1 := f7.2); (first | have f2_b := f2 (by clear f7_c0 f7_c1 f7 f9 hK_0_1 f2; omega) | skip); (first | have f2_d := f2 (by with_reducible assumption) | skip); (try and_intros) <;> first | with_reducible assumption | (clear f7_c0 f7_c1 f7 hK_0_1 f2; omega)) | omega
set_option maxHeartbeats 4000000 in
theorem vc_Mo_need_at_gs5002b_0_3 (x7 : Int) (fault_0 : Int) (gx : Int) (k7 : 0 ≤ x7 ∧ x7 ≤ 0) (g5 : x7 = fault_0) (kz_0_8 : 0 ≤ fault_0 ∧ fault_0 ≤ 5) (ex2 : gx = fault_0) : ZH0 (gx) := by
  exact ⟨by omega, by omega, trivial⟩
set_option maxHeartbeats 4000000 in
theorem vc_Mo_need_at_gs5002b_0_4 (x1 : Int) (x3 : Int) (x4 : Int) (x5 : Int) (x6 : Int) (x7 : Int) (x8 : Int) (place_0 : Int) (kind_0 : Int) (fault_0 : Int) (value_0 : Int) (from_0 : Int) (pos_0 : Int) (tape_0 : Int → Int) (all_0 : Int → Int) (limit_0 : Int) (r_0 : Int) (gx : Int) (k1 : 93 ≤ x1 ∧ x1 ≤ 93) (k3 : (-1) ≤ x3 ∧ x3 ≤ 48) (k4 : (-2147483648) ≤ x4 ∧ x4 ≤ 2147483647) (k5 : 0 ≤ x5 ∧ x5 ≤ 7) (k6 : 0 ≤ x6 ∧ x6 ≤ 4) (k7 : 0 ≤ x7 ∧ x7 ≤ 0) (k8 : 0 ≤ x8 ∧ x8 ≤ 0) (f1 : x8 = 0) (f3 : SGQ (fault_0) (kind_0) (value_0) (x1) (x8)) (g5 : x7 = fault_0) (f10 : zNbs (limit_0) (pos_0) (kind_0) (place_0) (value_0) (from_0) (fault_0) (r_0) (tape_0) (all_0) (x3) (x4) (x5) (x6)) (kz_0_8 : 0 ≤ fault_0 ∧ fault_0 ≤ 5) (kz_0_10 : 0 ≤ limit_0 ∧ limit_0 ≤ 2000) (kz_0_11 : 0 ≤ pos_0 ∧ pos_0 ≤ 2000) (kz_0_12 : 0 ≤ kind_0 ∧ kind_0 ≤ 4) (kz_0_13 : 0 ≤ place_0 ∧ place_0 ≤ 2000) (kz_0_14 : (-49) ≤ value_0 ∧ value_0 ≤ 1048575) (kz_0_15 : 0 ≤ from_0 ∧ from_0 ≤ 2000) : ZFF (gx) := by
  first
    | exact sgq_f (C := 93) ‹SGQ _ _ _ _ _› (by omega) (by omega) (by omega) ⟨(‹zNbs _ _ _ _ _ _ _ _ _ _ _ _ _ _›).2.1, (‹zNbs _ _ _ _ _ _ _ _ _ _ _ _ _ _›).2.2⟩
    | exact sgq_f (C := 93) ‹SGQ _ _ _ _ _› (by omega) (by omega) (by omega) ⟨(‹zNbw _ _ _ _ _ _ _ _ _ _ _ _ _ _›).2.1, (‹zNbw _ _ _ _ _ _ _ _ _ _ _ _ _ _›).2.2⟩
def o_Mo_need_at_gs5002b_0 : or_T := (29, 11, [(0, (2, 0, 0, [165])), (1, (0, 93, 93, [])), (2, (0, 0, 2000, [])), (3, (0, -1, 48, [])), (4, (0, -2147483648, 2147483647, [])), (5, (0, 0, 7, [])), (6, (0, 0, 4, [])), (7, (0, 0, 0, [])), (8, (0, 0, 0, [])), (9, (0, 1, 1, [])), (10, (0, 0, 2000, []))], [(8, [8], [0]), (20, [8, 0], [50, 2, 0, 1012, 1008, 4, 6, 1, 2, 1, 0, 0, 1, 2, 7, 1, 3, 2, 1, 12, 0, 3, 1, 3, 2, 1, 8, 0, 0]), (20, [0, 1, 8], [60, 3, 0, 963, 8, 12, 14]), (9, [7, 0], [8]), (20, [0], [50, 3, 0, 12, 11, 15, 2, 21, 4, 7, 1, 3, 2, 0, 12, 0, 1, 0, 3, 2, 0, 11, 4, 3, 2, 0, 15, 0, 8, 3, 7, 1, 3, 2, 0, 12, 0, 0, 0, 7, 4, 3, 2, 0, 15, 0, 1, 2, 0, 11]), (20, [0, 2], [50, 3, 0, 8, 12, 11, 3, 7, 0, 2, 0, 1, 2, 0, 8, 3, 7, 1, 3, 2, 0, 12, 0, 0, 0, 6, 4, 2, 1, 1, 0, 1, 2, 0, 11]), (20, [0, 3, 4, 5, 6], [60, 8, 2, 1001, 10, 11, 12, 13, 14, 15, 8, 5, 1, 2])], [], [(0, 0, 5, [])], [(20, [0, 9, 10], [60, 1, 1, 1026, 10, 1]), (20, [0, 11], [30, 0, 1, 1, 8, -1, 0, 0]), (20, [0, 11], [30, 0, -1, 1, 8, 1, 0, 0]), (20, [11], [61, 0, 1029]), (20, [11], [61, 0, 1030])], [], [])
theorem oo_Mo_need_at_gs5002b_0 {kA : Nat → ClassId} : or_ok PRD kA GG o_Mo_need_at_gs5002b_0 := by
  refine or_mk fun A ta ws vs hD hth hl => ?_
  intro t0 r0 t1 k1 t2 k2 t3 k3 t4 k4 t5 k5 t6 k6 t7 k7 t8 k8 t9 k9 t10 k10 f1 f2 f3 f5 f7 f9 f10
  replace f1 := shm_192 f1
  replace f2 := shm_730 f2
  replace f3 := shm_731 f3
  replace f5 := shm_293 f5
  replace f7 := shm_1438 f7
  replace f9 := shm_1722 f9
  replace f10 := shm_1733 f10
  have cr_0_1 := fdq_39 hD hth r0
  have g5 : v_iv (n_v vs 7) = w_fi ws (n_v vs 0) 8 := congrArg v_iv f5
  have hK_0_1 := elq_7 hD hth cr_0_1
  have kz_0_8 := fdq_34 hD hth r0
  have kz_0_10 := fdq_43 hD hth r0
  have kz_0_11 := fdq_237 hD hth r0
  have kz_0_12 := fdq_187 hD hth r0
  have kz_0_13 := fdq_238 hD hth r0
  have kz_0_14 := fdq_188 hD hth r0
  have kz_0_15 := fdq_239 hD hth r0
  obtain ⟨x, ex, hx⟩ := iv_ex (ta := ta) (lo := 0) (hi := 5) (z := w_fi ws (n_v vs 0) 8) (by omega) (by omega) (by omega) (by omega)
  have ex2 : v_iv (Value.int x) = w_fi ws (n_v vs 0) 8 := ex
  have ex3 : 0 ≤ v_iv (Value.int x) ∧ v_iv (Value.int x) ≤ 5 := tv_rng hx
  have e_0 : n_v (vs ++ [Value.int x]) 0 = n_v vs 0 := n_v_old (by rw [hl]; decide)
  have e_9 : n_v (vs ++ [Value.int x]) 9 = n_v vs 9 := n_v_old (by rw [hl]; decide)
  have e_10 : n_v (vs ++ [Value.int x]) 10 = n_v vs 10 := n_v_old (by rw [hl]; decide)
  have e_11 : n_v (vs ++ [Value.int x]) 11 = Value.int x := n_v_new hl
  have nf0 : fc_1 PRD (20, [0, 9, 10], [60, 1, 1, 1026, 10, 1]) ws (vs ++ [Value.int x]) := by
    refine ⟨nf_inA hl rfl, sgq_1724 ?_⟩
    · show FSX (w_fi ws (n_v (vs ++ [Value.int x]) 0) 10) (w_ei ws (w_ar ws (n_v (vs ++ [Value.int x]) 0) 1)) (v_iv (n_v (vs ++ [Value.int x]) 9)) (v_iv (n_v (vs ++ [Value.int x]) 10))
      simp only [e_0, e_9, e_10]
      exact vc_Mo_need_at_gs5002b_0_0 (v_iv (n_v vs 1)) (v_iv (n_v vs 3)) (v_iv (n_v vs 4)) (v_iv (n_v vs 5)) (v_iv (n_v vs 6)) (v_iv (n_v vs 7)) (v_iv (n_v vs 8)) (v_iv (n_v vs 9)) (v_iv (n_v vs 10)) (w_fi ws (n_v vs 0) 13) (w_fi ws (n_v vs 0) 12) (w_fi ws (n_v vs 0) 8) (w_fi ws (n_v vs 0) 14) (w_fi ws (n_v vs 0) 15) (w_fi ws (n_v vs 0) 11) (w_ei ws (w_ar ws (n_v vs 0) 1)) (w_ei ws (w_ar ws (n_v vs 0) 2)) (w_fi ws (n_v vs 0) 10) (w_fi ws (n_v vs 0) 5) k1 k3 k4 k5 k6 k7 k8 k9 k10 f1 f3 g5 f10 kz_0_8 kz_0_10 kz_0_11 kz_0_12 kz_0_13 kz_0_14 kz_0_15
  have nf1 : fc_1 PRD (20, [0, 11], [30, 0, 1, 1, 8, -1, 0, 0]) ws (vs ++ [Value.int x]) := by
    refine ⟨nf_inA hl rfl, sgq_303 ?_⟩
    · show 1 * w_fi ws (n_v (vs ++ [Value.int x]) 0) 8 + ((-1) * v_iv (n_v (vs ++ [Value.int x]) 11) + 0) ≤ 0
      simp only [e_0, e_11]
      exact vc_Mo_need_at_gs5002b_0_1 (v_iv (n_v vs 2)) (v_iv (n_v vs 7)) (v_iv (n_v vs 8)) (w_fi ws (n_v vs 0) 12) (w_fi ws (n_v vs 0) 8) (w_fi ws (n_v vs 0) 15) (w_fi ws (n_v vs 0) 11) (w_ei ws (w_ar ws (n_v vs 0) 1)) (v_iv (Value.int x)) k2 k7 k8 f2 g5 f7 f9 hK_0_1 kz_0_8 kz_0_11 kz_0_12 kz_0_15 ex2
  have nf2 : fc_1 PRD (20, [0, 11], [30, 0, -1, 1, 8, 1, 0, 0]) ws (vs ++ [Value.int x]) := by
    refine ⟨nf_inA hl rfl, sgq_304 ?_⟩
    · show (-1) * w_fi ws (n_v (vs ++ [Value.int x]) 0) 8 + (1 * v_iv (n_v (vs ++ [Value.int x]) 11) + 0) ≤ 0
      simp only [e_0, e_11]
      exact vc_Mo_need_at_gs5002b_0_2 (v_iv (n_v vs 2)) (v_iv (n_v vs 7)) (v_iv (n_v vs 8)) (w_fi ws (n_v vs 0) 12) (w_fi ws (n_v vs 0) 8) (w_fi ws (n_v vs 0) 15) (w_fi ws (n_v vs 0) 11) (w_ei ws (w_ar ws (n_v vs 0) 1)) (v_iv (Value.int x)) k2 k7 k8 f2 g5 f7 f9 hK_0_1 kz_0_8 kz_0_11 kz_0_12 kz_0_15 ex2
  have nf3 : fc_1 PRD (20, [11], [61, 0, 1029]) ws (vs ++ [Value.int x]) := by
    refine ⟨nf_inA hl rfl, sgq_1725 ?_⟩
    · show ZH0 (v_iv (n_v (vs ++ [Value.int x]) 11))
      rw [e_11]
      exact vc_Mo_need_at_gs5002b_0_3 (v_iv (n_v vs 7)) (w_fi ws (n_v vs 0) 8) (v_iv (Value.int x)) k7 g5 kz_0_8 ex2
  have nf4 : fc_1 PRD (20, [11], [61, 0, 1030]) ws (vs ++ [Value.int x]) := by
    refine ⟨nf_inA hl rfl, sgq_1734 ?_⟩
    · show ZFF (v_iv (n_v (vs ++ [Value.int x]) 11))
      rw [e_11]
      exact vc_Mo_need_at_gs5002b_0_4 (v_iv (n_v vs 1)) (v_iv (n_v vs 3)) (v_iv (n_v vs 4)) (v_iv (n_v vs 5)) (v_iv (n_v vs 6)) (v_iv (n_v vs 7)) (v_iv (n_v vs 8)) (w_fi ws (n_v vs 0) 13) (w_fi ws (n_v vs 0) 12) (w_fi ws (n_v vs 0) 8) (w_fi ws (n_v vs 0) 14) (w_fi ws (n_v vs 0) 15) (w_fi ws (n_v vs 0) 11) (w_ei ws (w_ar ws (n_v vs 0) 1)) (w_ei ws (w_ar ws (n_v vs 0) 2)) (w_fi ws (n_v vs 0) 10) (w_fi ws (n_v vs 0) 5) (v_iv (Value.int x)) k1 k3 k4 k5 k6 k7 k8 f1 f3 g5 f10 kz_0_8 kz_0_10 kz_0_11 kz_0_12 kz_0_13 kz_0_14 kz_0_15
  exact ⟨(fun _ h => (by cases h)), [Value.int x], ag_one hx, List.forall_mem_cons.mpr ⟨⟨show (20 : Nat) < 100 from by decide, nf0⟩, List.forall_mem_cons.mpr ⟨⟨show (20 : Nat) < 100 from by decide, nf1⟩, List.forall_mem_cons.mpr ⟨⟨show (20 : Nat) < 100 from by decide, nf2⟩, List.forall_mem_cons.mpr ⟨⟨show (20 : Nat) < 100 from by decide, nf3⟩, List.forall_mem_cons.mpr ⟨⟨show (20 : Nat) < 100 from by decide, nf4⟩, (fun _ h => (by cases h))⟩⟩⟩⟩⟩, (fun _ h => (by cases h))⟩
set_option maxHeartbeats 4000000 in
theorem vc_Mo_need_at_gs5002b_1_0 (x2 : Int) (x9 : Int) (x10 : Int) (x11 : Int) (tape_0 : Int → Int) (from_0 : Int) (pos_0 : Int) (kind_0 : Int) (fault_0 : Int) (faultPlace_0 : Int) (k2 : 0 ≤ x2 ∧ x2 ≤ 2000) (k9 : 1 ≤ x9 ∧ x9 ≤ 1) (k10 : 0 ≤ x10 ∧ x10 ≤ 2000) (k11 : 0 ≤ x11 ∧ x11 ≤ 5) (f5 : ((kind_0 = 1) → (pos_0 ≤ (from_0 + 8))) ∧ ((kind_0 = 0) ∨ ((from_0 + 1) ≤ pos_0))) (f7 : (-1) * fault_0 + 0 ≤ (-1)) (f8 : ((1 ≤ x11) ∧ (fault_0 = x11)) ∨ ((x11 = 0) ∧ ((fault_0 = x9) ∧ (faultPlace_0 = x10)))) (hK_0_1 : ∀ j : Int, 0 ≤ j → j < 2000 → (-128) ≤ tape_0 j ∧ tape_0 j ≤ 127) (kz_0_8 : 0 ≤ fault_0 ∧ fault_0 ≤ 5) (kz_0_9 : 0 ≤ faultPlace_0 ∧ faultPlace_0 ≤ 2000) (kz_0_11 : 0 ≤ pos_0 ∧ pos_0 ≤ 2000) (kz_0_12 : 0 ≤ kind_0 ∧ kind_0 ≤ 4) (kz_0_15 : 0 ≤ from_0 ∧ from_0 ≤ 2000) : (1 ≤ fault_0) ∨ ((x2 + 1) ≤ pos_0) := by
  first | with_reducible assumption | ((have f5_c0 := f5.1); (have f5_c1 := f5.2); (try and_intros) <;> first | with_reducible assumption | (clear f5_c0 f5_c1 f5 f8 hK_0_1; omega)) | ((have f5_c0 := f5.1); (have f5_c1 := f5.2); (try and_intros) <;> first | with_reducible assumption | (clear f5_c0 f5_c1 f5 hK_0_1; omega)) | omega
set_option maxHeartbeats 4000000 in
theorem vc_Mo_need_at_gs5002b_1_1 (x3 : Int) (x4 : Int) (x5 : Int) (x6 : Int) (x11 : Int) (place_0 : Int) (tape_0 : Int → Int) (limit_0 : Int) (from_0 : Int) (pos_0 : Int) (kind_0 : Int) (fault_0 : Int) (value_0 : Int) (all_0 : Int → Int) (r_0 : Int) (k3 : (-1) ≤ x3 ∧ x3 ≤ 48) (k4 : (-2147483648) ≤ x4 ∧ x4 ≤ 2147483647) (k5 : 0 ≤ x5 ∧ x5 ≤ 7) (k6 : 0 ≤ x6 ∧ x6 ≤ 4) (k11 : 0 ≤ x11 ∧ x11 ≤ 5) (f3 : ZFF (x11)) (kz_0_8 : 0 ≤ fault_0 ∧ fault_0 ≤ 5) (kz_0_10 : 0 ≤ limit_0 ∧ limit_0 ≤ 2000) (kz_0_11 : 0 ≤ pos_0 ∧ pos_0 ≤ 2000) (kz_0_12 : 0 ≤ kind_0 ∧ kind_0 ≤ 4) (kz_0_13 : 0 ≤ place_0 ∧ place_0 ≤ 2000) (kz_0_14 : (-49) ≤ value_0 ∧ value_0 ≤ 1048575) (kz_0_15 : 0 ≤ from_0 ∧ from_0 ≤ 2000) : zRP13s (limit_0) (pos_0) (kind_0) (place_0) (value_0) (from_0) (fault_0) (r_0) (tape_0) (all_0) (x3) (x4) (x5) (x6) := by
  first
    | exact rsq_of ‹zTP13s _ _ _ _ _ _ _ _ _ _› ‹TKR _ _ _ _ _ _ _ _›
    | (exfalso; have h := (‹zNbs _ _ _ _ _ _ _ _ _ _ _ _ _ _›).1.2.2.1; omega)
    | exact (‹ZFF _› : False).elim
def o_Mo_need_at_gs5002b_1 : or_T := (32, 12, [(0, (2, 0, 0, [165])), (2, (0, 0, 2000, [])), (3, (0, -1, 48, [])), (4, (0, -2147483648, 2147483647, [])), (5, (0, 0, 7, [])), (6, (0, 0, 4, [])), (9, (0, 1, 1, [])), (10, (0, 0, 2000, [])), (11, (0, 0, 5, []))], [(20, [11], [61, 0, 1030]), (20, [0], [50, 3, 0, 12, 11, 15, 2, 21, 4, 7, 1, 3, 2, 0, 12, 0, 1, 0, 3, 2, 0, 11, 4, 3, 2, 0, 15, 0, 8, 3, 7, 1, 3, 2, 0, 12, 0, 0, 0, 7, 4, 3, 2, 0, 15, 0, 1, 2, 0, 11]), (20, [0], [30, -1, -1, 1, 8]), (20, [11, 0, 9, 10], [50, 2, 0, 1008, 1009, 3, 15, 2, 6, 0, 2, 0, 1, 1, 0, 1, 3, 2, 1, 8, 1, 0, 2, 6, 1, 2, 1, 0, 0, 0, 2, 7, 1, 3, 2, 1, 8, 1, 2, 1, 3, 2, 1, 9, 1, 3])], [], [], [(20, [0, 2], [50, 2, 0, 8, 11, 3, 7, 0, 2, 0, 1, 2, 0, 8, 0, 6, 4, 2, 1, 1, 0, 1, 2, 0, 11]), (20, [0, 3, 4, 5, 6], [60, 8, 2, 995, 10, 11, 12, 13, 14, 15, 8, 5, 1, 2])], [], [])
theorem oo_Mo_need_at_gs5002b_1 {kA : Nat → ClassId} : or_ok PRD kA GG o_Mo_need_at_gs5002b_1 := by
  refine or_mk fun A ta ws vs hD hth hl => ?_
  intro t0 r0 t2 k2 t3 k3 t4 k4 t5 k5 t6 k6 t9 k9 t10 k10 t11 k11 f3 f5 f7 f8
  have cr_0_1 := fdq_39 hD hth r0
  have hK_0_1 := elq_7 hD hth cr_0_1
  have kz_0_8 := fdq_34 hD hth r0
  have kz_0_9 := fdq_44 hD hth r0
  have kz_0_10 := fdq_43 hD hth r0
  have kz_0_11 := fdq_237 hD hth r0
  have kz_0_12 := fdq_187 hD hth r0
  have kz_0_13 := fdq_238 hD hth r0
  have kz_0_14 := fdq_188 hD hth r0
  have kz_0_15 := fdq_239 hD hth r0
  have nf0 : fc_1 PRD (20, [0, 2], [50, 2, 0, 8, 11, 3, 7, 0, 2, 0, 1, 2, 0, 8, 0, 6, 4, 2, 1, 1, 0, 1, 2, 0, 11]) ws (vs) := ⟨nf_in hl rfl, sgq_1726 (vc_Mo_need_at_gs5002b_1_0 (v_iv (n_v vs 2)) (v_iv (n_v vs 9)) (v_iv (n_v vs 10)) (v_iv (n_v vs 11)) (w_ei ws (w_ar ws (n_v vs 0) 1)) (w_fi ws (n_v vs 0) 15) (w_fi ws (n_v vs 0) 11) (w_fi ws (n_v vs 0) 12) (w_fi ws (n_v vs 0) 8) (w_fi ws (n_v vs 0) 9) k2 k9 k10 k11 (shm_1438 f5) (shm_305 f7) (shm_306 f8) hK_0_1 kz_0_8 kz_0_9 kz_0_11 kz_0_12 kz_0_15)⟩
  have nf1 : fc_1 PRD (20, [0, 3, 4, 5, 6], [60, 8, 2, 995, 10, 11, 12, 13, 14, 15, 8, 5, 1, 2]) ws (vs) := ⟨nf_in hl rfl, sgq_1735 (vc_Mo_need_at_gs5002b_1_1 (v_iv (n_v vs 3)) (v_iv (n_v vs 4)) (v_iv (n_v vs 5)) (v_iv (n_v vs 6)) (v_iv (n_v vs 11)) (w_fi ws (n_v vs 0) 13) (w_ei ws (w_ar ws (n_v vs 0) 1)) (w_fi ws (n_v vs 0) 10) (w_fi ws (n_v vs 0) 15) (w_fi ws (n_v vs 0) 11) (w_fi ws (n_v vs 0) 12) (w_fi ws (n_v vs 0) 8) (w_fi ws (n_v vs 0) 14) (w_ei ws (w_ar ws (n_v vs 0) 2)) (w_fi ws (n_v vs 0) 5) k3 k4 k5 k6 k11 (shm_1734 f3) kz_0_8 kz_0_10 kz_0_11 kz_0_12 kz_0_13 kz_0_14 kz_0_15)⟩
  refine ⟨(fun _ h => (by cases h)), [], trivial, ?_, (fun _ h => (by cases h))⟩
  rw [List.append_nil]
  exact List.forall_mem_cons.mpr ⟨⟨show (20 : Nat) < 100 from by decide, nf0⟩, List.forall_mem_cons.mpr ⟨⟨show (20 : Nat) < 100 from by decide, nf1⟩, (fun _ h => (by cases h))⟩⟩
set_option maxHeartbeats 4000000 in
theorem vc_Mo_need_at_gs5002b_2_0 (x2 : Int) (x8 : Int) (kind_0 : Int) (fault_0 : Int) (from_0 : Int) (pos_0 : Int) (tape_0 : Int → Int) (gx : Int) (k2 : 0 ≤ x2 ∧ x2 ≤ 2000) (k8 : 1 ≤ x8 ∧ x8 ≤ 1) (f1 : (x8 = 1) → ((kind_0 = 3) ∧ (fault_0 = 0))) (f6 : ((kind_0 = 1) → (pos_0 ≤ (from_0 + 8))) ∧ ((kind_0 = 0) ∨ ((from_0 + 1) ≤ pos_0))) (f8 : (1 ≤ fault_0) ∨ ((kind_0 = 0) ∨ ((x2 + 1) ≤ pos_0))) (hK_0_1 : ∀ j : Int, 0 ≤ j → j < 2000 → (-128) ≤ tape_0 j ∧ tape_0 j ≤ 127) (kz_0_8 : 0 ≤ fault_0 ∧ fault_0 ≤ 5) (kz_0_11 : 0 ≤ pos_0 ∧ pos_0 ≤ 2000) (kz_0_12 : 0 ≤ kind_0 ∧ kind_0 ≤ 4) (kz_0_15 : 0 ≤ from_0 ∧ from_0 ≤ 2000) (ex2 : gx = pos_0) : 1 * gx + ((-1) * pos_0 + 0) ≤ 0 := by
  first | with_reducible assumption | ((have f6_c0 := f6.1); (have f6_c1 := f6.2); (try and_intros) <;> first | with_reducible assumption | (clear f6_c0 f6_c1 f6 f8 hK_0_1 f1; omega)) | ((have f6_c0 := f6.1); (have f6_c1 := f6.2); (first | have f1_b := f1 (by clear f6_c0 f6_c1 f6 f8 hK_0_1 f1; omega) | skip); (first | have f1_d := f1 (by with_reducible assumption) | skip); (try and_intros) <;> first | with_reducible assumption | (clear f6_c0 f6_c1 f6 f8 hK_0_1 f1; omega)) | ((have f6_c0 := f6.1); (have f6_c1 := f6.2); (first | have f1_b := f1 (by clear f6_c0 f6_c1 f6 f8 hK_0_1 f1; omega) | skip); (first | have f1_d := f1 (by with_reducible assumption) | skip); (try and_intros) <;> first | with_reducible assumption | (clear f6_c0 f6_c1 f6 hK_0_1 f1; omega)) | omega
set_option maxHeartbeats 4000000 in
theorem vc_Mo_need_at_gs5002b_2_1 (x2 : Int) (x8 : Int) (kind_0 : Int) (fault_0 : Int) (from_0 : Int) (pos_0 : Int) (tape_0 : Int → Int) (gx : Int) (k2 : 0 ≤ x2 ∧ x2 ≤ 2000) (k8 : 1 ≤ x8 ∧ x8 ≤ 1) (f1 : (x8 = 1) → ((kind_0 = 3) ∧ (fault_0 = 0))) (f6 : ((kind_0 = 1) → (pos_0 ≤ (from_0 + 8))) ∧ ((kind_0 = 0) ∨ ((from_0 + 1) ≤ pos_0))) (f8 : (1 ≤ fault_0) ∨ ((kind_0 = 0) ∨ ((x2 + 1) ≤ pos_0))) (hK_0_1 : ∀ j : Int, 0 ≤ j → j < 2000 → (-128) ≤ tape_0 j ∧ tape_0 j ≤ 127) (kz_0_8 : 0 ≤ fault_0 ∧ fault_0 ≤ 5) (kz_0_11 : 0 ≤ pos_0 ∧ pos_0 ≤ 2000) (kz_0_12 : 0 ≤ kind_0 ∧ kind_0 ≤ 4) (kz_0_15 : 0 ≤ from_0 ∧ from_0 ≤ 2000) (ex2 : gx = pos_0) : gx = pos_0 := by
  first | with_reducible assumption | ((have f6_c0 := f6.1); (have f6_c1 := f6.2); (try and_intros) <;> first | with_reducible assumption | (clear f6_c0 f6_c1 f6 f8 hK_0_1 f1; omega)) | ((have f6_c0 := f6.1); (have f6_c1 := f6.2); (first | have f1_b := f1 (by clear f6_c0 f6_c1 f6 f8 hK_0_1 f1; omega) | skip); (first | have f1_d := f1 (by with_reducible assumption) | skip); (try and_intros) <;> first | with_reducible assumption | (clear f6_c0 f6_c1 f6 f8 hK_0_1 f1; omega)) | ((have f6_c0 := f6.1); (have f6_c1 := f6.2); (first | have f1_b := f1 (by clear f6_c0 f6_c1 f6 f8 hK_0_1 f1; omega) | skip); (first | have f1_d := f1 (by with_reducible assumption) | skip); (try and_intros) <;> first | with_reducible assumption | (clear f6_c0 f6_c1 f6 hK_0_1 f1; omega)) | omega
set_option maxHeartbeats 4000000 in
theorem vc_Mo_need_at_gs5002b_2_2 (x3 : Int) (x4 : Int) (x5 : Int) (x6 : Int) (kind_0 : Int) (fault_0 : Int) (value_0 : Int) (from_0 : Int) (pos_0 : Int) (tape_0 : Int → Int) (all_0 : Int → Int) (limit_0 : Int) (place_0 : Int) (r_0 : Int) (k3 : (-1) ≤ x3 ∧ x3 ≤ 48) (k4 : (-2147483648) ≤ x4 ∧ x4 ≤ 2147483647) (k5 : 0 ≤ x5 ∧ x5 ≤ 7) (k6 : 0 ≤ x6 ∧ x6 ≤ 4) (f9 : zNbs (limit_0) (pos_0) (kind_0) (place_0) (value_0) (from_0) (fault_0) (r_0) (tape_0) (all_0) (x3) (x4) (x5) (x6)) (kz_0_8 : 0 ≤ fault_0 ∧ fault_0 ≤ 5) (kz_0_10 : 0 ≤ limit_0 ∧ limit_0 ≤ 2000) (kz_0_11 : 0 ≤ pos_0 ∧ pos_0 ≤ 2000) (kz_0_12 : 0 ≤ kind_0 ∧ kind_0 ≤ 4) (kz_0_13 : 0 ≤ place_0 ∧ place_0 ≤ 2000) (kz_0_14 : (-49) ≤ value_0 ∧ value_0 ≤ 1048575) (kz_0_15 : 0 ≤ from_0 ∧ from_0 ≤ 2000) : ZLM (limit_0) (pos_0) := by
  first
    | exact ndq_lim (or_r ‹zONs _ _ _ _ _ _ _ _ _ _ _ _ _› (fs_n (by omega)))
    | exact ndq_lim (or_r ‹zONo _ _ _ _ _ _ _ _ _ _ _ _ _› (fs_n (by omega)))
    | exact ndq_lim (or_r ‹zONew _ _ _ _ _ _ _ _ _ _ _ _ _ _› (fs_n (by omega)))
    | exact ndq_lim (or_r ‹zONes _ _ _ _ _ _ _ _ _ _ _ _ _ _› (fs_n (by omega))).2
    | exact ndq_lim (or_r ‹zNc _ _ _ _ _ _ _ _ _ _ _ _ _› (fs_n (by omega))).2.2
    | exact zlm_r (‹zNbs _ _ _ _ _ _ _ _ _ _ _ _ _ _›).1.2.2
    | exact zlm_r (‹zNbw _ _ _ _ _ _ _ _ _ _ _ _ _ _›).1.2
set_option maxHeartbeats 4000000 in
theorem vc_Mo_need_at_gs5002b_2_3 (x2 : Int) (x7 : Int) (x8 : Int) (kind_0 : Int) (fault_0 : Int) (from_0 : Int) (pos_0 : Int) (tape_0 : Int → Int) (gx : Int) (k2 : 0 ≤ x2 ∧ x2 ≤ 2000) (k7 : 0 ≤ x7 ∧ x7 ≤ 0) (k8 : 1 ≤ x8 ∧ x8 ≤ 1) (f1 : (x8 = 1) → ((kind_0 = 3) ∧ (fault_0 = 0))) (g4 : x7 = fault_0) (f6 : ((kind_0 = 1) → (pos_0 ≤ (from_0 + 8))) ∧ ((kind_0 = 0) ∨ ((from_0 + 1) ≤ pos_0))) (f7 : 1 * x2 + ((-1) * pos_0 + 0) ≤ 0) (f8 : (1 ≤ fault_0) ∨ ((kind_0 = 0) ∨ ((x2 + 1) ≤ pos_0))) (hK_0_1 : ∀ j : Int, 0 ≤ j → j < 2000 → (-128) ≤ tape_0 j ∧ tape_0 j ≤ 127) (kz_0_8 : 0 ≤ fault_0 ∧ fault_0 ≤ 5) (kz_0_11 : 0 ≤ pos_0 ∧ pos_0 ≤ 2000) (kz_0_12 : 0 ≤ kind_0 ∧ kind_0 ≤ 4) (kz_0_15 : 0 ≤ from_0 ∧ from_0 ≤ 2000) (ex2 : gx = pos_0) : 1 * x2 + ((-1) * gx + 0) ≤ (-1) := by
  first | with_reducible assumption | ((have f6_c0 := f6.1); (have f6_c1 := f6.2); (try and_intros) <;> first | with_reducible assumption | (clear f6_c0 f6_c1 f6 f8 hK_0_1 f1; omega)) | ((have f6_c0 := f6.1); (have f6_c1 := f6.2); (first | have f1_b := f1 (by clear f6_c0 f6_c1 f6 f8 hK_0_1 f1; omega) | skip); (first | have f1_d := f1 (by with_reducible assumption) | skip); (try and_intros) <;> first | with_reducible assumption | (clear f6_c0 f6_c1 f6 f8 hK_0_1 f1; omega)) | ((have f6_c0 := f6.1); (have f6_c1 := f6.2); (first | have f1_b := f1 (by clear f6_c0 f6_c1 f6 f8 hK_0_1 f1; omega) | skip); (first | have f1_d := f1 (by with_reducible assumption) | skip); (try and_intros) <;> first | with_reducible assumption | (clear f6_c0 f6_c1 f6 hK_0_1 f1; omega)) | omega
set_option maxHeartbeats 4000000 in
theorem vc_Mo_need_at_gs5002b_2_4 (x3 : Int) (x4 : Int) (x5 : Int) (x6 : Int) (kind_0 : Int) (fault_0 : Int) (value_0 : Int) (from_0 : Int) (pos_0 : Int) (tape_0 : Int → Int) (all_0 : Int → Int) (limit_0 : Int) (place_0 : Int) (r_0 : Int) (gx : Int) (k3 : (-1) ≤ x3 ∧ x3 ≤ 48) (k4 : (-2147483648) ≤ x4 ∧ x4 ≤ 2147483647) (k5 : 0 ≤ x5 ∧ x5 ≤ 7) (k6 : 0 ≤ x6 ∧ x6 ≤ 4) (f9 : zNbs (limit_0) (pos_0) (kind_0) (place_0) (value_0) (from_0) (fault_0) (r_0) (tape_0) (all_0) (x3) (x4) (x5) (x6)) (kz_0_8 : 0 ≤ fault_0 ∧ fault_0 ≤ 5) (kz_0_10 : 0 ≤ limit_0 ∧ limit_0 ≤ 2000) (kz_0_11 : 0 ≤ pos_0 ∧ pos_0 ≤ 2000) (kz_0_12 : 0 ≤ kind_0 ∧ kind_0 ≤ 4) (kz_0_13 : 0 ≤ place_0 ∧ place_0 ≤ 2000) (kz_0_14 : (-49) ≤ value_0 ∧ value_0 ≤ 1048575) (kz_0_15 : 0 ≤ from_0 ∧ from_0 ≤ 2000) (ex2 : gx = pos_0) : zTP13s (limit_0) (fault_0) (r_0) (tape_0) (all_0) (x3) (x4) (x5) (x6) (gx) := by
  have e : gx = pos_0 := by omega
  rw [e]
  first
    | exact nb_s ‹zNbs _ _ _ _ _ _ _ _ _ _ _ _ _ _› rfl
def o_Mo_need_at_gs5002b_2 : or_T := (17, 9, [(0, (2, 0, 0, [165])), (2, (0, 0, 2000, [])), (3, (0, -1, 48, [])), (4, (0, -2147483648, 2147483647, [])), (5, (0, 0, 7, [])), (6, (0, 0, 4, [])), (7, (0, 0, 0, [])), (8, (0, 1, 1, []))], [(20, [8, 0], [50, 2, 0, 1012, 1008, 4, 6, 1, 2, 1, 0, 0, 1, 2, 7, 1, 3, 2, 1, 12, 0, 3, 1, 3, 2, 1, 8, 0, 0]), (9, [7, 0], [8]), (20, [0], [50, 3, 0, 12, 11, 15, 2, 21, 4, 7, 1, 3, 2, 0, 12, 0, 1, 0, 3, 2, 0, 11, 4, 3, 2, 0, 15, 0, 8, 3, 7, 1, 3, 2, 0, 12, 0, 0, 0, 7, 4, 3, 2, 0, 15, 0, 1, 2, 0, 11]), (20, [2, 0], [30, 0, 1, 0, 0, -1, 1, 11]), (20, [0, 2], [50, 3, 0, 8, 12, 11, 3, 7, 0, 2, 0, 1, 2, 0, 8, 3, 7, 1, 3, 2, 0, 12, 0, 0, 0, 6, 4, 2, 1, 1, 0, 1, 2, 0, 11]), (20, [0, 3, 4, 5, 6], [60, 8, 2, 1001, 10, 11, 12, 13, 14, 15, 8, 5, 1, 2])], [], [(0, 0, 2000, [])], [(20, [9, 0], [30, 0, 1, 0, 0, -1, 1, 11]), (20, [9, 0], [50, 1, 0, 1011, 1, 2, 1, 0, 2, 1, 11]), (20, [0], [60, 2, 0, 947, 10, 11]), (23, [2, 9], [-1, 1, -1]), (20, [0, 3, 4, 5, 6, 9], [60, 3, 2, 980, 10, 8, 5, 1, 2])], [], [])
theorem oo_Mo_need_at_gs5002b_2 {kA : Nat → ClassId} : or_ok PRD kA GG o_Mo_need_at_gs5002b_2 := by
  refine or_mk fun A ta ws vs hD hth hl => ?_
  intro t0 r0 t2 k2 t3 k3 t4 k4 t5 k5 t6 k6 t7 k7 t8 k8 f1 f4 f6 f7 f8 f9
  replace f1 := shm_730 f1
  replace f4 := shm_293 f4
  replace f6 := shm_1438 f6
  replace f7 := shm_1431 f7
  replace f8 := shm_1722 f8
  replace f9 := shm_1733 f9
  have cr_0_1 := fdq_39 hD hth r0
  have g4 : v_iv (n_v vs 7) = w_fi ws (n_v vs 0) 8 := congrArg v_iv f4
  have hK_0_1 := elq_7 hD hth cr_0_1
  have kz_0_8 := fdq_34 hD hth r0
  have kz_0_10 := fdq_43 hD hth r0
  have kz_0_11 := fdq_237 hD hth r0
  have kz_0_12 := fdq_187 hD hth r0
  have kz_0_13 := fdq_238 hD hth r0
  have kz_0_14 := fdq_188 hD hth r0
  have kz_0_15 := fdq_239 hD hth r0
  obtain ⟨x, ex, hx⟩ := iv_ex (ta := ta) (lo := 0) (hi := 2000) (z := w_fi ws (n_v vs 0) 11) (by omega) (by omega) (by omega) (by omega)
  have ex2 : v_iv (Value.int x) = w_fi ws (n_v vs 0) 11 := ex
  have ex3 : 0 ≤ v_iv (Value.int x) ∧ v_iv (Value.int x) ≤ 2000 := tv_rng hx
  have e_0 : n_v (vs ++ [Value.int x]) 0 = n_v vs 0 := n_v_old (by rw [hl]; decide)
  have e_2 : n_v (vs ++ [Value.int x]) 2 = n_v vs 2 := n_v_old (by rw [hl]; decide)
  have e_3 : n_v (vs ++ [Value.int x]) 3 = n_v vs 3 := n_v_old (by rw [hl]; decide)
  have e_4 : n_v (vs ++ [Value.int x]) 4 = n_v vs 4 := n_v_old (by rw [hl]; decide)
  have e_5 : n_v (vs ++ [Value.int x]) 5 = n_v vs 5 := n_v_old (by rw [hl]; decide)
  have e_6 : n_v (vs ++ [Value.int x]) 6 = n_v vs 6 := n_v_old (by rw [hl]; decide)
  have e_9 : n_v (vs ++ [Value.int x]) 9 = Value.int x := n_v_new hl
  have nf0 : fc_1 PRD (20, [9, 0], [30, 0, 1, 0, 0, -1, 1, 11]) ws (vs ++ [Value.int x]) := by
    refine ⟨nf_inA hl rfl, sgq_1431 ?_⟩
    · show 1 * v_iv (n_v (vs ++ [Value.int x]) 9) + ((-1) * w_fi ws (n_v (vs ++ [Value.int x]) 0) 11 + 0) ≤ 0
      simp only [e_0, e_9]
      exact vc_Mo_need_at_gs5002b_2_0 (v_iv (n_v vs 2)) (v_iv (n_v vs 8)) (w_fi ws (n_v vs 0) 12) (w_fi ws (n_v vs 0) 8) (w_fi ws (n_v vs 0) 15) (w_fi ws (n_v vs 0) 11) (w_ei ws (w_ar ws (n_v vs 0) 1)) (v_iv (Value.int x)) k2 k8 f1 f6 f8 hK_0_1 kz_0_8 kz_0_11 kz_0_12 kz_0_15 ex2
  have nf1 : fc_1 PRD (20, [9, 0], [50, 1, 0, 1011, 1, 2, 1, 0, 2, 1, 11]) ws (vs ++ [Value.int x]) := by
    refine ⟨nf_inA hl rfl, sgq_1432 ?_⟩
    · show v_iv (n_v (vs ++ [Value.int x]) 9) = w_fi ws (n_v (vs ++ [Value.int x]) 0) 11
      simp only [e_0, e_9]
      exact vc_Mo_need_at_gs5002b_2_1 (v_iv (n_v vs 2)) (v_iv (n_v vs 8)) (w_fi ws (n_v vs 0) 12) (w_fi ws (n_v vs 0) 8) (w_fi ws (n_v vs 0) 15) (w_fi ws (n_v vs 0) 11) (w_ei ws (w_ar ws (n_v vs 0) 1)) (v_iv (Value.int x)) k2 k8 f1 f6 f8 hK_0_1 kz_0_8 kz_0_11 kz_0_12 kz_0_15 ex2
  have nf2 : fc_1 PRD (20, [0], [60, 2, 0, 947, 10, 11]) ws (vs ++ [Value.int x]) := by
    refine ⟨nf_inA hl rfl, sgq_1433 ?_⟩
    · show ZLM (w_fi ws (n_v (vs ++ [Value.int x]) 0) 10) (w_fi ws (n_v (vs ++ [Value.int x]) 0) 11)
      rw [e_0]
      exact vc_Mo_need_at_gs5002b_2_2 (v_iv (n_v vs 3)) (v_iv (n_v vs 4)) (v_iv (n_v vs 5)) (v_iv (n_v vs 6)) (w_fi ws (n_v vs 0) 12) (w_fi ws (n_v vs 0) 8) (w_fi ws (n_v vs 0) 14) (w_fi ws (n_v vs 0) 15) (w_fi ws (n_v vs 0) 11) (w_ei ws (w_ar ws (n_v vs 0) 1)) (w_ei ws (w_ar ws (n_v vs 0) 2)) (w_fi ws (n_v vs 0) 10) (w_fi ws (n_v vs 0) 13) (w_fi ws (n_v vs 0) 5) k3 k4 k5 k6 f9 kz_0_8 kz_0_10 kz_0_11 kz_0_12 kz_0_13 kz_0_14 kz_0_15
  have nf3 : fc_1 PRD (23, [2, 9], [-1, 1, -1]) ws (vs ++ [Value.int x]) := by
    refine ⟨nf_inA hl rfl, sgq_193 ?_⟩
    · show 1 * v_iv (n_v (vs ++ [Value.int x]) 2) + ((-1) * v_iv (n_v (vs ++ [Value.int x]) 9) + 0) ≤ (-1)
      simp only [e_2, e_9]
      exact vc_Mo_need_at_gs5002b_2_3 (v_iv (n_v vs 2)) (v_iv (n_v vs 7)) (v_iv (n_v vs 8)) (w_fi ws (n_v vs 0) 12) (w_fi ws (n_v vs 0) 8) (w_fi ws (n_v vs 0) 15) (w_fi ws (n_v vs 0) 11) (w_ei ws (w_ar ws (n_v vs 0) 1)) (v_iv (Value.int x)) k2 k7 k8 f1 g4 f6 f7 f8 hK_0_1 kz_0_8 kz_0_11 kz_0_12 kz_0_15 ex2
  have nf4 : fc_1 PRD (20, [0, 3, 4, 5, 6, 9], [60, 3, 2, 980, 10, 8, 5, 1, 2]) ws (vs ++ [Value.int x]) := by
    refine ⟨nf_inA hl rfl, sgq_1736 ?_⟩
    · show zTP13s (w_fi ws (n_v (vs ++ [Value.int x]) 0) 10) (w_fi ws (n_v (vs ++ [Value.int x]) 0) 8) (w_fi ws (n_v (vs ++ [Value.int x]) 0) 5) (w_ei ws (w_ar ws (n_v (vs ++ [Value.int x]) 0) 1)) (w_ei ws (w_ar ws (n_v (vs ++ [Value.int x]) 0) 2)) (v_iv (n_v (vs ++ [Value.int x]) 3)) (v_iv (n_v (vs ++ [Value.int x]) 4)) (v_iv (n_v (vs ++ [Value.int x]) 5)) (v_iv (n_v (vs ++ [Value.int x]) 6)) (v_iv (n_v (vs ++ [Value.int x]) 9))
      simp only [e_0, e_3, e_4, e_5, e_6, e_9]
      exact vc_Mo_need_at_gs5002b_2_4 (v_iv (n_v vs 3)) (v_iv (n_v vs 4)) (v_iv (n_v vs 5)) (v_iv (n_v vs 6)) (w_fi ws (n_v vs 0) 12) (w_fi ws (n_v vs 0) 8) (w_fi ws (n_v vs 0) 14) (w_fi ws (n_v vs 0) 15) (w_fi ws (n_v vs 0) 11) (w_ei ws (w_ar ws (n_v vs 0) 1)) (w_ei ws (w_ar ws (n_v vs 0) 2)) (w_fi ws (n_v vs 0) 10) (w_fi ws (n_v vs 0) 13) (w_fi ws (n_v vs 0) 5) (v_iv (Value.int x)) k3 k4 k5 k6 f9 kz_0_8 kz_0_10 kz_0_11 kz_0_12 kz_0_13 kz_0_14 kz_0_15 ex2
  exact ⟨(fun _ h => (by cases h)), [Value.int x], ag_one hx, List.forall_mem_cons.mpr ⟨⟨show (20 : Nat) < 100 from by decide, nf0⟩, List.forall_mem_cons.mpr ⟨⟨show (20 : Nat) < 100 from by decide, nf1⟩, List.forall_mem_cons.mpr ⟨⟨show (20 : Nat) < 100 from by decide, nf2⟩, List.forall_mem_cons.mpr ⟨⟨show (23 : Nat) < 100 from by decide, nf3⟩, List.forall_mem_cons.mpr ⟨⟨show (20 : Nat) < 100 from by decide, nf4⟩, (fun _ h => (by cases h))⟩⟩⟩⟩⟩, (fun _ h => (by cases h))⟩
set_option maxHeartbeats 4000000 in
theorem vc_Mo_need_at_gs5002b_3_0 (x2 : Int) (x9 : Int) (tape_0 : Int → Int) (from_0 : Int) (pos_0 : Int) (kind_0 : Int) (k2 : 0 ≤ x2 ∧ x2 ≤ 2000) (k9 : 0 ≤ x9 ∧ x9 ≤ 2000) (f1 : 1 * x2 + ((-1) * x9 + 0) ≤ (-1)) (f3 : 1 * from_0 + ((-1) * pos_0 + 0) ≤ 0) (f4 : ((kind_0 = 1) → (pos_0 ≤ (from_0 + 8))) ∧ ((kind_0 = 0) ∨ ((from_0 + 1) ≤ pos_0))) (f5 : 1 * x9 + ((-1) * from_0 + 0) ≤ 0) (hK_0_1 : ∀ j : Int, 0 ≤ j → j < 2000 → (-128) ≤ tape_0 j ∧ tape_0 j ≤ 127) (kz_0_11 : 0 ≤ pos_0 ∧ pos_0 ≤ 2000) (kz_0_12 : 0 ≤ kind_0 ∧ kind_0 ≤ 4) (kz_0_15 : 0 ≤ from_0 ∧ from_0 ≤ 2000) : 1 * x2 + ((-1) * pos_0 + 0) ≤ 0 := by
  first | with_reducible assumption | ((have f4_c0 := f4.1); (have f4_c1 := f4.2); (try and_intros) <;> first | with_reducible assumption | (clear f4_c0 f4_c1 f4 hK_0_1; omega)) | omega
set_option maxHeartbeats 4000000 in
theorem vc_Mo_need_at_gs5002b_3_1 (x2 : Int) (x9 : Int) (fault_0 : Int) (tape_0 : Int → Int) (from_0 : Int) (pos_0 : Int) (kind_0 : Int) (k2 : 0 ≤ x2 ∧ x2 ≤ 2000) (k9 : 0 ≤ x9 ∧ x9 ≤ 2000) (f1 : 1 * x2 + ((-1) * x9 + 0) ≤ (-1)) (f3 : 1 * from_0 + ((-1) * pos_0 + 0) ≤ 0) (f4 : ((kind_0 = 1) → (pos_0 ≤ (from_0 + 8))) ∧ ((kind_0 = 0) ∨ ((from_0 + 1) ≤ pos_0))) (f5 : 1 * x9 + ((-1) * from_0 + 0) ≤ 0) (hK_0_1 : ∀ j : Int, 0 ≤ j → j < 2000 → (-128) ≤ tape_0 j ∧ tape_0 j ≤ 127) (kz_0_8 : 0 ≤ fault_0 ∧ fault_0 ≤ 5) (kz_0_11 : 0 ≤ pos_0 ∧ pos_0 ≤ 2000) (kz_0_12 : 0 ≤ kind_0 ∧ kind_0 ≤ 4) (kz_0_15 : 0 ≤ from_0 ∧ from_0 ≤ 2000) : (1 ≤ fault_0) ∨ ((x2 + 1) ≤ pos_0) := by
  first | with_reducible assumption | ((have f4_c0 := f4.1); (have f4_c1 := f4.2); (try and_intros) <;> first | with_reducible assumption | (clear f4_c0 f4_c1 f4 hK_0_1; omega)) | omega
set_option maxHeartbeats 4000000 in
theorem vc_Mo_need_at_gs5002b_3_2 (x3 : Int) (x4 : Int) (x5 : Int) (x6 : Int) (x9 : Int) (fault_0 : Int) (tape_0 : Int → Int) (all_0 : Int → Int) (limit_0 : Int) (r_0 : Int) (from_0 : Int) (pos_0 : Int) (kind_0 : Int) (place_0 : Int) (value_0 : Int) (k3 : (-1) ≤ x3 ∧ x3 ≤ 48) (k4 : (-2147483648) ≤ x4 ∧ x4 ≤ 2147483647) (k5 : 0 ≤ x5 ∧ x5 ≤ 7) (k6 : 0 ≤ x6 ∧ x6 ≤ 4) (k9 : 0 ≤ x9 ∧ x9 ≤ 2000) (f2 : zTP13s (limit_0) (fault_0) (r_0) (tape_0) (all_0) (x3) (x4) (x5) (x6) (x9)) (f6 : TKR (limit_0) (pos_0) (kind_0) (place_0) (value_0) (from_0) (tape_0) (x9)) (kz_0_8 : 0 ≤ fault_0 ∧ fault_0 ≤ 5) (kz_0_10 : 0 ≤ limit_0 ∧ limit_0 ≤ 2000) (kz_0_11 : 0 ≤ pos_0 ∧ pos_0 ≤ 2000) (kz_0_12 : 0 ≤ kind_0 ∧ kind_0 ≤ 4) (kz_0_13 : 0 ≤ place_0 ∧ place_0 ≤ 2000) (kz_0_14 : (-49) ≤ value_0 ∧ value_0 ≤ 1048575) (kz_0_15 : 0 ≤ from_0 ∧ from_0 ≤ 2000) : zRP13s (limit_0) (pos_0) (kind_0) (place_0) (value_0) (from_0) (fault_0) (r_0) (tape_0) (all_0) (x3) (x4) (x5) (x6) := by
  first
    | exact rsq_of ‹zTP13s _ _ _ _ _ _ _ _ _ _› ‹TKR _ _ _ _ _ _ _ _›
    | (exfalso; have h := (‹zNbs _ _ _ _ _ _ _ _ _ _ _ _ _ _›).1.2.2.1; omega)
    | exact (‹ZFF _› : False).elim
def o_Mo_need_at_gs5002b_3 : or_T := (32, 10, [(0, (2, 0, 0, [165])), (2, (0, 0, 2000, [])), (3, (0, -1, 48, [])), (4, (0, -2147483648, 2147483647, [])), (5, (0, 0, 7, [])), (6, (0, 0, 4, [])), (9, (0, 0, 2000, []))], [(23, [2, 9], [-1, 1, -1]), (20, [0, 3, 4, 5, 6, 9], [60, 3, 2, 980, 10, 8, 5, 1, 2]), (20, [0, 0], [30, 0, 1, 1, 15, -1, 1, 11]), (20, [0], [50, 3, 0, 12, 11, 15, 2, 21, 4, 7, 1, 3, 2, 0, 12, 0, 1, 0, 3, 2, 0, 11, 4, 3, 2, 0, 15, 0, 8, 3, 7, 1, 3, 2, 0, 12, 0, 0, 0, 7, 4, 3, 2, 0, 15, 0, 1, 2, 0, 11]), (20, [9, 0], [30, 0, 1, 0, 0, -1, 1, 15]), (20, [0, 9], [60, 6, 1, 948, 10, 11, 12, 13, 14, 15, 1])], [], [], [(20, [2, 0], [30, 0, 1, 0, 0, -1, 1, 11]), (20, [0, 2], [50, 2, 0, 8, 11, 3, 7, 0, 2, 0, 1, 2, 0, 8, 0, 6, 4, 2, 1, 1, 0, 1, 2, 0, 11]), (20, [0, 3, 4, 5, 6], [60, 8, 2, 995, 10, 11, 12, 13, 14, 15, 8, 5, 1, 2])], [], [])
theorem oo_Mo_need_at_gs5002b_3 {kA : Nat → ClassId} : or_ok PRD kA GG o_Mo_need_at_gs5002b_3 := by
  refine or_mk fun A ta ws vs hD hth hl => ?_
  intro t0 r0 t2 k2 t3 k3 t4 k4 t5 k5 t6 k6 t9 k9 f1 f2 f3 f4 f5 f6
  have cr_0_1 := fdq_39 hD hth r0
  have hK_0_1 := elq_7 hD hth cr_0_1
  have kz_0_8 := fdq_34 hD hth r0
  have kz_0_10 := fdq_43 hD hth r0
  have kz_0_11 := fdq_237 hD hth r0
  have kz_0_12 := fdq_187 hD hth r0
  have kz_0_13 := fdq_238 hD hth r0
  have kz_0_14 := fdq_188 hD hth r0
  have kz_0_15 := fdq_239 hD hth r0
  have nf0 : fc_1 PRD (20, [2, 0], [30, 0, 1, 0, 0, -1, 1, 11]) ws (vs) := ⟨nf_in hl rfl, sgq_1431 (vc_Mo_need_at_gs5002b_3_0 (v_iv (n_v vs 2)) (v_iv (n_v vs 9)) (w_ei ws (w_ar ws (n_v vs 0) 1)) (w_fi ws (n_v vs 0) 15) (w_fi ws (n_v vs 0) 11) (w_fi ws (n_v vs 0) 12) k2 k9 (shm_193 f1) (shm_1437 f3) (shm_1438 f4) (shm_1436 f5) hK_0_1 kz_0_11 kz_0_12 kz_0_15)⟩
  have nf1 : fc_1 PRD (20, [0, 2], [50, 2, 0, 8, 11, 3, 7, 0, 2, 0, 1, 2, 0, 8, 0, 6, 4, 2, 1, 1, 0, 1, 2, 0, 11]) ws (vs) := ⟨nf_in hl rfl, sgq_1726 (vc_Mo_need_at_gs5002b_3_1 (v_iv (n_v vs 2)) (v_iv (n_v vs 9)) (w_fi ws (n_v vs 0) 8) (w_ei ws (w_ar ws (n_v vs 0) 1)) (w_fi ws (n_v vs 0) 15) (w_fi ws (n_v vs 0) 11) (w_fi ws (n_v vs 0) 12) k2 k9 (shm_193 f1) (shm_1437 f3) (shm_1438 f4) (shm_1436 f5) hK_0_1 kz_0_8 kz_0_11 kz_0_12 kz_0_15)⟩
  have nf2 : fc_1 PRD (20, [0, 3, 4, 5, 6], [60, 8, 2, 995, 10, 11, 12, 13, 14, 15, 8, 5, 1, 2]) ws (vs) := ⟨nf_in hl rfl, sgq_1735 (vc_Mo_need_at_gs5002b_3_2 (v_iv (n_v vs 3)) (v_iv (n_v vs 4)) (v_iv (n_v vs 5)) (v_iv (n_v vs 6)) (v_iv (n_v vs 9)) (w_fi ws (n_v vs 0) 8) (w_ei ws (w_ar ws (n_v vs 0) 1)) (w_ei ws (w_ar ws (n_v vs 0) 2)) (w_fi ws (n_v vs 0) 10) (w_fi ws (n_v vs 0) 5) (w_fi ws (n_v vs 0) 15) (w_fi ws (n_v vs 0) 11) (w_fi ws (n_v vs 0) 12) (w_fi ws (n_v vs 0) 13) (w_fi ws (n_v vs 0) 14) k3 k4 k5 k6 k9 (shm_1736 f2) (shm_1439 f6) kz_0_8 kz_0_10 kz_0_11 kz_0_12 kz_0_13 kz_0_14 kz_0_15)⟩
  refine ⟨(fun _ h => (by cases h)), [], trivial, ?_, (fun _ h => (by cases h))⟩
  rw [List.append_nil]
  exact List.forall_mem_cons.mpr ⟨⟨show (20 : Nat) < 100 from by decide, nf0⟩, List.forall_mem_cons.mpr ⟨⟨show (20 : Nat) < 100 from by decide, nf1⟩, List.forall_mem_cons.mpr ⟨⟨show (20 : Nat) < 100 from by decide, nf2⟩, (fun _ h => (by cases h))⟩⟩⟩
set_option maxHeartbeats 4000000 in
theorem vc_Mo_need_at_gs5002b_4_0 (x2 : Int) (x7 : Int) (fault_0 : Int) (from_0 : Int) (pos_0 : Int) (kind_0 : Int) (tape_0 : Int → Int) (k2 : 0 ≤ x2 ∧ x2 ≤ 2000) (k7 : 1 ≤ x7 ∧ x7 ≤ 5) (g1 : x7 = fault_0) (f3 : ((kind_0 = 1) → (pos_0 ≤ (from_0 + 8))) ∧ ((kind_0 = 0) ∨ ((from_0 + 1) ≤ pos_0))) (f5 : (1 ≤ fault_0) ∨ ((kind_0 = 0) ∨ ((x2 + 1) ≤ pos_0))) (hK_0_1 : ∀ j : Int, 0 ≤ j → j < 2000 → (-128) ≤ tape_0 j ∧ tape_0 j ≤ 127) (kz_0_8 : 0 ≤ fault_0 ∧ fault_0 ≤ 5) (kz_0_11 : 0 ≤ pos_0 ∧ pos_0 ≤ 2000) (kz_0_12 : 0 ≤ kind_0 ∧ kind_0 ≤ 4) (kz_0_15 : 0 ≤ from_0 ∧ from_0 ≤ 2000) : (1 ≤ fault_0) ∨ ((x2 + 1) ≤ pos_0) := by
  first | with_reducible assumption | ((have f3_c0 := f3.1); (have f3_c1 := f3.2); (try and_intros) <;> first | with_reducible assumption | (clear f3_c0 f3_c1 f3 f5 hK_0_1; omega)) | ((have f3_c0 := f3.1); (have f3_c1 := f3.2); (try and_intros) <;> first | with_reducible assumption | (clear f3_c0 f3_c1 f3 hK_0_1; omega)) | omega
set_option maxHeartbeats 4000000 in
theorem vc_Mo_need_at_gs5002b_4_1 (x3 : Int) (x4 : Int) (x5 : Int) (x6 : Int) (x7 : Int) (fault_0 : Int) (from_0 : Int) (pos_0 : Int) (kind_0 : Int) (tape_0 : Int → Int) (all_0 : Int → Int) (limit_0 : Int) (place_0 : Int) (value_0 : Int) (r_0 : Int) (k3 : (-1) ≤ x3 ∧ x3 ≤ 48) (k4 : (-2147483648) ≤ x4 ∧ x4 ≤ 2147483647) (k5 : 0 ≤ x5 ∧ x5 ≤ 7) (k6 : 0 ≤ x6 ∧ x6 ≤ 4) (k7 : 1 ≤ x7 ∧ x7 ≤ 5) (g1 : x7 = fault_0) (f6 : zNbs (limit_0) (pos_0) (kind_0) (place_0) (value_0) (from_0) (fault_0) (r_0) (tape_0) (all_0) (x3) (x4) (x5) (x6)) (kz_0_8 : 0 ≤ fault_0 ∧ fault_0 ≤ 5) (kz_0_10 : 0 ≤ limit_0 ∧ limit_0 ≤ 2000) (kz_0_11 : 0 ≤ pos_0 ∧ pos_0 ≤ 2000) (kz_0_12 : 0 ≤ kind_0 ∧ kind_0 ≤ 4) (kz_0_13 : 0 ≤ place_0 ∧ place_0 ≤ 2000) (kz_0_14 : (-49) ≤ value_0 ∧ value_0 ≤ 1048575) (kz_0_15 : 0 ≤ from_0 ∧ from_0 ≤ 2000) : zRP13s (limit_0) (pos_0) (kind_0) (place_0) (value_0) (from_0) (fault_0) (r_0) (tape_0) (all_0) (x3) (x4) (x5) (x6) := by
  first
    | exact rsq_of ‹zTP13s _ _ _ _ _ _ _ _ _ _› ‹TKR _ _ _ _ _ _ _ _›
    | (exfalso; have h := (‹zNbs _ _ _ _ _ _ _ _ _ _ _ _ _ _›).1.2.2.1; omega)
    | exact (‹ZFF _› : False).elim
def o_Mo_need_at_gs5002b_4 : or_T := (7, 8, [(0, (2, 0, 0, [165])), (2, (0, 0, 2000, [])), (3, (0, -1, 48, [])), (4, (0, -2147483648, 2147483647, [])), (5, (0, 0, 7, [])), (6, (0, 0, 4, [])), (7, (0, 1, 5, []))], [(9, [7, 0], [8]), (20, [0], [50, 3, 0, 12, 11, 15, 2, 21, 4, 7, 1, 3, 2, 0, 12, 0, 1, 0, 3, 2, 0, 11, 4, 3, 2, 0, 15, 0, 8, 3, 7, 1, 3, 2, 0, 12, 0, 0, 0, 7, 4, 3, 2, 0, 15, 0, 1, 2, 0, 11]), (20, [0, 2], [50, 3, 0, 8, 12, 11, 3, 7, 0, 2, 0, 1, 2, 0, 8, 3, 7, 1, 3, 2, 0, 12, 0, 0, 0, 6, 4, 2, 1, 1, 0, 1, 2, 0, 11]), (20, [0, 3, 4, 5, 6], [60, 8, 2, 1001, 10, 11, 12, 13, 14, 15, 8, 5, 1, 2])], [], [], [(20, [0, 2], [50, 2, 0, 8, 11, 3, 7, 0, 2, 0, 1, 2, 0, 8, 0, 6, 4, 2, 1, 1, 0, 1, 2, 0, 11]), (20, [0, 3, 4, 5, 6], [60, 8, 2, 995, 10, 11, 12, 13, 14, 15, 8, 5, 1, 2])], [], [])
theorem oo_Mo_need_at_gs5002b_4 {kA : Nat → ClassId} : or_ok PRD kA GG o_Mo_need_at_gs5002b_4 := by
  refine or_mk fun A ta ws vs hD hth hl => ?_
  intro t0 r0 t2 k2 t3 k3 t4 k4 t5 k5 t6 k6 t7 k7 f1 f3 f5 f6
  replace f1 := shm_293 f1
  have cr_0_1 := fdq_39 hD hth r0
  have g1 : v_iv (n_v vs 7) = w_fi ws (n_v vs 0) 8 := congrArg v_iv f1
  have hK_0_1 := elq_7 hD hth cr_0_1
  have kz_0_8 := fdq_34 hD hth r0
  have kz_0_10 := fdq_43 hD hth r0
  have kz_0_11 := fdq_237 hD hth r0
  have kz_0_12 := fdq_187 hD hth r0
  have kz_0_13 := fdq_238 hD hth r0
  have kz_0_14 := fdq_188 hD hth r0
  have kz_0_15 := fdq_239 hD hth r0
  have nf0 : fc_1 PRD (20, [0, 2], [50, 2, 0, 8, 11, 3, 7, 0, 2, 0, 1, 2, 0, 8, 0, 6, 4, 2, 1, 1, 0, 1, 2, 0, 11]) ws (vs) := ⟨nf_in hl rfl, sgq_1726 (vc_Mo_need_at_gs5002b_4_0 (v_iv (n_v vs 2)) (v_iv (n_v vs 7)) (w_fi ws (n_v vs 0) 8) (w_fi ws (n_v vs 0) 15) (w_fi ws (n_v vs 0) 11) (w_fi ws (n_v vs 0) 12) (w_ei ws (w_ar ws (n_v vs 0) 1)) k2 k7 g1 (shm_1438 f3) (shm_1722 f5) hK_0_1 kz_0_8 kz_0_11 kz_0_12 kz_0_15)⟩
  have nf1 : fc_1 PRD (20, [0, 3, 4, 5, 6], [60, 8, 2, 995, 10, 11, 12, 13, 14, 15, 8, 5, 1, 2]) ws (vs) := ⟨nf_in hl rfl, sgq_1735 (vc_Mo_need_at_gs5002b_4_1 (v_iv (n_v vs 3)) (v_iv (n_v vs 4)) (v_iv (n_v vs 5)) (v_iv (n_v vs 6)) (v_iv (n_v vs 7)) (w_fi ws (n_v vs 0) 8) (w_fi ws (n_v vs 0) 15) (w_fi ws (n_v vs 0) 11) (w_fi ws (n_v vs 0) 12) (w_ei ws (w_ar ws (n_v vs 0) 1)) (w_ei ws (w_ar ws (n_v vs 0) 2)) (w_fi ws (n_v vs 0) 10) (w_fi ws (n_v vs 0) 13) (w_fi ws (n_v vs 0) 14) (w_fi ws (n_v vs 0) 5) k3 k4 k5 k6 k7 g1 (shm_1733 f6) kz_0_8 kz_0_10 kz_0_11 kz_0_12 kz_0_13 kz_0_14 kz_0_15)⟩
  refine ⟨(fun _ h => (by cases h)), [], trivial, ?_, (fun _ h => (by cases h))⟩
  rw [List.append_nil]
  exact List.forall_mem_cons.mpr ⟨⟨show (20 : Nat) < 100 from by decide, nf0⟩, List.forall_mem_cons.mpr ⟨⟨show (20 : Nat) < 100 from by decide, nf1⟩, (fun _ h => (by cases h))⟩⟩
def n_Mo_need_at_gs5002b_an : List an_T := []
def t_Mo_need_at_gs5002b_ct : ct_L := [(1, 457, e_Mo_sign), (1, 460, e_Mo_next), (1, 463, e_Mo_wrong)]
set_option maxRecDepth 100000 in
theorem c_Mo_need_at_gs5002b {l : Launch} {D : va_G} {kA : Nat → ClassId} (h_Mo_next : ct_ok PRD l D kA GG y_Mo_next z_Mo_next e_Mo_next) (h_Mo_sign : ct_ok PRD l D kA GG y_Mo_sign z_Mo_sign e_Mo_sign) (h_Mo_wrong : ct_ok PRD l D kA GG y_Mo_wrong z_Mo_wrong e_Mo_wrong) : ct_ok PRD l D kA GG y_Mo_need_at_gs5002b z_Mo_need_at_gs5002b e_Mo_need_at_gs5002b := chk_all_ok (FT := [(413, 13, 8), (428, 13, 13)]) (PT := []) (CT := t_Mo_need_at_gs5002b_ct) (KT := []) (NT := []) (AN := n_Mo_need_at_gs5002b_an) (OT := [o_Mo_need_at_gs5002b_0, o_Mo_need_at_gs5002b_1, o_Mo_need_at_gs5002b_2, o_Mo_need_at_gs5002b_3, o_Mo_need_at_gs5002b_4]) 0 200 (List.forall_mem_cons.mpr ⟨oo_Mo_need_at_gs5002b_0, List.forall_mem_cons.mpr ⟨oo_Mo_need_at_gs5002b_1, List.forall_mem_cons.mpr ⟨oo_Mo_need_at_gs5002b_2, List.forall_mem_cons.mpr ⟨oo_Mo_need_at_gs5002b_3, List.forall_mem_cons.mpr ⟨oo_Mo_need_at_gs5002b_4, List.forall_mem_nil _⟩⟩⟩⟩⟩) (by decide +kernel) ⟨List.forall_mem_cons.mpr ⟨gf_Mo_413, List.forall_mem_cons.mpr ⟨gf_Mo_428, List.forall_mem_nil _⟩⟩, List.forall_mem_nil _, List.forall_mem_cons.mpr ⟨cl_virtual (y := y_Mo_sign) (ci := 13) rfl rfl ⟨_, _, rfl⟩ (by decide +kernel) h_Mo_sign wm_3058 wm_9 wm_3055 wm_3057 wv_13_11 ⟨by decide, by decide, by decide +kernel⟩ (by decide), List.forall_mem_cons.mpr ⟨cl_virtual (y := y_Mo_next) (ci := 13) rfl rfl ⟨_, _, rfl⟩ (by decide +kernel) h_Mo_next wm_2982 wm_9 wm_2979 wm_2981 wv_12_11 ⟨by decide, by decide, by decide +kernel⟩ (by decide), List.forall_mem_cons.mpr ⟨cl_virtual (y := y_Mo_wrong) (ci := 13) rfl rfl ⟨_, _, rfl⟩ (by decide +kernel) h_Mo_wrong wm_3017 wm_9 wm_3014 wm_3016 wv_13_1 ⟨by decide, by decide, by decide +kernel⟩ (by decide), List.forall_mem_nil _⟩⟩⟩, List.forall_mem_nil _, List.forall_mem_nil _, GG_pl⟩ (by decide +kernel)
set_option maxHeartbeats 4000000 in
theorem vc_Mo_need_at_gs5002e_0_0 (x1 : Int) (x3 : Int) (x4 : Int) (x5 : Int) (x6 : Int) (x7 : Int) (x8 : Int) (x9 : Int) (place_0 : Int) (kind_0 : Int) (fault_0 : Int) (value_0 : Int) (from_0 : Int) (pos_0 : Int) (tape_0 : Int → Int) (all_0 : Int → Int) (limit_0 : Int) (faultPlace_0 : Int) (r_0 : Int) (k1 : 61 ≤ x1 ∧ x1 ≤ 61) (k3 : (-1) ≤ x3 ∧ x3 ≤ 48) (k4 : 0 ≤ x4 ∧ x4 ≤ 7) (k5 : 0 ≤ x5 ∧ x5 ≤ 4) (k6 : 0 ≤ x6 ∧ x6 ≤ 0) (k7 : 0 ≤ x7 ∧ x7 ≤ 0) (k8 : 1 ≤ x8 ∧ x8 ≤ 1) (k9 : 0 ≤ x9 ∧ x9 ≤ 2000) (g0 : x9 = place_0) (f1 : x7 = 0) (f3 : SGQ (fault_0) (kind_0) (value_0) (x1) (x7)) (g5 : x6 = fault_0) (f10 : zONes (limit_0) (pos_0) (kind_0) (place_0) (value_0) (from_0) (fault_0) (faultPlace_0) (r_0) (tape_0) (all_0) (x3) (x4) (x5)) (kz_0_8 : 0 ≤ fault_0 ∧ fault_0 ≤ 5) (kz_0_9 : 0 ≤ faultPlace_0 ∧ faultPlace_0 ≤ 2000) (kz_0_10 : 0 ≤ limit_0 ∧ limit_0 ≤ 2000) (kz_0_11 : 0 ≤ pos_0 ∧ pos_0 ≤ 2000) (kz_0_12 : 0 ≤ kind_0 ∧ kind_0 ≤ 4) (kz_0_13 : 0 ≤ place_0 ∧ place_0 ≤ 2000) (kz_0_14 : (-49) ≤ value_0 ∧ value_0 ≤ 1048575) (kz_0_15 : 0 ≤ from_0 ∧ from_0 ≤ 2000) : FSX (limit_0) (tape_0) (x8) (x9) := by
  first
    | exact fsx_cg (ndq_flt (or_r ‹zONs _ _ _ _ _ _ _ _ _ _ _ _ _› (fs_n (by omega))) (sgq_f ‹SGQ _ _ _ _ _› (by omega) (by omega) (by omega))) (by omega) (by omega)
    | exact fsx_cg (ndq_flt (or_r ‹zONo _ _ _ _ _ _ _ _ _ _ _ _ _› (fs_n (by omega))) (sgq_f ‹SGQ _ _ _ _ _› (by omega) (by omega) (by omega))) (by omega) (by omega)
    | exact fsx_cg (ndq_flt (or_r ‹zONew _ _ _ _ _ _ _ _ _ _ _ _ _ _› (fs_n (by omega))) (sgq_f ‹SGQ _ _ _ _ _› (by omega) (by omega) (by omega))) (by omega) (by omega)
    | exact fsx_cg (ndq_flt (or_r ‹zONes _ _ _ _ _ _ _ _ _ _ _ _ _ _› (fs_n (by omega))).2 (sgq_f ‹SGQ _ _ _ _ _› (by omega) (by omega) (by omega))) (by omega) (by omega)
    | (exfalso; have h := or_r ‹zNc _ _ _ _ _ _ _ _ _ _ _ _ _› (fs_n (by omega)); exact sgq_f (C := 125) ‹SGQ _ _ _ _ _› (by omega) (by omega) (by omega) ⟨h.1, h.2.1⟩)
    | (exfalso; exact sgq_f (C := 93) ‹SGQ _ _ _ _ _› (by omega) (by omega) (by omega) ⟨(‹zNbs _ _ _ _ _ _ _ _ _ _ _ _ _ _›).2.1, (‹zNbs _ _ _ _ _ _ _ _ _ _ _ _ _ _›).2.2⟩)
    | (exfalso; exact sgq_f (C := 93) ‹SGQ _ _ _ _ _› (by omega) (by omega) (by omega) ⟨(‹zNbw _ _ _ _ _ _ _ _ _ _ _ _ _ _›).2.1, (‹zNbw _ _ _ _ _ _ _ _ _ _ _ _ _ _›).2.2⟩)
set_option maxHeartbeats 4000000 in
theorem vc_Mo_need_at_gs5002e_0_1 (x2 : Int) (x6 : Int) (x7 : Int) (kind_0 : Int) (fault_0 : Int) (from_0 : Int) (pos_0 : Int) (tape_0 : Int → Int) (gx : Int) (k2 : 0 ≤ x2 ∧ x2 ≤ 2000) (k6 : 0 ≤ x6 ∧ x6 ≤ 0) (k7 : 0 ≤ x7 ∧ x7 ≤ 0) (f2 : (x7 = 1) → ((kind_0 = 3) ∧ (fault_0 = 0))) (g5 : x6 = fault_0) (f7 : ((kind_0 = 1) → (pos_0 ≤ (from_0 + 8))) ∧ ((kind_0 = 0) ∨ ((from_0 + 1) ≤ pos_0))) (f9 : (1 ≤ fault_0) ∨ ((kind_0 = 0) ∨ ((x2 + 1) ≤ pos_0))) (hK_0_1 : ∀ j : Int, 0 ≤ j → j < 2000 → (-128) ≤ tape_0 j ∧ tape_0 j ≤ 127) (kz_0_8 : 0 ≤ fault_0 ∧ fault_0 ≤ 5) (kz_0_11 : 0 ≤ pos_0 ∧ pos_0 ≤ 2000) (kz_0_12 : 0 ≤ kind_0 ∧ kind_0 ≤ 4) (kz_0_15 : 0 ≤ from_0 ∧ from_0 ≤ 2000) (ex2 : gx = fault_0) : 1 * fault_0 + ((-1) * gx + 0) ≤ 0 := by
  first | with_reducible assumption | ((have f7_c0 := f7.1); (have f7_c1 := f7.2); (try and_intros) <;> first | with_reducible assumption | (clear f7_c0 f7_c1 f7 f9 hK_0_1 f2; omega)) | ((have f7_c0 := f7.1); (have f7_c1 := f7.2); (first | have f2_b := f2 (by clear f7_c0 f7_c1 f7 f9 hK_0_1 f2; omega) | skip); (first | have f2_d := f2 (by with_reducible assumption) | skip); (try and_intros) <;> first | with_reducible assumption | (clear f7_c0 f7_c1 f7 f9 hK_0_1 f2; omega)) | ((have f7_c0 := f7.1); (have f7_c1 := f7.2); (first | have f2_b := f2 (by clear f7_c0 f7_c1 f7 f9 hK_0_1 f2; omega) | skip); (first | have f2_d := f2 (by with_reducible assumption) | skip); (try and_intros) <;> first | with_reducible assumption | (clear f7_c0 f7_c1 f7 hK_0_1 f2; omega)) | omega
set_option maxHeartbeats 4000000 in
theorem vc_Mo_need_at_gs5002e_0_2 (x2 : Int) (x6 : Int) (x7 : Int) (kind_0 : Int) (fault_0 : Int) (from_0 : Int) (pos_0 : Int) (tape_0 : Int → Int) (gx : Int) (k2 : 0 ≤ x2 ∧ x2 ≤ 2000) (k6 : 0 ≤ x6 ∧ x6 ≤ 0) (k7 : 0 ≤ x7 ∧ x7 ≤ 0) (f2 : (x7 = 1) → ((kind_0 = 3) ∧ (fault_0 = 0))) (g5 : x6 = fault_0) (f7 : ((kind_0 = 1) → (pos_0 ≤ (from_0 + 8))) ∧ ((kind_0 = 0) ∨ ((from_0 + 1) ≤ pos_0))) (f9 : (1 ≤ fault_0) ∨ ((kind_0 = 0) ∨ ((x2 + 1) ≤ pos_0))) (hK_0_1 : ∀ j : Int, 0 ≤ j → j < 2000 → (-128) ≤ tape_0 j ∧ tape_0 j ≤ 127) (kz_0_8 : 0 ≤ fault_0 ∧ fault_0 ≤ 5) (kz_0_11 : 0 ≤ pos_0 ∧ pos_0 ≤ 2000) (kz_0_12 : 0 ≤ kind_0 ∧ kind_0 ≤ 4) (kz_0_15 : 0 ≤ from_0 ∧ from_0 ≤ 2000) (ex2 : gx = fault_0) : (-1) * fault_0 + (1 * gx + 0) ≤ 0 := by
  first | with_reducible assumption | ((have f7_c0 := f7.1); (have f7_c1 := f7.2); (try and_intros) <;> first | with_reducible assumption | (clear f7_c0 f7_c1 f7 f9 hK_0_1 f2; omega)) | ((have f7_c0 := f7.1); (have f7_c1 := f7.2); (first | have f2_b := f2 (by clear f7_c0 f7_c1 f7 f9 hK_0_1 f2; omega) | skip); (first | have f2_d := f2 (by with_reducible assumption) | skip); (try and_intros) <;> first | with_reducible assumption | (clear f7_c0 f7_c1 f7 f9 hK_0_1 f2; omega)) | ((have f7_c0 := f7.1); (have f7_c1 := f7.2); (first | have f2_b := f2 (by clear f7_c0 f7_c1 f7 f9 hK_0_1 f2; omega) | skip); (first | have f2_d := f2 (by with_reducible assumption) | skip); (try and_intros) <;> first | with_reducible assumption | (clear f7_c0 f7_c1 f7 hK_0_1 f2; omega)) | omega
set_option maxHeartbeats 4000000 in
theorem vc_Mo_need_at_gs5002e_0_3 (x6 : Int) (fault_0 : Int) (gx : Int) (k6 : 0 ≤ x6 ∧ x6 ≤ 0) (g5 : x6 = fault_0) (kz_0_8 : 0 ≤ fault_0 ∧ fault_0 ≤ 5) (ex2 : gx = fault_0) : ZH0 (gx) := by
  exact ⟨by omega, by omega, trivial⟩
def o_Mo_need_at_gs5002e_0 : or_T := (29, 10, [(0, (2, 0, 0, [165])), (1, (0, 61, 61, [])), (2, (0, 0, 2000, [])), (3, (0, -1, 48, [])), (4, (0, 0, 7, [])), (5, (0, 0, 4, [])), (6, (0, 0, 0, [])), (7, (0, 0, 0, [])), (8, (0, 1, 1, [])), (9, (0, 0, 2000, []))], [(9, [9, 0], [13]), (8, [7], [0]), (20, [7, 0], [50, 2, 0, 1012, 1008, 4, 6, 1, 2, 1, 0, 0, 1, 2, 7, 1, 3, 2, 1, 12, 0, 3, 1, 3, 2, 1, 8, 0, 0]), (20, [0, 1, 7], [60, 3, 0, 963, 8, 12, 14]), (9, [6, 0], [8]), (20, [0], [50, 3, 0, 12, 11, 15, 2, 21, 4, 7, 1, 3, 2, 0, 12, 0, 1, 0, 3, 2, 0, 11, 4, 3, 2, 0, 15, 0, 8, 3, 7, 1, 3, 2, 0, 12, 0, 0, 0, 7, 4, 3, 2, 0, 15, 0, 1, 2, 0, 11]), (20, [0, 2], [50, 3, 0, 8, 12, 11, 3, 7, 0, 2, 0, 1, 2, 0, 8, 3, 7, 1, 3, 2, 0, 12, 0, 0, 0, 6, 4, 2, 1, 1, 0, 1, 2, 0, 11]), (20, [0, 3, 4, 5], [60, 9, 2, 1019, 10, 11, 12, 13, 14, 15, 8, 9, 5, 1, 2])], [], [(0, 0, 5, [])], [(20, [0, 8, 9], [60, 1, 1, 1026, 10, 1]), (20, [0, 10], [30, 0, 1, 1, 8, -1, 0, 0]), (20, [0, 10], [30, 0, -1, 1, 8, 1, 0, 0]), (20, [10], [61, 0, 1029])], [], [])
theorem oo_Mo_need_at_gs5002e_0 {kA : Nat → ClassId} : or_ok PRD kA GG o_Mo_need_at_gs5002e_0 := by
  refine or_mk fun A ta ws vs hD hth hl => ?_
  intro t0 r0 t1 k1 t2 k2 t3 k3 t4 k4 t5 k5 t6 k6 t7 k7 t8 k8 t9 k9 f0 f1 f2 f3 f5 f7 f9 f10
  replace f0 := shm_361 f0
  replace f1 := shm_192 f1
  replace f2 := shm_730 f2
  replace f3 := shm_731 f3
  replace f5 := shm_293 f5
  replace f7 := shm_1438 f7
  replace f9 := shm_1722 f9
  replace f10 := shm_1737 f10
  have cr_0_1 := fdq_39 hD hth r0
  have g0 : v_iv (n_v vs 9) = w_fi ws (n_v vs 0) 13 := congrArg v_iv f0
  have g5 : v_iv (n_v vs 6) = w_fi ws (n_v vs 0) 8 := congrArg v_iv f5
  have hK_0_1 := elq_7 hD hth cr_0_1
  have kz_0_8 := fdq_34 hD hth r0
  have kz_0_9 := fdq_44 hD hth r0
  have kz_0_10 := fdq_43 hD hth r0
  have kz_0_11 := fdq_237 hD hth r0
  have kz_0_12 := fdq_187 hD hth r0
  have kz_0_13 := fdq_238 hD hth r0
  have kz_0_14 := fdq_188 hD hth r0
  have kz_0_15 := fdq_239 hD hth r0
  obtain ⟨x, ex, hx⟩ := iv_ex (ta := ta) (lo := 0) (hi := 5) (z := w_fi ws (n_v vs 0) 8) (by omega) (by omega) (by omega) (by omega)
  have ex2 : v_iv (Value.int x) = w_fi ws (n_v vs 0) 8 := ex
  have ex3 : 0 ≤ v_iv (Value.int x) ∧ v_iv (Value.int x) ≤ 5 := tv_rng hx
  have e_0 : n_v (vs ++ [Value.int x]) 0 = n_v vs 0 := n_v_old (by rw [hl]; decide)
  have e_8 : n_v (vs ++ [Value.int x]) 8 = n_v vs 8 := n_v_old (by rw [hl]; decide)
  have e_9 : n_v (vs ++ [Value.int x]) 9 = n_v vs 9 := n_v_old (by rw [hl]; decide)
  have e_10 : n_v (vs ++ [Value.int x]) 10 = Value.int x := n_v_new hl
  have nf0 : fc_1 PRD (20, [0, 8, 9], [60, 1, 1, 1026, 10, 1]) ws (vs ++ [Value.int x]) := by
    refine ⟨nf_inA hl rfl, sgq_1724 ?_⟩
    · show FSX (w_fi ws (n_v (vs ++ [Value.int x]) 0) 10) (w_ei ws (w_ar ws (n_v (vs ++ [Value.int x]) 0) 1)) (v_iv (n_v (vs ++ [Value.int x]) 8)) (v_iv (n_v (vs ++ [Value.int x]) 9))
      simp only [e_0, e_8, e_9]
      exact vc_Mo_need_at_gs5002e_0_0 (v_iv (n_v vs 1)) (v_iv (n_v vs 3)) (v_iv (n_v vs 4)) (v_iv (n_v vs 5)) (v_iv (n_v vs 6)) (v_iv (n_v vs 7)) (v_iv (n_v vs 8)) (v_iv (n_v vs 9)) (w_fi ws (n_v vs 0) 13) (w_fi ws (n_v vs 0) 12) (w_fi ws (n_v vs 0) 8) (w_fi ws (n_v vs 0) 14) (w_fi ws (n_v vs 0) 15) (w_fi ws (n_v vs 0) 11) (w_ei ws (w_ar ws (n_v vs 0) 1)) (w_ei ws (w_ar ws (n_v vs 0) 2)) (w_fi ws (n_v vs 0) 10) (w_fi ws (n_v vs 0) 9) (w_fi ws (n_v vs 0) 5) k1 k3 k4 k5 k6 k7 k8 k9 g0 f1 f3 g5 f10 kz_0_8 kz_0_9 kz_0_10 kz_0_11 kz_0_12 kz_0_13 kz_0_14 kz_0_15
  have nf1 : fc_1 PRD (20, [0, 10], [30, 0, 1, 1, 8, -1, 0, 0]) ws (vs ++ [Value.int x]) := by
    refine ⟨nf_inA hl rfl, sgq_303 ?_⟩
    · show 1 * w_fi ws (n_v (vs ++ [Value.int x]) 0) 8 + ((-1) * v_iv (n_v (vs ++ [Value.int x]) 10) + 0) ≤ 0
      simp only [e_0, e_10]
      exact vc_Mo_need_at_gs5002e_0_1 (v_iv (n_v vs 2)) (v_iv (n_v vs 6)) (v_iv (n_v vs 7)) (w_fi ws (n_v vs 0) 12) (w_fi ws (n_v vs 0) 8) (w_fi ws (n_v vs 0) 15) (w_fi ws (n_v vs 0) 11) (w_ei ws (w_ar ws (n_v vs 0) 1)) (v_iv (Value.int x)) k2 k6 k7 f2 g5 f7 f9 hK_0_1 kz_0_8 kz_0_11 kz_0_12 kz_0_15 ex2
  have nf2 : fc_1 PRD (20, [0, 10], [30, 0, -1, 1, 8, 1, 0, 0]) ws (vs ++ [Value.int x]) := by
    refine ⟨nf_inA hl rfl, sgq_304 ?_⟩
    · show (-1) * w_fi ws (n_v (vs ++ [Value.int x]) 0) 8 + (1 * v_iv (n_v (vs ++ [Value.int x]) 10) + 0) ≤ 0
      simp only [e_0, e_10]
      exact vc_Mo_need_at_gs5002e_0_2 (v_iv (n_v vs 2)) (v_iv (n_v vs 6)) (v_iv (n_v vs 7)) (w_fi ws (n_v vs 0) 12) (w_fi ws (n_v vs 0) 8) (w_fi ws (n_v vs 0) 15) (w_fi ws (n_v vs 0) 11) (w_ei ws (w_ar ws (n_v vs 0) 1)) (v_iv (Value.int x)) k2 k6 k7 f2 g5 f7 f9 hK_0_1 kz_0_8 kz_0_11 kz_0_12 kz_0_15 ex2
  have nf3 : fc_1 PRD (20, [10], [61, 0, 1029]) ws (vs ++ [Value.int x]) := by
    refine ⟨nf_inA hl rfl, sgq_1725 ?_⟩
    · show ZH0 (v_iv (n_v (vs ++ [Value.int x]) 10))
      rw [e_10]
      exact vc_Mo_need_at_gs5002e_0_3 (v_iv (n_v vs 6)) (w_fi ws (n_v vs 0) 8) (v_iv (Value.int x)) k6 g5 kz_0_8 ex2
  exact ⟨(fun _ h => (by cases h)), [Value.int x], ag_one hx, List.forall_mem_cons.mpr ⟨⟨show (20 : Nat) < 100 from by decide, nf0⟩, List.forall_mem_cons.mpr ⟨⟨show (20 : Nat) < 100 from by decide, nf1⟩, List.forall_mem_cons.mpr ⟨⟨show (20 : Nat) < 100 from by decide, nf2⟩, List.forall_mem_cons.mpr ⟨⟨show (20 : Nat) < 100 from by decide, nf3⟩, (fun _ h => (by cases h))⟩⟩⟩⟩, (fun _ h => (by cases h))⟩
set_option maxHeartbeats 4000000 in
theorem vc_Mo_need_at_gs5002e_1_0 (x2 : Int) (x8 : Int) (x9 : Int) (x10 : Int) (tape_0 : Int → Int) (from_0 : Int) (pos_0 : Int) (kind_0 : Int) (fault_0 : Int) (faultPlace_0 : Int) (k2 : 0 ≤ x2 ∧ x2 ≤ 2000) (k8 : 1 ≤ x8 ∧ x8 ≤ 1) (k9 : 0 ≤ x9 ∧ x9 ≤ 2000) (k10 : 0 ≤ x10 ∧ x10 ≤ 5) (f4 : ((kind_0 = 1) → (pos_0 ≤ (from_0 + 8))) ∧ ((kind_0 = 0) ∨ ((from_0 + 1) ≤ pos_0))) (f6 : (-1) * fault_0 + 0 ≤ (-1)) (f7 : ((1 ≤ x10) ∧ (fault_0 = x10)) ∨ ((x10 = 0) ∧ ((fault_0 = x8) ∧ (faultPlace_0 = x9)))) (hK_0_1 : ∀ j : Int, 0 ≤ j → j < 2000 → (-128) ≤ tape_0 j ∧ tape_0 j ≤ 127) (kz_0_8 : 0 ≤ fault_0 ∧ fault_0 ≤ 5) (kz_0_9 : 0 ≤ faultPlace_0 ∧ faultPlace_0 ≤ 2000) (kz_0_11 : 0 ≤ pos_0 ∧ pos_0 ≤ 2000) (kz_0_12 : 0 ≤ kind_0 ∧ kind_0 ≤ 4) (kz_0_15 : 0 ≤ from_0 ∧ from_0 ≤ 2000) : (1 ≤ fault_0) ∨ ((x2 + 1) ≤ pos_0) := by
  first | with_reducible assumption | ((have f4_c0 := f4.1); (have f4_c1 := f4.2); (try and_intros) <;> first | with_reducible assumption | (clear f4_c0 f4_c1 f4 f7 hK_0_1; omega)) | ((have f4_c0 := f4.1); (have f4_c1 := f4.2); (try and_intros) <;> first | with_reducible assumption | (clear f4_c0 f4_c1 f4 hK_0_1; omega)) | omega
set_option maxHeartbeats 4000000 in
theorem vc_Mo_need_at_gs5002e_1_1 (x3 : Int) (x4 : Int) (x5 : Int) (x8 : Int) (x9 : Int) (x10 : Int) (place_0 : Int) (tape_0 : Int → Int) (limit_0 : Int) (from_0 : Int) (pos_0 : Int) (kind_0 : Int) (fault_0 : Int) (faultPlace_0 : Int) (value_0 : Int) (all_0 : Int → Int) (r_0 : Int) (k3 : (-1) ≤ x3 ∧ x3 ≤ 48) (k4 : 0 ≤ x4 ∧ x4 ≤ 7) (k5 : 0 ≤ x5 ∧ x5 ≤ 4) (k8 : 1 ≤ x8 ∧ x8 ≤ 1) (k9 : 0 ≤ x9 ∧ x9 ≤ 2000) (k10 : 0 ≤ x10 ∧ x10 ≤ 5) (f1 : FSX (limit_0) (tape_0) (x8) (x9)) (f2 : ZH0 (x10)) (f7 : ((1 ≤ x10) ∧ (fault_0 = x10)) ∨ ((x10 = 0) ∧ ((fault_0 = x8) ∧ (faultPlace_0 = x9)))) (kz_0_8 : 0 ≤ fault_0 ∧ fault_0 ≤ 5) (kz_0_9 : 0 ≤ faultPlace_0 ∧ faultPlace_0 ≤ 2000) (kz_0_10 : 0 ≤ limit_0 ∧ limit_0 ≤ 2000) (kz_0_11 : 0 ≤ pos_0 ∧ pos_0 ≤ 2000) (kz_0_12 : 0 ≤ kind_0 ∧ kind_0 ≤ 4) (kz_0_13 : 0 ≤ place_0 ∧ place_0 ≤ 2000) (kz_0_14 : (-49) ≤ value_0 ∧ value_0 ≤ 1048575) (kz_0_15 : 0 ≤ from_0 ∧ from_0 ≤ 2000) : zO11s (limit_0) (pos_0) (kind_0) (place_0) (value_0) (from_0) (fault_0) (faultPlace_0) (r_0) (tape_0) (all_0) (x3) (x4) (x5) := by
  first
    | exact Or.inr ⟨(‹zU11s _ _ _ _ _ _ _ _ _›).1, rsq_of (‹zU11s _ _ _ _ _ _ _ _ _›).2 ‹TKR _ _ _ _ _ _ _ _›⟩
    | exact Or.inl (fs_w ‹FSX _ _ _ _› ‹ZH0 _› (by assumption))
    | exact Or.inl (or_l ‹zONes _ _ _ _ _ _ _ _ _ _ _ _ _ _› (fun q => by have := ndq_0 q.2; omega))
def o_Mo_need_at_gs5002e_1 : or_T := (32, 11, [(0, (2, 0, 0, [165])), (2, (0, 0, 2000, [])), (3, (0, -1, 48, [])), (4, (0, 0, 7, [])), (5, (0, 0, 4, [])), (8, (0, 1, 1, [])), (9, (0, 0, 2000, [])), (10, (0, 0, 5, []))], [(20, [0, 8, 9], [60, 1, 1, 1026, 10, 1]), (20, [10], [61, 0, 1029]), (20, [0], [50, 3, 0, 12, 11, 15, 2, 21, 4, 7, 1, 3, 2, 0, 12, 0, 1, 0, 3, 2, 0, 11, 4, 3, 2, 0, 15, 0, 8, 3, 7, 1, 3, 2, 0, 12, 0, 0, 0, 7, 4, 3, 2, 0, 15, 0, 1, 2, 0, 11]), (20, [0], [30, -1, -1, 1, 8]), (20, [10, 0, 8, 9], [50, 2, 0, 1008, 1009, 3, 15, 2, 6, 0, 2, 0, 1, 1, 0, 1, 3, 2, 1, 8, 1, 0, 2, 6, 1, 2, 1, 0, 0, 0, 2, 7, 1, 3, 2, 1, 8, 1, 2, 1, 3, 2, 1, 9, 1, 3])], [], [], [(20, [0, 2], [50, 2, 0, 8, 11, 3, 7, 0, 2, 0, 1, 2, 0, 8, 0, 6, 4, 2, 1, 1, 0, 1, 2, 0, 11]), (20, [0, 3, 4, 5], [60, 9, 2, 1024, 10, 11, 12, 13, 14, 15, 8, 9, 5, 1, 2])], [], [])
theorem oo_Mo_need_at_gs5002e_1 {kA : Nat → ClassId} : or_ok PRD kA GG o_Mo_need_at_gs5002e_1 := by
  refine or_mk fun A ta ws vs hD hth hl => ?_
  intro t0 r0 t2 k2 t3 k3 t4 k4 t5 k5 t8 k8 t9 k9 t10 k10 f1 f2 f4 f6 f7
  have cr_0_1 := fdq_39 hD hth r0
  have hK_0_1 := elq_7 hD hth cr_0_1
  have kz_0_8 := fdq_34 hD hth r0
  have kz_0_9 := fdq_44 hD hth r0
  have kz_0_10 := fdq_43 hD hth r0
  have kz_0_11 := fdq_237 hD hth r0
  have kz_0_12 := fdq_187 hD hth r0
  have kz_0_13 := fdq_238 hD hth r0
  have kz_0_14 := fdq_188 hD hth r0
  have kz_0_15 := fdq_239 hD hth r0
  have nf0 : fc_1 PRD (20, [0, 2], [50, 2, 0, 8, 11, 3, 7, 0, 2, 0, 1, 2, 0, 8, 0, 6, 4, 2, 1, 1, 0, 1, 2, 0, 11]) ws (vs) := ⟨nf_in hl rfl, sgq_1726 (vc_Mo_need_at_gs5002e_1_0 (v_iv (n_v vs 2)) (v_iv (n_v vs 8)) (v_iv (n_v vs 9)) (v_iv (n_v vs 10)) (w_ei ws (w_ar ws (n_v vs 0) 1)) (w_fi ws (n_v vs 0) 15) (w_fi ws (n_v vs 0) 11) (w_fi ws (n_v vs 0) 12) (w_fi ws (n_v vs 0) 8) (w_fi ws (n_v vs 0) 9) k2 k8 k9 k10 (shm_1438 f4) (shm_305 f6) (shm_306 f7) hK_0_1 kz_0_8 kz_0_9 kz_0_11 kz_0_12 kz_0_15)⟩
  have nf1 : fc_1 PRD (20, [0, 3, 4, 5], [60, 9, 2, 1024, 10, 11, 12, 13, 14, 15, 8, 9, 5, 1, 2]) ws (vs) := ⟨nf_in hl rfl, sgq_1738 (vc_Mo_need_at_gs5002e_1_1 (v_iv (n_v vs 3)) (v_iv (n_v vs 4)) (v_iv (n_v vs 5)) (v_iv (n_v vs 8)) (v_iv (n_v vs 9)) (v_iv (n_v vs 10)) (w_fi ws (n_v vs 0) 13) (w_ei ws (w_ar ws (n_v vs 0) 1)) (w_fi ws (n_v vs 0) 10) (w_fi ws (n_v vs 0) 15) (w_fi ws (n_v vs 0) 11) (w_fi ws (n_v vs 0) 12) (w_fi ws (n_v vs 0) 8) (w_fi ws (n_v vs 0) 9) (w_fi ws (n_v vs 0) 14) (w_ei ws (w_ar ws (n_v vs 0) 2)) (w_fi ws (n_v vs 0) 5) k3 k4 k5 k8 k9 k10 (shm_1724 f1) (shm_1725 f2) (shm_306 f7) kz_0_8 kz_0_9 kz_0_10 kz_0_11 kz_0_12 kz_0_13 kz_0_14 kz_0_15)⟩
  refine ⟨(fun _ h => (by cases h)), [], trivial, ?_, (fun _ h => (by cases h))⟩
  rw [List.append_nil]
  exact List.forall_mem_cons.mpr ⟨⟨show (20 : Nat) < 100 from by decide, nf0⟩, List.forall_mem_cons.mpr ⟨⟨show (20 : Nat) < 100 from by decide, nf1⟩, (fun _ h => (by cases h))⟩⟩
set_option maxHeartbeats 4000000 in
theorem vc_Mo_need_at_gs5002e_2_0 (x2 : Int) (x7 : Int) (kind_0 : Int) (fault_0 : Int) (from_0 : Int) (pos_0 : Int) (tape_0 : Int → Int) (gx : Int) (k2 : 0 ≤ x2 ∧ x2 ≤ 2000) (k7 : 1 ≤ x7 ∧ x7 ≤ 1) (f1 : (x7 = 1) → ((kind_0 = 3) ∧ (fault_0 = 0))) (f6 : ((kind_0 = 1) → (pos_0 ≤ (from_0 + 8))) ∧ ((kind_0 = 0) ∨ ((from_0 + 1) ≤ pos_0))) (f8 : (1 ≤ fault_0) ∨ ((kind_0 = 0) ∨ ((x2 + 1) ≤ pos_0))) (hK_0_1 : ∀ j : Int, 0 ≤ j → j < 2000 → (-128) ≤ tape_0 j ∧ tape_0 j ≤ 127) (kz_0_8 : 0 ≤ fault_0 ∧ fault_0 ≤ 5) (kz_0_11 : 0 ≤ pos_0 ∧ pos_0 ≤ 2000) (kz_0_12 : 0 ≤ kind_0 ∧ kind_0 ≤ 4) (kz_0_15 : 0 ≤ from_0 ∧ from_0 ≤ 2000) (ex2 : gx = pos_0) : 1 * gx + ((-1) * pos_0 + 0) ≤ 0 := by
  first | with_reducible assumption | ((have f6_c0 := f6.1); (have f6_c1 := f6.2); (try and_intros) <;> first | with_reducible assumption | (clear f6_c0 f6_c1 f6 f8 hK_0_1 f1; omega)) | ((have f6_c0 := f6.1); (have f6_c1 := f6.2); (first | have f1_b := f1 (by clear f6_c0 f6_c1 f6 f8 hK_0_1 f1; omega) | skip); (first | have f1_d := f1 (by with_reducible assumption) | skip); (try and_intros) <;> first | with_reducible assumption | (clear f6_c0 f6_c1 f6 f8 hK_0_1 f1; omega)) | ((have f6_c0 := f6.1); (have f6_c1 := f6.2); (first | have f1_b := f1 (by clear f6_c0 f6_c1 f6 f8 hK_0_1 f1; omega) | skip); (first | have f1_d := f1 (by with_reducible assumption) | skip); (try and_intros) <;> first | with_reducible assumption | (clear f6_c0 f6_c1 f6 hK_0_1 f1; omega)) | omega
set_option maxHeartbeats 4000000 in
theorem vc_Mo_need_at_gs5002e_2_1 (x2 : Int) (x7 : Int) (kind_0 : Int) (fault_0 : Int) (from_0 : Int) (pos_0 : Int) (tape_0 : Int → Int) (gx : Int) (k2 : 0 ≤ x2 ∧ x2 ≤ 2000) (k7 : 1 ≤ x7 ∧ x7 ≤ 1) (f1 : (x7 = 1) → ((kind_0 = 3) ∧ (fault_0 = 0))) (f6 : ((kind_0 = 1) → (pos_0 ≤ (from_0 + 8))) ∧ ((kind_0 = 0) ∨ ((from_0 + 1) ≤ pos_0))) (f8 : (1 ≤ fault_0) ∨ ((kind_0 = 0) ∨ ((x2 + 1) ≤ pos_0))) (hK_0_1 : ∀ j : Int, 0 ≤ j → j < 2000 → (-128) ≤ tape_0 j ∧ tape_0 j ≤ 127) (kz_0_8 : 0 ≤ fault_0 ∧ fault_0 ≤ 5) (kz_0_11 : 0 ≤ pos_0 ∧ pos_0 ≤ 2000) (kz_0_12 : 0 ≤ kind_0 ∧ kind_0 ≤ 4) (kz_0_15 : 0 ≤ from_0 ∧ from_0 ≤ 2000) (ex2 : gx = pos_0) : gx = pos_0 := by
  first | with_reducible assumption | ((have f6_c0 := f6.1); (have f6_c1 := f6.2); (try and_intros) <;> first | with_reducible assumption | (clear f6_c0 f6_c1 f6 f8 hK_0_1 f1; omega)) | ((have f6_c0 := f6.1); (have f6_c1 := f6.2); (first | have f1_b := f1 (by clear f6_c0 f6_c1 f6 f8 hK_0_1 f1; omega) | skip); (first | have f1_d := f1 (by with_reducible assumption) | skip); (try and_intros) <;> first | with_reducible assumption | (clear f6_c0 f6_c1 f6 f8 hK_0_1 f1; omega)) | ((have f6_c0 := f6.1); (have f6_c1 := f6.2); (first | have f1_b := f1 (by clear f6_c0 f6_c1 f6 f8 hK_0_1 f1; omega) | skip); (first | have f1_d := f1 (by with_reducible assumption) | skip); (try and_intros) <;> first | with_reducible assumption | (clear f6_c0 f6_c1 f6 hK_0_1 f1; omega)) | omega
set_option maxHeartbeats 4000000 in
theorem vc_Mo_need_at_gs5002e_2_2 (x3 : Int) (x4 : Int) (x5 : Int) (x6 : Int) (kind_0 : Int) (fault_0 : Int) (value_0 : Int) (from_0 : Int) (pos_0 : Int) (tape_0 : Int → Int) (all_0 : Int → Int) (limit_0 : Int) (place_0 : Int) (faultPlace_0 : Int) (r_0 : Int) (k3 : (-1) ≤ x3 ∧ x3 ≤ 48) (k4 : 0 ≤ x4 ∧ x4 ≤ 7) (k5 : 0 ≤ x5 ∧ x5 ≤ 4) (k6 : 0 ≤ x6 ∧ x6 ≤ 0) (g4 : x6 = fault_0) (f9 : zONes (limit_0) (pos_0) (kind_0) (place_0) (value_0) (from_0) (fault_0) (faultPlace_0) (r_0) (tape_0) (all_0) (x3) (x4) (x5)) (kz_0_8 : 0 ≤ fault_0 ∧ fault_0 ≤ 5) (kz_0_9 : 0 ≤ faultPlace_0 ∧ faultPlace_0 ≤ 2000) (kz_0_10 : 0 ≤ limit_0 ∧ limit_0 ≤ 2000) (kz_0_11 : 0 ≤ pos_0 ∧ pos_0 ≤ 2000) (kz_0_12 : 0 ≤ kind_0 ∧ kind_0 ≤ 4) (kz_0_13 : 0 ≤ place_0 ∧ place_0 ≤ 2000) (kz_0_14 : (-49) ≤ value_0 ∧ value_0 ≤ 1048575) (kz_0_15 : 0 ≤ from_0 ∧ from_0 ≤ 2000) : ZLM (limit_0) (pos_0) := by
  first
    | exact ndq_lim (or_r ‹zONs _ _ _ _ _ _ _ _ _ _ _ _ _› (fs_n (by omega)))
    | exact ndq_lim (or_r ‹zONo _ _ _ _ _ _ _ _ _ _ _ _ _› (fs_n (by omega)))
    | exact ndq_lim (or_r ‹zONew _ _ _ _ _ _ _ _ _ _ _ _ _ _› (fs_n (by omega)))
    | exact ndq_lim (or_r ‹zONes _ _ _ _ _ _ _ _ _ _ _ _ _ _› (fs_n (by omega))).2
    | exact ndq_lim (or_r ‹zNc _ _ _ _ _ _ _ _ _ _ _ _ _› (fs_n (by omega))).2.2
    | exact zlm_r (‹zNbs _ _ _ _ _ _ _ _ _ _ _ _ _ _›).1.2.2
    | exact zlm_r (‹zNbw _ _ _ _ _ _ _ _ _ _ _ _ _ _›).1.2
set_option maxHeartbeats 4000000 in
theorem vc_Mo_need_at_gs5002e_2_3 (x2 : Int) (x6 : Int) (x7 : Int) (kind_0 : Int) (fault_0 : Int) (from_0 : Int) (pos_0 : Int) (tape_0 : Int → Int) (gx : Int) (k2 : 0 ≤ x2 ∧ x2 ≤ 2000) (k6 : 0 ≤ x6 ∧ x6 ≤ 0) (k7 : 1 ≤ x7 ∧ x7 ≤ 1) (f1 : (x7 = 1) → ((kind_0 = 3) ∧ (fault_0 = 0))) (g4 : x6 = fault_0) (f6 : ((kind_0 = 1) → (pos_0 ≤ (from_0 + 8))) ∧ ((kind_0 = 0) ∨ ((from_0 + 1) ≤ pos_0))) (f7 : 1 * x2 + ((-1) * pos_0 + 0) ≤ 0) (f8 : (1 ≤ fault_0) ∨ ((kind_0 = 0) ∨ ((x2 + 1) ≤ pos_0))) (hK_0_1 : ∀ j : Int, 0 ≤ j → j < 2000 → (-128) ≤ tape_0 j ∧ tape_0 j ≤ 127) (kz_0_8 : 0 ≤ fault_0 ∧ fault_0 ≤ 5) (kz_0_11 : 0 ≤ pos_0 ∧ pos_0 ≤ 2000) (kz_0_12 : 0 ≤ kind_0 ∧ kind_0 ≤ 4) (kz_0_15 : 0 ≤ from_0 ∧ from_0 ≤ 2000) (ex2 : gx = pos_0) : 1 * x2 + ((-1) * gx + 0) ≤ (-1) := by
  first | with_reducible assumption | ((have f6_c0 := f6.1); (have f6_c1 := f6.2); (try and_intros) <;> first | with_reducible assumption | (clear f6_c0 f6_c1 f6 f8 hK_0_1 f1; omega)) | ((have f6_c0 := f6.1); (have f6_c1 := f6.2); (first | have f1_b := f1 (by clear f6_c0 f6_c1 f6 f8 hK_0_1 f1; omega) | skip); (first | have f1_d := f1 (by with_reducible assumption) | skip); (try and_intros) <;> first | with_reducible assumption | (clear f6_c0 f6_c1 f6 f8 hK_0_1 f1; omega)) | ((have f6_c0 := f6.1); (have f6_c1 := f6.2); (first | have f1_b := f1 (by clear f6_c0 f6_c1 f6 f8 hK_0_1 f1; omega) | skip); (first | have f1_d := f1 (by with_reducible assumption) | skip); (try and_intros) <;> first | with_reducible assumption | (clear f6_c0 f6_c1 f6 hK_0_1 f1; omega)) | omega
set_option maxHeartbeats 4000000 in
theorem vc_Mo_need_at_gs5002e_2_4 (x1 : Int) (x3 : Int) (x4 : Int) (x5 : Int) (x6 : Int) (x7 : Int) (kind_0 : Int) (fault_0 : Int) (value_0 : Int) (from_0 : Int) (pos_0 : Int) (tape_0 : Int → Int) (all_0 : Int → Int) (limit_0 : Int) (place_0 : Int) (faultPlace_0 : Int) (r_0 : Int) (gx : Int) (k1 : 61 ≤ x1 ∧ x1 ≤ 61) (k3 : (-1) ≤ x3 ∧ x3 ≤ 48) (k4 : 0 ≤ x4 ∧ x4 ≤ 7) (k5 : 0 ≤ x5 ∧ x5 ≤ 4) (k6 : 0 ≤ x6 ∧ x6 ≤ 0) (k7 : 1 ≤ x7 ∧ x7 ≤ 1) (f0 : x7 ≠ 0) (f2 : SGQ (fault_0) (kind_0) (value_0) (x1) (x7)) (g4 : x6 = fault_0) (f9 : zONes (limit_0) (pos_0) (kind_0) (place_0) (value_0) (from_0) (fault_0) (faultPlace_0) (r_0) (tape_0) (all_0) (x3) (x4) (x5)) (kz_0_8 : 0 ≤ fault_0 ∧ fault_0 ≤ 5) (kz_0_9 : 0 ≤ faultPlace_0 ∧ faultPlace_0 ≤ 2000) (kz_0_10 : 0 ≤ limit_0 ∧ limit_0 ≤ 2000) (kz_0_11 : 0 ≤ pos_0 ∧ pos_0 ≤ 2000) (kz_0_12 : 0 ≤ kind_0 ∧ kind_0 ≤ 4) (kz_0_13 : 0 ≤ place_0 ∧ place_0 ≤ 2000) (kz_0_14 : (-49) ≤ value_0 ∧ value_0 ≤ 1048575) (kz_0_15 : 0 ≤ from_0 ∧ from_0 ≤ 2000) (ex2 : gx = pos_0) : zU11s (limit_0) (fault_0) (r_0) (tape_0) (all_0) (x3) (x4) (x5) (gx) := by
  have e : gx = pos_0 := by omega
  rw [e]
  first
    | (have h := or_r ‹zONes _ _ _ _ _ _ _ _ _ _ _ _ _ _› (fs_n (by omega)); exact ⟨h.1, ndq_go h.2 (sgq_t (C := 61) ‹SGQ _ _ _ _ _› (by omega) (by omega)).2.1 (sgq_t (C := 61) ‹SGQ _ _ _ _ _› (by omega) (by omega)).2.2⟩)
def o_Mo_need_at_gs5002e_2 : or_T := (17, 8, [(0, (2, 0, 0, [165])), (1, (0, 61, 61, [])), (2, (0, 0, 2000, [])), (3, (0, -1, 48, [])), (4, (0, 0, 7, [])), (5, (0, 0, 4, [])), (6, (0, 0, 0, [])), (7, (0, 1, 1, []))], [(8, [7], [1]), (20, [7, 0], [50, 2, 0, 1012, 1008, 4, 6, 1, 2, 1, 0, 0, 1, 2, 7, 1, 3, 2, 1, 12, 0, 3, 1, 3, 2, 1, 8, 0, 0]), (20, [0, 1, 7], [60, 3, 0, 963, 8, 12, 14]), (9, [6, 0], [8]), (20, [0], [50, 3, 0, 12, 11, 15, 2, 21, 4, 7, 1, 3, 2, 0, 12, 0, 1, 0, 3, 2, 0, 11, 4, 3, 2, 0, 15, 0, 8, 3, 7, 1, 3, 2, 0, 12, 0, 0, 0, 7, 4, 3, 2, 0, 15, 0, 1, 2, 0, 11]), (20, [2, 0], [30, 0, 1, 0, 0, -1, 1, 11]), (20, [0, 2], [50, 3, 0, 8, 12, 11, 3, 7, 0, 2, 0, 1, 2, 0, 8, 3, 7, 1, 3, 2, 0, 12, 0, 0, 0, 6, 4, 2, 1, 1, 0, 1, 2, 0, 11]), (20, [0, 3, 4, 5], [60, 9, 2, 1019, 10, 11, 12, 13, 14, 15, 8, 9, 5, 1, 2])], [], [(0, 0, 2000, [])], [(20, [8, 0], [30, 0, 1, 0, 0, -1, 1, 11]), (20, [8, 0], [50, 1, 0, 1011, 1, 2, 1, 0, 2, 1, 11]), (20, [0], [60, 2, 0, 947, 10, 11]), (23, [2, 8], [-1, 1, -1]), (20, [0, 3, 4, 5, 8], [60, 3, 2, 985, 10, 8, 5, 1, 2])], [], [])
theorem oo_Mo_need_at_gs5002e_2 {kA : Nat → ClassId} : or_ok PRD kA GG o_Mo_need_at_gs5002e_2 := by
  refine or_mk fun A ta ws vs hD hth hl => ?_
  intro t0 r0 t1 k1 t2 k2 t3 k3 t4 k4 t5 k5 t6 k6 t7 k7 f0 f1 f2 f4 f6 f7 f8 f9
  replace f0 := shm_142 f0
  replace f1 := shm_730 f1
  replace f2 := shm_731 f2
  replace f4 := shm_293 f4
  replace f6 := shm_1438 f6
  replace f7 := shm_1431 f7
  replace f8 := shm_1722 f8
  replace f9 := shm_1737 f9
  have cr_0_1 := fdq_39 hD hth r0
  have g4 : v_iv (n_v vs 6) = w_fi ws (n_v vs 0) 8 := congrArg v_iv f4
  have hK_0_1 := elq_7 hD hth cr_0_1
  have kz_0_8 := fdq_34 hD hth r0
  have kz_0_9 := fdq_44 hD hth r0
  have kz_0_10 := fdq_43 hD hth r0
  have kz_0_11 := fdq_237 hD hth r0
  have kz_0_12 := fdq_187 hD hth r0
  have kz_0_13 := fdq_238 hD hth r0
  have kz_0_14 := fdq_188 hD hth r0
  have kz_0_15 := fdq_239 hD hth r0
  obtain ⟨x, ex, hx⟩ := iv_ex (ta := ta) (lo := 0) (hi := 2000) (z := w_fi ws (n_v vs 0) 11) (by omega) (by omega) (by omega) (by omega)
  have ex2 : v_iv (Value.int x) = w_fi ws (n_v vs 0) 11 := ex
  have ex3 : 0 ≤ v_iv (Value.int x) ∧ v_iv (Value.int x) ≤ 2000 := tv_rng hx
  have e_0 : n_v (vs ++ [Value.int x]) 0 = n_v vs 0 := n_v_old (by rw [hl]; decide)
  have e_2 : n_v (vs ++ [Value.int x]) 2 = n_v vs 2 := n_v_old (by rw [hl]; decide)
  have e_3 : n_v (vs ++ [Value.int x]) 3 = n_v vs 3 := n_v_old (by rw [hl]; decide)
  have e_4 : n_v (vs ++ [Value.int x]) 4 = n_v vs 4 := n_v_old (by rw [hl]; decide)
  have e_5 : n_v (vs ++ [Value.int x]) 5 = n_v vs 5 := n_v_old (by rw [hl]; decide)
  have e_8 : n_v (vs ++ [Value.int x]) 8 = Value.int x := n_v_new hl
  have nf0 : fc_1 PRD (20, [8, 0], [30, 0, 1, 0, 0, -1, 1, 11]) ws (vs ++ [Value.int x]) := by
    refine ⟨nf_inA hl rfl, sgq_1431 ?_⟩
    · show 1 * v_iv (n_v (vs ++ [Value.int x]) 8) + ((-1) * w_fi ws (n_v (vs ++ [Value.int x]) 0) 11 + 0) ≤ 0
      simp only [e_0, e_8]
      exact vc_Mo_need_at_gs5002e_2_0 (v_iv (n_v vs 2)) (v_iv (n_v vs 7)) (w_fi ws (n_v vs 0) 12) (w_fi ws (n_v vs 0) 8) (w_fi ws (n_v vs 0) 15) (w_fi ws (n_v vs 0) 11) (w_ei ws (w_ar ws (n_v vs 0) 1)) (v_iv (Value.int x)) k2 k7 f1 f6 f8 hK_0_1 kz_0_8 kz_0_11 kz_0_12 kz_0_15 ex2
  have nf1 : fc_1 PRD (20, [8, 0], [50, 1, 0, 1011, 1, 2, 1, 0, 2, 1, 11]) ws (vs ++ [Value.int x]) := by
    refine ⟨nf_inA hl rfl, sgq_1432 ?_⟩
    · show v_iv (n_v (vs ++ [Value.int x]) 8) = w_fi ws (n_v (vs ++ [Value.int x]) 0) 11
      simp only [e_0, e_8]
      exact vc_Mo_need_at_gs5002e_2_1 (v_iv (n_v vs 2)) (v_iv (n_v vs 7)) (w_fi ws (n_v vs 0) 12) (w_fi ws (n_v vs 0) 8) (w_fi ws (n_v vs 0) 15) (w_fi ws (n_v vs 0) 11) (w_ei ws (w_ar ws (n_v vs 0) 1)) (v_iv (Value.int x)) k2 k7 f1 f6 f8 hK_0_1 kz_0_8 kz_0_11 kz_0_12 kz_0_15 ex2
  have nf2 : fc_1 PRD (20, [0], [60, 2, 0, 947, 10, 11]) ws (vs ++ [Value.int x]) := by
    refine ⟨nf_inA hl rfl, sgq_1433 ?_⟩
    · show ZLM (w_fi ws (n_v (vs ++ [Value.int x]) 0) 10) (w_fi ws (n_v (vs ++ [Value.int x]) 0) 11)
      rw [e_0]
      exact vc_Mo_need_at_gs5002e_2_2 (v_iv (n_v vs 3)) (v_iv (n_v vs 4)) (v_iv (n_v vs 5)) (v_iv (n_v vs 6)) (w_fi ws (n_v vs 0) 12) (w_fi ws (n_v vs 0) 8) (w_fi ws (n_v vs 0) 14) (w_fi ws (n_v vs 0) 15) (w_fi ws (n_v vs 0) 11) (w_ei ws (w_ar ws (n_v vs 0) 1)) (w_ei ws (w_ar ws (n_v vs 0) 2)) (w_fi ws (n_v vs 0) 10) (w_fi ws (n_v vs 0) 13) (w_fi ws (n_v vs 0) 9) (w_fi ws (n_v vs 0) 5) k3 k4 k5 k6 g4 f9 kz_0_8 kz_0_9 kz_0_10 kz_0_11 kz_0_12 kz_0_13 kz_0_14 kz_0_15
  have nf3 : fc_1 PRD (23, [2, 8], [-1, 1, -1]) ws (vs ++ [Value.int x]) := by
    refine ⟨nf_inA hl rfl, sgq_193 ?_⟩
    · show 1 * v_iv (n_v (vs ++ [Value.int x]) 2) + ((-1) * v_iv (n_v (vs ++ [Value.int x]) 8) + 0) ≤ (-1)
      simp only [e_2, e_8]
      exact vc_Mo_need_at_gs5002e_2_3 (v_iv (n_v vs 2)) (v_iv (n_v vs 6)) (v_iv (n_v vs 7)) (w_fi ws (n_v vs 0) 12) (w_fi ws (n_v vs 0) 8) (w_fi ws (n_v vs 0) 15) (w_fi ws (n_v vs 0) 11) (w_ei ws (w_ar ws (n_v vs 0) 1)) (v_iv (Value.int x)) k2 k6 k7 f1 g4 f6 f7 f8 hK_0_1 kz_0_8 kz_0_11 kz_0_12 kz_0_15 ex2
  have nf4 : fc_1 PRD (20, [0, 3, 4, 5, 8], [60, 3, 2, 985, 10, 8, 5, 1, 2]) ws (vs ++ [Value.int x]) := by
    refine ⟨nf_inA hl rfl, sgq_1739 ?_⟩
    · show zU11s (w_fi ws (n_v (vs ++ [Value.int x]) 0) 10) (w_fi ws (n_v (vs ++ [Value.int x]) 0) 8) (w_fi ws (n_v (vs ++ [Value.int x]) 0) 5) (w_ei ws (w_ar ws (n_v (vs ++ [Value.int x]) 0) 1)) (w_ei ws (w_ar ws (n_v (vs ++ [Value.int x]) 0) 2)) (v_iv (n_v (vs ++ [Value.int x]) 3)) (v_iv (n_v (vs ++ [Value.int x]) 4)) (v_iv (n_v (vs ++ [Value.int x]) 5)) (v_iv (n_v (vs ++ [Value.int x]) 8))
      simp only [e_0, e_3, e_4, e_5, e_8]
      exact vc_Mo_need_at_gs5002e_2_4 (v_iv (n_v vs 1)) (v_iv (n_v vs 3)) (v_iv (n_v vs 4)) (v_iv (n_v vs 5)) (v_iv (n_v vs 6)) (v_iv (n_v vs 7)) (w_fi ws (n_v vs 0) 12) (w_fi ws (n_v vs 0) 8) (w_fi ws (n_v vs 0) 14) (w_fi ws (n_v vs 0) 15) (w_fi ws (n_v vs 0) 11) (w_ei ws (w_ar ws (n_v vs 0) 1)) (w_ei ws (w_ar ws (n_v vs 0) 2)) (w_fi ws (n_v vs 0) 10) (w_fi ws (n_v vs 0) 13) (w_fi ws (n_v vs 0) 9) (w_fi ws (n_v vs 0) 5) (v_iv (Value.int x)) k1 k3 k4 k5 k6 k7 f0 f2 g4 f9 kz_0_8 kz_0_9 kz_0_10 kz_0_11 kz_0_12 kz_0_13 kz_0_14 kz_0_15 ex2
  exact ⟨(fun _ h => (by cases h)), [Value.int x], ag_one hx, List.forall_mem_cons.mpr ⟨⟨show (20 : Nat) < 100 from by decide, nf0⟩, List.forall_mem_cons.mpr ⟨⟨show (20 : Nat) < 100 from by decide, nf1⟩, List.forall_mem_cons.mpr ⟨⟨show (20 : Nat) < 100 from by decide, nf2⟩, List.forall_mem_cons.mpr ⟨⟨show (23 : Nat) < 100 from by decide, nf3⟩, List.forall_mem_cons.mpr ⟨⟨show (20 : Nat) < 100 from by decide, nf4⟩, (fun _ h => (by cases h))⟩⟩⟩⟩⟩, (fun _ h => (by cases h))⟩
set_option maxHeartbeats 4000000 in
theorem vc_Mo_need_at_gs5002e_3_0 (x2 : Int) (x8 : Int) (tape_0 : Int → Int) (from_0 : Int) (pos_0 : Int) (kind_0 : Int) (k2 : 0 ≤ x2 ∧ x2 ≤ 2000) (k8 : 0 ≤ x8 ∧ x8 ≤ 2000) (f1 : 1 * x2 + ((-1) * x8 + 0) ≤ (-1)) (f3 : 1 * from_0 + ((-1) * pos_0 + 0) ≤ 0) (f4 : ((kind_0 = 1) → (pos_0 ≤ (from_0 + 8))) ∧ ((kind_0 = 0) ∨ ((from_0 + 1) ≤ pos_0))) (f5 : 1 * x8 + ((-1) * from_0 + 0) ≤ 0) (hK_0_1 : ∀ j : Int, 0 ≤ j → j < 2000 → (-128) ≤ tape_0 j ∧ tape_0 j ≤ 127) (kz_0_11 : 0 ≤ pos_0 ∧ pos_0 ≤ 2000) (kz_0_12 : 0 ≤ kind_0 ∧ kind_0 ≤ 4) (kz_0_15 : 0 ≤ from_0 ∧ from_0 ≤ 2000) : 1 * x2 + ((-1) * pos_0 + 0) ≤ 0 := by
  first | with_reducible assumption | ((have f4_c0 := f4.1); (have f4_c1 := f4.2); (try and_intros) <;> first | with_reducible assumption | (clear f4_c0 f4_c1 f4 hK_0_1; omega)) | omega
set_option maxHeartbeats 4000000 in
theorem vc_Mo_need_at_gs5002e_3_1 (x2 : Int) (x8 : Int) (fault_0 : Int) (tape_0 : Int → Int) (from_0 : Int) (pos_0 : Int) (kind_0 : Int) (k2 : 0 ≤ x2 ∧ x2 ≤ 2000) (k8 : 0 ≤ x8 ∧ x8 ≤ 2000) (f1 : 1 * x2 + ((-1) * x8 + 0) ≤ (-1)) (f3 : 1 * from_0 + ((-1) * pos_0 + 0) ≤ 0) (f4 : ((kind_0 = 1) → (pos_0 ≤ (from_0 + 8))) ∧ ((kind_0 = 0) ∨ ((from_0 + 1) ≤ pos_0))) (f5 : 1 * x8 + ((-1) * from_0 + 0) ≤ 0) (hK_0_1 : ∀ j : Int, 0 ≤ j → j < 2000 → (-128) ≤ tape_0 j ∧ tape_0 j ≤ 127) (kz_0_8 : 0 ≤ fault_0 ∧ fault_0 ≤ 5) (kz_0_11 : 0 ≤ pos_0 ∧ pos_0 ≤ 2000) (kz_0_12 : 0 ≤ kind_0 ∧ kind_0 ≤ 4) (kz_0_15 : 0 ≤ from_0 ∧ from_0 ≤ 2000) : (1 ≤ fault_0) ∨ ((x2 + 1) ≤ pos_0) := by
  first | with_reducible assumption | ((have f4_c0 := f4.1); (have f4_c1 := f4.2); (try and_intros) <;> first | with_reducible assumption | (clear f4_c0 f4_c1 f4 hK_0_1; omega)) | omega
set_option maxHeartbeats 4000000 in
theorem vc_Mo_need_at_gs5002e_3_2 (x3 : Int) (x4 : Int) (x5 : Int) (x8 : Int) (fault_0 : Int) (tape_0 : Int → Int) (all_0 : Int → Int) (limit_0 : Int) (r_0 : Int) (from_0 : Int) (pos_0 : Int) (kind_0 : Int) (place_0 : Int) (value_0 : Int) (faultPlace_0 : Int) (k3 : (-1) ≤ x3 ∧ x3 ≤ 48) (k4 : 0 ≤ x4 ∧ x4 ≤ 7) (k5 : 0 ≤ x5 ∧ x5 ≤ 4) (k8 : 0 ≤ x8 ∧ x8 ≤ 2000) (f2 : zU11s (limit_0) (fault_0) (r_0) (tape_0) (all_0) (x3) (x4) (x5) (x8)) (f6 : TKR (limit_0) (pos_0) (kind_0) (place_0) (value_0) (from_0) (tape_0) (x8)) (kz_0_8 : 0 ≤ fault_0 ∧ fault_0 ≤ 5) (kz_0_9 : 0 ≤ faultPlace_0 ∧ faultPlace_0 ≤ 2000) (kz_0_10 : 0 ≤ limit_0 ∧ limit_0 ≤ 2000) (kz_0_11 : 0 ≤ pos_0 ∧ pos_0 ≤ 2000) (kz_0_12 : 0 ≤ kind_0 ∧ kind_0 ≤ 4) (kz_0_13 : 0 ≤ place_0 ∧ place_0 ≤ 2000) (kz_0_14 : (-49) ≤ value_0 ∧ value_0 ≤ 1048575) (kz_0_15 : 0 ≤ from_0 ∧ from_0 ≤ 2000) : zO11s (limit_0) (pos_0) (kind_0) (place_0) (value_0) (from_0) (fault_0) (faultPlace_0) (r_0) (tape_0) (all_0) (x3) (x4) (x5) := by
  first
    | exact Or.inr ⟨(‹zU11s _ _ _ _ _ _ _ _ _›).1, rsq_of (‹zU11s _ _ _ _ _ _ _ _ _›).2 ‹TKR _ _ _ _ _ _ _ _›⟩
    | exact Or.inl (fs_w ‹FSX _ _ _ _› ‹ZH0 _› (by assumption))
    | exact Or.inl (or_l ‹zONes _ _ _ _ _ _ _ _ _ _ _ _ _ _› (fun q => by have := ndq_0 q.2; omega))
def o_Mo_need_at_gs5002e_3 : or_T := (32, 9, [(0, (2, 0, 0, [165])), (2, (0, 0, 2000, [])), (3, (0, -1, 48, [])), (4, (0, 0, 7, [])), (5, (0, 0, 4, [])), (8, (0, 0, 2000, []))], [(23, [2, 8], [-1, 1, -1]), (20, [0, 3, 4, 5, 8], [60, 3, 2, 985, 10, 8, 5, 1, 2]), (20, [0, 0], [30, 0, 1, 1, 15, -1, 1, 11]), (20, [0], [50, 3, 0, 12, 11, 15, 2, 21, 4, 7, 1, 3, 2, 0, 12, 0, 1, 0, 3, 2, 0, 11, 4, 3, 2, 0, 15, 0, 8, 3, 7, 1, 3, 2, 0, 12, 0, 0, 0, 7, 4, 3, 2, 0, 15, 0, 1, 2, 0, 11]), (20, [8, 0], [30, 0, 1, 0, 0, -1, 1, 15]), (20, [0, 8], [60, 6, 1, 948, 10, 11, 12, 13, 14, 15, 1])], [], [], [(20, [2, 0], [30, 0, 1, 0, 0, -1, 1, 11]), (20, [0, 2], [50, 2, 0, 8, 11, 3, 7, 0, 2, 0, 1, 2, 0, 8, 0, 6, 4, 2, 1, 1, 0, 1, 2, 0, 11]), (20, [0, 3, 4, 5], [60, 9, 2, 1024, 10, 11, 12, 13, 14, 15, 8, 9, 5, 1, 2])], [], [])
theorem oo_Mo_need_at_gs5002e_3 {kA : Nat → ClassId} : or_ok PRD kA GG o_Mo_need_at_gs5002e_3 := by
  refine or_mk fun A ta ws vs hD hth hl => ?_
  intro t0 r0 t2 k2 t3 k3 t4 k4 t5 k5 t8 k8 f1 f2 f3 f4 f5 f6
  have cr_0_1 := fdq_39 hD hth r0
  have hK_0_1 := elq_7 hD hth cr_0_1
  have kz_0_8 := fdq_34 hD hth r0
  have kz_0_9 := fdq_44 hD hth r0
  have kz_0_10 := fdq_43 hD hth r0
  have kz_0_11 := fdq_237 hD hth r0
  have kz_0_12 := fdq_187 hD hth r0
  have kz_0_13 := fdq_238 hD hth r0
  have kz_0_14 := fdq_188 hD hth r0
  have kz_0_15 := fdq_239 hD hth r0
  have nf0 : fc_1 PRD (20, [2, 0], [30, 0, 1, 0, 0, -1, 1, 11]) ws (vs) := ⟨nf_in hl rfl, sgq_1431 (vc_Mo_need_at_gs5002e_3_0 (v_iv (n_v vs 2)) (v_iv (n_v vs 8)) (w_ei ws (w_ar ws (n_v vs 0) 1)) (w_fi ws (n_v vs 0) 15) (w_fi ws (n_v vs 0) 11) (w_fi ws (n_v vs 0) 12) k2 k8 (shm_193 f1) (shm_1437 f3) (shm_1438 f4) (shm_1436 f5) hK_0_1 kz_0_11 kz_0_12 kz_0_15)⟩
  have nf1 : fc_1 PRD (20, [0, 2], [50, 2, 0, 8, 11, 3, 7, 0, 2, 0, 1, 2, 0, 8, 0, 6, 4, 2, 1, 1, 0, 1, 2, 0, 11]) ws (vs) := ⟨nf_in hl rfl, sgq_1726 (vc_Mo_need_at_gs5002e_3_1 (v_iv (n_v vs 2)) (v_iv (n_v vs 8)) (w_fi ws (n_v vs 0) 8) (w_ei ws (w_ar ws (n_v vs 0) 1)) (w_fi ws (n_v vs 0) 15) (w_fi ws (n_v vs 0) 11) (w_fi ws (n_v vs 0) 12) k2 k8 (shm_193 f1) (shm_1437 f3) (shm_1438 f4) (shm_1436 f5) hK_0_1 kz_0_8 kz_0_11 kz_0_12 kz_0_15)⟩
  have nf2 : fc_1 PRD (20, [0, 3, 4, 5], [60, 9, 2, 1024, 10, 11, 12, 13, 14, 15, 8, 9, 5, 1, 2]) ws (vs) := ⟨nf_in hl rfl, sgq_1738 (vc_Mo_need_at_gs5002e_3_2 (v_iv (n_v vs 3)) (v_iv (n_v vs 4)) (v_iv (n_v vs 5)) (v_iv (n_v vs 8)) (w_fi ws (n_v vs 0) 8) (w_ei ws (w_ar ws (n_v vs 0) 1)) (w_ei ws (w_ar ws (n_v vs 0) 2)) (w_fi ws (n_v vs 0) 10) (w_fi ws (n_v vs 0) 5) (w_fi ws (n_v vs 0) 15) (w_fi ws (n_v vs 0) 11) (w_fi ws (n_v vs 0) 12) (w_fi ws (n_v vs 0) 13) (w_fi ws (n_v vs 0) 14) (w_fi ws (n_v vs 0) 9) k3 k4 k5 k8 (shm_1739 f2) (shm_1439 f6) kz_0_8 kz_0_9 kz_0_10 kz_0_11 kz_0_12 kz_0_13 kz_0_14 kz_0_15)⟩
  refine ⟨(fun _ h => (by cases h)), [], trivial, ?_, (fun _ h => (by cases h))⟩
  rw [List.append_nil]
  exact List.forall_mem_cons.mpr ⟨⟨show (20 : Nat) < 100 from by decide, nf0⟩, List.forall_mem_cons.mpr ⟨⟨show (20 : Nat) < 100 from by decide, nf1⟩, List.forall_mem_cons.mpr ⟨⟨show (20 : Nat) < 100 from by decide, nf2⟩, (fun _ h => (by cases h))⟩⟩⟩
set_option maxHeartbeats 4000000 in
theorem vc_Mo_need_at_gs5002e_4_0 (x2 : Int) (x6 : Int) (fault_0 : Int) (from_0 : Int) (pos_0 : Int) (kind_0 : Int) (tape_0 : Int → Int) (k2 : 0 ≤ x2 ∧ x2 ≤ 2000) (k6 : 1 ≤ x6 ∧ x6 ≤ 5) (g1 : x6 = fault_0) (f3 : ((kind_0 = 1) → (pos_0 ≤ (from_0 + 8))) ∧ ((kind_0 = 0) ∨ ((from_0 + 1) ≤ pos_0))) (f5 : (1 ≤ fault_0) ∨ ((kind_0 = 0) ∨ ((x2 + 1) ≤ pos_0))) (hK_0_1 : ∀ j : Int, 0 ≤ j → j < 2000 → (-128) ≤ tape_0 j ∧ tape_0 j ≤ 127) (kz_0_8 : 0 ≤ fault_0 ∧ fault_0 ≤ 5) (kz_0_11 : 0 ≤ pos_0 ∧ pos_0 ≤ 2000) (kz_0_12 : 0 ≤ kind_0 ∧ kind_0 ≤ 4) (kz_0_15 : 0 ≤ from_0 ∧ from_0 ≤ 2000) : (1 ≤ fault_0) ∨ ((x2 + 1) ≤ pos_0) := by
  first | with_reducible assumption | ((have f3_c0 := f3.1); (have f3_c1 := f3.2); (try and_intros) <;> first | with_reducible assumption | (clear f3_c0 f3_c1 f3 f5 hK_0_1; omega)) | ((have f3_c0 := f3.1); (have f3_c1 := f3.2); (try and_intros) <;> first | with_reducible assumption | (clear f3_c0 f3_c1 f3 hK_0_1; omega)) | omega
set_option maxHeartbeats 4000000 in
theorem vc_Mo_need_at_gs5002e_4_1 (x3 : Int) (x4 : Int) (x5 : Int) (x6 : Int) (fault_0 : Int) (from_0 : Int) (pos_0 : Int) (kind_0 : Int) (tape_0 : Int → Int) (all_0 : Int → Int) (limit_0 : Int) (place_0 : Int) (value_0 : Int) (faultPlace_0 : Int) (r_0 : Int) (k3 : (-1) ≤ x3 ∧ x3 ≤ 48) (k4 : 0 ≤ x4 ∧ x4 ≤ 7) (k5 : 0 ≤ x5 ∧ x5 ≤ 4) (k6 : 1 ≤ x6 ∧ x6 ≤ 5) (g1 : x6 = fault_0) (f6 : zONes (limit_0) (pos_0) (kind_0) (place_0) (value_0) (from_0) (fault_0) (faultPlace_0) (r_0) (tape_0) (all_0) (x3) (x4) (x5)) (kz_0_8 : 0 ≤ fault_0 ∧ fault_0 ≤ 5) (kz_0_9 : 0 ≤ faultPlace_0 ∧ faultPlace_0 ≤ 2000) (kz_0_10 : 0 ≤ limit_0 ∧ limit_0 ≤ 2000) (kz_0_11 : 0 ≤ pos_0 ∧ pos_0 ≤ 2000) (kz_0_12 : 0 ≤ kind_0 ∧ kind_0 ≤ 4) (kz_0_13 : 0 ≤ place_0 ∧ place_0 ≤ 2000) (kz_0_14 : (-49) ≤ value_0 ∧ value_0 ≤ 1048575) (kz_0_15 : 0 ≤ from_0 ∧ from_0 ≤ 2000) : zO11s (limit_0) (pos_0) (kind_0) (place_0) (value_0) (from_0) (fault_0) (faultPlace_0) (r_0) (tape_0) (all_0) (x3) (x4) (x5) := by
  first
    | exact Or.inr ⟨(‹zU11s _ _ _ _ _ _ _ _ _›).1, rsq_of (‹zU11s _ _ _ _ _ _ _ _ _›).2 ‹TKR _ _ _ _ _ _ _ _›⟩
    | exact Or.inl (fs_w ‹FSX _ _ _ _› ‹ZH0 _› (by assumption))
    | exact Or.inl (or_l ‹zONes _ _ _ _ _ _ _ _ _ _ _ _ _ _› (fun q => by have := ndq_0 q.2; omega))
def o_Mo_need_at_gs5002e_4 : or_T := (7, 7, [(0, (2, 0, 0, [165])), (2, (0, 0, 2000, [])), (3, (0, -1, 48, [])), (4, (0, 0, 7, [])), (5, (0, 0, 4, [])), (6, (0, 1, 5, []))], [(9, [6, 0], [8]), (20, [0], [50, 3, 0, 12, 11, 15, 2, 21, 4, 7, 1, 3, 2, 0, 12, 0, 1, 0, 3, 2, 0, 11, 4, 3, 2, 0, 15, 0, 8, 3, 7, 1, 3, 2, 0, 12, 0, 0, 0, 7, 4, 3, 2, 0, 15, 0, 1, 2, 0, 11]), (20, [0, 2], [50, 3, 0, 8, 12, 11, 3, 7, 0, 2, 0, 1, 2, 0, 8, 3, 7, 1, 3, 2, 0, 12, 0, 0, 0, 6, 4, 2, 1, 1, 0, 1, 2, 0, 11]), (20, [0, 3, 4, 5], [60, 9, 2, 1019, 10, 11, 12, 13, 14, 15, 8, 9, 5, 1, 2])], [], [], [(20, [0, 2], [50, 2, 0, 8, 11, 3, 7, 0, 2, 0, 1, 2, 0, 8, 0, 6, 4, 2, 1, 1, 0, 1, 2, 0, 11]), (20, [0, 3, 4, 5], [60, 9, 2, 1024, 10, 11, 12, 13, 14, 15, 8, 9, 5, 1, 2])], [], [])
theorem oo_Mo_need_at_gs5002e_4 {kA : Nat → ClassId} : or_ok PRD kA GG o_Mo_need_at_gs5002e_4 := by
  refine or_mk fun A ta ws vs hD hth hl => ?_
  intro t0 r0 t2 k2 t3 k3 t4 k4 t5 k5 t6 k6 f1 f3 f5 f6
  replace f1 := shm_293 f1
  have cr_0_1 := fdq_39 hD hth r0
  have g1 : v_iv (n_v vs 6) = w_fi ws (n_v vs 0) 8 := congrArg v_iv f1
  have hK_0_1 := elq_7 hD hth cr_0_1
  have kz_0_8 := fdq_34 hD hth r0
  have kz_0_9 := fdq_44 hD hth r0
  have kz_0_10 := fdq_43 hD hth r0
  have kz_0_11 := fdq_237 hD hth r0
  have kz_0_12 := fdq_187 hD hth r0
  have kz_0_13 := fdq_238 hD hth r0
  have kz_0_14 := fdq_188 hD hth r0
  have kz_0_15 := fdq_239 hD hth r0
  have nf0 : fc_1 PRD (20, [0, 2], [50, 2, 0, 8, 11, 3, 7, 0, 2, 0, 1, 2, 0, 8, 0, 6, 4, 2, 1, 1, 0, 1, 2, 0, 11]) ws (vs) := ⟨nf_in hl rfl, sgq_1726 (vc_Mo_need_at_gs5002e_4_0 (v_iv (n_v vs 2)) (v_iv (n_v vs 6)) (w_fi ws (n_v vs 0) 8) (w_fi ws (n_v vs 0) 15) (w_fi ws (n_v vs 0) 11) (w_fi ws (n_v vs 0) 12) (w_ei ws (w_ar ws (n_v vs 0) 1)) k2 k6 g1 (shm_1438 f3) (shm_1722 f5) hK_0_1 kz_0_8 kz_0_11 kz_0_12 kz_0_15)⟩
  have nf1 : fc_1 PRD (20, [0, 3, 4, 5], [60, 9, 2, 1024, 10, 11, 12, 13, 14, 15, 8, 9, 5, 1, 2]) ws (vs) := ⟨nf_in hl rfl, sgq_1738 (vc_Mo_need_at_gs5002e_4_1 (v_iv (n_v vs 3)) (v_iv (n_v vs 4)) (v_iv (n_v vs 5)) (v_iv (n_v vs 6)) (w_fi ws (n_v vs 0) 8) (w_fi ws (n_v vs 0) 15) (w_fi ws (n_v vs 0) 11) (w_fi ws (n_v vs 0) 12) (w_ei ws (w_ar ws (n_v vs 0) 1)) (w_ei ws (w_ar ws (n_v vs 0) 2)) (w_fi ws (n_v vs 0) 10) (w_fi ws (n_v vs 0) 13) (w_fi ws (n_v vs 0) 14) (w_fi ws (n_v vs 0) 9) (w_fi ws (n_v vs 0) 5) k3 k4 k5 k6 g1 (shm_1737 f6) kz_0_8 kz_0_9 kz_0_10 kz_0_11 kz_0_12 kz_0_13 kz_0_14 kz_0_15)⟩
  refine ⟨(fun _ h => (by cases h)), [], trivial, ?_, (fun _ h => (by cases h))⟩
  rw [List.append_nil]
  exact List.forall_mem_cons.mpr ⟨⟨show (20 : Nat) < 100 from by decide, nf0⟩, List.forall_mem_cons.mpr ⟨⟨show (20 : Nat) < 100 from by decide, nf1⟩, (fun _ h => (by cases h))⟩⟩
def n_Mo_need_at_gs5002e_an : List an_T := []
def t_Mo_need_at_gs5002e_ct : ct_L := [(1, 457, e_Mo_sign), (1, 460, e_Mo_next), (1, 463, e_Mo_wrong)]
set_option maxRecDepth 100000 in
theorem c_Mo_need_at_gs5002e {l : Launch} {D : va_G} {kA : Nat → ClassId} (h_Mo_next : ct_ok PRD l D kA GG y_Mo_next z_Mo_next e_Mo_next) (h_Mo_sign : ct_ok PRD l D kA GG y_Mo_sign z_Mo_sign e_Mo_sign) (h_Mo_wrong : ct_ok PRD l D kA GG y_Mo_wrong z_Mo_wrong e_Mo_wrong) : ct_ok PRD l D kA GG y_Mo_need_at_gs5002e z_Mo_need_at_gs5002e e_Mo_need_at_gs5002e := chk_all_ok (FT := [(413, 13, 8), (428, 13, 13)]) (PT := []) (CT := t_Mo_need_at_gs5002e_ct) (KT := []) (NT := []) (AN := n_Mo_need_at_gs5002e_an) (OT := [o_Mo_need_at_gs5002e_0, o_Mo_need_at_gs5002e_1, o_Mo_need_at_gs5002e_2, o_Mo_need_at_gs5002e_3, o_Mo_need_at_gs5002e_4]) 0 200 (List.forall_mem_cons.mpr ⟨oo_Mo_need_at_gs5002e_0, List.forall_mem_cons.mpr ⟨oo_Mo_need_at_gs5002e_1, List.forall_mem_cons.mpr ⟨oo_Mo_need_at_gs5002e_2, List.forall_mem_cons.mpr ⟨oo_Mo_need_at_gs5002e_3, List.forall_mem_cons.mpr ⟨oo_Mo_need_at_gs5002e_4, List.forall_mem_nil _⟩⟩⟩⟩⟩) (by decide +kernel) ⟨List.forall_mem_cons.mpr ⟨gf_Mo_413, List.forall_mem_cons.mpr ⟨gf_Mo_428, List.forall_mem_nil _⟩⟩, List.forall_mem_nil _, List.forall_mem_cons.mpr ⟨cl_virtual (y := y_Mo_sign) (ci := 13) rfl rfl ⟨_, _, rfl⟩ (by decide +kernel) h_Mo_sign wm_3058 wm_9 wm_3055 wm_3057 wv_13_11 ⟨by decide, by decide, by decide +kernel⟩ (by decide), List.forall_mem_cons.mpr ⟨cl_virtual (y := y_Mo_next) (ci := 13) rfl rfl ⟨_, _, rfl⟩ (by decide +kernel) h_Mo_next wm_2982 wm_9 wm_2979 wm_2981 wv_12_11 ⟨by decide, by decide, by decide +kernel⟩ (by decide), List.forall_mem_cons.mpr ⟨cl_virtual (y := y_Mo_wrong) (ci := 13) rfl rfl ⟨_, _, rfl⟩ (by decide +kernel) h_Mo_wrong wm_3017 wm_9 wm_3014 wm_3016 wv_13_1 ⟨by decide, by decide, by decide +kernel⟩ (by decide), List.forall_mem_nil _⟩⟩⟩, List.forall_mem_nil _, List.forall_mem_nil _, GG_pl⟩ (by decide +kernel)
set_option maxHeartbeats 4000000 in
theorem vc_Mo_need_at_gs5003b_0_0 (x1 : Int) (x3 : Int) (x4 : Int) (x5 : Int) (x6 : Int) (x7 : Int) (x8 : Int) (x9 : Int) (x10 : Int) (place_0 : Int) (kind_0 : Int) (fault_0 : Int) (value_0 : Int) (from_0 : Int) (pos_0 : Int) (tape_0 : Int → Int) (all_0 : Int → Int) (limit_0 : Int) (r_0 : Int) (k1 : 93 ≤ x1 ∧ x1 ≤ 93) (k3 : (-1) ≤ x3 ∧ x3 ≤ 48) (k4 : (-2147483648) ≤ x4 ∧ x4 ≤ 2147483647) (k5 : 0 ≤ x5 ∧ x5 ≤ 7) (k6 : 0 ≤ x6 ∧ x6 ≤ 4) (k7 : 0 ≤ x7 ∧ x7 ≤ 0) (k8 : 0 ≤ x8 ∧ x8 ≤ 0) (k9 : 1 ≤ x9 ∧ x9 ≤ 1) (k10 : 0 ≤ x10 ∧ x10 ≤ 2000) (f1 : x8 = 0) (f3 : SGQ (fault_0) (kind_0) (value_0) (x1) (x8)) (g5 : x7 = fault_0) (f10 : zNbw (limit_0) (pos_0) (kind_0) (place_0) (value_0) (from_0) (fault_0) (r_0) (tape_0) (all_0) (x3) (x4) (x5) (x6)) (kz_0_8 : 0 ≤ fault_0 ∧ fault_0 ≤ 5) (kz_0_10 : 0 ≤ limit_0 ∧ limit_0 ≤ 2000) (kz_0_11 : 0 ≤ pos_0 ∧ pos_0 ≤ 2000) (kz_0_12 : 0 ≤ kind_0 ∧ kind_0 ≤ 4) (kz_0_13 : 0 ≤ place_0 ∧ place_0 ≤ 2000) (kz_0_14 : (-49) ≤ value_0 ∧ value_0 ≤ 1048575) (kz_0_15 : 0 ≤ from_0 ∧ from_0 ≤ 2000) : FSX (limit_0) (tape_0) (x9) (x10) := by
  first
    | exact fsx_cg (ndq_flt (or_r ‹zONs _ _ _ _ _ _ _ _ _ _ _ _ _› (fs_n (by omega))) (sgq_f ‹SGQ _ _ _ _ _› (by omega) (by omega) (by omega))) (by omega) (by omega)
    | exact fsx_cg (ndq_flt (or_r ‹zONo _ _ _ _ _ _ _ _ _ _ _ _ _› (fs_n (by omega))) (sgq_f ‹SGQ _ _ _ _ _› (by omega) (by omega) (by omega))) (by omega) (by omega)
    | exact fsx_cg (ndq_flt (or_r ‹zONew _ _ _ _ _ _ _ _ _ _ _ _ _ _› (fs_n (by omega))) (sgq_f ‹SGQ _ _ _ _ _› (by omega) (by omega) (by omega))) (by omega) (by omega)
    | exact fsx_cg (ndq_flt (or_r ‹zONes _ _ _ _ _ _ _ _ _ _ _ _ _ _› (fs_n (by omega))).2 (sgq_f ‹SGQ _ _ _ _ _› (by omega) (by omega) (by omega))) (by omega) (by omega)
    | (exfalso; have h := or_r ‹zNc _ _ _ _ _ _ _ _ _ _ _ _ _› (fs_n (by omega)); exact sgq_f (C := 125) ‹SGQ _ _ _ _ _› (by omega) (by omega) (by omega) ⟨h.1, h.2.1⟩)
    | (exfalso; exact sgq_f (C := 93) ‹SGQ _ _ _ _ _› (by omega) (by omega) (by omega) ⟨(‹zNbs _ _ _ _ _ _ _ _ _ _ _ _ _ _›).2.1, (‹zNbs _ _ _ _ _ _ _ _ _ _ _ _ _ _›).2.2⟩)
    | (exfalso; exact sgq_f (C := 93) ‹SGQ _ _ _ _ _› (by omega) (by omega) (by omega) ⟨(‹zNbw _ _ _ _ _ _ _ _ _ _ _ _ _ _›).2.1, (‹zNbw _ _ _ _ _ _ _ _ _ _ _ _ _ _›).2.2⟩)
set_option maxHeartbeats 4000000 in
theorem vc_Mo_need_at_gs5003b_0_1 (x2 : Int) (x7 : Int) (x8 : Int) (kind_0 : Int) (fault_0 : Int) (from_0 : Int) (pos_0 : Int) (tape_0 : Int → Int) (gx : Int) (k2 : 0 ≤ x2 ∧ x2 ≤ 2000) (k7 : 0 ≤ x7 ∧ x7 ≤ 0) (k8 : 0 ≤ x8 ∧ x8 ≤ 0) (f2 : (x8 = 1) → ((kind_0 = 3) ∧ (fault_0 = 0))) (g5 : x7 = fault_0) (f7 : ((kind_0 = 1) → (pos_0 ≤ (from_0 + 8))) ∧ ((kind_0 = 0) ∨ ((from_0 + 1) ≤ pos_0))) (f9 : (1 ≤ fault_0) ∨ ((kind_0 = 0) ∨ ((x2 + 1) ≤ pos_0))) (hK_0_1 : ∀ j : Int, 0 ≤ j → j < 2000 → (-128) ≤ tape_0 j ∧ tape_0 j ≤ 127) (kz_0_8 : 0 ≤ fault_0 ∧ fault_0 ≤ 5) (kz_0_11 : 0 ≤ pos_0 ∧ pos_0 ≤ 2000) (kz_0_12 : 0 ≤ kind_0 ∧ kind_0 ≤ 4) (kz_0_15 : 0 ≤ from_0 ∧ from_0 ≤ 2000) (ex2 : gx = fault_0) : 1 * fault_0 + ((-1) * gx + 0) ≤ 0 := by
  first | with_reducible assumption | ((have f7_c0 := f7.1); (have f7_c1 := f7.2); (try and_intros) <;> first | with_reducible assumption | (clear f7_c0 f7_c1 f7 f9 hK_0_1 f2; omega)) | ((have f7_c0 := f7.1); (have f7_c1 := f7.2); (first | have f2_b := f2 (by clear f7_c0 f7_c1 f7 f9 hK_0_1 f2; omega) | skip); (first | have f2_d := f2 (by with_reducible assumption) | skip); (try and_intros) <;> first | with_reducible assumption | (clear f7_c0 f7_c1 f7 f9 hK_0_1 f2; omega)) | ((have f7_c0 := f7.1); (have f7_c1 := f7.2); (first | have f2_b := f2 (by clear f7_c0 f7_c1 f7 f9 hK_0_1 f2; omega) | skip); (first | have f2_d := f2 (by with_reducible assumption) | skip); (try and_intros) <;> first | with_reducible assumption | (clear f7_c0 f7_c1 f7 hK_0_1 f2; omega)) | omega
set_option maxHeartbeats 4000000 in
theorem vc_Mo_need_at_gs5003b_0_2 (x2 : Int) (x7 : Int) (x8 : Int) (kind_0 : Int) (fault_0 : Int) (from_0 : Int) (pos_0 : Int) (tape_0 : Int → Int) (gx : Int) (k2 : 0 ≤ x2 ∧ x2 ≤ 2000) (k7 : 0 ≤ x7 ∧ x7 ≤ 0) (k8 : 0 ≤ x8 ∧ x8 ≤ 0) (f2 : (x8 = 1) → ((kind_0 = 3) ∧ (fault_0 = 0))) (g5 : x7 = fault_0) (f7 : ((kind_0 = 1) → (pos_0 ≤ (from_0 + 8))) ∧ ((kind_0 = 0) ∨ ((from_0 + 1) ≤ pos_0))) (f9 : (1 ≤ fault_0) ∨ ((kind_0 = 0) ∨ ((x2 + 1) ≤ pos_0))) (hK_0_1 : ∀ j : Int, 0 ≤ j → j < 2000 → (-128) ≤ tape_0 j ∧ tape_0 j ≤ 127) (kz_0_8 : 0 ≤ fault_0 ∧ fault_0 ≤ 5) (kz_0_11 : 0 ≤ pos_0 ∧ pos_0 ≤ 2000) (kz_0_12 : 0 ≤ kind_0 ∧ kind_0 ≤ 4) (kz_0_15 : 0 ≤ from_0 ∧ from_0 ≤ 2000) (ex2 : gx = fault_0) : (-1) * fault_0 + (1 * gx + 0) ≤ 0 := by
  first | with_reducible assumption | ((have f7_c0 := f7.1); (have f7_c1 := f7.2); (try and_intros) <;> first | with_reducible assumption | (clear f7_c0 f7_c1 f7 f9 hK_0_1 f2; omega)) | ((have f7_c0 := f7.1); (have f7_c1 := f7.2); (first | have f2_b := f2 (by clear f7_c0 f7_c1 f7 f9 hK_0_1 f2; omega) | skip); (first | have f2_d := f2 (by with_reducible assumption) | skip); (try and_intros) <;> first | with_reducible assumption | (clear f7_c0 f7_c1 f7 f9 hK_0_1 f2; omega)) | ((have f7_c0 := f7.1); (have f7_c1 := f7.2); (first | have f2_b := f2 (by clear f7_c0 f7_c1 f7 f9 hK_0_1 f2; omega) | skip); (first | have f2_d := f2 (by with_reducible assumption) | skip); (try and_intros) <;> first | with_reducible assumption | (clear f7_c0 f7_c1 f7 hK_0_1 f2; omega)) | omega
set_option maxHeartbeats 4000000 in
theorem vc_Mo_need_at_gs5003b_0_3 (x7 : Int) (fault_0 : Int) (gx : Int) (k7 : 0 ≤ x7 ∧ x7 ≤ 0) (g5 : x7 = fault_0) (kz_0_8 : 0 ≤ fault_0 ∧ fault_0 ≤ 5) (ex2 : gx = fault_0) : ZH0 (gx) := by
  exact ⟨by omega, by omega, trivial⟩
set_option maxHeartbeats 4000000 in
theorem vc_Mo_need_at_gs5003b_0_4 (x1 : Int) (x3 : Int) (x4 : Int) (x5 : Int) (x6 : Int) (x7 : Int) (x8 : Int) (place_0 : Int) (kind_0 : Int) (fault_0 : Int) (value_0 : Int) (from_0 : Int) (pos_0 : Int) (tape_0 : Int → Int) (all_0 : Int → Int) (limit_0 : Int) (r_0 : Int) (gx : Int) (k1 : 93 ≤ x1 ∧ x1 ≤ 93) (k3 : (-1) ≤ x3 ∧ x3 ≤ 48) (k4 : (-2147483648) ≤ x4 ∧ x4 ≤ 2147483647) (k5 : 0 ≤ x5 ∧ x5 ≤ 7) (k6 : 0 ≤ x6 ∧ x6 ≤ 4) (k7 : 0 ≤ x7 ∧ x7 ≤ 0) (k8 : 0 ≤ x8 ∧ x8 ≤ 0) (f1 : x8 = 0) (f3 : SGQ (fault_0) (kind_0) (value_0) (x1) (x8)) (g5 : x7 = fault_0) (f10 : zNbw (limit_0) (pos_0) (kind_0) (place_0) (value_0) (from_0) (fault_0) (r_0) (tape_0) (all_0) (x3) (x4) (x5) (x6)) (kz_0_8 : 0 ≤ fault_0 ∧ fault_0 ≤ 5) (kz_0_10 : 0 ≤ limit_0 ∧ limit_0 ≤ 2000) (kz_0_11 : 0 ≤ pos_0 ∧ pos_0 ≤ 2000) (kz_0_12 : 0 ≤ kind_0 ∧ kind_0 ≤ 4) (kz_0_13 : 0 ≤ place_0 ∧ place_0 ≤ 2000) (kz_0_14 : (-49) ≤ value_0 ∧ value_0 ≤ 1048575) (kz_0_15 : 0 ≤ from_0 ∧ from_0 ≤ 2000) : ZFF (gx) := by
  first
    | exact sgq_f (C := 93) ‹SGQ _ _ _ _ _› (by omega) (by omega) (by omega) ⟨(‹zNbs _ _ _ _ _ _ _ _ _ _ _ _ _ _›).2.1, (‹zNbs _ _ _ _ _ _ _ _ _ _ _ _ _ _›).2.2⟩
    | exact sgq_f (C := 93) ‹SGQ _ _ _ _ _› (by omega) (by omega) (by omega) ⟨(‹zNbw _ _ _ _ _ _ _ _ _ _ _ _ _ _›).2.1, (‹zNbw _ _ _ _ _ _ _ _ _ _ _ _ _ _›).2.2⟩
def o_Mo_need_at_gs5003b_0 : or_T := (29, 11, [(0, (2, 0, 0, [165])), (1, (0, 93, 93, [])), (2, (0, 0, 2000, [])), (3, (0, -1, 48, [])), (4, (0, -2147483648, 2147483647, [])), (5, (0, 0, 7, [])), (6, (0, 0, 4, [])), (7, (0, 0, 0, [])), (8, (0, 0, 0, [])), (9, (0, 1, 1, [])), (10, (0, 0, 2000, []))], [(8, [8], [0]), (20, [8, 0], [50, 2, 0, 1012, 1008, 4, 6, 1, 2, 1, 0, 0, 1, 2, 7, 1, 3, 2, 1, 12, 0, 3, 1, 3, 2, 1, 8, 0, 0]), (20, [0, 1, 8], [60, 3, 0, 963, 8, 12, 14]), (9, [7, 0], [8]), (20, [0], [50, 3, 0, 12, 11, 15, 2, 21, 4, 7, 1, 3, 2, 0, 12, 0, 1, 0, 3, 2, 0, 11, 4, 3, 2, 0, 15, 0, 8, 3, 7, 1, 3, 2, 0, 12, 0, 0, 0, 7, 4, 3, 2, 0, 15, 0, 1, 2, 0, 11]), (20, [0, 2], [50, 3, 0, 8, 12, 11, 3, 7, 0, 2, 0, 1, 2, 0, 8, 3, 7, 1, 3, 2, 0, 12, 0, 0, 0, 6, 4, 2, 1, 1, 0, 1, 2, 0, 11]), (20, [0, 3, 4, 5, 6], [60, 8, 2, 1002, 10, 11, 12, 13, 14, 15, 8, 5, 1, 2])], [], [(0, 0, 5, [])], [(20, [0, 9, 10], [60, 1, 1, 1026, 10, 1]), (20, [0, 11], [30, 0, 1, 1, 8, -1, 0, 0]), (20, [0, 11], [30, 0, -1, 1, 8, 1, 0, 0]), (20, [11], [61, 0, 1029]), (20, [11], [61, 0, 1030])], [], [])
theorem oo_Mo_need_at_gs5003b_0 {kA : Nat → ClassId} : or_ok PRD kA GG o_Mo_need_at_gs5003b_0 := by
  refine or_mk fun A ta ws vs hD hth hl => ?_
  intro t0 r0 t1 k1 t2 k2 t3 k3 t4 k4 t5 k5 t6 k6 t7 k7 t8 k8 t9 k9 t10 k10 f1 f2 f3 f5 f7 f9 f10
  replace f1 := shm_192 f1
  replace f2 := shm_730 f2
  replace f3 := shm_731 f3
  replace f5 := shm_293 f5
  replace f7 := shm_1438 f7
  replace f9 := shm_1722 f9
  replace f10 := shm_1740 f10
  have cr_0_1 := fdq_39 hD hth r0
  have g5 : v_iv (n_v vs 7) = w_fi ws (n_v vs 0) 8 := congrArg v_iv f5
  have hK_0_1 := elq_7 hD hth cr_0_1
  have kz_0_8 := fdq_34 hD hth r0
  have kz_0_10 := fdq_43 hD hth r0
  have kz_0_11 := fdq_237 hD hth r0
  have kz_0_12 := fdq_187 hD hth r0
  have kz_0_13 := fdq_238 hD hth r0
  have kz_0_14 := fdq_188 hD hth r0
  have kz_0_15 := fdq_239 hD hth r0
  obtain ⟨x, ex, hx⟩ := iv_ex (ta := ta) (lo := 0) (hi := 5) (z := w_fi ws (n_v vs 0) 8) (by omega) (by omega) (by omega) (by omega)
  have ex2 : v_iv (Value.int x) = w_fi ws (n_v vs 0) 8 := ex
  have ex3 : 0 ≤ v_iv (Value.int x) ∧ v_iv (Value.int x) ≤ 5 := tv_rng hx
  have e_0 : n_v (vs ++ [Value.int x]) 0 = n_v vs 0 := n_v_old (by rw [hl]; decide)
  have e_9 : n_v (vs ++ [Value.int x]) 9 = n_v vs 9 := n_v_old (by rw [hl]; decide)
  have e_10 : n_v (vs ++ [Value.int x]) 10 = n_v vs 10 := n_v_old (by rw [hl]; decide)
  have e_11 : n_v (vs ++ [Value.int x]) 11 = Value.int x := n_v_new hl
  have nf0 : fc_1 PRD (20, [0, 9, 10], [60, 1, 1, 1026, 10, 1]) ws (vs ++ [Value.int x]) := by
    refine ⟨nf_inA hl rfl, sgq_1724 ?_⟩
    · show FSX (w_fi ws (n_v (vs ++ [Value.int x]) 0) 10) (w_ei ws (w_ar ws (n_v (vs ++ [Value.int x]) 0) 1)) (v_iv (n_v (vs ++ [Value.int x]) 9)) (v_iv (n_v (vs ++ [Value.int x]) 10))
      simp only [e_0, e_9, e_10]
      exact vc_Mo_need_at_gs5003b_0_0 (v_iv (n_v vs 1)) (v_iv (n_v vs 3)) (v_iv (n_v vs 4)) (v_iv (n_v vs 5)) (v_iv (n_v vs 6)) (v_iv (n_v vs 7)) (v_iv (n_v vs 8)) (v_iv (n_v vs 9)) (v_iv (n_v vs 10)) (w_fi ws (n_v vs 0) 13) (w_fi ws (n_v vs 0) 12) (w_fi ws (n_v vs 0) 8) (w_fi ws (n_v vs 0) 14) (w_fi ws (n_v vs 0) 15) (w_fi ws (n_v vs 0) 11) (w_ei ws (w_ar ws (n_v vs 0) 1)) (w_ei ws (w_ar ws (n_v vs 0) 2)) (w_fi ws (n_v vs 0) 10) (w_fi ws (n_v vs 0) 5) k1 k3 k4 k5 k6 k7 k8 k9 k10 f1 f3 g5 f10 kz_0_8 kz_0_10 kz_0_11 kz_0_12 kz_0_13 kz_0_14 kz_0_15
  have nf1 : fc_1 PRD (20, [0, 11], [30, 0, 1, 1, 8, -1, 0, 0]) ws (vs ++ [Value.int x]) := by
    refine ⟨nf_inA hl rfl, sgq_303 ?_⟩
    · show 1 * w_fi ws (n_v (vs ++ [Value.int x]) 0) 8 + ((-1) * v_iv (n_v (vs ++ [Value.int x]) 11) + 0) ≤ 0
      simp only [e_0, e_11]
      exact vc_Mo_need_at_gs5003b_0_1 (v_iv (n_v vs 2)) (v_iv (n_v vs 7)) (v_iv (n_v vs 8)) (w_fi ws (n_v vs 0) 12) (w_fi ws (n_v vs 0) 8) (w_fi ws (n_v vs 0) 15) (w_fi ws (n_v vs 0) 11) (w_ei ws (w_ar ws (n_v vs 0) 1)) (v_iv (Value.int x)) k2 k7 k8 f2 g5 f7 f9 hK_0_1 kz_0_8 kz_0_11 kz_0_12 kz_0_15 ex2
  have nf2 : fc_1 PRD (20, [0, 11], [30, 0, -1, 1, 8, 1, 0, 0]) ws (vs ++ [Value.int x]) := by
    refine ⟨nf_inA hl rfl, sgq_304 ?_⟩
    · show (-1) * w_fi ws (n_v (vs ++ [Value.int x]) 0) 8 + (1 * v_iv (n_v (vs ++ [Value.int x]) 11) + 0) ≤ 0
      simp only [e_0, e_11]
      exact vc_Mo_need_at_gs5003b_0_2 (v_iv (n_v vs 2)) (v_iv (n_v vs 7)) (v_iv (n_v vs 8)) (w_fi ws (n_v vs 0) 12) (w_fi ws (n_v vs 0) 8) (w_fi ws (n_v vs 0) 15) (w_fi ws (n_v vs 0) 11) (w_ei ws (w_ar ws (n_v vs 0) 1)) (v_iv (Value.int x)) k2 k7 k8 f2 g5 f7 f9 hK_0_1 kz_0_8 kz_0_11 kz_0_12 kz_0_15 ex2
  have nf3 : fc_1 PRD (20, [11], [61, 0, 1029]) ws (vs ++ [Value.int x]) := by
    refine ⟨nf_inA hl rfl, sgq_1725 ?_⟩
    · show ZH0 (v_iv (n_v (vs ++ [Value.int x]) 11))
      rw [e_11]
      exact vc_Mo_need_at_gs5003b_0_3 (v_iv (n_v vs 7)) (w_fi ws (n_v vs 0) 8) (v_iv (Value.int x)) k7 g5 kz_0_8 ex2
  have nf4 : fc_1 PRD (20, [11], [61, 0, 1030]) ws (vs ++ [Value.int x]) := by
    refine ⟨nf_inA hl rfl, sgq_1734 ?_⟩
    · show ZFF (v_iv (n_v (vs ++ [Value.int x]) 11))
      rw [e_11]
      exact vc_Mo_need_at_gs5003b_0_4 (v_iv (n_v vs 1)) (v_iv (n_v vs 3)) (v_iv (n_v vs 4)) (v_iv (n_v vs 5)) (v_iv (n_v vs 6)) (v_iv (n_v vs 7)) (v_iv (n_v vs 8)) (w_fi ws (n_v vs 0) 13) (w_fi ws (n_v vs 0) 12) (w_fi ws (n_v vs 0) 8) (w_fi ws (n_v vs 0) 14) (w_fi ws (n_v vs 0) 15) (w_fi ws (n_v vs 0) 11) (w_ei ws (w_ar ws (n_v vs 0) 1)) (w_ei ws (w_ar ws (n_v vs 0) 2)) (w_fi ws (n_v vs 0) 10) (w_fi ws (n_v vs 0) 5) (v_iv (Value.int x)) k1 k3 k4 k5 k6 k7 k8 f1 f3 g5 f10 kz_0_8 kz_0_10 kz_0_11 kz_0_12 kz_0_13 kz_0_14 kz_0_15
  exact ⟨(fun _ h => (by cases h)), [Value.int x], ag_one hx, List.forall_mem_cons.mpr ⟨⟨show (20 : Nat) < 100 from by decide, nf0⟩, List.forall_mem_cons.mpr ⟨⟨show (20 : Nat) < 100 from by decide, nf1⟩, List.forall_mem_cons.mpr ⟨⟨show (20 : Nat) < 100 from by decide, nf2⟩, List.forall_mem_cons.mpr ⟨⟨show (20 : Nat) < 100 from by decide, nf3⟩, List.forall_mem_cons.mpr ⟨⟨show (20 : Nat) < 100 from by decide, nf4⟩, (fun _ h => (by cases h))⟩⟩⟩⟩⟩, (fun _ h => (by cases h))⟩
set_option maxHeartbeats 4000000 in
theorem vc_Mo_need_at_gs5003b_1_0 (x2 : Int) (x9 : Int) (x10 : Int) (x11 : Int) (tape_0 : Int → Int) (from_0 : Int) (pos_0 : Int) (kind_0 : Int) (fault_0 : Int) (faultPlace_0 : Int) (k2 : 0 ≤ x2 ∧ x2 ≤ 2000) (k9 : 1 ≤ x9 ∧ x9 ≤ 1) (k10 : 0 ≤ x10 ∧ x10 ≤ 2000) (k11 : 0 ≤ x11 ∧ x11 ≤ 5) (f5 : ((kind_0 = 1) → (pos_0 ≤ (from_0 + 8))) ∧ ((kind_0 = 0) ∨ ((from_0 + 1) ≤ pos_0))) (f7 : (-1) * fault_0 + 0 ≤ (-1)) (f8 : ((1 ≤ x11) ∧ (fault_0 = x11)) ∨ ((x11 = 0) ∧ ((fault_0 = x9) ∧ (faultPlace_0 = x10)))) (hK_0_1 : ∀ j : Int, 0 ≤ j → j < 2000 → (-128) ≤ tape_0 j ∧ tape_0 j ≤ 127) (kz_0_8 : 0 ≤ fault_0 ∧ fault_0 ≤ 5) (kz_0_9 : 0 ≤ faultPlace_0 ∧ faultPlace_0 ≤ 2000) (kz_0_11 : 0 ≤ pos_0 ∧ pos_0 ≤ 2000) (kz_0_12 : 0 ≤ kind_0 ∧ kind_0 ≤ 4) (kz_0_15 : 0 ≤ from_0 ∧ from_0 ≤ 2000) : (1 ≤ fault_0) ∨ ((x2 + 1) ≤ pos_0) := by
  first | with_reducible assumption | ((have f5_c0 := f5.1); (have f5_c1 := f5.2); (try and_intros) <;> first | with_reducible assumption | (clear f5_c0 f5_c1 f5 f8 hK_0_1; omega)) | ((have f5_c0 := f5.1); (have f5_c1 := f5.2); (try and_intros) <;> first | with_reducible assumption | (clear f5_c0 f5_c1 f5 hK_0_1; omega)) | omega
set_option maxHeartbeats 4000000 in
theorem vc_Mo_need_at_gs5003b_1_1 (x3 : Int) (x4 : Int) (x5 : Int) (x6 : Int) (x11 : Int) (place_0 : Int) (tape_0 : Int → Int) (limit_0 : Int) (from_0 : Int) (pos_0 : Int) (kind_0 : Int) (fault_0 : Int) (value_0 : Int) (all_0 : Int → Int) (r_0 : Int) (k3 : (-1) ≤ x3 ∧ x3 ≤ 48) (k4 : (-2147483648) ≤ x4 ∧ x4 ≤ 2147483647) (k5 : 0 ≤ x5 ∧ x5 ≤ 7) (k6 : 0 ≤ x6 ∧ x6 ≤ 4) (k11 : 0 ≤ x11 ∧ x11 ≤ 5) (f3 : ZFF (x11)) (kz_0_8 : 0 ≤ fault_0 ∧ fault_0 ≤ 5) (kz_0_10 : 0 ≤ limit_0 ∧ limit_0 ≤ 2000) (kz_0_11 : 0 ≤ pos_0 ∧ pos_0 ≤ 2000) (kz_0_12 : 0 ≤ kind_0 ∧ kind_0 ≤ 4) (kz_0_13 : 0 ≤ place_0 ∧ place_0 ≤ 2000) (kz_0_14 : (-49) ≤ value_0 ∧ value_0 ≤ 1048575) (kz_0_15 : 0 ≤ from_0 ∧ from_0 ≤ 2000) : zRP13w (limit_0) (pos_0) (kind_0) (place_0) (value_0) (from_0) (fault_0) (r_0) (tape_0) (all_0) (x3) (x4) (x5) (x6) := by
  first
    | exact rsq_of ‹zTP13w _ _ _ _ _ _ _ _ _ _› ‹TKR _ _ _ _ _ _ _ _›
    | (exfalso; have h := (‹zNbw _ _ _ _ _ _ _ _ _ _ _ _ _ _›).1.2.1; omega)
    | exact (‹ZFF _› : False).elim
def o_Mo_need_at_gs5003b_1 : or_T := (32, 12, [(0, (2, 0, 0, [165])), (2, (0, 0, 2000, [])), (3, (0, -1, 48, [])), (4, (0, -2147483648, 2147483647, [])), (5, (0, 0, 7, [])), (6, (0, 0, 4, [])), (9, (0, 1, 1, [])), (10, (0, 0, 2000, [])), (11, (0, 0, 5, []))], [(20, [11], [61, 0, 1030]), (20, [0], [50, 3, 0, 12, 11, 15, 2, 21, 4, 7, 1, 3, 2, 0, 12, 0, 1, 0, 3, 2, 0, 11, 4, 3, 2, 0, 15, 0, 8, 3, 7, 1, 3, 2, 0, 12, 0, 0, 0, 7, 4, 3, 2, 0, 15, 0, 1, 2, 0, 11]), (20, [0], [30, -1, -1, 1, 8]), (20, [11, 0, 9, 10], [50, 2, 0, 1008, 1009, 3, 15, 2, 6, 0, 2, 0, 1, 1, 0, 1, 3, 2, 1, 8, 1, 0, 2, 6, 1, 2, 1, 0, 0, 0, 2, 7, 1, 3, 2, 1, 8, 1, 2, 1, 3, 2, 1, 9, 1, 3])], [], [], [(20, [0, 2], [50, 2, 0, 8, 11, 3, 7, 0, 2, 0, 1, 2, 0, 8, 0, 6, 4, 2, 1, 1, 0, 1, 2, 0, 11]), (20, [0, 3, 4, 5, 6], [60, 8, 2, 996, 10, 11, 12, 13, 14, 15, 8, 5, 1, 2])], [], [])
theorem oo_Mo_need_at_gs5003b_1 {kA : Nat → ClassId} : or_ok PRD kA GG o_Mo_need_at_gs5003b_1 := by
  refine or_mk fun A ta ws vs hD hth hl => ?_
  intro t0 r0 t2 k2 t3 k3 t4 k4 t5 k5 t6 k6 t9 k9 t10 k10 t11 k11 f3 f5 f7 f8
  have cr_0_1 := fdq_39 hD hth r0
  have hK_0_1 := elq_7 hD hth cr_0_1
  have kz_0_8 := fdq_34 hD hth r0
  have kz_0_9 := fdq_44 hD hth r0
  have kz_0_10 := fdq_43 hD hth r0
  have kz_0_11 := fdq_237 hD hth r0
  have kz_0_12 := fdq_187 hD hth r0
  have kz_0_13 := fdq_238 hD hth r0
  have kz_0_14 := fdq_188 hD hth r0
  have kz_0_15 := fdq_239 hD hth r0
  have nf0 : fc_1 PRD (20, [0, 2], [50, 2, 0, 8, 11, 3, 7, 0, 2, 0, 1, 2, 0, 8, 0, 6, 4, 2, 1, 1, 0, 1, 2, 0, 11]) ws (vs) := ⟨nf_in hl rfl, sgq_1726 (vc_Mo_need_at_gs5003b_1_0 (v_iv (n_v vs 2)) (v_iv (n_v vs 9)) (v_iv (n_v vs 10)) (v_iv (n_v vs 11)) (w_ei ws (w_ar ws (n_v vs 0) 1)) (w_fi ws (n_v vs 0) 15) (w_fi ws (n_v vs 0) 11) (w_fi ws (n_v vs 0) 12) (w_fi ws (n_v vs 0) 8) (w_fi ws (n_v vs 0) 9) k2 k9 k10 k11 (shm_1438 f5) (shm_305 f7) (shm_306 f8) hK_0_1 kz_0_8 kz_0_9 kz_0_11 kz_0_12 kz_0_15)⟩
  have nf1 : fc_1 PRD (20, [0, 3, 4, 5, 6], [60, 8, 2, 996, 10, 11, 12, 13, 14, 15, 8, 5, 1, 2]) ws (vs) := ⟨nf_in hl rfl, sgq_1741 (vc_Mo_need_at_gs5003b_1_1 (v_iv (n_v vs 3)) (v_iv (n_v vs 4)) (v_iv (n_v vs 5)) (v_iv (n_v vs 6)) (v_iv (n_v vs 11)) (w_fi ws (n_v vs 0) 13) (w_ei ws (w_ar ws (n_v vs 0) 1)) (w_fi ws (n_v vs 0) 10) (w_fi ws (n_v vs 0) 15) (w_fi ws (n_v vs 0) 11) (w_fi ws (n_v vs 0) 12) (w_fi ws (n_v vs 0) 8) (w_fi ws (n_v vs 0) 14) (w_ei ws (w_ar ws (n_v vs 0) 2)) (w_fi ws (n_v vs 0) 5) k3 k4 k5 k6 k11 (shm_1734 f3) kz_0_8 kz_0_10 kz_0_11 kz_0_12 kz_0_13 kz_0_14 kz_0_15)⟩
  refine ⟨(fun _ h => (by cases h)), [], trivial, ?_, (fun _ h => (by cases h))⟩
  rw [List.append_nil]
  exact List.forall_mem_cons.mpr ⟨⟨show (20 : Nat) < 100 from by decide, nf0⟩, List.forall_mem_cons.mpr ⟨⟨show (20 : Nat) < 100 from by decide, nf1⟩, (fun _ h => (by cases h))⟩⟩
set_option maxHeartbeats 4000000 in
theorem vc_Mo_need_at_gs5003b_2_0 (x2 : Int) (x8 : Int) (kind_0 : Int) (fault_0 : Int) (from_0 : Int) (pos_0 : Int) (tape_0 : Int → Int) (gx : Int) (k2 : 0 ≤ x2 ∧ x2 ≤ 2000) (k8 : 1 ≤ x8 ∧ x8 ≤ 1) (f1 : (x8 = 1) → ((kind_0 = 3) ∧ (fault_0 = 0))) (f6 : ((kind_0 = 1) → (pos_0 ≤ (from_0 + 8))) ∧ ((kind_0 = 0) ∨ ((from_0 + 1) ≤ pos_0))) (f8 : (1 ≤ fault_0) ∨ ((kind_0 = 0) ∨ ((x2 + 1) ≤ pos_0))) (hK_0_1 : ∀ j : Int, 0 ≤ j → j < 2000 → (-128) ≤ tape_0 j ∧ tape_0 j ≤ 127) (kz_0_8 : 0 ≤ fault_0 ∧ fault_0 ≤ 5) (kz_0_11 : 0 ≤ pos_0 ∧ pos_0 ≤ 2000) (kz_0_12 : 0 ≤ kind_0 ∧ kind_0 ≤ 4) (kz_0_15 : 0 ≤ from_0 ∧ from_0 ≤ 2000) (ex2 : gx = pos_0) : 1 * gx + ((-1) * pos_0 + 0) ≤ 0 := by
  first | with_reducible assumption | ((have f6_c0 := f6.1); (have f6_c1 := f6.2); (try and_intros) <;> first | with_reducible assumption | (clear f6_c0 f6_c1 f6 f8 hK_0_1 f1; omega)) | ((have f6_c0 := f6.1); (have f6_c1 := f6.2); (first | have f1_b := f1 (by clear f6_c0 f6_c1 f6 f8 hK_0_1 f1; omega) | skip); (first | have f1_d := f1 (by with_reducible assumption) | skip); (try and_intros) <;> first | with_reducible assumption | (clear f6_c0 f6_c1 f6 f8 hK_0_1 f1; omega)) | ((have f6_c0 := f6.1); (have f6_c1 := f6.2); (first | have f1_b := f1 (by clear f6_c0 f6_c1 f6 f8 hK_0_1 f1; omega) | skip); (first | have f1_d := f1 (by with_reducible assumption) | skip); (try and_intros) <;> first | with_reducible assumption | (clear f6_c0 f6_c1 f6 hK_0_1 f1; omega)) | omega
set_option maxHeartbeats 4000000 in
theorem vc_Mo_need_at_gs5003b_2_1 (x2 : Int) (x8 : Int) (kind_0 : Int) (fault_0 : Int) (from_0 : Int) (pos_0 : Int) (tape_0 : Int → Int) (gx : Int) (k2 : 0 ≤ x2 ∧ x2 ≤ 2000) (k8 : 1 ≤ x8 ∧ x8 ≤ 1) (f1 : (x8 = 1) → ((kind_0 = 3) ∧ (fault_0 = 0))) (f6 : ((kind_0 = 1) → (pos_0 ≤ (from_0 + 8))) ∧ ((kind_0 = 0) ∨ ((from_0 + 1) ≤ pos_0))) (f8 : (1 ≤ fault_0) ∨ ((kind_0 = 0) ∨ ((x2 + 1) ≤ pos_0))) (hK_0_1 : ∀ j : Int, 0 ≤ j → j < 2000 → (-128) ≤ tape_0 j ∧ tape_0 j ≤ 127) (kz_0_8 : 0 ≤ fault_0 ∧ fault_0 ≤ 5) (kz_0_11 : 0 ≤ pos_0 ∧ pos_0 ≤ 2000) (kz_0_12 : 0 ≤ kind_0 ∧ kind_0 ≤ 4) (kz_0_15 : 0 ≤ from_0 ∧ from_0 ≤ 2000) (ex2 : gx = pos_0) : gx = pos_0 := by
  first | with_reducible assumption | ((have f6_c0 := f6.1); (have f6_c1 := f6.2); (try and_intros) <;> first | with_reducible assumption | (clear f6_c0 f6_c1 f6 f8 hK_0_1 f1; omega)) | ((have f6_c0 := f6.1); (have f6_c1 := f6.2); (first | have f1_b := f1 (by clear f6_c0 f6_c1 f6 f8 hK_0_1 f1; omega) | skip); (first | have f1_d := f1 (by with_reducible assumption) | skip); (try and_intros) <;> first | with_reducible assumption | (clear f6_c0 f6_c1 f6 f8 hK_0_1 f1; omega)) | ((have f6_c0 := f6.1); (have f6_c1 := f6.2); (first | have f1_b := f1 (by clear f6_c0 f6_c1 f6 f8 hK_0_1 f1; omega) | skip); (first | have f1_d := f1 (by with_reducible assumption) | skip); (try and_intros) <;> first | with_reducible assumption | (clear f6_c0 f6_c1 f6 hK_0_1 f1; omega)) | omega
set_option maxHeartbeats 4000000 in
theorem vc_Mo_need_at_gs5003b_2_2 (x3 : Int) (x4 : Int) (x5 : Int) (x6 : Int) (kind_0 : Int) (fault_0 : Int) (value_0 : Int) (from_0 : Int) (pos_0 : Int) (tape_0 : Int → Int) (all_0 : Int → Int) (limit_0 : Int) (place_0 : Int) (r_0 : Int) (k3 : (-1) ≤ x3 ∧ x3 ≤ 48) (k4 : (-2147483648) ≤ x4 ∧ x4 ≤ 2147483647) (k5 : 0 ≤ x5 ∧ x5 ≤ 7) (k6 : 0 ≤ x6 ∧ x6 ≤ 4) (f9 : zNbw (limit_0) (pos_0) (kind_0) (place_0) (value_0) (from_0) (fault_0) (r_0) (tape_0) (all_0) (x3) (x4) (x5) (x6)) (kz_0_8 : 0 ≤ fault_0 ∧ fault_0 ≤ 5) (kz_0_10 : 0 ≤ limit_0 ∧ limit_0 ≤ 2000) (kz_0_11 : 0 ≤ pos_0 ∧ pos_0 ≤ 2000) (kz_0_12 : 0 ≤ kind_0 ∧ kind_0 ≤ 4) (kz_0_13 : 0 ≤ place_0 ∧ place_0 ≤ 2000) (kz_0_14 : (-49) ≤ value_0 ∧ value_0 ≤ 1048575) (kz_0_15 : 0 ≤ from_0 ∧ from_0 ≤ 2000) : ZLM (limit_0) (pos_0) := by
  first
    | exact ndq_lim (or_r ‹zONs _ _ _ _ _ _ _ _ _ _ _ _ _› (fs_n (by omega)))
    | exact ndq_lim (or_r ‹zONo _ _ _ _ _ _ _ _ _ _ _ _ _› (fs_n (by omega)))
    | exact ndq_lim (or_r ‹zONew _ _ _ _ _ _ _ _ _ _ _ _ _ _› (fs_n (by omega)))
    | exact ndq_lim (or_r ‹zONes _ _ _ _ _ _ _ _ _ _ _ _ _ _› (fs_n (by omega))).2
    | exact ndq_lim (or_r ‹zNc _ _ _ _ _ _ _ _ _ _ _ _ _› (fs_n (by omega))).2.2
    | exact zlm_r (‹zNbs _ _ _ _ _ _ _ _ _ _ _ _ _ _›).1.2.2
    | exact zlm_r (‹zNbw _ _ _ _ _ _ _ _ _ _ _ _ _ _›).1.2
set_option maxHeartbeats 4000000 in
theorem vc_Mo_need_at_gs5003b_2_3 (x2 : Int) (x7 : Int) (x8 : Int) (kind_0 : Int) (fault_0 : Int) (from_0 : Int) (pos_0 : Int) (tape_0 : Int → Int) (gx : Int) (k2 : 0 ≤ x2 ∧ x2 ≤ 2000) (k7 : 0 ≤ x7 ∧ x7 ≤ 0) (k8 : 1 ≤ x8 ∧ x8 ≤ 1) (f1 : (x8 = 1) → ((kind_0 = 3) ∧ (fault_0 = 0))) (g4 : x7 = fault_0) (f6 : ((kind_0 = 1) → (pos_0 ≤ (from_0 + 8))) ∧ ((kind_0 = 0) ∨ ((from_0 + 1) ≤ pos_0))) (f7 : 1 * x2 + ((-1) * pos_0 + 0) ≤ 0) (f8 : (1 ≤ fault_0) ∨ ((kind_0 = 0) ∨ ((x2 + 1) ≤ pos_0))) (hK_0_1 : ∀ j : Int, 0 ≤ j → j < 2000 → (-128) ≤ tape_0 j ∧ tape_0 j ≤ 127) (kz_0_8 : 0 ≤ fault_0 ∧ fault_0 ≤ 5) (kz_0_11 : 0 ≤ pos_0 ∧ pos_0 ≤ 2000) (kz_0_12 : 0 ≤ kind_0 ∧ kind_0 ≤ 4) (kz_0_15 : 0 ≤ from_0 ∧ from_0 ≤ 2000) (ex2 : gx = pos_0) : 1 * x2 + ((-1) * gx + 0) ≤ (-1) := by
  first | with_reducible assumption | ((have f6_c0 := f6.1); (have f6_c1 := f6.2); (try and_intros) <;> first | with_reducible assumption | (clear f6_c0 f6_c1 f6 f8 hK_0_1 f1; omega)) | ((have f6_c0 := f6.1); (have f6_c1 := f6.2); (first | have f1_b := f1 (by clear f6_c0 f6_c1 f6 f8 hK_0_1 f1; omega) | skip); (first | have f1_d := f1 (by with_reducible assumption) | skip); (try and_intros) <;> first | with_reducible assumption | (clear f6_c0 f6_c1 f6 f8 hK_0_1 f1; omega)) | ((have f6_c0 := f6.1); (have f6_c1 := f6.2); (first | have f1_b := f1 (by clear f6_c0 f6_c1 f6 f8 hK_0_1 f1; omega) | skip); (first | have f1_d := f1 (by with_reducible assumption) | skip); (try and_intros) <;> first | with_reducible assumption | (clear f6_c0 f6_c1 f6 hK_0_1 f1; omega)) | omega
set_option maxHeartbeats 4000000 in
theorem vc_Mo_need_at_gs5003b_2_4 (x3 : Int) (x4 : Int) (x5 : Int) (x6 : Int) (kind_0 : Int) (fault_0 : Int) (value_0 : Int) (from_0 : Int) (pos_0 : Int) (tape_0 : Int → Int) (all_0 : Int → Int) (limit_0 : Int) (place_0 : Int) (r_0 : Int) (gx : Int) (k3 : (-1) ≤ x3 ∧ x3 ≤ 48) (k4 : (-2147483648) ≤ x4 ∧ x4 ≤ 2147483647) (k5 : 0 ≤ x5 ∧ x5 ≤ 7) (k6 : 0 ≤ x6 ∧ x6 ≤ 4) (f9 : zNbw (limit_0) (pos_0) (kind_0) (place_0) (value_0) (from_0) (fault_0) (r_0) (tape_0) (all_0) (x3) (x4) (x5) (x6)) (kz_0_8 : 0 ≤ fault_0 ∧ fault_0 ≤ 5) (kz_0_10 : 0 ≤ limit_0 ∧ limit_0 ≤ 2000) (kz_0_11 : 0 ≤ pos_0 ∧ pos_0 ≤ 2000) (kz_0_12 : 0 ≤ kind_0 ∧ kind_0 ≤ 4) (kz_0_13 : 0 ≤ place_0 ∧ place_0 ≤ 2000) (kz_0_14 : (-49) ≤ value_0 ∧ value_0 ≤ 1048575) (kz_0_15 : 0 ≤ from_0 ∧ from_0 ≤ 2000) (ex2 : gx = pos_0) : zTP13w (limit_0) (fault_0) (r_0) (tape_0) (all_0) (x3) (x4) (x5) (x6) (gx) := by
  have e : gx = pos_0 := by omega
  rw [e]
  first
    | exact nb_w ‹zNbw _ _ _ _ _ _ _ _ _ _ _ _ _ _› rfl
def o_Mo_need_at_gs5003b_2 : or_T := (17, 9, [(0, (2, 0, 0, [165])), (2, (0, 0, 2000, [])), (3, (0, -1, 48, [])), (4, (0, -2147483648, 2147483647, [])), (5, (0, 0, 7, [])), (6, (0, 0, 4, [])), (7, (0, 0, 0, [])), (8, (0, 1, 1, []))], [(20, [8, 0], [50, 2, 0, 1012, 1008, 4, 6, 1, 2, 1, 0, 0, 1, 2, 7, 1, 3, 2, 1, 12, 0, 3, 1, 3, 2, 1, 8, 0, 0]), (9, [7, 0], [8]), (20, [0], [50, 3, 0, 12, 11, 15, 2, 21, 4, 7, 1, 3, 2, 0, 12, 0, 1, 0, 3, 2, 0, 11, 4, 3, 2, 0, 15, 0, 8, 3, 7, 1, 3, 2, 0, 12, 0, 0, 0, 7, 4, 3, 2, 0, 15, 0, 1, 2, 0, 11]), (20, [2, 0], [30, 0, 1, 0, 0, -1, 1, 11]), (20, [0, 2], [50, 3, 0, 8, 12, 11, 3, 7, 0, 2, 0, 1, 2, 0, 8, 3, 7, 1, 3, 2, 0, 12, 0, 0, 0, 6, 4, 2, 1, 1, 0, 1, 2, 0, 11]), (20, [0, 3, 4, 5, 6], [60, 8, 2, 1002, 10, 11, 12, 13, 14, 15, 8, 5, 1, 2])], [], [(0, 0, 2000, [])], [(20, [9, 0], [30, 0, 1, 0, 0, -1, 1, 11]), (20, [9, 0], [50, 1, 0, 1011, 1, 2, 1, 0, 2, 1, 11]), (20, [0], [60, 2, 0, 947, 10, 11]), (23, [2, 9], [-1, 1, -1]), (20, [0, 3, 4, 5, 6, 9], [60, 3, 2, 981, 10, 8, 5, 1, 2])], [], [])
theorem oo_Mo_need_at_gs5003b_2 {kA : Nat → ClassId} : or_ok PRD kA GG o_Mo_need_at_gs5003b_2 := by
  refine or_mk fun A ta ws vs hD hth hl => ?_
  intro t0 r0 t2 k2 t3 k3 t4 k4 t5 k5 t6 k6 t7 k7 t8 k8 f1 f4 f6 f7 f8 f9
  replace f1 := shm_730 f1
  replace f4 := shm_293 f4
  replace f6 := shm_1438 f6
  replace f7 := shm_1431 f7
  replace f8 := shm_1722 f8
  replace f9 := shm_1740 f9
  have cr_0_1 := fdq_39 hD hth r0
  have g4 : v_iv (n_v vs 7) = w_fi ws (n_v vs 0) 8 := congrArg v_iv f4
  have hK_0_1 := elq_7 hD hth cr_0_1
  have kz_0_8 := fdq_34 hD hth r0
  have kz_0_10 := fdq_43 hD hth r0
  have kz_0_11 := fdq_237 hD hth r0
  have kz_0_12 := fdq_187 hD hth r0
  have kz_0_13 := fdq_238 hD hth r0
  have kz_0_14 := fdq_188 hD hth r0
  have kz_0_15 := fdq_239 hD hth r0
  obtain ⟨x, ex, hx⟩ := iv_ex (ta := ta) (lo := 0) (hi := 2000) (z := w_fi ws (n_v vs 0) 11) (by omega) (by omega) (by omega) (by omega)
  have ex2 : v_iv (Value.int x) = w_fi ws (n_v vs 0) 11 := ex
  have ex3 : 0 ≤ v_iv (Value.int x) ∧ v_iv (Value.int x) ≤ 2000 := tv_rng hx
  have e_0 : n_v (vs ++ [Value.int x]) 0 = n_v vs 0 := n_v_old (by rw [hl]; decide)
  have e_2 : n_v (vs ++ [Value.int x]) 2 = n_v vs 2 := n_v_old (by rw [hl]; decide)
  have e_3 : n_v (vs ++ [Value.int x]) 3 = n_v vs 3 := n_v_old (by rw [hl]; decide)
  have e_4 : n_v (vs ++ [Value.int x]) 4 = n_v vs 4 := n_v_old (by rw [hl]; decide)
  have e_5 : n_v (vs ++ [Value.int x]) 5 = n_v vs 5 := n_v_old (by rw [hl]; decide)
  have e_6 : n_v (vs ++ [Value.int x]) 6 = n_v vs 6 := n_v_old (by rw [hl]; decide)
  have e_9 : n_v (vs ++ [Value.int x]) 9 = Value.int x := n_v_new hl
  have nf0 : fc_1 PRD (20, [9, 0], [30, 0, 1, 0, 0, -1, 1, 11]) ws (vs ++ [Value.int x]) := by
    refine ⟨nf_inA hl rfl, sgq_1431 ?_⟩
    · show 1 * v_iv (n_v (vs ++ [Value.int x]) 9) + ((-1) * w_fi ws (n_v (vs ++ [Value.int x]) 0) 11 + 0) ≤ 0
      simp only [e_0, e_9]
      exact vc_Mo_need_at_gs5003b_2_0 (v_iv (n_v vs 2)) (v_iv (n_v vs 8)) (w_fi ws (n_v vs 0) 12) (w_fi ws (n_v vs 0) 8) (w_fi ws (n_v vs 0) 15) (w_fi ws (n_v vs 0) 11) (w_ei ws (w_ar ws (n_v vs 0) 1)) (v_iv (Value.int x)) k2 k8 f1 f6 f8 hK_0_1 kz_0_8 kz_0_11 kz_0_12 kz_0_15 ex2
  have nf1 : fc_1 PRD (20, [9, 0], [50, 1, 0, 1011, 1, 2, 1, 0, 2, 1, 11]) ws (vs ++ [Value.int x]) := by
    refine ⟨nf_inA hl rfl, sgq_1432 ?_⟩
    · show v_iv (n_v (vs ++ [Value.int x]) 9) = w_fi ws (n_v (vs ++ [Value.int x]) 0) 11
      simp only [e_0, e_9]
      exact vc_Mo_need_at_gs5003b_2_1 (v_iv (n_v vs 2)) (v_iv (n_v vs 8)) (w_fi ws (n_v vs 0) 12) (w_fi ws (n_v vs 0) 8) (w_fi ws (n_v vs 0) 15) (w_fi ws (n_v vs 0) 11) (w_ei ws (w_ar ws (n_v vs 0) 1)) (v_iv (Value.int x)) k2 k8 f1 f6 f8 hK_0_1 kz_0_8 kz_0_11 kz_0_12 kz_0_15 ex2
  have nf2 : fc_1 PRD (20, [0], [60, 2, 0, 947, 10, 11]) ws (vs ++ [Value.int x]) := by
    refine ⟨nf_inA hl rfl, sgq_1433 ?_⟩
    · show ZLM (w_fi ws (n_v (vs ++ [Value.int x]) 0) 10) (w_fi ws (n_v (vs ++ [Value.int x]) 0) 11)
      rw [e_0]
      exact vc_Mo_need_at_gs5003b_2_2 (v_iv (n_v vs 3)) (v_iv (n_v vs 4)) (v_iv (n_v vs 5)) (v_iv (n_v vs 6)) (w_fi ws (n_v vs 0) 12) (w_fi ws (n_v vs 0) 8) (w_fi ws (n_v vs 0) 14) (w_fi ws (n_v vs 0) 15) (w_fi ws (n_v vs 0) 11) (w_ei ws (w_ar ws (n_v vs 0) 1)) (w_ei ws (w_ar ws (n_v vs 0) 2)) (w_fi ws (n_v vs 0) 10) (w_fi ws (n_v vs 0) 13) (w_fi ws (n_v vs 0) 5) k3 k4 k5 k6 f9 kz_0_8 kz_0_10 kz_0_11 kz_0_12 kz_0_13 kz_0_14 kz_0_15
  have nf3 : fc_1 PRD (23, [2, 9], [-1, 1, -1]) ws (vs ++ [Value.int x]) := by
    refine ⟨nf_inA hl rfl, sgq_193 ?_⟩
    · show 1 * v_iv (n_v (vs ++ [Value.int x]) 2) + ((-1) * v_iv (n_v (vs ++ [Value.int x]) 9) + 0) ≤ (-1)
      simp only [e_2, e_9]
      exact vc_Mo_need_at_gs5003b_2_3 (v_iv (n_v vs 2)) (v_iv (n_v vs 7)) (v_iv (n_v vs 8)) (w_fi ws (n_v vs 0) 12) (w_fi ws (n_v vs 0) 8) (w_fi ws (n_v vs 0) 15) (w_fi ws (n_v vs 0) 11) (w_ei ws (w_ar ws (n_v vs 0) 1)) (v_iv (Value.int x)) k2 k7 k8 f1 g4 f6 f7 f8 hK_0_1 kz_0_8 kz_0_11 kz_0_12 kz_0_15 ex2
  have nf4 : fc_1 PRD (20, [0, 3, 4, 5, 6, 9], [60, 3, 2, 981, 10, 8, 5, 1, 2]) ws (vs ++ [Value.int x]) := by
    refine ⟨nf_inA hl rfl, sgq_1742 ?_⟩
    · show zTP13w (w_fi ws (n_v (vs ++ [Value.int x]) 0) 10) (w_fi ws (n_v (vs ++ [Value.int x]) 0) 8) (w_fi ws (n_v (vs ++ [Value.int x]) 0) 5) (w_ei ws (w_ar ws (n_v (vs ++ [Value.int x]) 0) 1)) (w_ei ws (w_ar ws (n_v (vs ++ [Value.int x]) 0) 2)) (v_iv (n_v (vs ++ [Value.int x]) 3)) (v_iv (n_v (vs ++ [Value.int x]) 4)) (v_iv (n_v (vs ++ [Value.int x]) 5)) (v_iv (n_v (vs ++ [Value.int x]) 6)) (v_iv (n_v (vs ++ [Value.int x]) 9))
      simp only [e_0, e_3, e_4, e_5, e_6, e_9]
      exact vc_Mo_need_at_gs5003b_2_4 (v_iv (n_v vs 3)) (v_iv (n_v vs 4)) (v_iv (n_v vs 5)) (v_iv (n_v vs 6)) (w_fi ws (n_v vs 0) 12) (w_fi ws (n_v vs 0) 8) (w_fi ws (n_v vs 0) 14) (w_fi ws (n_v vs 0) 15) (w_fi ws (n_v vs 0) 11) (w_ei ws (w_ar ws (n_v vs 0) 1)) (w_ei ws (w_ar ws (n_v vs 0) 2)) (w_fi ws (n_v vs 0) 10) (w_fi ws (n_v vs 0) 13) (w_fi ws (n_v vs 0) 5) (v_iv (Value.int x)) k3 k4 k5 k6 f9 kz_0_8 kz_0_10 kz_0_11 kz_0_12 kz_0_13 kz_0_14 kz_0_15 ex2
  exact ⟨(fun _ h => (by cases h)), [Value.int x], ag_one hx, List.forall_mem_cons.mpr ⟨⟨show (20 : Nat) < 100 from by decide, nf0⟩, List.forall_mem_cons.mpr ⟨⟨show (20 : Nat) < 100 from by decide, nf1⟩, List.forall_mem_cons.mpr ⟨⟨show (20 : Nat) < 100 from by decide, nf2⟩, List.forall_mem_cons.mpr ⟨⟨show (23 : Nat) < 100 from by decide, nf3⟩, List.forall_mem_cons.mpr ⟨⟨show (20 : Nat) < 100 from by decide, nf4⟩, (fun _ h => (by cases h))⟩⟩⟩⟩⟩, (fun _ h => (by cases h))⟩
set_option maxHeartbeats 4000000 in
theorem vc_Mo_need_at_gs5003b_3_0 (x2 : Int) (x9 : Int) (tape_0 : Int → Int) (from_0 : Int) (pos_0 : Int) (kind_0 : Int) (k2 : 0 ≤ x2 ∧ x2 ≤ 2000) (k9 : 0 ≤ x9 ∧ x9 ≤ 2000) (f1 : 1 * x2 + ((-1) * x9 + 0) ≤ (-1)) (f3 : 1 * from_0 + ((-1) * pos_0 + 0) ≤ 0) (f4 : ((kind_0 = 1) → (pos_0 ≤ (from_0 + 8))) ∧ ((kind_0 = 0) ∨ ((from_0 + 1) ≤ pos_0))) (f5 : 1 * x9 + ((-1) * from_0 + 0) ≤ 0) (hK_0_1 : ∀ j : Int, 0 ≤ j → j < 2000 → (-128) ≤ tape_0 j ∧ tape_0 j ≤ 127) (kz_0_11 : 0 ≤ pos_0 ∧ pos_0 ≤ 2000) (kz_0_12 : 0 ≤ kind_0 ∧ kind_0 ≤ 4) (kz_0_15 : 0 ≤ from_0 ∧ from_0 ≤ 2000) : 1 * x2 + ((-1) * pos_0 + 0) ≤ 0 := by
  first | with_reducible assumption | ((have f4_c0 := f4.1); (have f4_c1 := f4.2); (try and_intros) <;> first | with_reducible assumption | (clear f4_c0 f4_c1 f4 hK_0_1; omega)) | omega
set_option maxHeartbeats 4000000 in
theorem vc_Mo_need_at_gs5003b_3_1 (x2 : Int) (x9 : Int) (fault_0 : Int) (tape_0 : Int → Int) (from_0 : Int) (pos_0 : Int) (kind_0 : Int) (k2 : 0 ≤ x2 ∧ x2 ≤ 2000) (k9 : 0 ≤ x9 ∧ x9 ≤ 2000) (f1 : 1 * x2 + ((-1) * x9 + 0) ≤ (-1)) (f3 : 1 * from_0 + ((-1) * pos_0 + 0) ≤ 0) (f4 : ((kind_0 = 1) → (pos_0 ≤ (from_0 + 8))) ∧ ((kind_0 = 0) ∨ ((from_0 + 1) ≤ pos_0))) (f5 : 1 * x9 + ((-1) * from_0 + 0) ≤ 0) (hK_0_1 : ∀ j : Int, 0 ≤ j → j < 2000 → (-128) ≤ tape_0 j ∧ tape_0 j ≤ 127) (kz_0_8 : 0 ≤ fault_0 ∧ fault_0 ≤ 5) (kz_0_11 : 0 ≤ pos_0 ∧ pos_0 ≤ 2000) (kz_0_12 : 0 ≤ kind_0 ∧ kind_0 ≤ 4) (kz_0_15 : 0 ≤ from_0 ∧ from_0 ≤ 2000) : (1 ≤ fault_0) ∨ ((x2 + 1) ≤ pos_0) := by
  first | with_reducible assumption | ((have f4_c0 := f4.1); (have f4_c1 := f4.2); (try and_intros) <;> first | with_reducible assumption | (clear f4_c0 f4_c1 f4 hK_0_1; omega)) | omega
set_option maxHeartbeats 4000000 in
theorem vc_Mo_need_at_gs5003b_3_2 (x3 : Int) (x4 : Int) (x5 : Int) (x6 : Int) (x9 : Int) (fault_0 : Int) (tape_0 : Int → Int) (all_0 : Int → Int) (limit_0 : Int) (r_0 : Int) (from_0 : Int) (pos_0 : Int) (kind_0 : Int) (place_0 : Int) (value_0 : Int) (k3 : (-1) ≤ x3 ∧ x3 ≤ 48) (k4 : (-2147483648) ≤ x4 ∧ x4 ≤ 2147483647) (k5 : 0 ≤ x5 ∧ x5 ≤ 7) (k6 : 0 ≤ x6 ∧ x6 ≤ 4) (k9 : 0 ≤ x9 ∧ x9 ≤ 2000) (f2 : zTP13w (limit_0) (fault_0) (r_0) (tape_0) (all_0) (x3) (x4) (x5) (x6) (x9)) (f6 : TKR (limit_0) (pos_0) (kind_0) (place_0) (value_0) (from_0) (tape_0) (x9)) (kz_0_8 : 0 ≤ fault_0 ∧ fault_0 ≤ 5) (kz_0_10 : 0 ≤ limit_0 ∧ limit_0 ≤ 2000) (kz_0_11 : 0 ≤ pos_0 ∧ pos_0 ≤ 2000) (kz_0_12 : 0 ≤ kind_0 ∧ kind_0 ≤ 4) (kz_0_13 : 0 ≤ place_0 ∧ place_0 ≤ 2000) (kz_0_14 : (-49) ≤ value_0 ∧ value_0 ≤ 1048575) (kz_0_15 : 0 ≤ from_0 ∧ from_0 ≤ 2000) : zRP13w (limit_0) (pos_0) (kind_0) (place_0) (value_0) (from_0) (fault_0) (r_0) (tape_0) (all_0) (x3) (x4) (x5) (x6) := by
  first
    | exact rsq_of ‹zTP13w _ _ _ _ _ _ _ _ _ _› ‹TKR _ _ _ _ _ _ _ _›
    | (exfalso; have h := (‹zNbw _ _ _ _ _ _ _ _ _ _ _ _ _ _›).1.2.1; omega)
    | exact (‹ZFF _› : False).elim
def o_Mo_need_at_gs5003b_3 : or_T := (32, 10, [(0, (2, 0, 0, [165])), (2, (0, 0, 2000, [])), (3, (0, -1, 48, [])), (4, (0, -2147483648, 2147483647, [])), (5, (0, 0, 7, [])), (6, (0, 0, 4, [])), (9, (0, 0, 2000, []))], [(23, [2, 9], [-1, 1, -1]), (20, [0, 3, 4, 5, 6, 9], [60, 3, 2, 981, 10, 8, 5, 1, 2]), (20, [0, 0], [30, 0, 1, 1, 15, -1, 1, 11]), (20, [0], [50, 3, 0, 12, 11, 15, 2, 21, 4, 7, 1, 3, 2, 0, 12, 0, 1, 0, 3, 2, 0, 11, 4, 3, 2, 0, 15, 0, 8, 3, 7, 1, 3, 2, 0, 12, 0, 0, 0, 7, 4, 3, 2, 0, 15, 0, 1, 2, 0, 11]), (20, [9, 0], [30, 0, 1, 0, 0, -1, 1, 15]), (20, [0, 9], [60, 6, 1, 948, 10, 11, 12, 13, 14, 15, 1])], [], [], [(20, [2, 0], [30, 0, 1, 0, 0, -1, 1, 11]), (20, [0, 2], [50, 2, 0, 8, 11, 3, 7, 0, 2, 0, 1, 2, 0, 8, 0, 6, 4, 2, 1, 1, 0, 1, 2, 0, 11]), (20, [0, 3, 4, 5, 6], [60, 8, 2, 996, 10, 11, 12, 13, 14, 15, 8, 5, 1, 2])], [], [])
theorem oo_Mo_need_at_gs5003b_3 {kA : Nat → ClassId} : or_ok PRD kA GG o_Mo_need_at_gs5003b_3 := by
  refine or_mk fun A ta ws vs hD hth hl => ?_
  intro t0 r0 t2 k2 t3 k3 t4 k4 t5 k5 t6 k6 t9 k9 f1 f2 f3 f4 f5 f6
  have cr_0_1 := fdq_39 hD hth r0
  have hK_0_1 := elq_7 hD hth cr_0_1
  have kz_0_8 := fdq_34 hD hth r0
  have kz_0_10 := fdq_43 hD hth r0
  have kz_0_11 := fdq_237 hD hth r0
  have kz_0_12 := fdq_187 hD hth r0
  have kz_0_13 := fdq_238 hD hth r0
  have kz_0_14 := fdq_188 hD hth r0
  have kz_0_15 := fdq_239 hD hth r0
  have nf0 : fc_1 PRD (20, [2, 0], [30, 0, 1, 0, 0, -1, 1, 11]) ws (vs) := ⟨nf_in hl rfl, sgq_1431 (vc_Mo_need_at_gs5003b_3_0 (v_iv (n_v vs 2)) (v_iv (n_v vs 9)) (w_ei ws (w_ar ws (n_v vs 0) 1)) (w_fi ws (n_v vs 0) 15) (w_fi ws (n_v vs 0) 11) (w_fi ws (n_v vs 0) 12) k2 k9 (shm_193 f1) (shm_1437 f3) (shm_1438 f4) (shm_1436 f5) hK_0_1 kz_0_11 kz_0_12 kz_0_15)⟩
  have nf1 : fc_1 PRD (20, [0, 2], [50, 2, 0, 8, 11, 3, 7, 0, 2, 0, 1, 2, 0, 8, 0, 6, 4, 2, 1, 1, 0, 1, 2, 0, 11]) ws (vs) := ⟨nf_in hl rfl, sgq_1726 (vc_Mo_need_at_gs5003b_3_1 (v_iv (n_v vs 2)) (v_iv (n_v vs 9)) (w_fi ws (n_v vs 0) 8) (w_ei ws (w_ar ws (n_v vs 0) 1)) (w_fi ws (n_v vs 0) 15) (w_fi ws (n_v vs 0) 11) (w_fi ws (n_v vs 0) 12) k2 k9 (shm_193 f1) (shm_1437 f3) (shm_1438 f4) (shm_1436 f5) hK_0_1 kz_0_8 kz_0_11 kz_0_12 kz_0_15)⟩
  have nf2 : fc_1 PRD (20, [0, 3, 4, 5, 6], [60, 8, 2, 996, 10, 11, 12, 13, 14, 15, 8, 5, 1, 2]) ws (vs) := ⟨nf_in hl rfl, sgq_1741 (vc_Mo_need_at_gs5003b_3_2 (v_iv (n_v vs 3)) (v_iv (n_v vs 4)) (v_iv (n_v vs 5)) (v_iv (n_v vs 6)) (v_iv (n_v vs 9)) (w_fi ws (n_v vs 0) 8) (w_ei ws (w_ar ws (n_v vs 0) 1)) (w_ei ws (w_ar ws (n_v vs 0) 2)) (w_fi ws (n_v vs 0) 10) (w_fi ws (n_v vs 0) 5) (w_fi ws (n_v vs 0) 15) (w_fi ws (n_v vs 0) 11) (w_fi ws (n_v vs 0) 12) (w_fi ws (n_v vs 0) 13) (w_fi ws (n_v vs 0) 14) k3 k4 k5 k6 k9 (shm_1742 f2) (shm_1439 f6) kz_0_8 kz_0_10 kz_0_11 kz_0_12 kz_0_13 kz_0_14 kz_0_15)⟩
  refine ⟨(fun _ h => (by cases h)), [], trivial, ?_, (fun _ h => (by cases h))⟩
  rw [List.append_nil]
  exact List.forall_mem_cons.mpr ⟨⟨show (20 : Nat) < 100 from by decide, nf0⟩, List.forall_mem_cons.mpr ⟨⟨show (20 : Nat) < 100 from by decide, nf1⟩, List.forall_mem_cons.mpr ⟨⟨show (20 : Nat) < 100 from by decide, nf2⟩, (fun _ h => (by cases h))⟩⟩⟩
set_option maxHeartbeats 4000000 in
theorem vc_Mo_need_at_gs5003b_4_0 (x2 : Int) (x7 : Int) (fault_0 : Int) (from_0 : Int) (pos_0 : Int) (kind_0 : Int) (tape_0 : Int → Int) (k2 : 0 ≤ x2 ∧ x2 ≤ 2000) (k7 : 1 ≤ x7 ∧ x7 ≤ 5) (g1 : x7 = fault_0) (f3 : ((kind_0 = 1) → (pos_0 ≤ (from_0 + 8))) ∧ ((kind_0 = 0) ∨ ((from_0 + 1) ≤ pos_0))) (f5 : (1 ≤ fault_0) ∨ ((kind_0 = 0) ∨ ((x2 + 1) ≤ pos_0))) (hK_0_1 : ∀ j : Int, 0 ≤ j → j < 2000 → (-128) ≤ tape_0 j ∧ tape_0 j ≤ 127) (kz_0_8 : 0 ≤ fault_0 ∧ fault_0 ≤ 5) (kz_0_11 : 0 ≤ pos_0 ∧ pos_0 ≤ 2000) (kz_0_12 : 0 ≤ kind_0 ∧ kind_0 ≤ 4) (kz_0_15 : 0 ≤ from_0 ∧ from_0 ≤ 2000) : (1 ≤ fault_0) ∨ ((x2 + 1) ≤ pos_0) := by
  first | with_reducible assumption | ((have f3_c0 := f3.1); (have f3_c1 := f3.2); (try and_intros) <;> first | with_reducible assumption | (clear f3_c0 f3_c1 f3 f5 hK_0_1; omega)) | ((have f3_c0 := f3.1); (have f3_c1 := f3.2); (try and_intros) <;> first | with_reducible assumption | (clear f3_c0 f3_c1 f3 hK_0_1; omega)) | omega
set_option maxHeartbeats 4000000 in
theorem vc_Mo_need_at_gs5003b_4_1 (x3 : Int) (x4 : Int) (x5 : Int) (x6 : Int) (x7 : Int) (fault_0 : Int) (from_0 : Int) (pos_0 : Int) (kind_0 : Int) (tape_0 : Int → Int) (all_0 : Int → Int) (limit_0 : Int) (place_0 : Int) (value_0 : Int) (r_0 : Int) (k3 : (-1) ≤ x3 ∧ x3 ≤ 48) (k4 : (-2147483648) ≤ x4 ∧ x4 ≤ 2147483647) (k5 : 0 ≤ x5 ∧ x5 ≤ 7) (k6 : 0 ≤ x6 ∧ x6 ≤ 4) (k7 : 1 ≤ x7 ∧ x7 ≤ 5) (g1 : x7 = fault_0) (f6 : zNbw (limit_0) (pos_0) (kind_0) (place_0) (value_0) (from_0) (fault_0) (r_0) (tape_0) (all_0) (x3) (x4) (x5) (x6)) (kz_0_8 : 0 ≤ fault_0 ∧ fault_0 ≤ 5) (kz_0_10 : 0 ≤ limit_0 ∧ limit_0 ≤ 2000) (kz_0_11 : 0 ≤ pos_0 ∧ pos_0 ≤ 2000) (kz_0_12 : 0 ≤ kind_0 ∧ kind_0 ≤ 4) (kz_0_13 : 0 ≤ place_0 ∧ place_0 ≤ 2000) (kz_0_14 : (-49) ≤ value_0 ∧ value_0 ≤ 1048575) (kz_0_15 : 0 ≤ from_0 ∧ from_0 ≤ 2000) : zRP13w (limit_0) (pos_0) (kind_0) (place_0) (value_0) (from_0) (fault_0) (r_0) (tape_0) (all_0) (x3) (x4) (x5) (x6) := by
  first
    | exact rsq_of ‹zTP13w _ _ _ _ _ _ _ _ _ _› ‹TKR _ _ _ _ _ _ _ _›
    | (exfalso; have h := (‹zNbw _ _ _ _ _ _ _ _ _ _ _ _ _ _›).1.2.1; omega)
    | exact (‹ZFF _› : False).elim
def o_Mo_need_at_gs5003b_4 : or_T := (7, 8, [(0, (2, 0, 0, [165])), (2, (0, 0, 2000, [])), (3, (0, -1, 48, [])), (4, (0, -2147483648, 2147483647, [])), (5, (0, 0, 7, [])), (6, (0, 0, 4, [])), (7, (0, 1, 5, []))], [(9, [7, 0], [8]), (20, [0], [50, 3, 0, 12, 11, 15, 2, 21, 4, 7, 1, 3, 2, 0, 12, 0, 1, 0, 3, 2, 0, 11, 4, 3, 2, 0, 15, 0, 8, 3, 7, 1, 3, 2, 0, 12, 0, 0, 0, 7, 4, 3, 2, 0, 15, 0, 1, 2, 0, 11]), (20, [0, 2], [50, 3, 0, 8, 12, 11, 3, 7, 0, 2, 0, 1, 2, 0, 8, 3, 7, 1, 3, 2, 0, 12, 0, 0, 0, 6, 4, 2, 1, 1, 0, 1, 2, 0, 11]), (20, [0, 3, 4, 5, 6], [60, 8, 2, 1002, 10, 11, 12, 13, 14, 15, 8, 5, 1, 2])], [], [], [(20, [0, 2], [50, 2, 0, 8, 11, 3, 7, 0, 2, 0, 1, 2, 0, 8, 0, 6, 4, 2, 1, 1, 0, 1, 2, 0, 11]), (20, [0, 3, 4, 5, 6], [60, 8, 2, 996, 10, 11, 12, 13, 14, 15, 8, 5, 1, 2])], [], [])
theorem oo_Mo_need_at_gs5003b_4 {kA : Nat → ClassId} : or_ok PRD kA GG o_Mo_need_at_gs5003b_4 := by
  refine or_mk fun A ta ws vs hD hth hl => ?_
  intro t0 r0 t2 k2 t3 k3 t4 k4 t5 k5 t6 k6 t7 k7 f1 f3 f5 f6
  replace f1 := shm_293 f1
  have cr_0_1 := fdq_39 hD hth r0
  have g1 : v_iv (n_v vs 7) = w_fi ws (n_v vs 0) 8 := congrArg v_iv f1
  have hK_0_1 := elq_7 hD hth cr_0_1
  have kz_0_8 := fdq_34 hD hth r0
  have kz_0_10 := fdq_43 hD hth r0
  have kz_0_11 := fdq_237 hD hth r0
  have kz_0_12 := fdq_187 hD hth r0
  have kz_0_13 := fdq_238 hD hth r0
  have kz_0_14 := fdq_188 hD hth r0
  have kz_0_15 := fdq_239 hD hth r0
  have nf0 : fc_1 PRD (20, [0, 2], [50, 2, 0, 8, 11, 3, 7, 0, 2, 0, 1, 2, 0, 8, 0, 6, 4, 2, 1, 1, 0, 1, 2, 0, 11]) ws (vs) := ⟨nf_in hl rfl, sgq_1726 (vc_Mo_need_at_gs5003b_4_0 (v_iv (n_v vs 2)) (v_iv (n_v vs 7)) (w_fi ws (n_v vs 0) 8) (w_fi ws (n_v vs 0) 15) (w_fi ws (n_v vs 0) 11) (w_fi ws (n_v vs 0) 12) (w_ei ws (w_ar ws (n_v vs 0) 1)) k2 k7 g1 (shm_1438 f3) (shm_1722 f5) hK_0_1 kz_0_8 kz_0_11 kz_0_12 kz_0_15)⟩
  have nf1 : fc_1 PRD (20, [0, 3, 4, 5, 6], [60, 8, 2, 996, 10, 11, 12, 13, 14, 15, 8, 5, 1, 2]) ws (vs) := ⟨nf_in hl rfl, sgq_1741 (vc_Mo_need_at_gs5003b_4_1 (v_iv (n_v vs 3)) (v_iv (n_v vs 4)) (v_iv (n_v vs 5)) (v_iv (n_v vs 6)) (v_iv (n_v vs 7)) (w_fi ws (n_v vs 0) 8) (w_fi ws (n_v vs 0) 15) (w_fi ws (n_v vs 0) 11) (w_fi ws (n_v vs 0) 12) (w_ei ws (w_ar ws (n_v vs 0) 1)) (w_ei ws (w_ar ws (n_v vs 0) 2)) (w_fi ws (n_v vs 0) 10) (w_fi ws (n_v vs 0) 13) (w_fi ws (n_v vs 0) 14) (w_fi ws (n_v vs 0) 5) k3 k4 k5 k6 k7 g1 (shm_1740 f6) kz_0_8 kz_0_10 kz_0_11 kz_0_12 kz_0_13 kz_0_14 kz_0_15)⟩
  refine ⟨(fun _ h => (by cases h)), [], trivial, ?_, (fun _ h => (by cases h))⟩
  rw [List.append_nil]
  exact List.forall_mem_cons.mpr ⟨⟨show (20 : Nat) < 100 from by decide, nf0⟩, List.forall_mem_cons.mpr ⟨⟨show (20 : Nat) < 100 from by decide, nf1⟩, (fun _ h => (by cases h))⟩⟩
def n_Mo_need_at_gs5003b_an : List an_T := []
def t_Mo_need_at_gs5003b_ct : ct_L := [(1, 457, e_Mo_sign), (1, 460, e_Mo_next), (1, 463, e_Mo_wrong)]
set_option maxRecDepth 100000 in
theorem c_Mo_need_at_gs5003b {l : Launch} {D : va_G} {kA : Nat → ClassId} (h_Mo_next : ct_ok PRD l D kA GG y_Mo_next z_Mo_next e_Mo_next) (h_Mo_sign : ct_ok PRD l D kA GG y_Mo_sign z_Mo_sign e_Mo_sign) (h_Mo_wrong : ct_ok PRD l D kA GG y_Mo_wrong z_Mo_wrong e_Mo_wrong) : ct_ok PRD l D kA GG y_Mo_need_at_gs5003b z_Mo_need_at_gs5003b e_Mo_need_at_gs5003b := chk_all_ok (FT := [(413, 13, 8), (428, 13, 13)]) (PT := []) (CT := t_Mo_need_at_gs5003b_ct) (KT := []) (NT := []) (AN := n_Mo_need_at_gs5003b_an) (OT := [o_Mo_need_at_gs5003b_0, o_Mo_need_at_gs5003b_1, o_Mo_need_at_gs5003b_2, o_Mo_need_at_gs5003b_3, o_Mo_need_at_gs5003b_4]) 0 200 (List.forall_mem_cons.mpr ⟨oo_Mo_need_at_gs5003b_0, List.forall_mem_cons.mpr ⟨oo_Mo_need_at_gs5003b_1, List.forall_mem_cons.mpr ⟨oo_Mo_need_at_gs5003b_2, List.forall_mem_cons.mpr ⟨oo_Mo_need_at_gs5003b_3, List.forall_mem_cons.mpr ⟨oo_Mo_need_at_gs5003b_4, List.forall_mem_nil _⟩⟩⟩⟩⟩) (by decide +kernel) ⟨List.forall_mem_cons.mpr ⟨gf_Mo_413, List.forall_mem_cons.mpr ⟨gf_Mo_428, List.forall_mem_nil _⟩⟩, List.forall_mem_nil _, List.forall_mem_cons.mpr ⟨cl_virtual (y := y_Mo_sign) (ci := 13) rfl rfl ⟨_, _, rfl⟩ (by decide +kernel) h_Mo_sign wm_3058 wm_9 wm_3055 wm_3057 wv_13_11 ⟨by decide, by decide, by decide +kernel⟩ (by decide), List.forall_mem_cons.mpr ⟨cl_virtual (y := y_Mo_next) (ci := 13) rfl rfl ⟨_, _, rfl⟩ (by decide +kernel) h_Mo_next wm_2982 wm_9 wm_2979 wm_2981 wv_12_11 ⟨by decide, by decide, by decide +kernel⟩ (by decide), List.forall_mem_cons.mpr ⟨cl_virtual (y := y_Mo_wrong) (ci := 13) rfl rfl ⟨_, _, rfl⟩ (by decide +kernel) h_Mo_wrong wm_3017 wm_9 wm_3014 wm_3016 wv_13_1 ⟨by decide, by decide, by decide +kernel⟩ (by decide), List.forall_mem_nil _⟩⟩⟩, List.forall_mem_nil _, List.forall_mem_nil _, GG_pl⟩ (by decide +kernel)
set_option maxHeartbeats 4000000 in
theorem vc_Mo_need_at_gs5003e_0_0 (x1 : Int) (x3 : Int) (x4 : Int) (x5 : Int) (x6 : Int) (x7 : Int) (x8 : Int) (x9 : Int) (place_0 : Int) (kind_0 : Int) (fault_0 : Int) (value_0 : Int) (from_0 : Int) (pos_0 : Int) (tape_0 : Int → Int) (all_0 : Int → Int) (limit_0 : Int) (faultPlace_0 : Int) (r_0 : Int) (k1 : 61 ≤ x1 ∧ x1 ≤ 61) (k3 : (-1) ≤ x3 ∧ x3 ≤ 48) (k4 : 0 ≤ x4 ∧ x4 ≤ 7) (k5 : 0 ≤ x5 ∧ x5 ≤ 4) (k6 : 0 ≤ x6 ∧ x6 ≤ 0) (k7 : 0 ≤ x7 ∧ x7 ≤ 0) (k8 : 1 ≤ x8 ∧ x8 ≤ 1) (k9 : 0 ≤ x9 ∧ x9 ≤ 2000) (g0 : x9 = place_0) (f1 : x7 = 0) (f3 : SGQ (fault_0) (kind_0) (value_0) (x1) (x7)) (g5 : x6 = fault_0) (f10 : zONew (limit_0) (pos_0) (kind_0) (place_0) (value_0) (from_0) (fault_0) (faultPlace_0) (r_0) (tape_0) (all_0) (x3) (x4) (x5)) (kz_0_8 : 0 ≤ fault_0 ∧ fault_0 ≤ 5) (kz_0_9 : 0 ≤ faultPlace_0 ∧ faultPlace_0 ≤ 2000) (kz_0_10 : 0 ≤ limit_0 ∧ limit_0 ≤ 2000) (kz_0_11 : 0 ≤ pos_0 ∧ pos_0 ≤ 2000) (kz_0_12 : 0 ≤ kind_0 ∧ kind_0 ≤ 4) (kz_0_13 : 0 ≤ place_0 ∧ place_0 ≤ 2000) (kz_0_14 : (-49) ≤ value_0 ∧ value_0 ≤ 1048575) (kz_0_15 : 0 ≤ from_0 ∧ from_0 ≤ 2000) : FSX (limit_0) (tape_0) (x8) (x9) := by
  first
    | exact fsx_cg (ndq_flt (or_r ‹zONs _ _ _ _ _ _ _ _ _ _ _ _ _› (fs_n (by omega))) (sgq_f ‹SGQ _ _ _ _ _› (by omega) (by omega) (by omega))) (by omega) (by omega)
    | exact fsx_cg (ndq_flt (or_r ‹zONo _ _ _ _ _ _ _ _ _ _ _ _ _› (fs_n (by omega))) (sgq_f ‹SGQ _ _ _ _ _› (by omega) (by omega) (by omega))) (by omega) (by omega)
    | exact fsx_cg (ndq_flt (or_r ‹zONew _ _ _ _ _ _ _ _ _ _ _ _ _ _› (fs_n (by omega))) (sgq_f ‹SGQ _ _ _ _ _› (by omega) (by omega) (by omega))) (by omega) (by omega)
    | exact fsx_cg (ndq_flt (or_r ‹zONes _ _ _ _ _ _ _ _ _ _ _ _ _ _› (fs_n (by omega))).2 (sgq_f ‹SGQ _ _ _ _ _› (by omega) (by omega) (by omega))) (by omega) (by omega)
    | (exfalso; have h := or_r ‹zNc _ _ _ _ _ _ _ _ _ _ _ _ _› (fs_n (by omega)); exact sgq_f (C := 125) ‹SGQ _ _ _ _ _› (by omega) (by omega) (by omega) ⟨h.1, h.2.1⟩)
    | (exfalso; exact sgq_f (C := 93) ‹SGQ _ _ _ _ _› (by omega) (by omega) (by omega) ⟨(‹zNbs _ _ _ _ _ _ _ _ _ _ _ _ _ _›).2.1, (‹zNbs _ _ _ _ _ _ _ _ _ _ _ _ _ _›).2.2⟩)
    | (exfalso; exact sgq_f (C := 93) ‹SGQ _ _ _ _ _› (by omega) (by omega) (by omega) ⟨(‹zNbw _ _ _ _ _ _ _ _ _ _ _ _ _ _›).2.1, (‹zNbw _ _ _ _ _ _ _ _ _ _ _ _ _ _›).2.2⟩)
set_option maxHeartbeats 4000000 in
theorem vc_Mo_need_at_gs5003e_0_1 (x2 : Int) (x6 : Int) (x7 : Int) (kind_0 : Int) (fault_0 : Int) (from_0 : Int) (pos_0 : Int) (tape_0 : Int → Int) (gx : Int) (k2 : 0 ≤ x2 ∧ x2 ≤ 2000) (k6 : 0 ≤ x6 ∧ x6 ≤ 0) (k7 : 0 ≤ x7 ∧ x7 ≤ 0) (f2 : (x7 = 1) → ((kind_0 = 3) ∧ (fault_0 = 0))) (g5 : x6 = fault_0) (f7 : ((kind_0 = 1) → (pos_0 ≤ (from_0 + 8))) ∧ ((kind_0 = 0) ∨ ((from_0 + 1) ≤ pos_0))) (f9 : (1 ≤ fault_0) ∨ ((kind_0 = 0) ∨ ((x2 + 1) ≤ pos_0))) (hK_0_1 : ∀ j : Int, 0 ≤ j → j < 2000 → (-128) ≤ tape_0 j ∧ tape_0 j ≤ 127) (kz_0_8 : 0 ≤ fault_0 ∧ fault_0 ≤ 5) (kz_0_11 : 0 ≤ pos_0 ∧ pos_0 ≤ 2000) (kz_0_12 : 0 ≤ kind_0 ∧ kind_0 ≤ 4) (kz_0_15 : 0 ≤ from_0 ∧ from_0 ≤ 2000) (ex2 : gx = fault_0) : 1 * fault_0 + ((-1) * gx + 0) ≤ 0 := by
  first | with_reducible assumption | ((have f7_c0 := f7.1); (have f7_c1 := f7.2); (try and_intros) <;> first | with_reducible assumption | (clear f7_c0 f7_c1 f7 f9 hK_0_1 f2; omega)) | ((have f7_c0 := f7.1); (have f7_c1 := f7.2); (first | have f2_b := f2 (by clear f7_c0 f7_c1 f7 f9 hK_0_1 f2; omega) | skip); (first | have f2_d := f2 (by with_reducible assumption) | skip); (try and_intros) <;> first | with_reducible assumption | (clear f7_c0 f7_c1 f7 f9 hK_0_1 f2; omega)) | ((have f7_c0 := f7.1); (have f7_c1 := f7.2); (first | have f2_b := f2 (by clear f7_c0 f7_c1 f7 f9 hK_0_1 f2; omega) | skip); (first | have f2_d := f2 (by with_reducible assumption) | skip); (try and_intros) <;> first | with_reducible assumption | (clear f7_c0 f7_c1 f7 hK_0_1 f2; omega)) | omega
set_option maxHeartbeats 4000000 in
theorem vc_Mo_need_at_gs5003e_0_2 (x2 : Int) (x6 : Int) (x7 : Int) (kind_0 : Int) (fault_0 : Int) (from_0 : Int) (pos_0 : Int) (tape_0 : Int → Int) (gx : Int) (k2 : 0 ≤ x2 ∧ x2 ≤ 2000) (k6 : 0 ≤ x6 ∧ x6 ≤ 0) (k7 : 0 ≤ x7 ∧ x7 ≤ 0) (f2 : (x7 = 1) → ((kind_0 = 3) ∧ (fault_0 = 0))) (g5 : x6 = fault_0) (f7 : ((kind_0 = 1) → (pos_0 ≤ (from_0 + 8))) ∧ ((kind_0 = 0) ∨ ((from_0 + 1) ≤ pos_0))) (f9 : (1 ≤ fault_0) ∨ ((kind_0 = 0) ∨ ((x2 + 1) ≤ pos_0))) (hK_0_1 : ∀ j : Int, 0 ≤ j → j < 2000 → (-128) ≤ tape_0 j ∧ tape_0 j ≤ 127) (kz_0_8 : 0 ≤ fault_0 ∧ fault_0 ≤ 5) (kz_0_11 : 0 ≤ pos_0 ∧ pos_0 ≤ 2000) (kz_0_12 : 0 ≤ kind_0 ∧ kind_0 ≤ 4) (kz_0_15 : 0 ≤ from_0 ∧ from_0 ≤ 2000) (ex2 : gx = fault_0) : (-1) * fault_0 + (1 * gx + 0) ≤ 0 := by
  first | with_reducible assumption | ((have f7_c0 := f7.1); (have f7_c1 := f7.2); (try and_intros) <;> first | with_reducible assumption | (clear f7_c0 f7_c1 f7 f9 hK_0_1 f2; omega)) | ((have f7_c0 := f7.1); (have f7_c1 := f7.2); (first | have f2_b := f2 (by clear f7_c0 f7_c1 f7 f9 hK_0_1 f2; omega) | skip); (first | have f2_d := f2 (by with_reducible assumption) | skip); (try and_intros) <;> first | with_reducible assumption | (clear f7_c0 f7_c1 f7 f9 hK_0_1 f2; omega)) | ((have f7_c0 := f7.1); (have f7_c1 := f7.2); (first | have f2_b := f2 (by clear f7_c0 f7_c1 f7 f9 hK_0_1 f2; omega) | skip); (first | have f2_d := f2 (by with_reducible assumption) | skip); (try and_intros) <;> first | with_reducible assumption | (clear f7_c0 f7_c1 f7 hK_0_1 f2; omega)) | omega
set_option maxHeartbeats 4000000 in
theorem vc_Mo_need_at_gs5003e_0_3 (x6 : Int) (fault_0 : Int) (gx : Int) (k6 : 0 ≤ x6 ∧ x6 ≤ 0) (g5 : x6 = fault_0) (kz_0_8 : 0 ≤ fault_0 ∧ fault_0 ≤ 5) (ex2 : gx = fault_0) : ZH0 (gx) := by
  exact ⟨by omega, by omega, trivial⟩
def o_Mo_need_at_gs5003e_0 : or_T := (29, 10, [(0, (2, 0, 0, [165])), (1, (0, 61, 61, [])), (2, (0, 0, 2000, [])), (3, (0, -1, 48, [])), (4, (0, 0, 7, [])), (5, (0, 0, 4, [])), (6, (0, 0, 0, [])), (7, (0, 0, 0, [])), (8, (0, 1, 1, [])), (9, (0, 0, 2000, []))], [(9, [9, 0], [13]), (8, [7], [0]), (20, [7, 0], [50, 2, 0, 1012, 1008, 4, 6, 1, 2, 1, 0, 0, 1, 2, 7, 1, 3, 2, 1, 12, 0, 3, 1, 3, 2, 1, 8, 0, 0]), (20, [0, 1, 7], [60, 3, 0, 963, 8, 12, 14]), (9, [6, 0], [8]), (20, [0], [50, 3, 0, 12, 11, 15, 2, 21, 4, 7, 1, 3, 2, 0, 12, 0, 1, 0, 3, 2, 0, 11, 4, 3, 2, 0, 15, 0, 8, 3, 7, 1, 3, 2, 0, 12, 0, 0, 0, 7, 4, 3, 2, 0, 15, 0, 1, 2, 0, 11]), (20, [0, 2], [50, 3, 0, 8, 12, 11, 3, 7, 0, 2, 0, 1, 2, 0, 8, 3, 7, 1, 3, 2, 0, 12, 0, 0, 0, 6, 4, 2, 1, 1, 0, 1, 2, 0, 11]), (20, [0, 3, 4, 5], [60, 9, 2, 1020, 10, 11, 12, 13, 14, 15, 8, 9, 5, 1, 2])], [], [(0, 0, 5, [])], [(20, [0, 8, 9], [60, 1, 1, 1026, 10, 1]), (20, [0, 10], [30, 0, 1, 1, 8, -1, 0, 0]), (20, [0, 10], [30, 0, -1, 1, 8, 1, 0, 0]), (20, [10], [61, 0, 1029])], [], [])
theorem oo_Mo_need_at_gs5003e_0 {kA : Nat → ClassId} : or_ok PRD kA GG o_Mo_need_at_gs5003e_0 := by
  refine or_mk fun A ta ws vs hD hth hl => ?_
  intro t0 r0 t1 k1 t2 k2 t3 k3 t4 k4 t5 k5 t6 k6 t7 k7 t8 k8 t9 k9 f0 f1 f2 f3 f5 f7 f9 f10
  replace f0 := shm_361 f0
  replace f1 := shm_192 f1
  replace f2 := shm_730 f2
  replace f3 := shm_731 f3
  replace f5 := shm_293 f5
  replace f7 := shm_1438 f7
  replace f9 := shm_1722 f9
  replace f10 := shm_1743 f10
  have cr_0_1 := fdq_39 hD hth r0
  have g0 : v_iv (n_v vs 9) = w_fi ws (n_v vs 0) 13 := congrArg v_iv f0
  have g5 : v_iv (n_v vs 6) = w_fi ws (n_v vs 0) 8 := congrArg v_iv f5
  have hK_0_1 := elq_7 hD hth cr_0_1
  have kz_0_8 := fdq_34 hD hth r0
  have kz_0_9 := fdq_44 hD hth r0
  have kz_0_10 := fdq_43 hD hth r0
  have kz_0_11 := fdq_237 hD hth r0
  have kz_0_12 := fdq_187 hD hth r0
  have kz_0_13 := fdq_238 hD hth r0
  have kz_0_14 := fdq_188 hD hth r0
  have kz_0_15 := fdq_239 hD hth r0
  obtain ⟨x, ex, hx⟩ := iv_ex (ta := ta) (lo := 0) (hi := 5) (z := w_fi ws (n_v vs 0) 8) (by omega) (by omega) (by omega) (by omega)
  have ex2 : v_iv (Value.int x) = w_fi ws (n_v vs 0) 8 := ex
  have ex3 : 0 ≤ v_iv (Value.int x) ∧ v_iv (Value.int x) ≤ 5 := tv_rng hx
  have e_0 : n_v (vs ++ [Value.int x]) 0 = n_v vs 0 := n_v_old (by rw [hl]; decide)
  have e_8 : n_v (vs ++ [Value.int x]) 8 = n_v vs 8 := n_v_old (by rw [hl]; decide)
  have e_9 : n_v (vs ++ [Value.int x]) 9 = n_v vs 9 := n_v_old (by rw [hl]; decide)
  have e_10 : n_v (vs ++ [Value.int x]) 10 = Value.int x := n_v_new hl
  have nf0 : fc_1 PRD (20, [0, 8, 9], [60, 1, 1, 1026, 10, 1]) ws (vs ++ [Value.int x]) := by
    refine ⟨nf_inA hl rfl, sgq_1724 ?_⟩
    · show FSX (w_fi ws (n_v (vs ++ [Value.int x]) 0) 10) (w_ei ws (w_ar ws (n_v (vs ++ [Value.int x]) 0) 1)) (v_iv (n_v (vs ++ [Value.int x]) 8)) (v_iv (n_v (vs ++ [Value.int x]) 9))
      simp only [e_0, e_8, e_9]
      exact vc_Mo_need_at_gs5003e_0_0 (v_iv (n_v vs 1)) (v_iv (n_v vs 3)) (v_iv (n_v vs 4)) (v_iv (n_v vs 5)) (v_iv (n_v vs 6)) (v_iv (n_v vs 7)) (v_iv (n_v vs 8)) (v_iv (n_v vs 9)) (w_fi ws (n_v vs 0) 13) (w_fi ws (n_v vs 0) 12) (w_fi ws (n_v vs 0) 8) (w_fi ws (n_v vs 0) 14) (w_fi ws (n_v vs 0) 15) (w_fi ws (n_v vs 0) 11) (w_ei ws (w_ar ws (n_v vs 0) 1)) (w_ei ws (w_ar ws (n_v vs 0) 2)) (w_fi ws (n_v vs 0) 10) (w_fi ws (n_v vs 0) 9) (w_fi ws (n_v vs 0) 5) k1 k3 k4 k5 k6 k7 k8 k9 g0 f1 f3 g5 f10 kz_0_8 kz_0_9 kz_0_10 kz_0_11 kz_0_12 kz_0_13 kz_0_14 kz_0_15
  have nf1 : fc_1 PRD (20, [0, 10], [30, 0, 1, 1, 8, -1, 0, 0]) ws (vs ++ [Value.int x]) := by
    refine ⟨nf_inA hl rfl, sgq_303 ?_⟩
    · show 1 * w_fi ws (n_v (vs ++ [Value.int x]) 0) 8 + ((-1) * v_iv (n_v (vs ++ [Value.int x]) 10) + 0) ≤ 0
      simp only [e_0, e_10]
      exact vc_Mo_need_at_gs5003e_0_1 (v_iv (n_v vs 2)) (v_iv (n_v vs 6)) (v_iv (n_v vs 7)) (w_fi ws (n_v vs 0) 12) (w_fi ws (n_v vs 0) 8) (w_fi ws (n_v vs 0) 15) (w_fi ws (n_v vs 0) 11) (w_ei ws (w_ar ws (n_v vs 0) 1)) (v_iv (Value.int x)) k2 k6 k7 f2 g5 f7 f9 hK_0_1 kz_0_8 kz_0_11 kz_0_12 kz_0_15 ex2
  have nf2 : fc_1 PRD (20, [0, 10], [30, 0, -1, 1, 8, 1, 0, 0]) ws (vs ++ [Value.int x]) := by
    refine ⟨nf_inA hl rfl, sgq_304 ?_⟩
    · show (-1) * w_fi ws (n_v (vs ++ [Value.int x]) 0) 8 + (1 * v_iv (n_v (vs ++ [Value.int x]) 10) + 0) ≤ 0
      simp only [e_0, e_10]
      exact vc_Mo_need_at_gs5003e_0_2 (v_iv (n_v vs 2)) (v_iv (n_v vs 6)) (v_iv (n_v vs 7)) (w_fi ws (n_v vs 0) 12) (w_fi ws (n_v vs 0) 8) (w_fi ws (n_v vs 0) 15) (w_fi ws (n_v vs 0) 11) (w_ei ws (w_ar ws (n_v vs 0) 1)) (v_iv (Value.int x)) k2 k6 k7 f2 g5 f7 f9 hK_0_1 kz_0_8 kz_0_11 kz_0_12 kz_0_15 ex2
  have nf3 : fc_1 PRD (20, [10], [61, 0, 1029]) ws (vs ++ [Value.int x]) := by
    refine ⟨nf_inA hl rfl, sgq_1725 ?_⟩
    · show ZH0 (v_iv (n_v (vs ++ [Value.int x]) 10))
      rw [e_10]
      exact vc_Mo_need_at_gs5003e_0_3 (v_iv (n_v vs 6)) (w_fi ws (n_v vs 0) 8) (v_iv (Value.int x)) k6 g5 kz_0_8 ex2
  exact ⟨(fun _ h => (by cases h)), [Value.int x], ag_one hx, List.forall_mem_cons.mpr ⟨⟨show (20 : Nat) < 100 from by decide, nf0⟩, List.forall_mem_cons.mpr ⟨⟨show (20 : Nat) < 100 from by decide, nf1⟩, List.forall_mem_cons.mpr ⟨⟨show (20 : Nat) < 100 from by decide, nf2⟩, List.forall_mem_cons.mpr ⟨⟨show (20 : Nat) < 100 from by decide, nf3⟩, (fun _ h => (by cases h))⟩⟩⟩⟩, (fun _ h => (by cases h))⟩
set_option maxHeartbeats 4000000 in
theorem vc_Mo_need_at_gs5003e_1_0 (x2 : Int) (x8 : Int) (x9 : Int) (x10 : Int) (tape_0 : Int → Int) (from_0 : Int) (pos_0 : Int) (kind_0 : Int) (fault_0 : Int) (faultPlace_0 : Int) (k2 : 0 ≤ x2 ∧ x2 ≤ 2000) (k8 : 1 ≤ x8 ∧ x8 ≤ 1) (k9 : 0 ≤ x9 ∧ x9 ≤ 2000) (k10 : 0 ≤ x10 ∧ x10 ≤ 5) (f4 : ((kind_0 = 1) → (pos_0 ≤ (from_0 + 8))) ∧ ((kind_0 = 0) ∨ ((from_0 + 1) ≤ pos_0))) (f6 : (-1) * fault_0 + 0 ≤ (-1)) (f7 : ((1 ≤ x10) ∧ (fault_0 = x10)) ∨ ((x10 = 0) ∧ ((fault_0 = x8) ∧ (faultPlace_0 = x9)))) (hK_0_1 : ∀ j : Int, 0 ≤ j → j < 2000 → (-128) ≤ tape_0 j ∧ tape_0 j ≤ 127) (kz_0_8 : 0 ≤ fault_0 ∧ fault_0 ≤ 5) (kz_0_9 : 0 ≤ faultPlace_0 ∧ faultPlace_0 ≤ 2000) (kz_0_11 : 0 ≤ pos_0 ∧ pos_0 ≤ 2000) (kz_0_12 : 0 ≤ kind_0 ∧ kind_0 ≤ 4) (kz_0_15 : 0 ≤ from_0 ∧ from_0 ≤ 2000) : (1 ≤ fault_0) ∨ ((x2 + 1) ≤ pos_0) := by
  first | with_reducible assumption | ((have f4_c0 := f4.1); (have f4_c1 := f4.2); (try and_intros) <;> first | with_reducible assumption | (clear f4_c0 f4_c1 f4 f7 hK_0_1; omega)) | ((have f4_c0 := f4.1); (have f4_c1 := f4.2); (try and_intros) <;> first | with_reducible assumption | (clear f4_c0 f4_c1 f4 hK_0_1; omega)) | omega
set_option maxHeartbeats 4000000 in
theorem vc_Mo_need_at_gs5003e_1_1 (x3 : Int) (x4 : Int) (x5 : Int) (x8 : Int) (x9 : Int) (x10 : Int) (place_0 : Int) (tape_0 : Int → Int) (limit_0 : Int) (from_0 : Int) (pos_0 : Int) (kind_0 : Int) (fault_0 : Int) (faultPlace_0 : Int) (value_0 : Int) (all_0 : Int → Int) (r_0 : Int) (k3 : (-1) ≤ x3 ∧ x3 ≤ 48) (k4 : 0 ≤ x4 ∧ x4 ≤ 7) (k5 : 0 ≤ x5 ∧ x5 ≤ 4) (k8 : 1 ≤ x8 ∧ x8 ≤ 1) (k9 : 0 ≤ x9 ∧ x9 ≤ 2000) (k10 : 0 ≤ x10 ∧ x10 ≤ 5) (f1 : FSX (limit_0) (tape_0) (x8) (x9)) (f2 : ZH0 (x10)) (f7 : ((1 ≤ x10) ∧ (fault_0 = x10)) ∨ ((x10 = 0) ∧ ((fault_0 = x8) ∧ (faultPlace_0 = x9)))) (kz_0_8 : 0 ≤ fault_0 ∧ fault_0 ≤ 5) (kz_0_9 : 0 ≤ faultPlace_0 ∧ faultPlace_0 ≤ 2000) (kz_0_10 : 0 ≤ limit_0 ∧ limit_0 ≤ 2000) (kz_0_11 : 0 ≤ pos_0 ∧ pos_0 ≤ 2000) (kz_0_12 : 0 ≤ kind_0 ∧ kind_0 ≤ 4) (kz_0_13 : 0 ≤ place_0 ∧ place_0 ≤ 2000) (kz_0_14 : (-49) ≤ value_0 ∧ value_0 ≤ 1048575) (kz_0_15 : 0 ≤ from_0 ∧ from_0 ≤ 2000) : zO11w (limit_0) (pos_0) (kind_0) (place_0) (value_0) (from_0) (fault_0) (faultPlace_0) (r_0) (tape_0) (all_0) (x3) (x4) (x5) := by
  first
    | exact Or.inr (rsq_of ‹zTS11w _ _ _ _ _ _ _ _ _› ‹TKR _ _ _ _ _ _ _ _›)
    | exact Or.inl (fs_w ‹FSX _ _ _ _› ‹ZH0 _› (by assumption))
    | exact Or.inl (or_l ‹zONew _ _ _ _ _ _ _ _ _ _ _ _ _ _› (fun q => by have := ndq_0 q; omega))
def o_Mo_need_at_gs5003e_1 : or_T := (32, 11, [(0, (2, 0, 0, [165])), (2, (0, 0, 2000, [])), (3, (0, -1, 48, [])), (4, (0, 0, 7, [])), (5, (0, 0, 4, [])), (8, (0, 1, 1, [])), (9, (0, 0, 2000, [])), (10, (0, 0, 5, []))], [(20, [0, 8, 9], [60, 1, 1, 1026, 10, 1]), (20, [10], [61, 0, 1029]), (20, [0], [50, 3, 0, 12, 11, 15, 2, 21, 4, 7, 1, 3, 2, 0, 12, 0, 1, 0, 3, 2, 0, 11, 4, 3, 2, 0, 15, 0, 8, 3, 7, 1, 3, 2, 0, 12, 0, 0, 0, 7, 4, 3, 2, 0, 15, 0, 1, 2, 0, 11]), (20, [0], [30, -1, -1, 1, 8]), (20, [10, 0, 8, 9], [50, 2, 0, 1008, 1009, 3, 15, 2, 6, 0, 2, 0, 1, 1, 0, 1, 3, 2, 1, 8, 1, 0, 2, 6, 1, 2, 1, 0, 0, 0, 2, 7, 1, 3, 2, 1, 8, 1, 2, 1, 3, 2, 1, 9, 1, 3])], [], [], [(20, [0, 2], [50, 2, 0, 8, 11, 3, 7, 0, 2, 0, 1, 2, 0, 8, 0, 6, 4, 2, 1, 1, 0, 1, 2, 0, 11]), (20, [0, 3, 4, 5], [60, 9, 2, 1025, 10, 11, 12, 13, 14, 15, 8, 9, 5, 1, 2])], [], [])
theorem oo_Mo_need_at_gs5003e_1 {kA : Nat → ClassId} : or_ok PRD kA GG o_Mo_need_at_gs5003e_1 := by
  refine or_mk fun A ta ws vs hD hth hl => ?_
  intro t0 r0 t2 k2 t3 k3 t4 k4 t5 k5 t8 k8 t9 k9 t10 k10 f1 f2 f4 f6 f7
  have cr_0_1 := fdq_39 hD hth r0
  have hK_0_1 := elq_7 hD hth cr_0_1
  have kz_0_8 := fdq_34 hD hth r0
  have kz_0_9 := fdq_44 hD hth r0
  have kz_0_10 := fdq_43 hD hth r0
  have kz_0_11 := fdq_237 hD hth r0
  have kz_0_12 := fdq_187 hD hth r0
  have kz_0_13 := fdq_238 hD hth r0
  have kz_0_14 := fdq_188 hD hth r0
  have kz_0_15 := fdq_239 hD hth r0
  have nf0 : fc_1 PRD (20, [0, 2], [50, 2, 0, 8, 11, 3, 7, 0, 2, 0, 1, 2, 0, 8, 0, 6, 4, 2, 1, 1, 0, 1, 2, 0, 11]) ws (vs) := ⟨nf_in hl rfl, sgq_1726 (vc_Mo_need_at_gs5003e_1_0 (v_iv (n_v vs 2)) (v_iv (n_v vs 8)) (v_iv (n_v vs 9)) (v_iv (n_v vs 10)) (w_ei ws (w_ar ws (n_v vs 0) 1)) (w_fi ws (n_v vs 0) 15) (w_fi ws (n_v vs 0) 11) (w_fi ws (n_v vs 0) 12) (w_fi ws (n_v vs 0) 8) (w_fi ws (n_v vs 0) 9) k2 k8 k9 k10 (shm_1438 f4) (shm_305 f6) (shm_306 f7) hK_0_1 kz_0_8 kz_0_9 kz_0_11 kz_0_12 kz_0_15)⟩
  have nf1 : fc_1 PRD (20, [0, 3, 4, 5], [60, 9, 2, 1025, 10, 11, 12, 13, 14, 15, 8, 9, 5, 1, 2]) ws (vs) := ⟨nf_in hl rfl, sgq_1744 (vc_Mo_need_at_gs5003e_1_1 (v_iv (n_v vs 3)) (v_iv (n_v vs 4)) (v_iv (n_v vs 5)) (v_iv (n_v vs 8)) (v_iv (n_v vs 9)) (v_iv (n_v vs 10)) (w_fi ws (n_v vs 0) 13) (w_ei ws (w_ar ws (n_v vs 0) 1)) (w_fi ws (n_v vs 0) 10) (w_fi ws (n_v vs 0) 15) (w_fi ws (n_v vs 0) 11) (w_fi ws (n_v vs 0) 12) (w_fi ws (n_v vs 0) 8) (w_fi ws (n_v vs 0) 9) (w_fi ws (n_v vs 0) 14) (w_ei ws (w_ar ws (n_v vs 0) 2)) (w_fi ws (n_v vs 0) 5) k3 k4 k5 k8 k9 k10 (shm_1724 f1) (shm_1725 f2) (shm_306 f7) kz_0_8 kz_0_9 kz_0_10 kz_0_11 kz_0_12 kz_0_13 kz_0_14 kz_0_15)⟩
  refine ⟨(fun _ h => (by cases h)), [], trivial, ?_, (fun _ h => (by cases h))⟩
  rw [List.append_nil]
  exact List.forall_mem_cons.mpr ⟨⟨show (20 : Nat) < 100 from by decide, nf0⟩, List.forall_mem_cons.mpr ⟨⟨show (20 : Nat) < 100 from by decide, nf1⟩, (fun _ h => (by cases h))⟩⟩
set_option maxHeartbeats 4000000 in
theorem vc_Mo_need_at_gs5003e_2_0 (x2 : Int) (x7 : Int) (kind_0 : Int) (fault_0 : Int) (from_0 : Int) (pos_0 : Int) (tape_0 : Int → Int) (gx : Int) (k2 : 0 ≤ x2 ∧ x2 ≤ 2000) (k7 : 1 ≤ x7 ∧ x7 ≤ 1) (f1 : (x7 = 1) → ((kind_0 = 3) ∧ (fault_0 = 0))) (f6 : ((kind_0 = 1) → (pos_0 ≤ (from_0 + 8))) ∧ ((kind_0 = 0) ∨ ((from_0 + 1) ≤ pos_0))) (f8 : (1 ≤ fault_0) ∨ ((kind_0 = 0) ∨ ((x2 + 1) ≤ pos_0))) (hK_0_1 : ∀ j : Int, 0 ≤ j → j < 2000 → (-128) ≤ tape_0 j ∧ tape_0 j ≤ 127) (kz_0_8 : 0 ≤ fault_0 ∧ fault_0 ≤ 5) (kz_0_11 : 0 ≤ pos_0 ∧ pos_0 ≤ 2000) (kz_0_12 : 0 ≤ kind_0 ∧ kind_0 ≤ 4) (kz_0_15 : 0 ≤ from_0 ∧ from_0 ≤ 2000) (ex2 : gx = pos_0) : 1 * gx + ((-1) * pos_0 + 0) ≤ 0 := by
  first | with_reducible assumption | ((have f6_c0 := f6.1); (have f6_c1 := f6.2); (try and_intros) <;> first | with_reducible assumption | (clear f6_c0 f6_c1 f6 f8 hK_0_1 f1; omega)) | ((have f6_c0 := f6.1); (have f6_c1 := f6.2); (first | have f1_b := f1 (by clear f6_c0 f6_c1 f6 f8 hK_0_1 f1; omega) | skip); (first | have f1_d := f1 (by with_reducible assumption) | skip); (try and_intros) <;> first | with_reducible assumption | (clear f6_c0 f6_c1 f6 f8 hK_0_1 f1; omega)) | ((have f6_c0 := f6.1); (have f6_c1 := f6.2); (first | have f1_b := f1 (by clear f6_c0 f6_c1 f6 f8 hK_0_1 f1; omega) | skip); (first | have f1_d := f1 (by with_reducible assumption) | skip); (try and_intros) <;> first | with_reducible assumption | (clear f6_c0 f6_c1 f6 hK_0_1 f1; omega)) | omega
set_option maxHeartbeats 4000000 in
theorem vc_Mo_need_at_gs5003e_2_1 (x2 : Int) (x7 : Int) (kind_0 : Int) (fault_0 : Int) (from_0 : Int) (pos_0 : Int) (tape_0 : Int → Int) (gx : Int) (k2 : 0 ≤ x2 ∧ x2 ≤ 2000) (k7 : 1 ≤ x7 ∧ x7 ≤ 1) (f1 : (x7 = 1) → ((kind_0 = 3) ∧ (fault_0 = 0))) (f6 : ((kind_0 = 1) → (pos_0 ≤ (from_0 + 8))) ∧ ((kind_0 = 0) ∨ ((from_0 + 1) ≤ pos_0))) (f8 : (1 ≤ fault_0) ∨ ((kind_0 = 0) ∨ ((x2 + 1) ≤ pos_0))) (hK_0_1 : ∀ j : Int, 0 ≤ j → j < 2000 → (-128) ≤ tape_0 j ∧ tape_0 j ≤ 127) (kz_0_8 : 0 ≤ fault_0 ∧ fault_0 ≤ 5) (kz_0_11 : 0 ≤ pos_0 ∧ pos_0 ≤ 2000) (kz_0_12 : 0 ≤ kind_0 ∧ kind_0 ≤ 4) (kz_0_15 : 0 ≤ from_0 ∧ from_0 ≤ 2000) (ex2 : gx = pos_0) : gx = pos_0 := by
  first | with_reducible assumption | ((have f6_c0 := f6.1); (have f6_c1 := f6.2); (try and_intros) <;> first | with_reducible assumption | (clear f6_c0 f6_c1 f6 f8 hK_0_1 f1; omega)) | ((have f6_c0 := f6.1); (have f6_c1 := f6.2); (first | have f1_b := f1 (by clear f6_c0 f6_c1 f6 f8 hK_0_1 f1; omega) | skip); (first | have f1_d := f1 (by with_reducible assumption) | skip); (try and_intros) <;> first | with_reducible assumption | (clear f6_c0 f6_c1 f6 f8 hK_0_1 f1; omega)) | ((have f6_c0 := f6.1); (have f6_c1 := f6.2); (first | have f1_b := f1 (by clear f6_c0 f6_c1 f6 f8 hK_0_1 f1; omega) | skip); (first | have f1_d := f1 (by with_reducible assumption) | skip); (try and_intros) <;> first | with_reducible assumption | (clear f6_c0 f6_c1 f6 hK_0_1 f1; omega)) | omega
set_option maxHeartbeats 4000000 in
theorem vc_Mo_need_at_gs5003e_2_2 (x3 : Int) (x4 : Int) (x5 : Int) (x6 : Int) (kind_0 : Int) (fault_0 : Int) (value_0 : Int) (from_0 : Int) (pos_0 : Int) (tape_0 : Int → Int) (all_0 : Int → Int) (limit_0 : Int) (place_0 : Int) (faultPlace_0 : Int) (r_0 : Int) (k3 : (-1) ≤ x3 ∧ x3 ≤ 48) (k4 : 0 ≤ x4 ∧ x4 ≤ 7) (k5 : 0 ≤ x5 ∧ x5 ≤ 4) (k6 : 0 ≤ x6 ∧ x6 ≤ 0) (g4 : x6 = fault_0) (f9 : zONew (limit_0) (pos_0) (kind_0) (place_0) (value_0) (from_0) (fault_0) (faultPlace_0) (r_0) (tape_0) (all_0) (x3) (x4) (x5)) (kz_0_8 : 0 ≤ fault_0 ∧ fault_0 ≤ 5) (kz_0_9 : 0 ≤ faultPlace_0 ∧ faultPlace_0 ≤ 2000) (kz_0_10 : 0 ≤ limit_0 ∧ limit_0 ≤ 2000) (kz_0_11 : 0 ≤ pos_0 ∧ pos_0 ≤ 2000) (kz_0_12 : 0 ≤ kind_0 ∧ kind_0 ≤ 4) (kz_0_13 : 0 ≤ place_0 ∧ place_0 ≤ 2000) (kz_0_14 : (-49) ≤ value_0 ∧ value_0 ≤ 1048575) (kz_0_15 : 0 ≤ from_0 ∧ from_0 ≤ 2000) : ZLM (limit_0) (pos_0) := by
  first
    | exact ndq_lim (or_r ‹zONs _ _ _ _ _ _ _ _ _ _ _ _ _› (fs_n (by omega)))
    | exact ndq_lim (or_r ‹zONo _ _ _ _ _ _ _ _ _ _ _ _ _› (fs_n (by omega)))
    | exact ndq_lim (or_r ‹zONew _ _ _ _ _ _ _ _ _ _ _ _ _ _› (fs_n (by omega)))
    | exact ndq_lim (or_r ‹zONes _ _ _ _ _ _ _ _ _ _ _ _ _ _› (fs_n (by omega))).2
    | exact ndq_lim (or_r ‹zNc _ _ _ _ _ _ _ _ _ _ _ _ _› (fs_n (by omega))).2.2
    | exact zlm_r (‹zNbs _ _ _ _ _ _ _ _ _ _ _ _ _ _›).1.2.2
    | exact zlm_r (‹zNbw _ _ _ _ _ _ _ _ _ _ _ _ _ _›).1.2
set_option maxHeartbeats 4000000 in
theorem vc_Mo_need_at_gs5003e_2_3 (x2 : Int) (x6 : Int) (x7 : Int) (kind_0 : Int) (fault_0 : Int) (from_0 : Int) (pos_0 : Int) (tape_0 : Int → Int) (gx : Int) (k2 : 0 ≤ x2 ∧ x2 ≤ 2000) (k6 : 0 ≤ x6 ∧ x6 ≤ 0) (k7 : 1 ≤ x7 ∧ x7 ≤ 1) (f1 : (x7 = 1) → ((kind_0 = 3) ∧ (fault_0 = 0))) (g4 : x6 = fault_0) (f6 : ((kind_0 = 1) → (pos_0 ≤ (from_0 + 8))) ∧ ((kind_0 = 0) ∨ ((from_0 + 1) ≤ pos_0))) (f7 : 1 * x2 + ((-1) * pos_0 + 0) ≤ 0) (f8 : (1 ≤ fault_0) ∨ ((kind_0 = 0) ∨ ((x2 + 1) ≤ pos_0))) (hK_0_1 : ∀ j : Int, 0 ≤ j → j < 2000 → (-128) ≤ tape_0 j ∧ tape_0 j ≤ 127) (kz_0_8 : 0 ≤ fault_0 ∧ fault_0 ≤ 5) (kz_0_11 : 0 ≤ pos_0 ∧ pos_0 ≤ 2000) (kz_0_12 : 0 ≤ kind_0 ∧ kind_0 ≤ 4) (kz_0_15 : 0 ≤ from_0 ∧ from_0 ≤ 2000) (ex2 : gx = pos_0) : 1 * x2 + ((-1) * gx + 0) ≤ (-1) := by
  first | with_reducible assumption | ((have f6_c0 := f6.1); (have f6_c1 := f6.2); (try and_intros) <;> first | with_reducible assumption | (clear f6_c0 f6_c1 f6 f8 hK_0_1 f1; omega)) | ((have f6_c0 := f6.1); (have f6_c1 := f6.2); (first | have f1_b := f1 (by clear f6_c0 f6_c1 f6 f8 hK_0_1 f1; omega) | skip); (first | have f1_d := f1 (by with_reducible assumption) | skip); (try and_intros) <;> first | with_reducible assumption | (clear f6_c0 f6_c1 f6 f8 hK_0_1 f1; omega)) | ((have f6_c0 := f6.1); (have f6_c1 := f6.2); (first | have f1_b := f1 (by clear f6_c0 f6_c1 f6 f8 hK_0_1 f1; omega) | skip); (first | have f1_d := f1 (by with_reducible assumption) | skip); (try and_intros) <;> first | with_reducible assumption | (clear f6_c0 f6_c1 f6 hK_0_1 f1; omega)) | omega
set_option maxHeartbeats 4000000 in
theorem vc_Mo_need_at_gs5003e_2_4 (x1 : Int) (x3 : Int) (x4 : Int) (x5 : Int) (x6 : Int) (x7 : Int) (kind_0 : Int) (fault_0 : Int) (value_0 : Int) (from_0 : Int) (pos_0 : Int) (tape_0 : Int → Int) (all_0 : Int → Int) (limit_0 : Int) (place_0 : Int) (faultPlace_0 : Int) (r_0 : Int) (gx : Int) (k1 : 61 ≤ x1 ∧ x1 ≤ 61) (k3 : (-1) ≤ x3 ∧ x3 ≤ 48) (k4 : 0 ≤ x4 ∧ x4 ≤ 7) (k5 : 0 ≤ x5 ∧ x5 ≤ 4) (k6 : 0 ≤ x6 ∧ x6 ≤ 0) (k7 : 1 ≤ x7 ∧ x7 ≤ 1) (f0 : x7 ≠ 0) (f2 : SGQ (fault_0) (kind_0) (value_0) (x1) (x7)) (g4 : x6 = fault_0) (f9 : zONew (limit_0) (pos_0) (kind_0) (place_0) (value_0) (from_0) (fault_0) (faultPlace_0) (r_0) (tape_0) (all_0) (x3) (x4) (x5)) (kz_0_8 : 0 ≤ fault_0 ∧ fault_0 ≤ 5) (kz_0_9 : 0 ≤ faultPlace_0 ∧ faultPlace_0 ≤ 2000) (kz_0_10 : 0 ≤ limit_0 ∧ limit_0 ≤ 2000) (kz_0_11 : 0 ≤ pos_0 ∧ pos_0 ≤ 2000) (kz_0_12 : 0 ≤ kind_0 ∧ kind_0 ≤ 4) (kz_0_13 : 0 ≤ place_0 ∧ place_0 ≤ 2000) (kz_0_14 : (-49) ≤ value_0 ∧ value_0 ≤ 1048575) (kz_0_15 : 0 ≤ from_0 ∧ from_0 ≤ 2000) (ex2 : gx = pos_0) : zTS11w (limit_0) (fault_0) (r_0) (tape_0) (all_0) (x3) (x4) (x5) (gx) := by
  have e : gx = pos_0 := by omega
  rw [e]
  first
    | exact ndq_go (or_r ‹zONew _ _ _ _ _ _ _ _ _ _ _ _ _ _› (fs_n (by omega))) (sgq_t (C := 61) ‹SGQ _ _ _ _ _› (by omega) (by omega)).2.1 (sgq_t (C := 61) ‹SGQ _ _ _ _ _› (by omega) (by omega)).2.2
def o_Mo_need_at_gs5003e_2 : or_T := (17, 8, [(0, (2, 0, 0, [165])), (1, (0, 61, 61, [])), (2, (0, 0, 2000, [])), (3, (0, -1, 48, [])), (4, (0, 0, 7, [])), (5, (0, 0, 4, [])), (6, (0, 0, 0, [])), (7, (0, 1, 1, []))], [(8, [7], [1]), (20, [7, 0], [50, 2, 0, 1012, 1008, 4, 6, 1, 2, 1, 0, 0, 1, 2, 7, 1, 3, 2, 1, 12, 0, 3, 1, 3, 2, 1, 8, 0, 0]), (20, [0, 1, 7], [60, 3, 0, 963, 8, 12, 14]), (9, [6, 0], [8]), (20, [0], [50, 3, 0, 12, 11, 15, 2, 21, 4, 7, 1, 3, 2, 0, 12, 0, 1, 0, 3, 2, 0, 11, 4, 3, 2, 0, 15, 0, 8, 3, 7, 1, 3, 2, 0, 12, 0, 0, 0, 7, 4, 3, 2, 0, 15, 0, 1, 2, 0, 11]), (20, [2, 0], [30, 0, 1, 0, 0, -1, 1, 11]), (20, [0, 2], [50, 3, 0, 8, 12, 11, 3, 7, 0, 2, 0, 1, 2, 0, 8, 3, 7, 1, 3, 2, 0, 12, 0, 0, 0, 6, 4, 2, 1, 1, 0, 1, 2, 0, 11]), (20, [0, 3, 4, 5], [60, 9, 2, 1020, 10, 11, 12, 13, 14, 15, 8, 9, 5, 1, 2])], [], [(0, 0, 2000, [])], [(20, [8, 0], [30, 0, 1, 0, 0, -1, 1, 11]), (20, [8, 0], [50, 1, 0, 1011, 1, 2, 1, 0, 2, 1, 11]), (20, [0], [60, 2, 0, 947, 10, 11]), (23, [2, 8], [-1, 1, -1]), (20, [0, 3, 4, 5, 8], [60, 3, 2, 977, 10, 8, 5, 1, 2])], [], [])
theorem oo_Mo_need_at_gs5003e_2 {kA : Nat → ClassId} : or_ok PRD kA GG o_Mo_need_at_gs5003e_2 := by
  refine or_mk fun A ta ws vs hD hth hl => ?_
  intro t0 r0 t1 k1 t2 k2 t3 k3 t4 k4 t5 k5 t6 k6 t7 k7 f0 f1 f2 f4 f6 f7 f8 f9
  replace f0 := shm_142 f0
  replace f1 := shm_730 f1
  replace f2 := shm_731 f2
  replace f4 := shm_293 f4
  replace f6 := shm_1438 f6
  replace f7 := shm_1431 f7
  replace f8 := shm_1722 f8
  replace f9 := shm_1743 f9
  have cr_0_1 := fdq_39 hD hth r0
  have g4 : v_iv (n_v vs 6) = w_fi ws (n_v vs 0) 8 := congrArg v_iv f4
  have hK_0_1 := elq_7 hD hth cr_0_1
  have kz_0_8 := fdq_34 hD hth r0
  have kz_0_9 := fdq_44 hD hth r0
  have kz_0_10 := fdq_43 hD hth r0
  have kz_0_11 := fdq_237 hD hth r0
  have kz_0_12 := fdq_187 hD hth r0
  have kz_0_13 := fdq_238 hD hth r0
  have kz_0_14 := fdq_188 hD hth r0
  have kz_0_15 := fdq_239 hD hth r0
  obtain ⟨x, ex, hx⟩ := iv_ex (ta := ta) (lo := 0) (hi := 2000) (z := w_fi ws (n_v vs 0) 11) (by omega) (by omega) (by omega) (by omega)
  have ex2 : v_iv (Value.int x) = w_fi ws (n_v vs 0) 11 := ex
  have ex3 : 0 ≤ v_iv (Value.int x) ∧ v_iv (Value.int x) ≤ 2000 := tv_rng hx
  have e_0 : n_v (vs ++ [Value.int x]) 0 = n_v vs 0 := n_v_old (by rw [hl]; decide)
  have e_2 : n_v (vs ++ [Value.int x]) 2 = n_v vs 2 := n_v_old (by rw [hl]; decide)
  have e_3 : n_v (vs ++ [Value.int x]) 3 = n_v vs 3 := n_v_old (by rw [hl]; decide)
  have e_4 : n_v (vs ++ [Value.int x]) 4 = n_v vs 4 := n_v_old (by rw [hl]; decide)
  have e_5 : n_v (vs ++ [Value.int x]) 5 = n_v vs 5 := n_v_old (by rw [hl]; decide)
  have e_8 : n_v (vs ++ [Value.int x]) 8 = Value.int x := n_v_new hl
  have nf0 : fc_1 PRD (20, [8, 0], [30, 0, 1, 0, 0, -1, 1, 11]) ws (vs ++ [Value.int x]) := by
    refine ⟨nf_inA hl rfl, sgq_1431 ?_⟩
    · show 1 * v_iv (n_v (vs ++ [Value.int x]) 8) + ((-1) * w_fi ws (n_v (vs ++ [Value.int x]) 0) 11 + 0) ≤ 0
      simp only [e_0, e_8]
      exact vc_Mo_need_at_gs5003e_2_0 (v_iv (n_v vs 2)) (v_iv (n_v vs 7)) (w_fi ws (n_v vs 0) 12) (w_fi ws (n_v vs 0) 8) (w_fi ws (n_v vs 0) 15) (w_fi ws (n_v vs 0) 11) (w_ei ws (w_ar ws (n_v vs 0) 1)) (v_iv (Value.int x)) k2 k7 f1 f6 f8 hK_0_1 kz_0_8 kz_0_11 kz_0_12 kz_0_15 ex2
  have nf1 : fc_1 PRD (20, [8, 0], [50, 1, 0, 1011, 1, 2, 1, 0, 2, 1, 11]) ws (vs ++ [Value.int x]) := by
    refine ⟨nf_inA hl rfl, sgq_1432 ?_⟩
    · show v_iv (n_v (vs ++ [Value.int x]) 8) = w_fi ws (n_v (vs ++ [Value.int x]) 0) 11
      simp only [e_0, e_8]
      exact vc_Mo_need_at_gs5003e_2_1 (v_iv (n_v vs 2)) (v_iv (n_v vs 7)) (w_fi ws (n_v vs 0) 12) (w_fi ws (n_v vs 0) 8) (w_fi ws (n_v vs 0) 15) (w_fi ws (n_v vs 0) 11) (w_ei ws (w_ar ws (n_v vs 0) 1)) (v_iv (Value.int x)) k2 k7 f1 f6 f8 hK_0_1 kz_0_8 kz_0_11 kz_0_12 kz_0_15 ex2
  have nf2 : fc_1 PRD (20, [0], [60, 2, 0, 947, 10, 11]) ws (vs ++ [Value.int x]) := by
    refine ⟨nf_inA hl rfl, sgq_1433 ?_⟩
    · show ZLM (w_fi ws (n_v (vs ++ [Value.int x]) 0) 10) (w_fi ws (n_v (vs ++ [Value.int x]) 0) 11)
      rw [e_0]
      exact vc_Mo_need_at_gs5003e_2_2 (v_iv (n_v vs 3)) (v_iv (n_v vs 4)) (v_iv (n_v vs 5)) (v_iv (n_v vs 6)) (w_fi ws (n_v vs 0) 12) (w_fi ws (n_v vs 0) 8) (w_fi ws (n_v vs 0) 14) (w_fi ws (n_v vs 0) 15) (w_fi ws (n_v vs 0) 11) (w_ei ws (w_ar ws (n_v vs 0) 1)) (w_ei ws (w_ar ws (n_v vs 0) 2)) (w_fi ws (n_v vs 0) 10) (w_fi ws (n_v vs 0) 13) (w_fi ws (n_v vs 0) 9) (w_fi ws (n_v vs 0) 5) k3 k4 k5 k6 g4 f9 kz_0_8 kz_0_9 kz_0_10 kz_0_11 kz_0_12 kz_0_13 kz_0_14 kz_0_15
  have nf3 : fc_1 PRD (23, [2, 8], [-1, 1, -1]) ws (vs ++ [Value.int x]) := by
    refine ⟨nf_inA hl rfl, sgq_193 ?_⟩
    · show 1 * v_iv (n_v (vs ++ [Value.int x]) 2) + ((-1) * v_iv (n_v (vs ++ [Value.int x]) 8) + 0) ≤ (-1)
      simp only [e_2, e_8]
      exact vc_Mo_need_at_gs5003e_2_3 (v_iv (n_v vs 2)) (v_iv (n_v vs 6)) (v_iv (n_v vs 7)) (w_fi ws (n_v vs 0) 12) (w_fi ws (n_v vs 0) 8) (w_fi ws (n_v vs 0) 15) (w_fi ws (n_v vs 0) 11) (w_ei ws (w_ar ws (n_v vs 0) 1)) (v_iv (Value.int x)) k2 k6 k7 f1 g4 f6 f7 f8 hK_0_1 kz_0_8 kz_0_11 kz_0_12 kz_0_15 ex2
  have nf4 : fc_1 PRD (20, [0, 3, 4, 5, 8], [60, 3, 2, 977, 10, 8, 5, 1, 2]) ws (vs ++ [Value.int x]) := by
    refine ⟨nf_inA hl rfl, sgq_1745 ?_⟩
    · show zTS11w (w_fi ws (n_v (vs ++ [Value.int x]) 0) 10) (w_fi ws (n_v (vs ++ [Value.int x]) 0) 8) (w_fi ws (n_v (vs ++ [Value.int x]) 0) 5) (w_ei ws (w_ar ws (n_v (vs ++ [Value.int x]) 0) 1)) (w_ei ws (w_ar ws (n_v (vs ++ [Value.int x]) 0) 2)) (v_iv (n_v (vs ++ [Value.int x]) 3)) (v_iv (n_v (vs ++ [Value.int x]) 4)) (v_iv (n_v (vs ++ [Value.int x]) 5)) (v_iv (n_v (vs ++ [Value.int x]) 8))
      simp only [e_0, e_3, e_4, e_5, e_8]
      exact vc_Mo_need_at_gs5003e_2_4 (v_iv (n_v vs 1)) (v_iv (n_v vs 3)) (v_iv (n_v vs 4)) (v_iv (n_v vs 5)) (v_iv (n_v vs 6)) (v_iv (n_v vs 7)) (w_fi ws (n_v vs 0) 12) (w_fi ws (n_v vs 0) 8) (w_fi ws (n_v vs 0) 14) (w_fi ws (n_v vs 0) 15) (w_fi ws (n_v vs 0) 11) (w_ei ws (w_ar ws (n_v vs 0) 1)) (w_ei ws (w_ar ws (n_v vs 0) 2)) (w_fi ws (n_v vs 0) 10) (w_fi ws (n_v vs 0) 13) (w_fi ws (n_v vs 0) 9) (w_fi ws (n_v vs 0) 5) (v_iv (Value.int x)) k1 k3 k4 k5 k6 k7 f0 f2 g4 f9 kz_0_8 kz_0_9 kz_0_10 kz_0_11 kz_0_12 kz_0_13 kz_0_14 kz_0_15 ex2
  exact ⟨(fun _ h => (by cases h)), [Value.int x], ag_one hx, List.forall_mem_cons.mpr ⟨⟨show (20 : Nat) < 100 from by decide, nf0⟩, List.forall_mem_cons.mpr ⟨⟨show (20 : Nat) < 100 from by decide, nf1⟩, List.forall_mem_cons.mpr ⟨⟨show (20 : Nat) < 100 from by decide, nf2⟩, List.forall_mem_cons.mpr ⟨⟨show (23 : Nat) < 100 from by decide, nf3⟩, List.forall_mem_cons.mpr ⟨⟨show (20 : Nat) < 100 from by decide, nf4⟩, (fun _ h => (by cases h))⟩⟩⟩⟩⟩, (fun _ h => (by cases h))⟩
set_option maxHeartbeats 4000000 in
theorem vc_Mo_need_at_gs5003e_3_0 (x2 : Int) (x8 : Int) (tape_0 : Int → Int) (from_0 : Int) (pos_0 : Int) (kind_0 : Int) (k2 : 0 ≤ x2 ∧ x2 ≤ 2000) (k8 : 0 ≤ x8 ∧ x8 ≤ 2000) (f1 : 1 * x2 + ((-1) * x8 + 0) ≤ (-1)) (f3 : 1 * from_0 + ((-1) * pos_0 + 0) ≤ 0) (f4 : ((kind_0 = 1) → (pos_0 ≤ (from_0 + 8))) ∧ ((kind_0 = 0) ∨ ((from_0 + 1) ≤ pos_0))) (f5 : 1 * x8 + ((-1) * from_0 + 0) ≤ 0) (hK_0_1 : ∀ j : Int, 0 ≤ j → j < 2000 → (-128) ≤ tape_0 j ∧ tape_0 j ≤ 127) (kz_0_11 : 0 ≤ pos_0 ∧ pos_0 ≤ 2000) (kz_0_12 : 0 ≤ kind_0 ∧ kind_0 ≤ 4) (kz_0_15 : 0 ≤ from_0 ∧ from_0 ≤ 2000) : 1 * x2 + ((-1) * pos_0 + 0) ≤ 0 := by
  first | with_reducible assumption | ((have f4_c0 := f4.1); (have f4_c1 := f4.2); (try and_intros) <;> first | with_reducible assumption | (clear f4_c0 f4_c1 f4 hK_0_1; omega)) | omega
set_option maxHeartbeats 4000000 in
theorem vc_Mo_need_at_gs5003e_3_1 (x2 : Int) (x8 : Int) (fault_0 : Int) (tape_0 : Int → Int) (from_0 : Int) (pos_0 : Int) (kind_0 : Int) (k2 : 0 ≤ x2 ∧ x2 ≤ 2000) (k8 : 0 ≤ x8 ∧ x8 ≤ 2000) (f1 : 1 * x2 + ((-1) * x8 + 0) ≤ (-1)) (f3 : 1 * from_0 + ((-1) * pos_0 + 0) ≤ 0) (f4 : ((kind_0 = 1) → (pos_0 ≤ (from_0 + 8))) ∧ ((kind_0 = 0) ∨ ((from_0 + 1) ≤ pos_0))) (f5 : 1 * x8 + ((-1) * from_0 + 0) ≤ 0) (hK_0_1 : ∀ j : Int, 0 ≤ j → j < 2000 → (-128) ≤ tape_0 j ∧ tape_0 j ≤ 127) (kz_0_8 : 0 ≤ fault_0 ∧ fault_0 ≤ 5) (kz_0_11 : 0 ≤ pos_0 ∧ pos_0 ≤ 2000) (kz_0_12 : 0 ≤ kind_0 ∧ kind_0 ≤ 4) (kz_0_15 : 0 ≤ from_0 ∧ from_0 ≤ 2000) : (1 ≤ fault_0) ∨ ((x2 + 1) ≤ pos_0) := by
  first | with_reducible assumption | ((have f4_c0 := f4.1); (have f4_c1 := f4.2); (try and_intros) <;> first | with_reducible assumption | (clear f4_c0 f4_c1 f4 hK_0_1; omega)) | omega
set_option maxHeartbeats 4000000 in
theorem vc_Mo_need_at_gs5003e_3_2 (x3 : Int) (x4 : Int) (x5 : Int) (x8 : Int) (fault_0 : Int) (tape_0 : Int → Int) (all_0 : Int → Int) (limit_0 : Int) (r_0 : Int) (from_0 : Int) (pos_0 : Int) (kind_0 : Int) (place_0 : Int) (value_0 : Int) (faultPlace_0 : Int) (k3 : (-1) ≤ x3 ∧ x3 ≤ 48) (k4 : 0 ≤ x4 ∧ x4 ≤ 7) (k5 : 0 ≤ x5 ∧ x5 ≤ 4) (k8 : 0 ≤ x8 ∧ x8 ≤ 2000) (f2 : zTS11w (limit_0) (fault_0) (r_0) (tape_0) (all_0) (x3) (x4) (x5) (x8)) (f6 : TKR (limit_0) (pos_0) (kind_0) (place_0) (value_0) (from_0) (tape_0) (x8)) (kz_0_8 : 0 ≤ fault_0 ∧ fault_0 ≤ 5) (kz_0_9 : 0 ≤ faultPlace_0 ∧ faultPlace_0 ≤ 2000) (kz_0_10 : 0 ≤ limit_0 ∧ limit_0 ≤ 2000) (kz_0_11 : 0 ≤ pos_0 ∧ pos_0 ≤ 2000) (kz_0_12 : 0 ≤ kind_0 ∧ kind_0 ≤ 4) (kz_0_13 : 0 ≤ place_0 ∧ place_0 ≤ 2000) (kz_0_14 : (-49) ≤ value_0 ∧ value_0 ≤ 1048575) (kz_0_15 : 0 ≤ from_0 ∧ from_0 ≤ 2000) : zO11w (limit_0) (pos_0) (kind_0) (place_0) (value_0) (from_0) (fault_0) (faultPlace_0) (r_0) (tape_0) (all_0) (x3) (x4) (x5) := by
  first
    | exact Or.inr (rsq_of ‹zTS11w _ _ _ _ _ _ _ _ _› ‹TKR _ _ _ _ _ _ _ _›)
    | exact Or.inl (fs_w ‹FSX _ _ _ _› ‹ZH0 _› (by assumption))
    | exact Or.inl (or_l ‹zONew _ _ _ _ _ _ _ _ _ _ _ _ _ _› (fun q => by have := ndq_0 q; omega))
def o_Mo_need_at_gs5003e_3 : or_T := (32, 9, [(0, (2, 0, 0, [165])), (2, (0, 0, 2000, [])), (3, (0, -1, 48, [])), (4, (0, 0, 7, [])), (5, (0, 0, 4, [])), (8, (0, 0, 2000, []))], [(23, [2, 8], [-1, 1, -1]), (20, [0, 3, 4, 5, 8], [60, 3, 2, 977, 10, 8, 5, 1, 2]), (20, [0, 0], [30, 0, 1, 1, 15, -1, 1, 11]), (20, [0], [50, 3, 0, 12, 11, 15, 2, 21, 4, 7, 1, 3, 2, 0, 12, 0, 1, 0, 3, 2, 0, 11, 4, 3, 2, 0, 15, 0, 8, 3, 7, 1, 3, 2, 0, 12, 0, 0, 0, 7, 4, 3, 2, 0, 15, 0, 1, 2, 0, 11]), (20, [8, 0], [30, 0, 1, 0, 0, -1, 1, 15]), (20, [0, 8], [60, 6, 1, 948, 10, 11, 12, 13, 14, 15, 1])], [], [], [(20, [2, 0], [30, 0, 1, 0, 0, -1, 1, 11]), (20, [0, 2], [50, 2, 0, 8, 11, 3, 7, 0, 2, 0, 1, 2, 0, 8, 0, 6, 4, 2, 1, 1, 0, 1, 2, 0, 11]), (20, [0, 3, 4, 5], [60, 9, 2, 1025, 10, 11, 12, 13, 14, 15, 8, 9, 5, 1, 2])], [], [])
theorem oo_Mo_need_at_gs5003e_3 {kA : Nat → ClassId} : or_ok PRD kA GG o_Mo_need_at_gs5003e_3 := by
  refine or_mk fun A ta ws vs hD hth hl => ?_
  intro t0 r0 t2 k2 t3 k3 t4 k4 t5 k5 t8 k8 f1 f2 f3 f4 f5 f6
  have cr_0_1 := fdq_39 hD hth r0
  have hK_0_1 := elq_7 hD hth cr_0_1
  have kz_0_8 := fdq_34 hD hth r0
  have kz_0_9 := fdq_44 hD hth r0
  have kz_0_10 := fdq_43 hD hth r0
  have kz_0_11 := fdq_237 hD hth r0
  have kz_0_12 := fdq_187 hD hth r0
  have kz_0_13 := fdq_238 hD hth r0
  have kz_0_14 := fdq_188 hD hth r0
  have kz_0_15 := fdq_239 hD hth r0
  have nf0 : fc_1 PRD (20, [2, 0], [30, 0, 1, 0, 0, -1, 1, 11]) ws (vs) := ⟨nf_in hl rfl, sgq_1431 (vc_Mo_need_at_gs5003e_3_0 (v_iv (n_v vs 2)) (v_iv (n_v vs 8)) (w_ei ws (w_ar ws (n_v vs 0) 1)) (w_fi ws (n_v vs 0) 15) (w_fi ws (n_v vs 0) 11) (w_fi ws (n_v vs 0) 12) k2 k8 (shm_193 f1) (shm_1437 f3) (shm_1438 f4) (shm_1436 f5) hK_0_1 kz_0_11 kz_0_12 kz_0_15)⟩
  have nf1 : fc_1 PRD (20, [0, 2], [50, 2, 0, 8, 11, 3, 7, 0, 2, 0, 1, 2, 0, 8, 0, 6, 4, 2, 1, 1, 0, 1, 2, 0, 11]) ws (vs) := ⟨nf_in hl rfl, sgq_1726 (vc_Mo_need_at_gs5003e_3_1 (v_iv (n_v vs 2)) (v_iv (n_v vs 8)) (w_fi ws (n_v vs 0) 8) (w_ei ws (w_ar ws (n_v vs 0) 1)) (w_fi ws (n_v vs 0) 15) (w_fi ws (n_v vs 0) 11) (w_fi ws (n_v vs 0) 12) k2 k8 (shm_193 f1) (shm_1437 f3) (shm_1438 f4) (shm_1436 f5) hK_0_1 kz_0_8 kz_0_11 kz_0_12 kz_0_15)⟩
  have nf2 : fc_1 PRD (20, [0, 3, 4, 5], [60, 9, 2, 1025, 10, 11, 12, 13, 14, 15, 8, 9, 5, 1, 2]) ws (vs) := ⟨nf_in hl rfl, sgq_1744 (vc_Mo_need_at_gs5003e_3_2 (v_iv (n_v vs 3)) (v_iv (n_v vs 4)) (v_iv (n_v vs 5)) (v_iv (n_v vs 8)) (w_fi ws (n_v vs 0) 8) (w_ei ws (w_ar ws (n_v vs 0) 1)) (w_ei ws (w_ar ws (n_v vs 0) 2)) (w_fi ws (n_v vs 0) 10) (w_fi ws (n_v vs 0) 5) (w_fi ws (n_v vs 0) 15) (w_fi ws (n_v vs 0) 11) (w_fi ws (n_v vs 0) 12) (w_fi ws (n_v vs 0) 13) (w_fi ws (n_v vs 0) 14) (w_fi ws (n_v vs 0) 9) k3 k4 k5 k8 (shm_1745 f2) (shm_1439 f6) kz_0_8 kz_0_9 kz_0_10 kz_0_11 kz_0_12 kz_0_13 kz_0_14 kz_0_15)⟩
  refine ⟨(fun _ h => (by cases h)), [], trivial, ?_, (fun _ h => (by cases h))⟩
  rw [List.append_nil]
  exact List.forall_mem_cons.mpr ⟨⟨show (20 : Nat) < 100 from by decide, nf0⟩, List.forall_mem_cons.mpr ⟨⟨show (20 : Nat) < 100 from by decide, nf1⟩, List.forall_mem_cons.mpr ⟨⟨show (20 : Nat) < 100 from by decide, nf2⟩, (fun _ h => (by cases h))⟩⟩⟩
set_option maxHeartbeats 4000000 in
theorem vc_Mo_need_at_gs5003e_4_0 (x2 : Int) (x6 : Int) (fault_0 : Int) (from_0 : Int) (pos_0 : Int) (kind_0 : Int) (tape_0 : Int → Int) (k2 : 0 ≤ x2 ∧ x2 ≤ 2000) (k6 : 1 ≤ x6 ∧ x6 ≤ 5) (g1 : x6 = fault_0) (f3 : ((kind_0 = 1) → (pos_0 ≤ (from_0 + 8))) ∧ ((kind_0 = 0) ∨ ((from_0 + 1) ≤ pos_0))) (f5 : (1 ≤ fault_0) ∨ ((kind_0 = 0) ∨ ((x2 + 1) ≤ pos_0))) (hK_0_1 : ∀ j : Int, 0 ≤ j → j < 2000 → (-128) ≤ tape_0 j ∧ tape_0 j ≤ 127) (kz_0_8 : 0 ≤ fault_0 ∧ fault_0 ≤ 5) (kz_0_11 : 0 ≤ pos_0 ∧ pos_0 ≤ 2000) (kz_0_12 : 0 ≤ kind_0 ∧ kind_0 ≤ 4) (kz_0_15 : 0 ≤ from_0 ∧ from_0 ≤ 2000) : (1 ≤ fault_0) ∨ ((x2 + 1) ≤ pos_0) := by
  first | with_reducible assumption | ((have f3_c0 := f3.1); (have f3_c1 := f3.2); (try and_intros) <;> first | with_reducible assumption | (clear f3_c0 f3_c1 f3 f5 hK_0_1; omega)) | ((have f3_c0 := f3.1); (have f3_c1 := f3.2); (try and_intros) <;> first | with_reducible assumption | (clear f3_c0 f3_c1 f3 hK_0_1; omega)) | omega
set_option maxHeartbeats 4000000 in
theorem vc_Mo_need_at_gs5003e_4_1 (x3 : Int) (x4 : Int) (x5 : Int) (x6 : Int) (fault_0 : Int) (from_0 : Int) (pos_0 : Int) (kind_0 : Int) (tape_0 : Int → Int) (all_0 : Int → Int) (limit_0 : Int) (place_0 : Int) (value_0 : Int) (faultPlace_0 : Int) (r_0 : Int) (k3 : (-1) ≤ x3 ∧ x3 ≤ 48) (k4 : 0 ≤ x4 ∧ x4 ≤ 7) (k5 : 0 ≤ x5 ∧ x5 ≤ 4) (k6 : 1 ≤ x6 ∧ x6 ≤ 5) (g1 : x6 = fault_0) (f6 : zONew (limit_0) (pos_0) (kind_0) (place_0) (value_0) (from_0) (fault_0) (faultPlace_0) (r_0) (tape_0) (all_0) (x3) (x4) (x5)) (kz_0_8 : 0 ≤ fault_0 ∧ fault_0 ≤ 5) (kz_0_9 : 0 ≤ faultPlace_0 ∧ faultPlace_0 ≤ 2000) (kz_0_10 : 0 ≤ limit_0 ∧ limit_0 ≤ 2000) (kz_0_11 : 0 ≤ pos_0 ∧ pos_0 ≤ 2000) (kz_0_12 : 0 ≤ kind_0 ∧ kind_0 ≤ 4) (kz_0_13 : 0 ≤ place_0 ∧ place_0 ≤ 2000) (kz_0_14 : (-49) ≤ value_0 ∧ value_0 ≤ 1048575) (kz_0_15 : 0 ≤ from_0 ∧ from_0 ≤ 2000) : zO11w (limit_0) (pos_0) (kind_0) (place_0) (value_0) (from_0) (fault_0) (faultPlace_0) (r_0) (tape_0) (all_0) (x3) (x4) (x5) := by
  first
    | exact Or.inr (rsq_of ‹zTS11w _ _ _ _ _ _ _ _ _› ‹TKR _ _ _ _ _ _ _ _›)
    | exact Or.inl (fs_w ‹FSX _ _ _ _› ‹ZH0 _› (by assumption))
    | exact Or.inl (or_l ‹zONew _ _ _ _ _ _ _ _ _ _ _ _ _ _› (fun q => by have := ndq_0 q; omega))
def o_Mo_need_at_gs5003e_4 : or_T := (7, 7, [(0, (2, 0, 0, [165])), (2, (0, 0, 2000, [])), (3, (0, -1, 48, [])), (4, (0, 0, 7, [])), (5, (0, 0, 4, [])), (6, (0, 1, 5, []))], [(9, [6, 0], [8]), (20, [0], [50, 3, 0, 12, 11, 15, 2, 21, 4, 7, 1, 3, 2, 0, 12, 0, 1, 0, 3, 2, 0, 11, 4, 3, 2, 0, 15, 0, 8, 3, 7, 1, 3, 2, 0, 12, 0, 0, 0, 7, 4, 3, 2, 0, 15, 0, 1, 2, 0, 11]), (20, [0, 2], [50, 3, 0, 8, 12, 11, 3, 7, 0, 2, 0, 1, 2, 0, 8, 3, 7, 1, 3, 2, 0, 12, 0, 0, 0, 6, 4, 2, 1, 1, 0, 1, 2, 0, 11]), (20, [0, 3, 4, 5], [60, 9, 2, 1020, 10, 11, 12, 13, 14, 15, 8, 9, 5, 1, 2])], [], [], [(20, [0, 2], [50, 2, 0, 8, 11, 3, 7, 0, 2, 0, 1, 2, 0, 8, 0, 6, 4, 2, 1, 1, 0, 1, 2, 0, 11]), (20, [0, 3, 4, 5], [60, 9, 2, 1025, 10, 11, 12, 13, 14, 15, 8, 9, 5, 1, 2])], [], [])
theorem oo_Mo_need_at_gs5003e_4 {kA : Nat → ClassId} : or_ok PRD kA GG o_Mo_need_at_gs5003e_4 := by
  refine or_mk fun A ta ws vs hD hth hl => ?_
  intro t0 r0 t2 k2 t3 k3 t4 k4 t5 k5 t6 k6 f1 f3 f5 f6
  replace f1 := shm_293 f1
  have cr_0_1 := fdq_39 hD hth r0
  have g1 : v_iv (n_v vs 6) = w_fi ws (n_v vs 0) 8 := congrArg v_iv f1
  have hK_0_1 := elq_7 hD hth cr_0_1
  have kz_0_8 := fdq_34 hD hth r0
  have kz_0_9 := fdq_44 hD hth r0
  have kz_0_10 := fdq_43 hD hth r0
  have kz_0_11 := fdq_237 hD hth r0
  have kz_0_12 := fdq_187 hD hth r0
  have kz_0_13 := fdq_238 hD hth r0
  have kz_0_14 := fdq_188 hD hth r0
  have kz_0_15 := fdq_239 hD hth r0
  have nf0 : fc_1 PRD (20, [0, 2], [50, 2, 0, 8, 11, 3, 7, 0, 2, 0, 1, 2, 0, 8, 0, 6, 4, 2, 1, 1, 0, 1, 2, 0, 11]) ws (vs) := ⟨nf_in hl rfl, sgq_1726 (vc_Mo_need_at_gs5003e_4_0 (v_iv (n_v vs 2)) (v_iv (n_v vs 6)) (w_fi ws (n_v vs 0) 8) (w_fi ws (n_v vs 0) 15) (w_fi ws (n_v vs 0) 11) (w_fi ws (n_v vs 0) 12) (w_ei ws (w_ar ws (n_v vs 0) 1)) k2 k6 g1 (shm_1438 f3) (shm_1722 f5) hK_0_1 kz_0_8 kz_0_11 kz_0_12 kz_0_15)⟩
  have nf1 : fc_1 PRD (20, [0, 3, 4, 5], [60, 9, 2, 1025, 10, 11, 12, 13, 14, 15, 8, 9, 5, 1, 2]) ws (vs) := ⟨nf_in hl rfl, sgq_1744 (vc_Mo_need_at_gs5003e_4_1 (v_iv (n_v vs 3)) (v_iv (n_v vs 4)) (v_iv (n_v vs 5)) (v_iv (n_v vs 6)) (w_fi ws (n_v vs 0) 8) (w_fi ws (n_v vs 0) 15) (w_fi ws (n_v vs 0) 11) (w_fi ws (n_v vs 0) 12) (w_ei ws (w_ar ws (n_v vs 0) 1)) (w_ei ws (w_ar ws (n_v vs 0) 2)) (w_fi ws (n_v vs 0) 10) (w_fi ws (n_v vs 0) 13) (w_fi ws (n_v vs 0) 14) (w_fi ws (n_v vs 0) 9) (w_fi ws (n_v vs 0) 5) k3 k4 k5 k6 g1 (shm_1743 f6) kz_0_8 kz_0_9 kz_0_10 kz_0_11 kz_0_12 kz_0_13 kz_0_14 kz_0_15)⟩
  refine ⟨(fun _ h => (by cases h)), [], trivial, ?_, (fun _ h => (by cases h))⟩
  rw [List.append_nil]
  exact List.forall_mem_cons.mpr ⟨⟨show (20 : Nat) < 100 from by decide, nf0⟩, List.forall_mem_cons.mpr ⟨⟨show (20 : Nat) < 100 from by decide, nf1⟩, (fun _ h => (by cases h))⟩⟩
def n_Mo_need_at_gs5003e_an : List an_T := []
def t_Mo_need_at_gs5003e_ct : ct_L := [(1, 457, e_Mo_sign), (1, 460, e_Mo_next), (1, 463, e_Mo_wrong)]
set_option maxRecDepth 100000 in
theorem c_Mo_need_at_gs5003e {l : Launch} {D : va_G} {kA : Nat → ClassId} (h_Mo_next : ct_ok PRD l D kA GG y_Mo_next z_Mo_next e_Mo_next) (h_Mo_sign : ct_ok PRD l D kA GG y_Mo_sign z_Mo_sign e_Mo_sign) (h_Mo_wrong : ct_ok PRD l D kA GG y_Mo_wrong z_Mo_wrong e_Mo_wrong) : ct_ok PRD l D kA GG y_Mo_need_at_gs5003e z_Mo_need_at_gs5003e e_Mo_need_at_gs5003e := chk_all_ok (FT := [(413, 13, 8), (428, 13, 13)]) (PT := []) (CT := t_Mo_need_at_gs5003e_ct) (KT := []) (NT := []) (AN := n_Mo_need_at_gs5003e_an) (OT := [o_Mo_need_at_gs5003e_0, o_Mo_need_at_gs5003e_1, o_Mo_need_at_gs5003e_2, o_Mo_need_at_gs5003e_3, o_Mo_need_at_gs5003e_4]) 0 200 (List.forall_mem_cons.mpr ⟨oo_Mo_need_at_gs5003e_0, List.forall_mem_cons.mpr ⟨oo_Mo_need_at_gs5003e_1, List.forall_mem_cons.mpr ⟨oo_Mo_need_at_gs5003e_2, List.forall_mem_cons.mpr ⟨oo_Mo_need_at_gs5003e_3, List.forall_mem_cons.mpr ⟨oo_Mo_need_at_gs5003e_4, List.forall_mem_nil _⟩⟩⟩⟩⟩) (by decide +kernel) ⟨List.forall_mem_cons.mpr ⟨gf_Mo_413, List.forall_mem_cons.mpr ⟨gf_Mo_428, List.forall_mem_nil _⟩⟩, List.forall_mem_nil _, List.forall_mem_cons.mpr ⟨cl_virtual (y := y_Mo_sign) (ci := 13) rfl rfl ⟨_, _, rfl⟩ (by decide +kernel) h_Mo_sign wm_3058 wm_9 wm_3055 wm_3057 wv_13_11 ⟨by decide, by decide, by decide +kernel⟩ (by decide), List.forall_mem_cons.mpr ⟨cl_virtual (y := y_Mo_next) (ci := 13) rfl rfl ⟨_, _, rfl⟩ (by decide +kernel) h_Mo_next wm_2982 wm_9 wm_2979 wm_2981 wv_12_11 ⟨by decide, by decide, by decide +kernel⟩ (by decide), List.forall_mem_cons.mpr ⟨cl_virtual (y := y_Mo_wrong) (ci := 13) rfl rfl ⟨_, _, rfl⟩ (by decide +kernel) h_Mo_wrong wm_3017 wm_9 wm_3014 wm_3016 wv_13_1 ⟨by decide, by decide, by decide +kernel⟩ (by decide), List.forall_mem_nil _⟩⟩⟩, List.forall_mem_nil _, List.forall_mem_nil _, GG_pl⟩ (by decide +kernel)
set_option maxHeartbeats 4000000 in
theorem vc_Mo_pull_0_r0 (x1 : Int) (x2 : Int) (x3 : Int) (x5 : Int) (fx_0 : Int → Int) (fy_0 : Int → Int) (k1 : 0 ≤ x1 ∧ x1 ≤ 23) (k2 : 1 ≤ x2 ∧ x2 ≤ 24) (k3 : 0 ≤ x3 ∧ x3 ≤ 23) (k5 : (-60256) ≤ x5 ∧ x5 ≤ 60256) (h2 : x5 = fx_0 (x1)) (f4 : x3 < x2) (f5 : FXD (fx_0) (fy_0) (x2)) (f6 : (x1 + 1) ≤ x2) : (-60000) ≤ x5 ∧ x5 ≤ 60000 := by
  first
    | omega
    | (have q := ‹FXD _ _ _› x1 (by omega) (by omega); have q2 := ‹FXD _ _ _› x3 (by omega) (by omega); omega)
    | (have q := sq_pos2 (x := x7) (y := x11) (a := x13) (b := x14) (s := x15) (by assumption) (by assumption) (by omega) (Or.inl (by omega)) (by omega) (by omega)
       omega)
    | (have q := sq_pos2 (x := 0) (y := x11) (a := x14) (b := x15) (s := x16) (by omega) (by assumption) (by omega) (Or.inr (by omega)) (by omega) (by omega)
       omega)
  
set_option maxHeartbeats 4000000 in
theorem vc_Mo_pull_0_r1 (x1 : Int) (x2 : Int) (x3 : Int) (x6 : Int) (fx_0 : Int → Int) (fy_0 : Int → Int) (k1 : 0 ≤ x1 ∧ x1 ≤ 23) (k2 : 1 ≤ x2 ∧ x2 ≤ 24) (k3 : 0 ≤ x3 ∧ x3 ≤ 23) (k6 : (-60256) ≤ x6 ∧ x6 ≤ 60256) (h0 : x6 = fx_0 (x3)) (f4 : x3 < x2) (f5 : FXD (fx_0) (fy_0) (x2)) (f6 : (x1 + 1) ≤ x2) : (-60000) ≤ x6 ∧ x6 ≤ 60000 := by
  first
    | omega
    | (have q := ‹FXD _ _ _› x1 (by omega) (by omega); have q2 := ‹FXD _ _ _› x3 (by omega) (by omega); omega)
    | (have q := sq_pos2 (x := x7) (y := x11) (a := x13) (b := x14) (s := x15) (by assumption) (by assumption) (by omega) (Or.inl (by omega)) (by omega) (by omega)
       omega)
    | (have q := sq_pos2 (x := 0) (y := x11) (a := x14) (b := x15) (s := x16) (by omega) (by assumption) (by omega) (Or.inr (by omega)) (by omega) (by omega)
       omega)
  
def o_Mo_pull_0 : or_T := (41, 7, [(0, (2, 0, 0, [165])), (1, (0, 0, 23, [])), (2, (0, 1, 24, [])), (3, (0, 0, 23, [])), (4, (2, 0, 0, [262])), (5, (1, -60256, 60256, [])), (6, (1, -60256, 60256, []))], [(10, [6, 4, 3], []), (9, [4, 0], [135]), (10, [5, 4, 1], []), (7, [3, 1], [1]), (7, [3, 2], [2]), (20, [0, 2], [60, 0, 2, 772, 135, 136]), (20, [1, 2], [50, 0, 0, 0, 6, 4, 2, 1, 0, 0, 1, 1, 1])], [(5, (1, -60000, 60000, [])), (6, (1, -60000, 60000, []))], [], [], [], [(3, 2, -4294967296, -1), (3, 2, -4294967296, 0)])
theorem oo_Mo_pull_0 {kA : Nat → ClassId} : or_ok PRD kA GG o_Mo_pull_0 := by
  refine or_mk fun A ta ws vs hD hth hl => ?_
  intro t0 r0 t1 k1 t2 k2 t3 k3 t4 r4 t5 k5 t6 k6 d0 d1 f0 f1 f2 f3 f4 f5 f6
  replace f0 := shm_107 f0
  replace f1 := shm_1746 f1
  replace f2 := shm_107 f2
  have ad_4 : v_ad (n_v vs 4) = w_ar ws (n_v vs 0) 135 := congrArg v_ad f1
  simp only [ad_4] at f0
  have h0 : v_iv (n_v vs 6) = w_ei ws (w_ar ws (n_v vs 0) 135) (v_iv (n_v vs 3)) := f0
  simp only [ad_4] at f2
  have h2 : v_iv (n_v vs 5) = w_ei ws (w_ar ws (n_v vs 0) 135) (v_iv (n_v vs 1)) := f2
  have hrf0 : (-60000) ≤ v_iv (n_v vs 5) ∧ v_iv (n_v vs 5) ≤ 60000 := vc_Mo_pull_0_r0 (v_iv (n_v vs 1)) (v_iv (n_v vs 2)) (v_iv (n_v vs 3)) (v_iv (n_v vs 5)) (w_ei ws (w_ar ws (n_v vs 0) 135)) (w_ei ws (w_ar ws (n_v vs 0) 136)) k1 k2 k3 k5 h2 (shm_6 f4) (shm_1747 f5) (shm_396 f6)
  have hrf1 : (-60000) ≤ v_iv (n_v vs 6) ∧ v_iv (n_v vs 6) ≤ 60000 := vc_Mo_pull_0_r1 (v_iv (n_v vs 1)) (v_iv (n_v vs 2)) (v_iv (n_v vs 3)) (v_iv (n_v vs 6)) (w_ei ws (w_ar ws (n_v vs 0) 135)) (w_ei ws (w_ar ws (n_v vs 0) 136)) k1 k2 k3 k6 h0 (shm_6 f4) (shm_1747 f5) (shm_396 f6)
  have rf5 : tv_ok ta (1, -60000, 60000, []) (n_v vs 5) := tv_inL t5 (by first | omega | grind) (by first | omega | grind)
  have rf6 : tv_ok ta (1, -60000, 60000, []) (n_v vs 6) := tv_inL t6 (by first | omega | grind) (by first | omega | grind)
  refine ⟨List.forall_mem_cons.mpr ⟨rf5, List.forall_mem_cons.mpr ⟨rf6, (fun _ h => (by cases h))⟩⟩, [], trivial, ?_, (fun _ h => (by cases h))⟩
  rw [List.append_nil]
  exact (fun _ h => (by cases h))
set_option maxHeartbeats 4000000 in
theorem vc_Mo_pull_1_r0 (x1 : Int) (x2 : Int) (x3 : Int) (x7 : Int) (x9 : Int) (fy_0 : Int → Int) (fx_0 : Int → Int) (k1 : 0 ≤ x1 ∧ x1 ≤ 23) (k2 : 1 ≤ x2 ∧ x2 ≤ 24) (k3 : 0 ≤ x3 ∧ x3 ≤ 23) (k9 : (-60256) ≤ x9 ∧ x9 ≤ 60256) (h2 : x9 = fy_0 (x1)) (f8 : x3 < x2) (f9 : FXD (fx_0) (fy_0) (x2)) (f10 : (x1 + 1) ≤ x2) : (-60000) ≤ x9 ∧ x9 ≤ 60000 := by
  first
    | omega
    | (have q := ‹FXD _ _ _› x1 (by omega) (by omega); have q2 := ‹FXD _ _ _› x3 (by omega) (by omega); omega)
    | (have q := sq_pos2 (x := x7) (y := x11) (a := x13) (b := x14) (s := x15) (by assumption) (by assumption) (by omega) (Or.inl (by omega)) (by omega) (by omega)
       omega)
    | (have q := sq_pos2 (x := 0) (y := x11) (a := x14) (b := x15) (s := x16) (by omega) (by assumption) (by omega) (Or.inr (by omega)) (by omega) (by omega)
       omega)
  
set_option maxHeartbeats 4000000 in
theorem vc_Mo_pull_1_r1 (x1 : Int) (x2 : Int) (x3 : Int) (x7 : Int) (x10 : Int) (fy_0 : Int → Int) (fx_0 : Int → Int) (k1 : 0 ≤ x1 ∧ x1 ≤ 23) (k2 : 1 ≤ x2 ∧ x2 ≤ 24) (k3 : 0 ≤ x3 ∧ x3 ≤ 23) (k10 : (-60256) ≤ x10 ∧ x10 ≤ 60256) (h0 : x10 = fy_0 (x3)) (f8 : x3 < x2) (f9 : FXD (fx_0) (fy_0) (x2)) (f10 : (x1 + 1) ≤ x2) : (-60000) ≤ x10 ∧ x10 ≤ 60000 := by
  first
    | omega
    | (have q := ‹FXD _ _ _› x1 (by omega) (by omega); have q2 := ‹FXD _ _ _› x3 (by omega) (by omega); omega)
    | (have q := sq_pos2 (x := x7) (y := x11) (a := x13) (b := x14) (s := x15) (by assumption) (by assumption) (by omega) (Or.inl (by omega)) (by omega) (by omega)
       omega)
    | (have q := sq_pos2 (x := 0) (y := x11) (a := x14) (b := x15) (s := x16) (by omega) (by assumption) (by omega) (Or.inr (by omega)) (by omega) (by omega)
       omega)
  
def o_Mo_pull_1 : or_T := (56, 11, [(0, (2, 0, 0, [165])), (1, (0, 0, 23, [])), (2, (0, 1, 24, [])), (3, (0, 0, 23, [])), (4, (2, 0, 0, [262])), (5, (1, -60000, 60000, [])), (6, (1, -60000, 60000, [])), (7, (1, -120000, 120000, [])), (8, (2, 0, 0, [263])), (9, (1, -60256, 60256, [])), (10, (1, -60256, 60256, []))], [(10, [10, 8, 3], []), (9, [8, 0], [136]), (10, [9, 8, 1], []), (2, [7, 5, 6], []), (10, [6, 4, 3], []), (9, [4, 0], [135]), (10, [5, 4, 1], []), (7, [3, 1], [1]), (7, [3, 2], [2]), (20, [0, 2], [60, 0, 2, 772, 135, 136]), (20, [1, 2], [50, 0, 0, 0, 6, 4, 2, 1, 0, 0, 1, 1, 1])], [(9, (1, -60000, 60000, [])), (10, (1, -60000, 60000, []))], [], [], [], [(3, 2, -4294967296, -1), (3, 2, -4294967296, 0)])
theorem oo_Mo_pull_1 {kA : Nat → ClassId} : or_ok PRD kA GG o_Mo_pull_1 := by
  refine or_mk fun A ta ws vs hD hth hl => ?_
  intro t0 r0 t1 k1 t2 k2 t3 k3 t4 r4 t5 k5 t6 k6 t7 k7 t8 r8 t9 k9 t10 k10 d0 d1 f0 f1 f2 f3 f4 f5 f6 f7 f8 f9 f10
  replace f0 := shm_107 f0
  replace f1 := shm_1748 f1
  replace f2 := shm_107 f2
  have ad_8 : v_ad (n_v vs 8) = w_ar ws (n_v vs 0) 136 := congrArg v_ad f1
  simp only [ad_8] at f0
  have h0 : v_iv (n_v vs 10) = w_ei ws (w_ar ws (n_v vs 0) 136) (v_iv (n_v vs 3)) := f0
  simp only [ad_8] at f2
  have h2 : v_iv (n_v vs 9) = w_ei ws (w_ar ws (n_v vs 0) 136) (v_iv (n_v vs 1)) := f2
  have hrf0 : (-60000) ≤ v_iv (n_v vs 9) ∧ v_iv (n_v vs 9) ≤ 60000 := vc_Mo_pull_1_r0 (v_iv (n_v vs 1)) (v_iv (n_v vs 2)) (v_iv (n_v vs 3)) (v_iv (n_v vs 7)) (v_iv (n_v vs 9)) (w_ei ws (w_ar ws (n_v vs 0) 136)) (w_ei ws (w_ar ws (n_v vs 0) 135)) k1 k2 k3 k9 h2 (shm_6 f8) (shm_1747 f9) (shm_396 f10)
  have hrf1 : (-60000) ≤ v_iv (n_v vs 10) ∧ v_iv (n_v vs 10) ≤ 60000 := vc_Mo_pull_1_r1 (v_iv (n_v vs 1)) (v_iv (n_v vs 2)) (v_iv (n_v vs 3)) (v_iv (n_v vs 7)) (v_iv (n_v vs 10)) (w_ei ws (w_ar ws (n_v vs 0) 136)) (w_ei ws (w_ar ws (n_v vs 0) 135)) k1 k2 k3 k10 h0 (shm_6 f8) (shm_1747 f9) (shm_396 f10)
  have rf9 : tv_ok ta (1, -60000, 60000, []) (n_v vs 9) := tv_inL t9 (by first | omega | grind) (by first | omega | grind)
  have rf10 : tv_ok ta (1, -60000, 60000, []) (n_v vs 10) := tv_inL t10 (by first | omega | grind) (by first | omega | grind)
  refine ⟨List.forall_mem_cons.mpr ⟨rf9, List.forall_mem_cons.mpr ⟨rf10, (fun _ h => (by cases h))⟩⟩, [], trivial, ?_, (fun _ h => (by cases h))⟩
  rw [List.append_nil]
  exact (fun _ h => (by cases h))
set_option maxHeartbeats 4000000 in
theorem vc_Mo_pull_2_r0 (x1 : Int) (x3 : Int) (x5 : Int) (x6 : Int) (x7 : Int) (x11 : Int) (x12 : Int) (x13 : Int) (x14 : Int) (x15 : Int) (fx_0 : Int → Int) (k1 : 0 ≤ x1 ∧ x1 ≤ 23) (k3 : 0 ≤ x3 ∧ x3 ≤ 23) (k5 : (-60000) ≤ x5 ∧ x5 ≤ 60000) (k6 : (-60000) ≤ x6 ∧ x6 ≤ 60000) (k7 : (-120000) ≤ x7 ∧ x7 ≤ 120000) (k11 : (-120000) ≤ x11 ∧ x11 ≤ 120000) (k12 : 0 ≤ x12 ∧ x12 ≤ 0) (k13 : (-14400000000) ≤ x13 ∧ x13 ≤ 14400000000) (k14 : (-14400000000) ≤ x14 ∧ x14 ≤ 14400000000) (k15 : (-28800000000) ≤ x15 ∧ x15 ≤ 28800000000) (f1 : x15 = x13 + x14) (f2 : x14 = x11 * x11) (f3 : x13 = x7 * x7) (f4 : x7 ≠ x12) (f9 : x7 = x5 - x6) (h10 : x6 = fx_0 (x3)) (h12 : x5 = fx_0 (x1)) (f13 : x3 ≠ x1) : 1 ≤ x15 ∧ x15 ≤ 28800000000 := by
  first
    | omega
    | (have q := ‹FXD _ _ _› x1 (by omega) (by omega); have q2 := ‹FXD _ _ _› x3 (by omega) (by omega); omega)
    | (have q := sq_pos2 (x := x7) (y := x11) (a := x13) (b := x14) (s := x15) (by assumption) (by assumption) (by omega) (Or.inl (by omega)) (by omega) (by omega)
       omega)
    | (have q := sq_pos2 (x := 0) (y := x11) (a := x14) (b := x15) (s := x16) (by omega) (by assumption) (by omega) (Or.inr (by omega)) (by omega) (by omega)
       omega)
  
def o_Mo_pull_2 : or_T := (115, 20, [(0, (2, 0, 0, [165])), (1, (0, 0, 23, [])), (2, (0, 1, 24, [])), (3, (0, 0, 23, [])), (4, (2, 0, 0, [262])), (5, (1, -60000, 60000, [])), (6, (1, -60000, 60000, [])), (7, (1, -120000, 120000, [])), (8, (2, 0, 0, [263])), (9, (1, -60000, 60000, [])), (10, (1, -60000, 60000, [])), (11, (1, -120000, 120000, [])), (12, (1, 0, 0, [])), (13, (1, -14400000000, 14400000000, [])), (14, (1, -14400000000, 14400000000, [])), (15, (1, -28800000000, 28800000000, [])), (18, (1, 65536, 65536, [])), (19, (1, -7864320000, 7864320000, []))], [(3, [19, 7, 18], []), (1, [15, 13, 14], []), (3, [14, 11, 11], []), (3, [13, 7, 7], []), (7, [7, 12], [1]), (2, [11, 9, 10], []), (10, [10, 8, 3], []), (9, [8, 0], [136]), (10, [9, 8, 1], []), (2, [7, 5, 6], []), (10, [6, 4, 3], []), (9, [4, 0], [135]), (10, [5, 4, 1], []), (7, [3, 1], [1]), (7, [3, 2], [2]), (20, [0, 2], [60, 0, 2, 772, 135, 136]), (20, [1, 2], [50, 0, 0, 0, 6, 4, 2, 1, 0, 0, 1, 1, 1])], [(15, (1, 1, 28800000000, []))], [], [], [], [(3, 2, -4294967296, -1), (3, 2, -4294967296, 0)])
theorem oo_Mo_pull_2 {kA : Nat → ClassId} : or_ok PRD kA GG o_Mo_pull_2 := by
  refine or_mk fun A ta ws vs hD hth hl => ?_
  intro t0 r0 t1 k1 t2 k2 t3 k3 t4 r4 t5 k5 t6 k6 t7 k7 t8 r8 t9 k9 t10 k10 t11 k11 t12 k12 t13 k13 t14 k14 t15 k15 t18 k18 t19 k19 d0 d1 f0 f1 f2 f3 f4 f5 f6 f7 f8 f9 f10 f11 f12 f13 f14 f15 f16
  replace f10 := shm_107 f10
  replace f11 := shm_1746 f11
  replace f12 := shm_107 f12
  have ad_4 : v_ad (n_v vs 4) = w_ar ws (n_v vs 0) 135 := congrArg v_ad f11
  simp only [ad_4] at f10
  have h10 : v_iv (n_v vs 6) = w_ei ws (w_ar ws (n_v vs 0) 135) (v_iv (n_v vs 3)) := f10
  simp only [ad_4] at f12
  have h12 : v_iv (n_v vs 5) = w_ei ws (w_ar ws (n_v vs 0) 135) (v_iv (n_v vs 1)) := f12
  have hrf0 : 1 ≤ v_iv (n_v vs 15) ∧ v_iv (n_v vs 15) ≤ 28800000000 := vc_Mo_pull_2_r0 (v_iv (n_v vs 1)) (v_iv (n_v vs 3)) (v_iv (n_v vs 5)) (v_iv (n_v vs 6)) (v_iv (n_v vs 7)) (v_iv (n_v vs 11)) (v_iv (n_v vs 12)) (v_iv (n_v vs 13)) (v_iv (n_v vs 14)) (v_iv (n_v vs 15)) (w_ei ws (w_ar ws (n_v vs 0) 135)) k1 k3 k5 k6 k7 k11 k12 k13 k14 k15 (shm_12 f1) (shm_175 f2) (shm_175 f3) (shm_40 f4) (shm_14 f9) h10 h12 (shm_40 f13)
  have rf15 : tv_ok ta (1, 1, 28800000000, []) (n_v vs 15) := tv_inL t15 (by first | omega | grind) (by first | omega | grind)
  refine ⟨List.forall_mem_cons.mpr ⟨rf15, (fun _ h => (by cases h))⟩, [], trivial, ?_, (fun _ h => (by cases h))⟩
  rw [List.append_nil]
  exact (fun _ h => (by cases h))
set_option maxHeartbeats 4000000 in
theorem vc_Mo_pull_3_r0 (x1 : Int) (x3 : Int) (x7 : Int) (x9 : Int) (x10 : Int) (x11 : Int) (x13 : Int) (x14 : Int) (x15 : Int) (x16 : Int) (fy_0 : Int → Int) (k1 : 0 ≤ x1 ∧ x1 ≤ 23) (k3 : 0 ≤ x3 ∧ x3 ≤ 23) (k9 : (-60000) ≤ x9 ∧ x9 ≤ 60000) (k10 : (-60000) ≤ x10 ∧ x10 ≤ 60000) (k11 : (-120000) ≤ x11 ∧ x11 ≤ 120000) (k13 : 0 ≤ x13 ∧ x13 ≤ 0) (k14 : 0 ≤ x14 ∧ x14 ≤ 0) (k15 : (-14400000000) ≤ x15 ∧ x15 ≤ 14400000000) (k16 : (-14400000000) ≤ x16 ∧ x16 ≤ 14400000000) (f1 : x16 = x14 + x15) (f2 : x15 = x11 * x11) (f3 : x14 = 0 * 0) (f4 : x11 ≠ x13) (f6 : x11 = x9 - x10) (h7 : x10 = fy_0 (x3)) (h9 : x9 = fy_0 (x1)) (f14 : x3 ≠ x1) : 1 ≤ x16 ∧ x16 ≤ 14400000000 := by
  first
    | omega
    | (have q := ‹FXD _ _ _› x1 (by omega) (by omega); have q2 := ‹FXD _ _ _› x3 (by omega) (by omega); omega)
    | (have q := sq_pos2 (x := x7) (y := x11) (a := x13) (b := x14) (s := x15) (by assumption) (by assumption) (by omega) (Or.inl (by omega)) (by omega) (by omega)
       omega)
    | (have q := sq_pos2 (x := 0) (y := x11) (a := x14) (b := x15) (s := x16) (by omega) (by assumption) (by omega) (Or.inr (by omega)) (by omega) (by omega)
       omega)
  
def o_Mo_pull_3 : or_T := (115, 21, [(0, (2, 0, 0, [165])), (1, (0, 0, 23, [])), (2, (0, 1, 24, [])), (3, (0, 0, 23, [])), (4, (2, 0, 0, [262])), (5, (1, -60000, 60000, [])), (6, (1, -60000, 60000, [])), (7, (1, 0, 0, [])), (8, (2, 0, 0, [263])), (9, (1, -60000, 60000, [])), (10, (1, -60000, 60000, [])), (11, (1, -120000, 120000, [])), (12, (1, 0, 0, [])), (13, (1, 0, 0, [])), (14, (1, 0, 0, [])), (15, (1, -14400000000, 14400000000, [])), (16, (1, -14400000000, 14400000000, [])), (19, (1, 65536, 65536, [])), (20, (1, 0, 0, []))], [(3, [20, 7, 19], []), (1, [16, 14, 15], []), (3, [15, 11, 11], []), (3, [14, 7, 7], []), (7, [11, 13], [1]), (7, [7, 12], [0]), (2, [11, 9, 10], []), (10, [10, 8, 3], []), (9, [8, 0], [136]), (10, [9, 8, 1], []), (2, [7, 5, 6], []), (10, [6, 4, 3], []), (9, [4, 0], [135]), (10, [5, 4, 1], []), (7, [3, 1], [1]), (7, [3, 2], [2]), (20, [0, 2], [60, 0, 2, 772, 135, 136]), (20, [1, 2], [50, 0, 0, 0, 6, 4, 2, 1, 0, 0, 1, 1, 1])], [(16, (1, 1, 14400000000, []))], [], [], [], [(3, 2, -4294967296, -1), (3, 2, -4294967296, 0)])
theorem oo_Mo_pull_3 {kA : Nat → ClassId} : or_ok PRD kA GG o_Mo_pull_3 := by
  refine or_mk fun A ta ws vs hD hth hl => ?_
  intro t0 r0 t1 k1 t2 k2 t3 k3 t4 r4 t5 k5 t6 k6 t7 k7 t8 r8 t9 k9 t10 k10 t11 k11 t12 k12 t13 k13 t14 k14 t15 k15 t16 k16 t19 k19 t20 k20 d0 d1 f0 f1 f2 f3 f4 f5 f6 f7 f8 f9 f10 f11 f12 f13 f14 f15 f16 f17
  replace f3 := shm_175 f3
  rw [show v_iv (n_v vs 7) = 0 from by omega] at f3
  replace f7 := shm_107 f7
  replace f8 := shm_1748 f8
  replace f9 := shm_107 f9
  have ad_8 : v_ad (n_v vs 8) = w_ar ws (n_v vs 0) 136 := congrArg v_ad f8
  simp only [ad_8] at f7
  have h7 : v_iv (n_v vs 10) = w_ei ws (w_ar ws (n_v vs 0) 136) (v_iv (n_v vs 3)) := f7
  simp only [ad_8] at f9
  have h9 : v_iv (n_v vs 9) = w_ei ws (w_ar ws (n_v vs 0) 136) (v_iv (n_v vs 1)) := f9
  have hrf0 : 1 ≤ v_iv (n_v vs 16) ∧ v_iv (n_v vs 16) ≤ 14400000000 := vc_Mo_pull_3_r0 (v_iv (n_v vs 1)) (v_iv (n_v vs 3)) (v_iv (n_v vs 7)) (v_iv (n_v vs 9)) (v_iv (n_v vs 10)) (v_iv (n_v vs 11)) (v_iv (n_v vs 13)) (v_iv (n_v vs 14)) (v_iv (n_v vs 15)) (v_iv (n_v vs 16)) (w_ei ws (w_ar ws (n_v vs 0) 136)) k1 k3 k9 k10 k11 k13 k14 k15 k16 (shm_12 f1) (shm_175 f2) f3 (shm_40 f4) (shm_14 f6) h7 h9 (shm_40 f14)
  have rf16 : tv_ok ta (1, 1, 14400000000, []) (n_v vs 16) := tv_inL t16 (by first | omega | grind) (by first | omega | grind)
  refine ⟨List.forall_mem_cons.mpr ⟨rf16, (fun _ h => (by cases h))⟩, [], trivial, ?_, (fun _ h => (by cases h))⟩
  rw [List.append_nil]
  exact (fun _ h => (by cases h))
def n_Mo_pull_an : List an_T := [(16, [(0, (2, 0, 0, [165])), (1, (0, 0, 23, [])), (2, (0, 1, 24, [])), (3, (0, 0, 24, []))], [], (0, 0), [(0, 0, 99984), (1, 3, 24), (0, 0, 100000)], [(3, 2, (Int.negSucc 999999999999), 0)], [], [], 0, [], [(20, [0, 2], [60, 0, 2, 772, 135, 136]), (20, [1, 2], [50, 0, 0, 0, 6, 4, 2, 1, 0, 0, 1, 1, 1])])]
def t_Mo_pull_ct : ct_L := [(0, 1011, e_Mo_rootOf), (1, 488, e_Mo_between), (1, 737, e_Mo_weight)]
