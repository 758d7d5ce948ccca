
def o_Mo_dropEdge_at_gx_1 : or_T := (158, 13, [(0, (2, 0, 0, [165])), (1, (0, 0, 47, [])), (2, (2, 0, 0, [165])), (3, (0, 0, 47, [])), (4, (0, 0, 47, [])), (5, (0, 1, 1, [])), (6, (0, 1, 48, [])), (7, (0, 0, 48, [])), (8, (2, 0, 0, [167])), (9, (0, 0, 66297, [])), (10, (0, 1, 1, [])), (11, (0, 1, 66298, [])), (12, (0, 0, 48, []))], [(10, [12, 8, 11], []), (1, [11, 9, 10], []), (9, [9, 2], [5]), (9, [8, 2], [2]), (7, [6, 7], [3]), (20, [7, 2], [30, 0, 1, 0, 0, -1, 3, 2005001]), (20, [7, 2], [30, 0, -1, 0, 0, 1, 3, 2005001]), (1, [6, 4, 5], []), (20, [3, 2], [30, -1, 1, 0, 0, -1, 3, 2005001]), (20, [2, 3, 4], [60, 1, 3, 213, 5, 2, 3, 4]), (24, [0, 2], []), (24, [1, 3], [])], [(12, (0, 1, 48, []))], [], [], [], [(11, 9, 1, 1), (6, 7, 0, 4294967296), (6, 4, 1, 1), (1, 3, -4294967296, 0), (1, 4, -4294967296, 0), (3, 1, -4294967296, 0), (3, 4, -4294967296, 0)])
theorem oo_Mo_dropEdge_at_gx_1 {kA : Nat → ClassId} : or_ok PRD kA GG o_Mo_dropEdge_at_gx_1 := by
  refine or_mk fun A ta ws vs hD hth hl => ?_
  intro t0 r0 t1 k1 t2 r2 t3 k3 t4 k4 t5 k5 t6 k6 t7 k7 t8 r8 t9 k9 t10 k10 t11 k11 t12 k12 d0 d1 d2 d3 d4 d5 d6 f0 f1 f2 f3 f4 f5 f6 f7 f8 f9 f10 f11
  replace f0 := shm_107 f0
  replace f1 := shm_12 f1
  replace f2 := shm_110 f2
  replace f3 := shm_120 f3
  replace f4 := shm_2 f4
  replace f5 := shm_121 f5
  replace f6 := shm_122 f6
  replace f7 := shm_12 f7
  replace f8 := shm_979 f8
  replace f9 := shm_988 f9
  replace f10 := shm_5 f10
  replace f11 := shm_5 f11
  have q2 : n_v vs 2 = n_v vs 0 := f10.symm
  have q3 : n_v vs 3 = n_v vs 1 := f11.symm
  simp only [q2, q3] at f2 f3 f5 f6 f8 f9
  have cr_0_2 := fdq_10 hD hth r0
  have cr_0_3 := fdq_142 hD hth r0
  have cr_0_4 := fdq_143 hD hth r0
  have ad_8 : v_ad (n_v vs 8) = w_ar ws (n_v vs 0) 2 := congrArg v_ad f3
  simp only [ad_8] at f0
  have h0 : v_iv (n_v vs 12) = w_ei ws (w_ar ws (n_v vs 0) 2) (v_iv (n_v vs 11)) := f0
  have g2 : v_iv (n_v vs 9) = w_fi ws (n_v vs 0) 5 := congrArg v_iv f2
  have cg0_F5_1 : v_iv (n_v vs 11) = w_fi ws (n_v vs 0) 5 + 1 → w_el ws (w_ar ws (n_v vs 0) 2) (v_iv (n_v vs 11)).toNat = w_el ws (w_ar ws (n_v vs 0) 2) (w_fi ws (n_v vs 0) 5 + 1).toNat := fun h => by rw [h]
  have br_0_2_F5_1_0 : w_ei ws (w_ar ws (n_v vs 0) 2) (w_fi ws (n_v vs 0) 5 + 1) = w_el ws (w_ar ws (n_v vs 0) 2) (w_fi ws (n_v vs 0) 5 + 1).toNat := rfl
  have br_0_2_11_0 : w_ei ws (w_ar ws (n_v vs 0) 2) (v_iv (n_v vs 11)) = w_el ws (w_ar ws (n_v vs 0) 2) (v_iv (n_v vs 11)).toNat := rfl
  have hK_0_3 := elq_80 hD hth cr_0_3
  have hK_0_4 := elq_81 hD hth cr_0_4
  have rf12 : tv_ok ta (0, 1, 48, []) (n_v vs 12) := tv_in t12 (by first | omega | grind) (by first | omega | grind)
  refine ⟨List.forall_mem_cons.mpr ⟨rf12, (fun _ h => (by cases h))⟩, [], trivial, ?_, (fun _ h => (by cases h))⟩
  rw [List.append_nil]
  exact (fun _ h => (by cases h))
set_option maxHeartbeats 4000000 in
theorem vc_Mo_dropEdge_at_gx_2_0 (x1 : Int) (x3 : Int) (x9 : Int) (x11 : Int) (x12 : Int) (x14 : Int) (all_1 : Int → Int) (r_1 : Int) (r_0 : Int) (now_1 : Int → Int) (latest_1 : Int → Int) (all_0 : Int → Int) (now_0 : Int → Int) (latest_0 : Int → Int) (k1 : 0 ≤ x1 ∧ x1 ≤ 47) (k3 : 0 ≤ x3 ∧ x3 ≤ 47) (k9 : 0 ≤ x9 ∧ x9 ≤ 66297) (k11 : 1 ≤ x11 ∧ x11 ≤ 66298) (k12 : 1 ≤ x12 ∧ x12 ≤ 48) (k14 : 0 ≤ x14 ∧ x14 ≤ 47) (d0 : x12 + (-1) ≤ x14 ∧ x14 ≤ x12 + (-1)) (d1 : x9 + 1 ≤ x11 ∧ x11 ≤ x9 + 1) (d4 : x3 + (-4294967296) ≤ x1 ∧ x1 ≤ x3 + 0) (d6 : x1 + (-4294967296) ≤ x3 ∧ x3 ≤ x1 + 0) (h4 : x12 = all_1 (x11)) (g6 : x9 = r_1) (f12 : 1 * x1 + ((-1) * all_1 (r_0 + 1) + 0) ≤ (-1)) (fe_0_5_1 : r_0 = r_1) (hE_0_2_1 : ∀ j : Int, 0 ≤ j → (j = x11 → all_0 j = x14) ∧ (j ≠ x11 → all_0 j = all_1 j)) (hE_0_3_1 : ∀ j : Int, now_0 j = now_1 j) (hE_0_4_1 : ∀ j : Int, latest_0 j = latest_1 j) : 1 * x1 + ((-1) * all_0 (r_0 + 1) + 0) ≤ 0 := by
  subst fe_0_5_1
  have e_hE_0_3_1 := funext hE_0_3_1; subst e_hE_0_3_1
  have e_hE_0_4_1 := funext hE_0_4_1; subst e_hE_0_4_1
  first
    | (have q := hE_0_2_1 (r_0 + 0) (by omega); skip; (first | subst h4 | skip); omega)
    | (have e12 : x12 = r_0 + 1 := by omega
       subst e12
       have q := hE_0_2_1 (r_0 + 1) (by omega)
       skip; (first | subst h4 | skip)
       omega)
    | (have e12 : x11 = r_0 + 1 := by omega
       subst e12
       have q := hE_0_2_1 (r_0 + 1) (by omega)
       skip; (first | subst h4 | skip)
       omega)
set_option maxHeartbeats 4000000 in
theorem vc_Mo_dropEdge_at_gx_2_1 (x1 : Int) (x4 : Int) (x6 : Int) (x7 : Int) (x9 : Int) (x11 : Int) (x12 : Int) (x14 : Int) (all_1 : Int → Int) (r_1 : Int) (r_0 : Int) (now_1 : Int → Int) (latest_1 : Int → Int) (all_0 : Int → Int) (now_0 : Int → Int) (latest_0 : Int → Int) (k1 : 0 ≤ x1 ∧ x1 ≤ 47) (k4 : 0 ≤ x4 ∧ x4 ≤ 47) (k6 : 1 ≤ x6 ∧ x6 ≤ 48) (k7 : 0 ≤ x7 ∧ x7 ≤ 48) (k9 : 0 ≤ x9 ∧ x9 ≤ 66297) (k11 : 1 ≤ x11 ∧ x11 ≤ 66298) (k12 : 1 ≤ x12 ∧ x12 ≤ 48) (k14 : 0 ≤ x14 ∧ x14 ≤ 47) (d0 : x12 + (-1) ≤ x14 ∧ x14 ≤ x12 + (-1)) (d1 : x9 + 1 ≤ x11 ∧ x11 ≤ x9 + 1) (d2 : x7 + 0 ≤ x6 ∧ x6 ≤ x7 + 4294967296) (d3 : x4 + 1 ≤ x6 ∧ x6 ≤ x4 + 1) (h4 : x12 = all_1 (x11)) (g6 : x9 = r_1) (f9 : 1 * x7 + ((-1) * all_1 (r_0 + 1) + 0) ≤ 0) (f10 : (-1) * x7 + (1 * all_1 (r_0 + 1) + 0) ≤ 0) (f13 : DX2 (r_1) (all_1) (now_1) (latest_1) (x1) (x4)) (fe_0_5_1 : r_0 = r_1) (hE_0_2_1 : ∀ j : Int, 0 ≤ j → (j = x11 → all_0 j = x14) ∧ (j ≠ x11 → all_0 j = all_1 j)) (hE_0_3_1 : ∀ j : Int, now_0 j = now_1 j) (hE_0_4_1 : ∀ j : Int, latest_0 j = latest_1 j) : RWS (r_0) (all_0) (now_0) (latest_0) := by
  subst fe_0_5_1
  have e_hE_0_3_1 := funext hE_0_3_1; subst e_hE_0_3_1
  have e_hE_0_4_1 := funext hE_0_4_1; subst e_hE_0_4_1
  first
    | exact (de2_end ‹DE2 _ _ _ _ _ _ _› (by omega) (by assumption) (by omega) (by omega)).1
    | exact (de2_end ‹DX2 _ _ _ _ _ _› (by omega) (by assumption) (by omega) (by omega)).1
def o_Mo_dropEdge_at_gx_2 : or_T := (161, 15, [(0, (2, 0, 0, [165])), (1, (0, 0, 47, [])), (3, (0, 0, 47, [])), (4, (0, 0, 47, [])), (6, (0, 1, 48, [])), (7, (0, 0, 48, [])), (8, (2, 0, 0, [167])), (9, (0, 0, 66297, [])), (11, (0, 1, 66298, [])), (12, (0, 1, 48, [])), (14, (0, 0, 47, []))], [(24, [0, 2], []), (24, [1, 3], []), (100, [8, 11, 14], []), (10, [12, 8, 11], []), (9, [9, 2], [5]), (9, [8, 2], [2]), (20, [7, 2], [30, 0, 1, 0, 0, -1, 3, 2005001]), (20, [7, 2], [30, 0, -1, 0, 0, 1, 3, 2005001]), (20, [3, 2], [30, -1, 1, 0, 0, -1, 3, 2005001]), (20, [2, 3, 4], [60, 1, 3, 213, 5, 2, 3, 4])], [], [], [(20, [1, 0], [30, 0, 1, 0, 0, -1, 3, 2005001]), (20, [0], [60, 1, 3, 199, 5, 2, 3, 4])], [], [(14, 12, -1, -1), (11, 9, 1, 1), (6, 7, 0, 4294967296), (6, 4, 1, 1), (1, 3, -4294967296, 0), (3, 1, -4294967296, 0)])
theorem oo_Mo_dropEdge_at_gx_2 {kA : Nat → ClassId} : or_ok PRD kA GG o_Mo_dropEdge_at_gx_2 := by
  refine or_mk fun A ta ws vs hD hth hl => ?_
  intro t0 r0 t1 k1 t3 k3 t4 k4 t6 k6 t7 k7 t8 r8 t9 k9 t11 k11 t12 k12 t14 k14 d0 d1 d2 d3 d4 d6 f0 f1 ta1 w1 le1 s1 f4 f6 f7 f9 f10 f12 f13
  replace f0 := shm_5 f0
  replace f1 := shm_5 f1
  have s1 : (∀ b j, w_el ws b j = if b = v_ad (n_v vs 8) ∧ j = (v_iv (n_v vs 11)).toNat then v_iv (n_v vs 14) else w_el w1 b j) ∧ ∀ b k, w_fd ws b k = w_fd w1 b k := s1.2
  replace f4 := shm_107 f4
  replace f6 := shm_110 f6
  replace f7 := shm_120 f7
  replace f9 := shm_121 f9
  replace f10 := shm_122 f10
  replace f12 := shm_979 f12
  replace f13 := shm_988 f13
  have q2 : n_v vs 2 = n_v vs 0 := f0.symm
  have q3 : n_v vs 3 = n_v vs 1 := f1.symm
  simp only [q2, q3] at f6 f7 f9 f10 f12 f13
  have ar_0_2_1 : w_ar w1 (n_v vs 0) 2 = w_ar ws (n_v vs 0) 2 := congrArg v_ad (s1.2 _ _).symm
  have ar_0_3_1 : w_ar w1 (n_v vs 0) 3 = w_ar ws (n_v vs 0) 3 := congrArg v_ad (s1.2 _ _).symm
  have cr_0_3 := fdq_142 hD hth r0
  have ar_0_4_1 : w_ar w1 (n_v vs 0) 4 = w_ar ws (n_v vs 0) 4 := congrArg v_ad (s1.2 _ _).symm
  have cr_0_4 := fdq_143 hD hth r0
  have fi_0_5_1 : w_fi w1 (n_v vs 0) 5 = w_fi ws (n_v vs 0) 5 := by show v_iv (w_fd w1 _ _) = v_iv (w_fd ws _ _); rw [s1.2]
  have ad_8 : v_ad (n_v vs 8) = w_ar ws (n_v vs 0) 2 := (congrArg v_ad f7).trans ar_0_2_1
  simp only [ad_8] at f4
  have h4 : v_iv (n_v vs 12) = w_ei w1 (w_ar ws (n_v vs 0) 2) (v_iv (n_v vs 11)) := f4
  have g6 : v_iv (n_v vs 9) = w_fi w1 (n_v vs 0) 5 := congrArg v_iv f6
  simp only [ar_0_2_1, ar_0_3_1, ar_0_4_1] at f9 f10 f12 f13
  simp only [fi_0_5_1] at f9 f10 f12
  have fe_0_5_1 : w_fi ws (n_v vs 0) 5 = w_fi w1 (n_v vs 0) 5 := congrArg v_iv (s1.2 _ _)
  have hE_0_2_1 : ∀ j : Int, 0 ≤ j → (j = v_iv (n_v vs 11) → w_ei ws (w_ar ws (n_v vs 0) 2) j = v_iv (n_v vs 14)) ∧ (j ≠ v_iv (n_v vs 11) → w_ei ws (w_ar ws (n_v vs 0) 2) j = w_ei w1 (w_ar ws (n_v vs 0) 2) j) := fun j hj => ⟨fun h => by unfold w_ei; rw [s1.1, if_pos ⟨ad_8.symm, by rw [h]⟩], fun h => by unfold w_ei; rw [s1.1, if_neg (fun e => h (by have := e.2; omega))]⟩
  have hE_0_3_1 : ∀ j : Int, w_ei ws (w_ar ws (n_v vs 0) 3) j = w_ei w1 (w_ar ws (n_v vs 0) 3) j := el_kp s1.1 r8 cr_0_3 (by decide)
  have hE_0_4_1 : ∀ j : Int, w_ei ws (w_ar ws (n_v vs 0) 4) j = w_ei w1 (w_ar ws (n_v vs 0) 4) j := el_kp s1.1 r8 cr_0_4 (by decide)
  have nf0 : fc_1 PRD (20, [1, 0], [30, 0, 1, 0, 0, -1, 3, 2005001]) ws (vs) := ⟨nf_in hl rfl, sgq_121 (vc_Mo_dropEdge_at_gx_2_0 (v_iv (n_v vs 1)) (v_iv (n_v vs 3)) (v_iv (n_v vs 9)) (v_iv (n_v vs 11)) (v_iv (n_v vs 12)) (v_iv (n_v vs 14)) (w_ei w1 (w_ar ws (n_v vs 0) 2)) (w_fi w1 (n_v vs 0) 5) (w_fi ws (n_v vs 0) 5) (w_ei w1 (w_ar ws (n_v vs 0) 3)) (w_ei w1 (w_ar ws (n_v vs 0) 4)) (w_ei ws (w_ar ws (n_v vs 0) 2)) (w_ei ws (w_ar ws (n_v vs 0) 3)) (w_ei ws (w_ar ws (n_v vs 0) 4)) k1 k3 k9 k11 k12 k14 d0 d1 d4 d6 h4 g6 f12 fe_0_5_1 hE_0_2_1 hE_0_3_1 hE_0_4_1)⟩
  have nf1 : fc_1 PRD (20, [0], [60, 1, 3, 199, 5, 2, 3, 4]) ws (vs) := ⟨nf_in hl rfl, sgq_980 (vc_Mo_dropEdge_at_gx_2_1 (v_iv (n_v vs 1)) (v_iv (n_v vs 4)) (v_iv (n_v vs 6)) (v_iv (n_v vs 7)) (v_iv (n_v vs 9)) (v_iv (n_v vs 11)) (v_iv (n_v vs 12)) (v_iv (n_v vs 14)) (w_ei w1 (w_ar ws (n_v vs 0) 2)) (w_fi w1 (n_v vs 0) 5) (w_fi ws (n_v vs 0) 5) (w_ei w1 (w_ar ws (n_v vs 0) 3)) (w_ei w1 (w_ar ws (n_v vs 0) 4)) (w_ei ws (w_ar ws (n_v vs 0) 2)) (w_ei ws (w_ar ws (n_v vs 0) 3)) (w_ei ws (w_ar ws (n_v vs 0) 4)) k1 k4 k6 k7 k9 k11 k12 k14 d0 d1 d2 d3 h4 g6 f9 f10 f13 fe_0_5_1 hE_0_2_1 hE_0_3_1 hE_0_4_1)⟩
  refine ⟨(fun _ h => (by cases h)), [], trivial, ?_, (fun _ h => (by cases h))⟩
  rw [List.append_nil]
  exact List.forall_mem_cons.mpr ⟨⟨show (20 : Nat) < 100 from by decide, nf0⟩, List.forall_mem_cons.mpr ⟨⟨show (20 : Nat) < 100 from by decide, nf1⟩, (fun _ h => (by cases h))⟩⟩
set_option maxHeartbeats 4000000 in
theorem vc_Mo_dropEdge_at_gx_3_0 (x1 : Int) (x3 : Int) (x4 : Int) (x5 : Int) (x6 : Int) (x7 : Int) (x9 : Int) (x10 : Int) (x11 : Int) (x12 : Int) (x13 : Int) (x14 : Int) (x15 : Int) (x16 : Int) (x17 : Int) (x18 : Int) (x19 : Int) (x20 : Int) (x21 : Int) (x22 : Int) (x23 : Int) (x24 : Int) (x25 : Int) (x26 : Int) (x27 : Int) (x28 : Int) (x29 : Int) (x30 : Int) (x31 : Int) (x32 : Int) (x33 : Int) (x34 : Int) (x35 : Int) (x36 : Int) (x37 : Int) (x38 : Int) (x39 : Int) (x40 : Int) (x41 : Int) (x42 : Int) (x43 : Int) (x44 : Int) (x45 : Int) (x46 : Int) (all_1 : Int → Int) (r_1 : Int) (all_2 : Int → Int) (all_3 : Int → Int) (all_4 : Int → Int) (r_0 : Int) (now_4 : Int → Int) (latest_4 : Int → Int) (r_4 : Int) (r_2 : Int) (r_3 : Int) (all_0 : Int → Int) (now_0 : Int → Int) (now_1 : Int → Int) (now_2 : Int → Int) (now_3 : Int → Int) (latest_0 : Int → Int) (latest_1 : Int → Int) (latest_2 : Int → Int) (latest_3 : Int → Int) (k1 : 0 ≤ x1 ∧ x1 ≤ 47) (k3 : 0 ≤ x3 ∧ x3 ≤ 47) (k4 : 0 ≤ x4 ∧ x4 ≤ 46) (k5 : 1 ≤ x5 ∧ x5 ≤ 1) (k6 : 1 ≤ x6 ∧ x6 ≤ 47) (k7 : 2 ≤ x7 ∧ x7 ≤ 48) (k9 : 0 ≤ x9 ∧ x9 ≤ 66297) (k10 : 267 ≤ x10 ∧ x10 ≤ 267) (k11 : 267 ≤ x11 ∧ x11 ≤ 66564) (k12 : 267 ≤ x12 ∧ x12 ≤ 66610) (k13 : 267 ≤ x13 ∧ x13 ≤ 267) (k14 : 267 ≤ x14 ∧ x14 ≤ 66564) (k15 : 267 ≤ x15 ∧ x15 ≤ 66610) (k16 : 1 ≤ x16 ∧ x16 ≤ 1) (k17 : 268 ≤ x17 ∧ x17 ≤ 66611) (k18 : 0 ≤ x18 ∧ x18 ≤ 23) (k19 : 315 ≤ x19 ∧ x19 ≤ 315) (k20 : 315 ≤ x20 ∧ x20 ≤ 66612) (k21 : 315 ≤ x21 ∧ x21 ≤ 66658) (k22 : 315 ≤ x22 ∧ x22 ≤ 315) (k23 : 315 ≤ x23 ∧ x23 ≤ 66612) (k24 : 315 ≤ x24 ∧ x24 ≤ 66658) (k25 : 1 ≤ x25 ∧ x25 ≤ 1) (k26 : 316 ≤ x26 ∧ x26 ≤ 66659) (k27 : 0 ≤ x27 ∧ x27 ≤ 23) (k28 : 363 ≤ x28 ∧ x28 ≤ 363) (k29 : 363 ≤ x29 ∧ x29 ≤ 66660) (k30 : 363 ≤ x30 ∧ x30 ≤ 66706) (k31 : 363 ≤ x31 ∧ x31 ≤ 363) (k32 : 363 ≤ x32 ∧ x32 ≤ 66660) (k33 : 363 ≤ x33 ∧ x33 ≤ 66706) (k34 : 1 ≤ x34 ∧ x34 ≤ 1) (k35 : 364 ≤ x35 ∧ x35 ≤ 66707) (k36 : 0 ≤ x36 ∧ x36 ≤ 9) (k37 : 411 ≤ x37 ∧ x37 ≤ 411) (k38 : 411 ≤ x38 ∧ x38 ≤ 66708) (k39 : 411 ≤ x39 ∧ x39 ≤ 66754) (k40 : 411 ≤ x40 ∧ x40 ≤ 411) (k41 : 411 ≤ x41 ∧ x41 ≤ 66708) (k42 : 411 ≤ x42 ∧ x42 ≤ 66754) (k43 : 1 ≤ x43 ∧ x43 ≤ 1) (k44 : 412 ≤ x44 ∧ x44 ≤ 66755) (k45 : 0 ≤ x45 ∧ x45 ≤ 1) (k46 : 1 ≤ x46 ∧ x46 ≤ 47) (d0 : x4 + 1 ≤ x46 ∧ x46 ≤ x4 + 1) (d1 : x42 + 1 ≤ x44 ∧ x44 ≤ x42 + 1) (d2 : x4 + 412 ≤ x44 ∧ x44 ≤ x4 + 66709) (d3 : x41 + 1 ≤ x44 ∧ x44 ≤ x41 + 47) (d4 : x9 + 412 ≤ x44 ∧ x44 ≤ x9 + 458) (d5 : x4 + 411 ≤ x42 ∧ x42 ≤ x4 + 66708) (d6 : x41 + 0 ≤ x42 ∧ x42 ≤ x41 + 46) (d7 : x9 + 411 ≤ x42 ∧ x42 ≤ x9 + 457) (d8 : x9 + 411 ≤ x41 ∧ x41 ≤ x9 + 411) (d9 : x4 + 411 ≤ x39 ∧ x39 ≤ x4 + 66708) (d10 : x38 + 0 ≤ x39 ∧ x39 ≤ x38 + 46) (d11 : x9 + 411 ≤ x39 ∧ x39 ≤ x9 + 457) (d12 : x9 + 411 ≤ x38 ∧ x38 ≤ x9 + 411) (d13 : x33 + 1 ≤ x35 ∧ x35 ≤ x33 + 1) (d14 : x4 + 364 ≤ x35 ∧ x35 ≤ x4 + 66661) (d15 : x32 + 1 ≤ x35 ∧ x35 ≤ x32 + 47) (d16 : x9 + 364 ≤ x35 ∧ x35 ≤ x9 + 410) (d17 : x4 + 363 ≤ x33 ∧ x33 ≤ x4 + 66660) (d18 : x32 + 0 ≤ x33 ∧ x33 ≤ x32 + 46) (d19 : x9 + 363 ≤ x33 ∧ x33 ≤ x9 + 409) (d20 : x9 + 363 ≤ x32 ∧ x32 ≤ x9 + 363) (d21 : x4 + 363 ≤ x30 ∧ x30 ≤ x4 + 66660) (d22 : x29 + 0 ≤ x30 ∧ x30 ≤ x29 + 46) (d23 : x9 + 363 ≤ x30 ∧ x30 ≤ x9 + 409) (d24 : x9 + 363 ≤ x29 ∧ x29 ≤ x9 + 363) (d25 : x24 + 1 ≤ x26 ∧ x26 ≤ x24 + 1) (d26 : x4 + 316 ≤ x26 ∧ x26 ≤ x4 + 66613) (d27 : x23 + 1 ≤ x26 ∧ x26 ≤ x23 + 47) (d28 : x9 + 316 ≤ x26 ∧ x26 ≤ x9 + 362) (d29 : x4 + 315 ≤ x24 ∧ x24 ≤ x4 + 66612) (d30 : x23 + 0 ≤ x24 ∧ x24 ≤ x23 + 46) (d31 : x9 + 315 ≤ x24 ∧ x24 ≤ x9 + 361) (d32 : x9 + 315 ≤ x23 ∧ x23 ≤ x9 + 315) (d33 : x4 + 315 ≤ x21 ∧ x21 ≤ x4 + 66612) (d34 : x20 + 0 ≤ x21 ∧ x21 ≤ x20 + 46) (d35 : x9 + 315 ≤ x21 ∧ x21 ≤ x9 + 361) (d36 : x9 + 315 ≤ x20 ∧ x20 ≤ x9 + 315) (d37 : x15 + 1 ≤ x17 ∧ x17 ≤ x15 + 1) (d38 : x4 + 268 ≤ x17 ∧ x17 ≤ x4 + 66565) (d39 : x14 + 1 ≤ x17 ∧ x17 ≤ x14 + 47) (d40 : x9 + 268 ≤ x17 ∧ x17 ≤ x9 + 314) (d41 : x4 + 267 ≤ x15 ∧ x15 ≤ x4 + 66564) (d42 : x14 + 0 ≤ x15 ∧ x15 ≤ x14 + 46) (d43 : x9 + 267 ≤ x15 ∧ x15 ≤ x9 + 313) (d44 : x9 + 267 ≤ x14 ∧ x14 ≤ x9 + 267) (d45 : x4 + 267 ≤ x12 ∧ x12 ≤ x4 + 66564) (d46 : x11 + 0 ≤ x12 ∧ x12 ≤ x11 + 46) (d47 : x9 + 267 ≤ x12 ∧ x12 ≤ x9 + 313) (d48 : x9 + 267 ≤ x11 ∧ x11 ≤ x9 + 267) (d49 : x7 + (-4294967296) ≤ x6 ∧ x6 ≤ x7 + (-1)) (d50 : x4 + 1 ≤ x6 ∧ x6 ≤ x4 + 1) (d51 : x3 + (-4294967296) ≤ x1 ∧ x1 ≤ x3 + 0) (d52 : x4 + (-4294967296) ≤ x1 ∧ x1 ≤ x4 + 0) (d53 : x1 + (-4294967296) ≤ x3 ∧ x3 ≤ x1 + 0) (d54 : x4 + (-4294967296) ≤ x3 ∧ x3 ≤ x4 + 0) (f0 : x46 = x4 + 1) (h4 : x45 = all_1 (x44)) (f5 : x44 = x42 + x43) (f6 : x42 = x41 + x4) (f7 : x41 = x9 + x40) (g8 : x9 = r_1) (f10 : x39 = x38 + x4) (f11 : x38 = x9 + x37) (h13 : x36 = all_2 (x35)) (f14 : x35 = x33 + x34) (f15 : x33 = x32 + x4) (f16 : x32 = x9 + x31) (f17 : x30 = x29 + x4) (f18 : x29 = x9 + x28) (h20 : x27 = all_3 (x26)) (f21 : x26 = x24 + x25) (f22 : x24 = x23 + x4) (f23 : x23 = x9 + x22) (f24 : x21 = x20 + x4) (f25 : x20 = x9 + x19) (h27 : x18 = all_4 (x17)) (f28 : x17 = x15 + x16) (f29 : x15 = x14 + x4) (f30 : x14 = x9 + x13) (f31 : x12 = x11 + x4) (f32 : x11 = x9 + x10) (f33 : x6 < x7) (f34 : 1 * x7 + ((-1) * all_4 (r_0 + 1) + 0) ≤ 0) (f35 : (-1) * x7 + (1 * all_4 (r_0 + 1) + 0) ≤ 0) (f36 : x6 = x4 + x5) (f37 : 1 * x1 + ((-1) * all_4 (r_0 + 1) + 0) ≤ (-1)) (f38 : DX2 (r_4) (all_4) (now_4) (latest_4) (x1) (x4)) (fe_0_5_1 : r_0 = r_1) (fe_0_5_2 : r_1 = r_2) (fe_0_5_3 : r_2 = r_3) (fe_0_5_4 : r_3 = r_4) (hE_0_2_1 : ∀ j : Int, 0 ≤ j → (j = x39 → all_0 j = x45) ∧ (j ≠ x39 → all_0 j = all_1 j)) (hE_0_2_2 : ∀ j : Int, 0 ≤ j → (j = x30 → all_1 j = x36) ∧ (j ≠ x30 → all_1 j = all_2 j)) (hE_0_2_3 : ∀ j : Int, 0 ≤ j → (j = x21 → all_2 j = x27) ∧ (j ≠ x21 → all_2 j = all_3 j)) (hE_0_2_4 : ∀ j : Int, 0 ≤ j → (j = x12 → all_3 j = x18) ∧ (j ≠ x12 → all_3 j = all_4 j)) (hE_0_3_1 : ∀ j : Int, now_0 j = now_1 j) (hE_0_3_2 : ∀ j : Int, now_1 j = now_2 j) (hE_0_3_3 : ∀ j : Int, now_2 j = now_3 j) (hE_0_3_4 : ∀ j : Int, now_3 j = now_4 j) (hK_0_3 : ∀ j : Int, 0 ≤ j → j < 4 → 0 ≤ now_0 j ∧ now_0 j ≤ 30) (hE_0_4_1 : ∀ j : Int, latest_0 j = latest_1 j) (hE_0_4_2 : ∀ j : Int, latest_1 j = latest_2 j) (hE_0_4_3 : ∀ j : Int, latest_2 j = latest_3 j) (hE_0_4_4 : ∀ j : Int, latest_3 j = latest_4 j) (hK_0_4 : ∀ j : Int, 0 ≤ j → j < 4 → 0 ≤ latest_0 j ∧ latest_0 j ≤ 30) : 1 * x1 + ((-1) * all_0 (r_0 + 1) + 0) ≤ (-1) := by
  subst fe_0_5_1
  subst fe_0_5_2
  subst fe_0_5_3
  subst fe_0_5_4
  have e_hE_0_3_1 := funext hE_0_3_1; subst e_hE_0_3_1
  have e_hE_0_3_2 := funext hE_0_3_2; subst e_hE_0_3_2
  have e_hE_0_3_3 := funext hE_0_3_3; subst e_hE_0_3_3
  have e_hE_0_3_4 := funext hE_0_3_4; subst e_hE_0_3_4
  have e_hE_0_4_1 := funext hE_0_4_1; subst e_hE_0_4_1
  have e_hE_0_4_2 := funext hE_0_4_2; subst e_hE_0_4_2
  have e_hE_0_4_3 := funext hE_0_4_3; subst e_hE_0_4_3
  have e_hE_0_4_4 := funext hE_0_4_4; subst e_hE_0_4_4
  first
    | omega
    | (have q1 := (hE_0_2_1 (r_0 + 1) (by omega)).2 (by omega)
       have q2 := (hE_0_2_2 (r_0 + 1) (by omega)).2 (by omega)
       have q3 := (hE_0_2_3 (r_0 + 1) (by omega)).2 (by omega)
       have q4 := (hE_0_2_4 (r_0 + 1) (by omega)).2 (by omega)
       omega)
    | (have q1 := (hE_0_2_1 (r_0 + 0) (by omega)).2 (by omega)
       have q2 := (hE_0_2_2 (r_0 + 0) (by omega)).2 (by omega)
       have q3 := (hE_0_2_3 (r_0 + 0) (by omega)).2 (by omega)
       have q4 := (hE_0_2_4 (r_0 + 0) (by omega)).2 (by omega)
       omega)
set_option maxHeartbeats 4000000 in
theorem vc_Mo_dropEdge_at_gx_3_1 (x1 : Int) (x3 : Int) (x4 : Int) (x5 : Int) (x6 : Int) (x7 : Int) (x9 : Int) (x10 : Int) (x11 : Int) (x12 : Int) (x13 : Int) (x14 : Int) (x15 : Int) (x16 : Int) (x17 : Int) (x18 : Int) (x19 : Int) (x20 : Int) (x21 : Int) (x22 : Int) (x23 : Int) (x24 : Int) (x25 : Int) (x26 : Int) (x27 : Int) (x28 : Int) (x29 : Int) (x30 : Int) (x31 : Int) (x32 : Int) (x33 : Int) (x34 : Int) (x35 : Int) (x36 : Int) (x37 : Int) (x38 : Int) (x39 : Int) (x40 : Int) (x41 : Int) (x42 : Int) (x43 : Int) (x44 : Int) (x45 : Int) (x46 : Int) (all_1 : Int → Int) (r_1 : Int) (all_2 : Int → Int) (all_3 : Int → Int) (all_4 : Int → Int) (r_0 : Int) (now_4 : Int → Int) (latest_4 : Int → Int) (r_4 : Int) (r_2 : Int) (r_3 : Int) (all_0 : Int → Int) (now_0 : Int → Int) (now_1 : Int → Int) (now_2 : Int → Int) (now_3 : Int → Int) (latest_0 : Int → Int) (latest_1 : Int → Int) (latest_2 : Int → Int) (latest_3 : Int → Int) (k1 : 0 ≤ x1 ∧ x1 ≤ 47) (k3 : 0 ≤ x3 ∧ x3 ≤ 47) (k4 : 0 ≤ x4 ∧ x4 ≤ 46) (k5 : 1 ≤ x5 ∧ x5 ≤ 1) (k6 : 1 ≤ x6 ∧ x6 ≤ 47) (k7 : 2 ≤ x7 ∧ x7 ≤ 48) (k9 : 0 ≤ x9 ∧ x9 ≤ 66297) (k10 : 267 ≤ x10 ∧ x10 ≤ 267) (k11 : 267 ≤ x11 ∧ x11 ≤ 66564) (k12 : 267 ≤ x12 ∧ x12 ≤ 66610) (k13 : 267 ≤ x13 ∧ x13 ≤ 267) (k14 : 267 ≤ x14 ∧ x14 ≤ 66564) (k15 : 267 ≤ x15 ∧ x15 ≤ 66610) (k16 : 1 ≤ x16 ∧ x16 ≤ 1) (k17 : 268 ≤ x17 ∧ x17 ≤ 66611) (k18 : 0 ≤ x18 ∧ x18 ≤ 23) (k19 : 315 ≤ x19 ∧ x19 ≤ 315) (k20 : 315 ≤ x20 ∧ x20 ≤ 66612) (k21 : 315 ≤ x21 ∧ x21 ≤ 66658) (k22 : 315 ≤ x22 ∧ x22 ≤ 315) (k23 : 315 ≤ x23 ∧ x23 ≤ 66612) (k24 : 315 ≤ x24 ∧ x24 ≤ 66658) (k25 : 1 ≤ x25 ∧ x25 ≤ 1) (k26 : 316 ≤ x26 ∧ x26 ≤ 66659) (k27 : 0 ≤ x27 ∧ x27 ≤ 23) (k28 : 363 ≤ x28 ∧ x28 ≤ 363) (k29 : 363 ≤ x29 ∧ x29 ≤ 66660) (k30 : 363 ≤ x30 ∧ x30 ≤ 66706) (k31 : 363 ≤ x31 ∧ x31 ≤ 363) (k32 : 363 ≤ x32 ∧ x32 ≤ 66660) (k33 : 363 ≤ x33 ∧ x33 ≤ 66706) (k34 : 1 ≤ x34 ∧ x34 ≤ 1) (k35 : 364 ≤ x35 ∧ x35 ≤ 66707) (k36 : 0 ≤ x36 ∧ x36 ≤ 9) (k37 : 411 ≤ x37 ∧ x37 ≤ 411) (k38 : 411 ≤ x38 ∧ x38 ≤ 66708) (k39 : 411 ≤ x39 ∧ x39 ≤ 66754) (k40 : 411 ≤ x40 ∧ x40 ≤ 411) (k41 : 411 ≤ x41 ∧ x41 ≤ 66708) (k42 : 411 ≤ x42 ∧ x42 ≤ 66754) (k43 : 1 ≤ x43 ∧ x43 ≤ 1) (k44 : 412 ≤ x44 ∧ x44 ≤ 66755) (k45 : 0 ≤ x45 ∧ x45 ≤ 1) (k46 : 1 ≤ x46 ∧ x46 ≤ 47) (d0 : x4 + 1 ≤ x46 ∧ x46 ≤ x4 + 1) (d1 : x42 + 1 ≤ x44 ∧ x44 ≤ x42 + 1) (d2 : x4 + 412 ≤ x44 ∧ x44 ≤ x4 + 66709) (d3 : x41 + 1 ≤ x44 ∧ x44 ≤ x41 + 47) (d4 : x9 + 412 ≤ x44 ∧ x44 ≤ x9 + 458) (d5 : x4 + 411 ≤ x42 ∧ x42 ≤ x4 + 66708) (d6 : x41 + 0 ≤ x42 ∧ x42 ≤ x41 + 46) (d7 : x9 + 411 ≤ x42 ∧ x42 ≤ x9 + 457) (d8 : x9 + 411 ≤ x41 ∧ x41 ≤ x9 + 411) (d9 : x4 + 411 ≤ x39 ∧ x39 ≤ x4 + 66708) (d10 : x38 + 0 ≤ x39 ∧ x39 ≤ x38 + 46) (d11 : x9 + 411 ≤ x39 ∧ x39 ≤ x9 + 457) (d12 : x9 + 411 ≤ x38 ∧ x38 ≤ x9 + 411) (d13 : x33 + 1 ≤ x35 ∧ x35 ≤ x33 + 1) (d14 : x4 + 364 ≤ x35 ∧ x35 ≤ x4 + 66661) (d15 : x32 + 1 ≤ x35 ∧ x35 ≤ x32 + 47) (d16 : x9 + 364 ≤ x35 ∧ x35 ≤ x9 + 410) (d17 : x4 + 363 ≤ x33 ∧ x33 ≤ x4 + 66660) (d18 : x32 + 0 ≤ x33 ∧ x33 ≤ x32 + 46) (d19 : x9 + 363 ≤ x33 ∧ x33 ≤ x9 + 409) (d20 : x9 + 363 ≤ x32 ∧ x32 ≤ x9 + 363) (d21 : x4 + 363 ≤ x30 ∧ x30 ≤ x4 + 66660) (d22 : x29 + 0 ≤ x30 ∧ x30 ≤ x29 + 46) (d23 : x9 + 363 ≤ x30 ∧ x30 ≤ x9 + 409) (d24 : x9 + 363 ≤ x29 ∧ x29 ≤ x9 + 363) (d25 : x24 + 1 ≤ x26 ∧ x26 ≤ x24 + 1) (d26 : x4 + 316 ≤ x26 ∧ x26 ≤ x4 + 66613) (d27 : x23 + 1 ≤ x26 ∧ x26 ≤ x23 + 47) (d28 : x9 + 316 ≤ x26 ∧ x26 ≤ x9 + 362) (d29 : x4 + 315 ≤ x24 ∧ x24 ≤ x4 + 66612) (d30 : x23 + 0 ≤ x24 ∧ x24 ≤ x23 + 46) (d31 : x9 + 315 ≤ x24 ∧ x24 ≤ x9 + 361) (d32 : x9 + 315 ≤ x23 ∧ x23 ≤ x9 + 315) (d33 : x4 + 315 ≤ x21 ∧ x21 ≤ x4 + 66612) (d34 : x20 + 0 ≤ x21 ∧ x21 ≤ x20 + 46) (d35 : x9 + 315 ≤ x21 ∧ x21 ≤ x9 + 361) (d36 : x9 + 315 ≤ x20 ∧ x20 ≤ x9 + 315) (d37 : x15 + 1 ≤ x17 ∧ x17 ≤ x15 + 1) (d38 : x4 + 268 ≤ x17 ∧ x17 ≤ x4 + 66565) (d39 : x14 + 1 ≤ x17 ∧ x17 ≤ x14 + 47) (d40 : x9 + 268 ≤ x17 ∧ x17 ≤ x9 + 314) (d41 : x4 + 267 ≤ x15 ∧ x15 ≤ x4 + 66564) (d42 : x14 + 0 ≤ x15 ∧ x15 ≤ x14 + 46) (d43 : x9 + 267 ≤ x15 ∧ x15 ≤ x9 + 313) (d44 : x9 + 267 ≤ x14 ∧ x14 ≤ x9 + 267) (d45 : x4 + 267 ≤ x12 ∧ x12 ≤ x4 + 66564) (d46 : x11 + 0 ≤ x12 ∧ x12 ≤ x11 + 46) (d47 : x9 + 267 ≤ x12 ∧ x12 ≤ x9 + 313) (d48 : x9 + 267 ≤ x11 ∧ x11 ≤ x9 + 267) (d49 : x7 + (-4294967296) ≤ x6 ∧ x6 ≤ x7 + (-1)) (d50 : x4 + 1 ≤ x6 ∧ x6 ≤ x4 + 1) (d51 : x3 + (-4294967296) ≤ x1 ∧ x1 ≤ x3 + 0) (d52 : x4 + (-4294967296) ≤ x1 ∧ x1 ≤ x4 + 0) (d53 : x1 + (-4294967296) ≤ x3 ∧ x3 ≤ x1 + 0) (d54 : x4 + (-4294967296) ≤ x3 ∧ x3 ≤ x4 + 0) (f0 : x46 = x4 + 1) (h4 : x45 = all_1 (x44)) (f5 : x44 = x42 + x43) (f6 : x42 = x41 + x4) (f7 : x41 = x9 + x40) (g8 : x9 = r_1) (f10 : x39 = x38 + x4) (f11 : x38 = x9 + x37) (h13 : x36 = all_2 (x35)) (f14 : x35 = x33 + x34) (f15 : x33 = x32 + x4) (f16 : x32 = x9 + x31) (f17 : x30 = x29 + x4) (f18 : x29 = x9 + x28) (h20 : x27 = all_3 (x26)) (f21 : x26 = x24 + x25) (f22 : x24 = x23 + x4) (f23 : x23 = x9 + x22) (f24 : x21 = x20 + x4) (f25 : x20 = x9 + x19) (h27 : x18 = all_4 (x17)) (f28 : x17 = x15 + x16) (f29 : x15 = x14 + x4) (f30 : x14 = x9 + x13) (f31 : x12 = x11 + x4) (f32 : x11 = x9 + x10) (f33 : x6 < x7) (f34 : 1 * x7 + ((-1) * all_4 (r_0 + 1) + 0) ≤ 0) (f35 : (-1) * x7 + (1 * all_4 (r_0 + 1) + 0) ≤ 0) (f36 : x6 = x4 + x5) (f37 : 1 * x1 + ((-1) * all_4 (r_0 + 1) + 0) ≤ (-1)) (f38 : DX2 (r_4) (all_4) (now_4) (latest_4) (x1) (x4)) (fe_0_5_1 : r_0 = r_1) (fe_0_5_2 : r_1 = r_2) (fe_0_5_3 : r_2 = r_3) (fe_0_5_4 : r_3 = r_4) (hE_0_2_1 : ∀ j : Int, 0 ≤ j → (j = x39 → all_0 j = x45) ∧ (j ≠ x39 → all_0 j = all_1 j)) (hE_0_2_2 : ∀ j : Int, 0 ≤ j → (j = x30 → all_1 j = x36) ∧ (j ≠ x30 → all_1 j = all_2 j)) (hE_0_2_3 : ∀ j : Int, 0 ≤ j → (j = x21 → all_2 j = x27) ∧ (j ≠ x21 → all_2 j = all_3 j)) (hE_0_2_4 : ∀ j : Int, 0 ≤ j → (j = x12 → all_3 j = x18) ∧ (j ≠ x12 → all_3 j = all_4 j)) (hE_0_3_1 : ∀ j : Int, now_0 j = now_1 j) (hE_0_3_2 : ∀ j : Int, now_1 j = now_2 j) (hE_0_3_3 : ∀ j : Int, now_2 j = now_3 j) (hE_0_3_4 : ∀ j : Int, now_3 j = now_4 j) (hK_0_3 : ∀ j : Int, 0 ≤ j → j < 4 → 0 ≤ now_0 j ∧ now_0 j ≤ 30) (hE_0_4_1 : ∀ j : Int, latest_0 j = latest_1 j) (hE_0_4_2 : ∀ j : Int, latest_1 j = latest_2 j) (hE_0_4_3 : ∀ j : Int, latest_2 j = latest_3 j) (hE_0_4_4 : ∀ j : Int, latest_3 j = latest_4 j) (hK_0_4 : ∀ j : Int, 0 ≤ j → j < 4 → 0 ≤ latest_0 j ∧ latest_0 j ≤ 30) : DX2 (r_0) (all_0) (now_0) (latest_0) (x1) (x46) := by
  subst fe_0_5_1
  subst fe_0_5_2
  subst fe_0_5_3
  subst fe_0_5_4
  have e_hE_0_3_1 := funext hE_0_3_1; subst e_hE_0_3_1
  have e_hE_0_3_2 := funext hE_0_3_2; subst e_hE_0_3_2
  have e_hE_0_3_3 := funext hE_0_3_3; subst e_hE_0_3_3
  have e_hE_0_3_4 := funext hE_0_3_4; subst e_hE_0_3_4
  have e_hE_0_4_1 := funext hE_0_4_1; subst e_hE_0_4_1
  have e_hE_0_4_2 := funext hE_0_4_2; subst e_hE_0_4_2
  have e_hE_0_4_3 := funext hE_0_4_3; subst e_hE_0_4_3
  have e_hE_0_4_4 := funext hE_0_4_4; subst e_hE_0_4_4
  first
    | exact de2_start ‹RWS _ _ _ _› ‹EDA _ _ _› (noi_m1 ‹RWS _ _ _ _› (by omega)) (by omega)
    | exact (de2_step ‹DX2 _ _ _ _ _ _› (by omega) (by omega) (by assumption) (by assumption) (by assumption) (by assumption) (by omega) (by assumption) (by omega) (by omega) (by assumption) (by omega) (by omega) (by omega)).1
def o_Mo_dropEdge_at_gx_3 : or_T := (2, 47, [(0, (2, 0, 0, [165])), (1, (0, 0, 47, [])), (3, (0, 0, 47, [])), (4, (0, 0, 46, [])), (5, (0, 1, 1, [])), (6, (0, 1, 47, [])), (7, (0, 2, 48, [])), (8, (2, 0, 0, [167])), (9, (0, 0, 66297, [])), (10, (0, 267, 267, [])), (11, (0, 267, 66564, [])), (12, (0, 267, 66610, [])), (13, (0, 267, 267, [])), (14, (0, 267, 66564, [])), (15, (0, 267, 66610, [])), (16, (0, 1, 1, [])), (17, (0, 268, 66611, [])), (18, (0, 0, 23, [])), (19, (0, 315, 315, [])), (20, (0, 315, 66612, [])), (21, (0, 315, 66658, [])), (22, (0, 315, 315, [])), (23, (0, 315, 66612, [])), (24, (0, 315, 66658, [])), (25, (0, 1, 1, [])), (26, (0, 316, 66659, [])), (27, (0, 0, 23, [])), (28, (0, 363, 363, [])), (29, (0, 363, 66660, [])), (30, (0, 363, 66706, [])), (31, (0, 363, 363, [])), (32, (0, 363, 66660, [])), (33, (0, 363, 66706, [])), (34, (0, 1, 1, [])), (35, (0, 364, 66707, [])), (36, (0, 0, 9, [])), (37, (0, 411, 411, [])), (38, (0, 411, 66708, [])), (39, (0, 411, 66754, [])), (40, (0, 411, 411, [])), (41, (0, 411, 66708, [])), (42, (0, 411, 66754, [])), (43, (0, 1, 1, [])), (44, (0, 412, 66755, [])), (45, (0, 0, 1, [])), (46, (0, 1, 47, []))], [(6, [46, 4], [1]), (24, [0, 2], []), (24, [1, 3], []), (100, [8, 39, 45], []), (10, [45, 8, 44], []), (1, [44, 42, 43], []), (1, [42, 41, 4], []), (1, [41, 9, 40], []), (9, [9, 2], [5]), (9, [8, 2], [2]), (1, [39, 38, 4], []), (1, [38, 9, 37], []), (100, [8, 30, 36], []), (10, [36, 8, 35], []), (1, [35, 33, 34], []), (1, [33, 32, 4], []), (1, [32, 9, 31], []), (1, [30, 29, 4], []), (1, [29, 9, 28], []), (100, [8, 21, 27], []), (10, [27, 8, 26], []), (1, [26, 24, 25], []), (1, [24, 23, 4], []), (1, [23, 9, 22], []), (1, [21, 20, 4], []), (1, [20, 9, 19], []), (100, [8, 12, 18], []), (10, [18, 8, 17], []), (1, [17, 15, 16], []), (1, [15, 14, 4], []), (1, [14, 9, 13], []), (1, [12, 11, 4], []), (1, [11, 9, 10], []), (7, [6, 7], [2]), (20, [7, 2], [30, 0, 1, 0, 0, -1, 3, 2005001]), (20, [7, 2], [30, 0, -1, 0, 0, 1, 3, 2005001]), (1, [6, 4, 5], []), (20, [3, 2], [30, -1, 1, 0, 0, -1, 3, 2005001]), (20, [2, 3, 4], [60, 1, 3, 213, 5, 2, 3, 4])], [], [], [(20, [3, 2], [30, -1, 1, 0, 0, -1, 3, 2005001]), (20, [2, 3, 46], [60, 1, 3, 213, 5, 2, 3, 4])], [], [(46, 4, 1, 1), (44, 42, 1, 1), (44, 4, 412, 66709), (44, 41, 1, 47), (44, 9, 412, 458), (42, 4, 411, 66708), (42, 41, 0, 46), (42, 9, 411, 457), (41, 9, 411, 411), (39, 4, 411, 66708), (39, 38, 0, 46), (39, 9, 411, 457), (38, 9, 411, 411), (35, 33, 1, 1), (35, 4, 364, 66661), (35, 32, 1, 47), (35, 9, 364, 410), (33, 4, 363, 66660), (33, 32, 0, 46), (33, 9, 363, 409), (32, 9, 363, 363), (30, 4, 363, 66660), (30, 29, 0, 46), (30, 9, 363, 409), (29, 9, 363, 363), (26, 24, 1, 1), (26, 4, 316, 66613), (26, 23, 1, 47), (26, 9, 316, 362), (24, 4, 315, 66612), (24, 23, 0, 46), (24, 9, 315, 361), (23, 9, 315, 315), (21, 4, 315, 66612), (21, 20, 0, 46), (21, 9, 315, 361), (20, 9, 315, 315), (17, 15, 1, 1), (17, 4, 268, 66565), (17, 14, 1, 47), (17, 9, 268, 314), (15, 4, 267, 66564), (15, 14, 0, 46), (15, 9, 267, 313), (14, 9, 267, 267), (12, 4, 267, 66564), (12, 11, 0, 46), (12, 9, 267, 313), (11, 9, 267, 267), (6, 7, -4294967296, -1), (6, 4, 1, 1), (1, 3, -4294967296, 0), (1, 4, -4294967296, 0), (3, 1, -4294967296, 0), (3, 4, -4294967296, 0)])
theorem oo_Mo_dropEdge_at_gx_3 {kA : Nat → ClassId} : or_ok PRD kA GG o_Mo_dropEdge_at_gx_3 := by
  refine or_mk fun A ta ws vs hD hth hl => ?_
  intro t0 r0 t1 k1 t3 k3 t4 k4 t5 k5 t6 k6 t7 k7 t8 r8 t9 k9 t10 k10 t11 k11 t12 k12 t13 k13 t14 k14 t15 k15 t16 k16 t17 k17 t18 k18 t19 k19 t20 k20 t21 k21 t22 k22 t23 k23 t24 k24 t25 k25 t26 k26 t27 k27 t28 k28 t29 k29 t30 k30 t31 k31 t32 k32 t33 k33 t34 k34 t35 k35 t36 k36 t37 k37 t38 k38 t39 k39 t40 k40 t41 k41 t42 k42 t43 k43 t44 k44 t45 k45 t46 k46 d0 d1 d2 d3 d4 d5 d6 d7 d8 d9 d10 d11 d12 d13 d14 d15 d16 d17 d18 d19 d20 d21 d22 d23 d24 d25 d26 d27 d28 d29 d30 d31 d32 d33 d34 d35 d36 d37 d38 d39 d40 d41 d42 d43 d44 d45 d46 d47 d48 d49 d50 d51 d52 d53 d54 f0 f1 f2 ta1 w1 le1 s1 f4 f5 f6 f7 f8 f9 f10 f11 ta2 w2 le2 s2 f13 f14 f15 f16 f17 f18 ta3 w3 le3 s3 f20 f21 f22 f23 f24 f25 ta4 w4 le4 s4 f27 f28 f29 f30 f31 f32 f33 f34 f35 f36 f37 f38
  replace f0 := shm_4 f0
  replace f1 := shm_5 f1
  replace f2 := shm_5 f2
  have s1 : (∀ b j, w_el ws b j = if b = v_ad (n_v vs 8) ∧ j = (v_iv (n_v vs 39)).toNat then v_iv (n_v vs 45) else w_el w1 b j) ∧ ∀ b k, w_fd ws b k = w_fd w1 b k := s1.2
  replace f4 := shm_107 f4
  replace f5 := shm_12 f5
  replace f6 := shm_12 f6
  replace f7 := shm_12 f7
  replace f8 := shm_110 f8
  replace f9 := shm_120 f9
  replace f10 := shm_12 f10
  replace f11 := shm_12 f11
  have s2 : (∀ b j, w_el w1 b j = if b = v_ad (n_v vs 8) ∧ j = (v_iv (n_v vs 30)).toNat then v_iv (n_v vs 36) else w_el w2 b j) ∧ ∀ b k, w_fd w1 b k = w_fd w2 b k := s2.2
  replace f13 := shm_107 f13
  replace f14 := shm_12 f14
  replace f15 := shm_12 f15
  replace f16 := shm_12 f16
  replace f17 := shm_12 f17
  replace f18 := shm_12 f18
  have s3 : (∀ b j, w_el w2 b j = if b = v_ad (n_v vs 8) ∧ j = (v_iv (n_v vs 21)).toNat then v_iv (n_v vs 27) else w_el w3 b j) ∧ ∀ b k, w_fd w2 b k = w_fd w3 b k := s3.2
  replace f20 := shm_107 f20
  replace f21 := shm_12 f21
  replace f22 := shm_12 f22
  replace f23 := shm_12 f23
  replace f24 := shm_12 f24
  replace f25 := shm_12 f25
  have s4 : (∀ b j, w_el w3 b j = if b = v_ad (n_v vs 8) ∧ j = (v_iv (n_v vs 12)).toNat then v_iv (n_v vs 18) else w_el w4 b j) ∧ ∀ b k, w_fd w3 b k = w_fd w4 b k := s4.2
  replace f27 := shm_107 f27
  replace f28 := shm_12 f28
  replace f29 := shm_12 f29
  replace f30 := shm_12 f30
  replace f31 := shm_12 f31
  replace f32 := shm_12 f32
  replace f33 := shm_6 f33
  replace f34 := shm_121 f34
  replace f35 := shm_122 f35
  replace f36 := shm_12 f36
  replace f37 := shm_979 f37
  replace f38 := shm_988 f38
  have q2 : n_v vs 2 = n_v vs 0 := f1.symm
  have q3 : n_v vs 3 = n_v vs 1 := f2.symm
  simp only [q2, q3] at f8 f9 f34 f35 f37 f38
  have ar_0_2_1 : w_ar w1 (n_v vs 0) 2 = w_ar ws (n_v vs 0) 2 := congrArg v_ad (s1.2 _ _).symm
  have ar_0_2_2 : w_ar w2 (n_v vs 0) 2 = w_ar ws (n_v vs 0) 2 := by rw [← ar_0_2_1]; show v_ad (w_fd w2 _ _) = v_ad (w_fd w1 _ _); rw [s2.2]
  have ar_0_2_3 : w_ar w3 (n_v vs 0) 2 = w_ar ws (n_v vs 0) 2 := by rw [← ar_0_2_2]; show v_ad (w_fd w3 _ _) = v_ad (w_fd w2 _ _); rw [s3.2]
  have ar_0_2_4 : w_ar w4 (n_v vs 0) 2 = w_ar ws (n_v vs 0) 2 := by rw [← ar_0_2_3]; show v_ad (w_fd w4 _ _) = v_ad (w_fd w3 _ _); rw [s4.2]
  have ar_0_3_1 : w_ar w1 (n_v vs 0) 3 = w_ar ws (n_v vs 0) 3 := congrArg v_ad (s1.2 _ _).symm
  have ar_0_3_2 : w_ar w2 (n_v vs 0) 3 = w_ar ws (n_v vs 0) 3 := by rw [← ar_0_3_1]; show v_ad (w_fd w2 _ _) = v_ad (w_fd w1 _ _); rw [s2.2]
  have ar_0_3_3 : w_ar w3 (n_v vs 0) 3 = w_ar ws (n_v vs 0) 3 := by rw [← ar_0_3_2]; show v_ad (w_fd w3 _ _) = v_ad (w_fd w2 _ _); rw [s3.2]
  have ar_0_3_4 : w_ar w4 (n_v vs 0) 3 = w_ar ws (n_v vs 0) 3 := by rw [← ar_0_3_3]; show v_ad (w_fd w4 _ _) = v_ad (w_fd w3 _ _); rw [s4.2]
  have cr_0_3 := fdq_142 hD hth r0
  have ar_0_4_1 : w_ar w1 (n_v vs 0) 4 = w_ar ws (n_v vs 0) 4 := congrArg v_ad (s1.2 _ _).symm
  have ar_0_4_2 : w_ar w2 (n_v vs 0) 4 = w_ar ws (n_v vs 0) 4 := by rw [← ar_0_4_1]; show v_ad (w_fd w2 _ _) = v_ad (w_fd w1 _ _); rw [s2.2]
  have ar_0_4_3 : w_ar w3 (n_v vs 0) 4 = w_ar ws (n_v vs 0) 4 := by rw [← ar_0_4_2]; show v_ad (w_fd w3 _ _) = v_ad (w_fd w2 _ _); rw [s3.2]
  have ar_0_4_4 : w_ar w4 (n_v vs 0) 4 = w_ar ws (n_v vs 0) 4 := by rw [← ar_0_4_3]; show v_ad (w_fd w4 _ _) = v_ad (w_fd w3 _ _); rw [s4.2]
  have cr_0_4 := fdq_143 hD hth r0
  have fi_0_5_1 : w_fi w1 (n_v vs 0) 5 = w_fi ws (n_v vs 0) 5 := by show v_iv (w_fd w1 _ _) = v_iv (w_fd ws _ _); rw [s1.2]
  have fi_0_5_2 : w_fi w2 (n_v vs 0) 5 = w_fi ws (n_v vs 0) 5 := by rw [← fi_0_5_1]; show v_iv (w_fd w2 _ _) = v_iv (w_fd w1 _ _); rw [s2.2]
  have fi_0_5_3 : w_fi w3 (n_v vs 0) 5 = w_fi ws (n_v vs 0) 5 := by rw [← fi_0_5_2]; show v_iv (w_fd w3 _ _) = v_iv (w_fd w2 _ _); rw [s3.2]
  have fi_0_5_4 : w_fi w4 (n_v vs 0) 5 = w_fi ws (n_v vs 0) 5 := by rw [← fi_0_5_3]; show v_iv (w_fd w4 _ _) = v_iv (w_fd w3 _ _); rw [s4.2]
  have ad_8 : v_ad (n_v vs 8) = w_ar ws (n_v vs 0) 2 := (congrArg v_ad f9).trans ar_0_2_1
  simp only [ad_8] at f4
  have h4 : v_iv (n_v vs 45) = w_ei w1 (w_ar ws (n_v vs 0) 2) (v_iv (n_v vs 44)) := f4
  have g8 : v_iv (n_v vs 9) = w_fi w1 (n_v vs 0) 5 := congrArg v_iv f8
  simp only [ad_8] at f13
  have h13 : v_iv (n_v vs 36) = w_ei w2 (w_ar ws (n_v vs 0) 2) (v_iv (n_v vs 35)) := f13
  simp only [ad_8] at f20
  have h20 : v_iv (n_v vs 27) = w_ei w3 (w_ar ws (n_v vs 0) 2) (v_iv (n_v vs 26)) := f20
  simp only [ad_8] at f27
  have h27 : v_iv (n_v vs 18) = w_ei w4 (w_ar ws (n_v vs 0) 2) (v_iv (n_v vs 17)) := f27
  simp only [ar_0_2_4, ar_0_3_4, ar_0_4_4] at f34 f35 f37 f38
  simp only [fi_0_5_4] at f34 f35 f37
  have fe_0_5_1 : w_fi ws (n_v vs 0) 5 = w_fi w1 (n_v vs 0) 5 := congrArg v_iv (s1.2 _ _)
  have fe_0_5_2 : w_fi w1 (n_v vs 0) 5 = w_fi w2 (n_v vs 0) 5 := congrArg v_iv (s2.2 _ _)
  have fe_0_5_3 : w_fi w2 (n_v vs 0) 5 = w_fi w3 (n_v vs 0) 5 := congrArg v_iv (s3.2 _ _)
  have fe_0_5_4 : w_fi w3 (n_v vs 0) 5 = w_fi w4 (n_v vs 0) 5 := congrArg v_iv (s4.2 _ _)
  have hE_0_2_1 : ∀ j : Int, 0 ≤ j → (j = v_iv (n_v vs 39) → w_ei ws (w_ar ws (n_v vs 0) 2) j = v_iv (n_v vs 45)) ∧ (j ≠ v_iv (n_v vs 39) → w_ei ws (w_ar ws (n_v vs 0) 2) j = w_ei w1 (w_ar ws (n_v vs 0) 2) j) := fun j hj => ⟨fun h => by unfold w_ei; rw [s1.1, if_pos ⟨ad_8.symm, by rw [h]⟩], fun h => by unfold w_ei; rw [s1.1, if_neg (fun e => h (by have := e.2; omega))]⟩
  have hE_0_2_2 : ∀ j : Int, 0 ≤ j → (j = v_iv (n_v vs 30) → w_ei w1 (w_ar ws (n_v vs 0) 2) j = v_iv (n_v vs 36)) ∧ (j ≠ v_iv (n_v vs 30) → w_ei w1 (w_ar ws (n_v vs 0) 2) j = w_ei w2 (w_ar ws (n_v vs 0) 2) j) := fun j hj => ⟨fun h => by unfold w_ei; rw [s2.1, if_pos ⟨ad_8.symm, by rw [h]⟩], fun h => by unfold w_ei; rw [s2.1, if_neg (fun e => h (by have := e.2; omega))]⟩
  have hE_0_2_3 : ∀ j : Int, 0 ≤ j → (j = v_iv (n_v vs 21) → w_ei w2 (w_ar ws (n_v vs 0) 2) j = v_iv (n_v vs 27)) ∧ (j ≠ v_iv (n_v vs 21) → w_ei w2 (w_ar ws (n_v vs 0) 2) j = w_ei w3 (w_ar ws (n_v vs 0) 2) j) := fun j hj => ⟨fun h => by unfold w_ei; rw [s3.1, if_pos ⟨ad_8.symm, by rw [h]⟩], fun h => by unfold w_ei; rw [s3.1, if_neg (fun e => h (by have := e.2; omega))]⟩
  have hE_0_2_4 : ∀ j : Int, 0 ≤ j → (j = v_iv (n_v vs 12) → w_ei w3 (w_ar ws (n_v vs 0) 2) j = v_iv (n_v vs 18)) ∧ (j ≠ v_iv (n_v vs 12) → w_ei w3 (w_ar ws (n_v vs 0) 2) j = w_ei w4 (w_ar ws (n_v vs 0) 2) j) := fun j hj => ⟨fun h => by unfold w_ei; rw [s4.1, if_pos ⟨ad_8.symm, by rw [h]⟩], fun h => by unfold w_ei; rw [s4.1, if_neg (fun e => h (by have := e.2; omega))]⟩
  have hE_0_3_1 : ∀ j : Int, w_ei ws (w_ar ws (n_v vs 0) 3) j = w_ei w1 (w_ar ws (n_v vs 0) 3) j := el_kp s1.1 r8 cr_0_3 (by decide)
  have hE_0_3_2 : ∀ j : Int, w_ei w1 (w_ar ws (n_v vs 0) 3) j = w_ei w2 (w_ar ws (n_v vs 0) 3) j := el_kp s2.1 r8 cr_0_3 (by decide)
  have hE_0_3_3 : ∀ j : Int, w_ei w2 (w_ar ws (n_v vs 0) 3) j = w_ei w3 (w_ar ws (n_v vs 0) 3) j := el_kp s3.1 r8 cr_0_3 (by decide)
  have hE_0_3_4 : ∀ j : Int, w_ei w3 (w_ar ws (n_v vs 0) 3) j = w_ei w4 (w_ar ws (n_v vs 0) 3) j := el_kp s4.1 r8 cr_0_3 (by decide)
  have hK_0_3 := elq_80 hD hth cr_0_3
  have hE_0_4_1 : ∀ j : Int, w_ei ws (w_ar ws (n_v vs 0) 4) j = w_ei w1 (w_ar ws (n_v vs 0) 4) j := el_kp s1.1 r8 cr_0_4 (by decide)
  have hE_0_4_2 : ∀ j : Int, w_ei w1 (w_ar ws (n_v vs 0) 4) j = w_ei w2 (w_ar ws (n_v vs 0) 4) j := el_kp s2.1 r8 cr_0_4 (by decide)
  have hE_0_4_3 : ∀ j : Int, w_ei w2 (w_ar ws (n_v vs 0) 4) j = w_ei w3 (w_ar ws (n_v vs 0) 4) j := el_kp s3.1 r8 cr_0_4 (by decide)
  have hE_0_4_4 : ∀ j : Int, w_ei w3 (w_ar ws (n_v vs 0) 4) j = w_ei w4 (w_ar ws (n_v vs 0) 4) j := el_kp s4.1 r8 cr_0_4 (by decide)
  have hK_0_4 := elq_81 hD hth cr_0_4
  have nf0 : fc_1 PRD (20, [3, 2], [30, -1, 1, 0, 0, -1, 3, 2005001]) ws (vs) := by
    refine ⟨nf_in hl rfl, sgq_979 ?_⟩
    · show 1 * v_iv (n_v vs 3) + ((-1) * w_el ws (w_ar ws (n_v vs 2) 2) (w_fi ws (n_v vs 2) 5 + 1).toNat + 0) ≤ (-1)
      simp only [q2, q3]
      exact vc_Mo_dropEdge_at_gx_3_0 (v_iv (n_v vs 1)) (v_iv (n_v vs 3)) (v_iv (n_v vs 4)) (v_iv (n_v vs 5)) (v_iv (n_v vs 6)) (v_iv (n_v vs 7)) (v_iv (n_v vs 9)) (v_iv (n_v vs 10)) (v_iv (n_v vs 11)) (v_iv (n_v vs 12)) (v_iv (n_v vs 13)) (v_iv (n_v vs 14)) (v_iv (n_v vs 15)) (v_iv (n_v vs 16)) (v_iv (n_v vs 17)) (v_iv (n_v vs 18)) (v_iv (n_v vs 19)) (v_iv (n_v vs 20)) (v_iv (n_v vs 21)) (v_iv (n_v vs 22)) (v_iv (n_v vs 23)) (v_iv (n_v vs 24)) (v_iv (n_v vs 25)) (v_iv (n_v vs 26)) (v_iv (n_v vs 27)) (v_iv (n_v vs 28)) (v_iv (n_v vs 29)) (v_iv (n_v vs 30)) (v_iv (n_v vs 31)) (v_iv (n_v vs 32)) (v_iv (n_v vs 33)) (v_iv (n_v vs 34)) (v_iv (n_v vs 35)) (v_iv (n_v vs 36)) (v_iv (n_v vs 37)) (v_iv (n_v vs 38)) (v_iv (n_v vs 39)) (v_iv (n_v vs 40)) (v_iv (n_v vs 41)) (v_iv (n_v vs 42)) (v_iv (n_v vs 43)) (v_iv (n_v vs 44)) (v_iv (n_v vs 45)) (v_iv (n_v vs 46)) (w_ei w1 (w_ar ws (n_v vs 0) 2)) (w_fi w1 (n_v vs 0) 5) (w_ei w2 (w_ar ws (n_v vs 0) 2)) (w_ei w3 (w_ar ws (n_v vs 0) 2)) (w_ei w4 (w_ar ws (n_v vs 0) 2)) (w_fi ws (n_v vs 0) 5) (w_ei w4 (w_ar ws (n_v vs 0) 3)) (w_ei w4 (w_ar ws (n_v vs 0) 4)) (w_fi w4 (n_v vs 0) 5) (w_fi w2 (n_v vs 0) 5) (w_fi w3 (n_v vs 0) 5) (w_ei ws (w_ar ws (n_v vs 0) 2)) (w_ei ws (w_ar ws (n_v vs 0) 3)) (w_ei w1 (w_ar ws (n_v vs 0) 3)) (w_ei w2 (w_ar ws (n_v vs 0) 3)) (w_ei w3 (w_ar ws (n_v vs 0) 3)) (w_ei ws (w_ar ws (n_v vs 0) 4)) (w_ei w1 (w_ar ws (n_v vs 0) 4)) (w_ei w2 (w_ar ws (n_v vs 0) 4)) (w_ei w3 (w_ar ws (n_v vs 0) 4)) k1 k3 k4 k5 k6 k7 k9 k10 k11 k12 k13 k14 k15 k16 k17 k18 k19 k20 k21 k22 k23 k24 k25 k26 k27 k28 k29 k30 k31 k32 k33 k34 k35 k36 k37 k38 k39 k40 k41 k42 k43 k44 k45 k46 d0 d1 d2 d3 d4 d5 d6 d7 d8 d9 d10 d11 d12 d13 d14 d15 d16 d17 d18 d19 d20 d21 d22 d23 d24 d25 d26 d27 d28 d29 d30 d31 d32 d33 d34 d35 d36 d37 d38 d39 d40 d41 d42 d43 d44 d45 d46 d47 d48 d49 d50 d51 d52 d53 d54 f0 h4 f5 f6 f7 g8 f10 f11 h13 f14 f15 f16 f17 f18 h20 f21 f22 f23 f24 f25 h27 f28 f29 f30 f31 f32 f33 f34 f35 f36 f37 f38 fe_0_5_1 fe_0_5_2 fe_0_5_3 fe_0_5_4 hE_0_2_1 hE_0_2_2 hE_0_2_3 hE_0_2_4 hE_0_3_1 hE_0_3_2 hE_0_3_3 hE_0_3_4 hK_0_3 hE_0_4_1 hE_0_4_2 hE_0_4_3 hE_0_4_4 hK_0_4
  have nf1 : fc_1 PRD (20, [2, 3, 46], [60, 1, 3, 213, 5, 2, 3, 4]) ws (vs) := by
    refine ⟨nf_in hl rfl, sgq_988 ?_⟩
    · show DX2 (w_fi ws (n_v vs 2) 5) (w_ei ws (w_ar ws (n_v vs 2) 2)) (w_ei ws (w_ar ws (n_v vs 2) 3)) (w_ei ws (w_ar ws (n_v vs 2) 4)) (v_iv (n_v vs 3)) (v_iv (n_v vs 46))
      simp only [q2, q3]
      exact vc_Mo_dropEdge_at_gx_3_1 (v_iv (n_v vs 1)) (v_iv (n_v vs 3)) (v_iv (n_v vs 4)) (v_iv (n_v vs 5)) (v_iv (n_v vs 6)) (v_iv (n_v vs 7)) (v_iv (n_v vs 9)) (v_iv (n_v vs 10)) (v_iv (n_v vs 11)) (v_iv (n_v vs 12)) (v_iv (n_v vs 13)) (v_iv (n_v vs 14)) (v_iv (n_v vs 15)) (v_iv (n_v vs 16)) (v_iv (n_v vs 17)) (v_iv (n_v vs 18)) (v_iv (n_v vs 19)) (v_iv (n_v vs 20)) (v_iv (n_v vs 21)) (v_iv (n_v vs 22)) (v_iv (n_v vs 23)) (v_iv (n_v vs 24)) (v_iv (n_v vs 25)) (v_iv (n_v vs 26)) (v_iv (n_v vs 27)) (v_iv (n_v vs 28)) (v_iv (n_v vs 29)) (v_iv (n_v vs 30)) (v_iv (n_v vs 31)) (v_iv (n_v vs 32)) (v_iv (n_v vs 33)) (v_iv (n_v vs 34)) (v_iv (n_v vs 35)) (v_iv (n_v vs 36)) (v_iv (n_v vs 37)) (v_iv (n_v vs 38)) (v_iv (n_v vs 39)) (v_iv (n_v vs 40)) (v_iv (n_v vs 41)) (v_iv (n_v vs 42)) (v_iv (n_v vs 43)) (v_iv (n_v vs 44)) (v_iv (n_v vs 45)) (v_iv (n_v vs 46)) (w_ei w1 (w_ar ws (n_v vs 0) 2)) (w_fi w1 (n_v vs 0) 5) (w_ei w2 (w_ar ws (n_v vs 0) 2)) (w_ei w3 (w_ar ws (n_v vs 0) 2)) (w_ei w4 (w_ar ws (n_v vs 0) 2)) (w_fi ws (n_v vs 0) 5) (w_ei w4 (w_ar ws (n_v vs 0) 3)) (w_ei w4 (w_ar ws (n_v vs 0) 4)) (w_fi w4 (n_v vs 0) 5) (w_fi w2 (n_v vs 0) 5) (w_fi w3 (n_v vs 0) 5) (w_ei ws (w_ar ws (n_v vs 0) 2)) (w_ei ws (w_ar ws (n_v vs 0) 3)) (w_ei w1 (w_ar ws (n_v vs 0) 3)) (w_ei w2 (w_ar ws (n_v vs 0) 3)) (w_ei w3 (w_ar ws (n_v vs 0) 3)) (w_ei ws (w_ar ws (n_v vs 0) 4)) (w_ei w1 (w_ar ws (n_v vs 0) 4)) (w_ei w2 (w_ar ws (n_v vs 0) 4)) (w_ei w3 (w_ar ws (n_v vs 0) 4)) k1 k3 k4 k5 k6 k7 k9 k10 k11 k12 k13 k14 k15 k16 k17 k18 k19 k20 k21 k22 k23 k24 k25 k26 k27 k28 k29 k30 k31 k32 k33 k34 k35 k36 k37 k38 k39 k40 k41 k42 k43 k44 k45 k46 d0 d1 d2 d3 d4 d5 d6 d7 d8 d9 d10 d11 d12 d13 d14 d15 d16 d17 d18 d19 d20 d21 d22 d23 d24 d25 d26 d27 d28 d29 d30 d31 d32 d33 d34 d35 d36 d37 d38 d39 d40 d41 d42 d43 d44 d45 d46 d47 d48 d49 d50 d51 d52 d53 d54 f0 h4 f5 f6 f7 g8 f10 f11 h13 f14 f15 f16 f17 f18 h20 f21 f22 f23 f24 f25 h27 f28 f29 f30 f31 f32 f33 f34 f35 f36 f37 f38 fe_0_5_1 fe_0_5_2 fe_0_5_3 fe_0_5_4 hE_0_2_1 hE_0_2_2 hE_0_2_3 hE_0_2_4 hE_0_3_1 hE_0_3_2 hE_0_3_3 hE_0_3_4 hK_0_3 hE_0_4_1 hE_0_4_2 hE_0_4_3 hE_0_4_4 hK_0_4
  refine ⟨(fun _ h => (by cases h)), [], trivial, ?_, (fun _ h => (by cases h))⟩
  rw [List.append_nil]
  exact List.forall_mem_cons.mpr ⟨⟨show (20 : Nat) < 100 from by decide, nf0⟩, List.forall_mem_cons.mpr ⟨⟨show (20 : Nat) < 100 from by decide, nf1⟩, (fun _ h => (by cases h))⟩⟩
def n_Mo_dropEdge_at_gx_an : List an_T := [(2, [(0, (2, 0, 0, [165])), (1, (0, 0, 47, [])), (2, (0, 0, 47, []))], [], (0, 0), [(0, 0, 99998), (1, 4, 47), (0, 0, 100000)], [(1, 3, (Int.negSucc 999999999999), 0), (1, 4, (Int.negSucc 999999999999), 0), (3, 1, (Int.negSucc 999999999999), 0), (3, 4, (Int.negSucc 999999999999), 0)], [], [(2, 0, 0, [165]), (0, 0, 47, [])], 0, [], [(20, [3, 2], [30, (Int.negSucc 0), 1, 0, 0, (Int.negSucc 0), 3, 2005001]), (20, [2, 3, 4], [60, 1, 3, 213, 5, 2, 3, 4]), (24, [0, 2], []), (24, [1, 3], [])])]
def t_Mo_dropEdge_at_gx_ct : ct_L := [(1, 401, e_Mo_edges)]
set_option maxRecDepth 100000 in
theorem c_Mo_dropEdge_at_gx {l : Launch} {D : va_G} {kA : Nat → ClassId} (h_Mo_edges : ct_ok PRD l D kA GG y_Mo_edges z_Mo_edges e_Mo_edges) : ct_ok PRD l D kA GG y_Mo_dropEdge_at_gx z_Mo_dropEdge_at_gx e_Mo_dropEdge_at_gx := chk_all_ok (FT := [(16, 13, 2), (391, 13, 5)]) (PT := []) (CT := t_Mo_dropEdge_at_gx_ct) (KT := []) (NT := []) (AN := n_Mo_dropEdge_at_gx_an) (OT := [o_Mo_dropEdge_at_gx_0, o_Mo_dropEdge_at_gx_1, o_Mo_dropEdge_at_gx_2, o_Mo_dropEdge_at_gx_3]) 3 408 (List.forall_mem_cons.mpr ⟨oo_Mo_dropEdge_at_gx_0, List.forall_mem_cons.mpr ⟨oo_Mo_dropEdge_at_gx_1, List.forall_mem_cons.mpr ⟨oo_Mo_dropEdge_at_gx_2, List.forall_mem_cons.mpr ⟨oo_Mo_dropEdge_at_gx_3, List.forall_mem_nil _⟩⟩⟩⟩) (by decide +kernel) ⟨List.forall_mem_cons.mpr ⟨gf_Mo_16, List.forall_mem_cons.mpr ⟨gf_Mo_391, List.forall_mem_nil _⟩⟩, List.forall_mem_nil _, List.forall_mem_cons.mpr ⟨cl_virtual (y := y_Mo_edges) (ci := 13) rfl rfl ⟨_, _, rfl⟩ (by decide +kernel) h_Mo_edges wm_3037 wm_9 wm_3034 wm_3036 wv_13_6 ⟨by decide, by decide, by decide +kernel⟩ (by decide), List.forall_mem_nil _⟩, List.forall_mem_nil _, List.forall_mem_nil _, GG_pl⟩ (by decide +kernel)

set_option maxHeartbeats 4000000 in
theorem vc_Mo_edgeOf_0_0 (x1 : Int) (x2 : Int) (x3 : Int) (pt_0 : Int → Int) (ph_0 : Int → Int) (alive_0 : Int → Int) (k1 : (-1) ≤ x1 ∧ x1 ≤ 25) (k2 : (-1) ≤ x2 ∧ x2 ≤ 24) (k3 : 0 ≤ x3 ∧ x3 ≤ 0) : EOL (pt_0) (ph_0) (alive_0) (x1) (x2) (x3) := by
  first
    | (intro e a b; exfalso; omega)
    | (have h := ‹EOL _ _ _ _ _ _›
       intro e a b c
       by_cases q : e = x6
       · subst q
         first
           | (exact absurd (‹ATP _ _ _ _ x1 _›.mpr ⟨c.1, by rcases c.2 with z | z; exact Or.inl z.1; exact Or.inr z.2⟩) (by omega))
           | (exact absurd (‹ATP _ _ _ _ x2 _›.mpr ⟨c.1, by rcases c.2 with z | z; exact Or.inr z.2; exact Or.inl z.1⟩) (by omega))
           | (have := ‹GOK _ _ _ _›.1 e a (by omega); rcases c.2 with z | z <;> omega)
       · exact h e a (by omega) c)
def o_Mo_edgeOf_0 : or_T := (2, 4, [(1, (0, -1, 25, [])), (2, (0, -1, 24, [])), (3, (0, 0, 0, []))], [], [], [], [(20, [0, 1, 2, 3], [60, 0, 3, 86, 33, 34, 35]), (24, [0, 0], []), (24, [1, 1], []), (24, [2, 2], [])], [], [])
theorem oo_Mo_edgeOf_0 {kA : Nat → ClassId} : or_ok PRD kA GG o_Mo_edgeOf_0 := by
  refine or_mk fun A ta ws vs hD hth hl => ?_
  intro t1 k1 t2 k2 t3 k3
  have nf0 : fc_1 PRD (20, [0, 1, 2, 3], [60, 0, 3, 86, 33, 34, 35]) ws (vs) := ⟨nf_in hl rfl, sgq_989 (vc_Mo_edgeOf_0_0 (v_iv (n_v vs 1)) (v_iv (n_v vs 2)) (v_iv (n_v vs 3)) (w_ei ws (w_ar ws (n_v vs 0) 33)) (w_ei ws (w_ar ws (n_v vs 0) 34)) (w_ei ws (w_ar ws (n_v vs 0) 35)) k1 k2 k3)⟩
  have nf1 : fc_1 PRD (24, [0, 0], []) ws (vs) := by
    refine ⟨nf_in hl rfl, sgq_1 ?_⟩
    · show n_v vs 0 = n_v vs 0
      first | rfl | simp only [true_and]
  have nf2 : fc_1 PRD (24, [1, 1], []) ws (vs) := by
    refine ⟨nf_in hl rfl, sgq_1 ?_⟩
    · show n_v vs 1 = n_v vs 1
      first | rfl | simp only [true_and]
  have nf3 : fc_1 PRD (24, [2, 2], []) ws (vs) := by
    refine ⟨nf_in hl rfl, sgq_1 ?_⟩
    · show n_v vs 2 = n_v vs 2
      first | rfl | simp only [true_and]
  refine ⟨(fun _ h => (by cases h)), [], trivial, ?_, (fun _ h => (by cases h))⟩
  rw [List.append_nil]
  exact List.forall_mem_cons.mpr ⟨⟨show (20 : Nat) < 100 from by decide, nf0⟩, List.forall_mem_cons.mpr ⟨⟨show (24 : Nat) < 100 from by decide, nf1⟩, List.forall_mem_cons.mpr ⟨⟨show (24 : Nat) < 100 from by decide, nf2⟩, List.forall_mem_cons.mpr ⟨⟨show (24 : Nat) < 100 from by decide, nf3⟩, (fun _ h => (by cases h))⟩⟩⟩⟩
set_option maxHeartbeats 4000000 in
theorem vc_Mo_edgeOf_1_0 (x1 : Int) (x2 : Int) (x6 : Int) (x7 : Int) (x8 : Int) (pm_0 : Int) (pt_0 : Int → Int) (ph_0 : Int → Int) (alive_0 : Int → Int) (k1 : (-1) ≤ x1 ∧ x1 ≤ 25) (k2 : (-1) ≤ x2 ∧ x2 ≤ 24) (k6 : 0 ≤ x6 ∧ x6 ≤ 80) (k7 : 0 ≤ x7 ∧ x7 ≤ 80) (k8 : (-1) ≤ x8 ∧ x8 ≤ (-1)) (d0 : x7 + 0 ≤ x6 ∧ x6 ≤ x7 + 4294967296) (g1 : x7 = pm_0) (f3 : EOL (pt_0) (ph_0) (alive_0) (x1) (x2) (x6)) (kz_0_32 : 0 ≤ pm_0 ∧ pm_0 ≤ 80) : EOF (pm_0) (pt_0) (ph_0) (alive_0) (x1) (x2) (x8) := by
  exact Or.inl ⟨by omega, fun e j => ‹EOL _ _ _ _ _ _› e j.1 (by have := j.2.1; omega) ⟨j.2.2.1, j.2.2.2⟩⟩
def o_Mo_edgeOf_1 : or_T := (42, 9, [(0, (2, 0, 0, [165])), (1, (0, -1, 25, [])), (2, (0, -1, 24, [])), (6, (0, 0, 80, [])), (7, (0, 0, 80, [])), (8, (0, -1, -1, []))], [(9, [7, 3], [32]), (20, [3, 4, 5, 6], [60, 0, 3, 86, 33, 34, 35]), (24, [0, 3], []), (24, [1, 4], []), (24, [2, 5], [])], [], [], [(20, [0, 1, 2, 8], [60, 1, 3, 85, 32, 33, 34, 35])], [], [(6, 7, 0, 4294967296)])
theorem oo_Mo_edgeOf_1 {kA : Nat → ClassId} : or_ok PRD kA GG o_Mo_edgeOf_1 := by
  refine or_mk fun A ta ws vs hD hth hl => ?_
  intro t0 r0 t1 k1 t2 k2 t6 k6 t7 k7 t8 k8 d0 f1 f3 f4 f5 f6
  replace f1 := shm_525 f1
  replace f3 := shm_989 f3
  replace f4 := shm_5 f4
  replace f5 := shm_5 f5
  replace f6 := shm_5 f6
  have q3 : n_v vs 3 = n_v vs 0 := f4.symm
  have q4 : n_v vs 4 = n_v vs 1 := f5.symm
  have q5 : n_v vs 5 = n_v vs 2 := f6.symm
  simp only [q3, q4, q5] at f1 f3
  have g1 : v_iv (n_v vs 7) = w_fi ws (n_v vs 0) 32 := congrArg v_iv f1
  have kz_0_32 := fdq_140 hD hth r0
  have nf0 : fc_1 PRD (20, [0, 1, 2, 8], [60, 1, 3, 85, 32, 33, 34, 35]) ws (vs) := ⟨nf_in hl rfl, sgq_990 (vc_Mo_edgeOf_1_0 (v_iv (n_v vs 1)) (v_iv (n_v vs 2)) (v_iv (n_v vs 6)) (v_iv (n_v vs 7)) (v_iv (n_v vs 8)) (w_fi ws (n_v vs 0) 32) (w_ei ws (w_ar ws (n_v vs 0) 33)) (w_ei ws (w_ar ws (n_v vs 0) 34)) (w_ei ws (w_ar ws (n_v vs 0) 35)) k1 k2 k6 k7 k8 d0 g1 f3 kz_0_32)⟩
  refine ⟨(fun _ h => (by cases h)), [], trivial, ?_, (fun _ h => (by cases h))⟩
  rw [List.append_nil]
  exact List.forall_mem_cons.mpr ⟨⟨show (20 : Nat) < 100 from by decide, nf0⟩, (fun _ h => (by cases h))⟩
set_option maxHeartbeats 4000000 in
theorem vc_Mo_edgeOf_2_0 (x1 : Int) (x2 : Int) (x6 : Int) (x8 : Int) (x9 : Int) (pt_0 : Int → Int) (ph_0 : Int → Int) (alive_0 : Int → Int) (k1 : (-1) ≤ x1 ∧ x1 ≤ 25) (k2 : (-1) ≤ x2 ∧ x2 ≤ 24) (k6 : 0 ≤ x6 ∧ x6 ≤ 79) (k8 : 0 ≤ x8 ∧ x8 ≤ 0) (k9 : 1 ≤ x9 ∧ x9 ≤ 80) (d0 : x6 + 1 ≤ x9 ∧ x9 ≤ x6 + 1) (f2 : ATP (pt_0) (ph_0) (alive_0) (x6) (x1) (x8)) (f6 : EOL (pt_0) (ph_0) (alive_0) (x1) (x2) (x6)) : EOL (pt_0) (ph_0) (alive_0) (x1) (x2) (x9) := by
  first
    | (intro e a b; exfalso; omega)
    | (have h := ‹EOL _ _ _ _ _ _›
       intro e a b c
       by_cases q : e = x6
       · subst q
         first
           | (exact absurd (‹ATP _ _ _ _ x1 _›.mpr ⟨c.1, by rcases c.2 with z | z; exact Or.inl z.1; exact Or.inr z.2⟩) (by omega))
           | (exact absurd (‹ATP _ _ _ _ x2 _›.mpr ⟨c.1, by rcases c.2 with z | z; exact Or.inr z.2; exact Or.inl z.1⟩) (by omega))
           | (have := ‹GOK _ _ _ _›.1 e a (by omega); rcases c.2 with z | z <;> omega)
       · exact h e a (by omega) c)
def o_Mo_edgeOf_2 : or_T := (2, 10, [(1, (0, -1, 25, [])), (2, (0, -1, 24, [])), (6, (0, 0, 79, [])), (8, (0, 0, 0, [])), (9, (0, 1, 80, []))], [(20, [3, 6, 4, 8], [60, 0, 3, 83, 33, 34, 35]), (20, [3, 4, 5, 6], [60, 0, 3, 86, 33, 34, 35]), (24, [0, 3], []), (24, [1, 4], []), (24, [2, 5], [])], [], [], [(20, [3, 4, 5, 9], [60, 0, 3, 86, 33, 34, 35])], [], [(9, 6, 1, 1)])
theorem oo_Mo_edgeOf_2 {kA : Nat → ClassId} : or_ok PRD kA GG o_Mo_edgeOf_2 := by
  refine or_mk fun A ta ws vs hD hth hl => ?_
  intro t1 k1 t2 k2 t6 k6 t8 k8 t9 k9 d0 f2 f6 f7 f8 f9
  replace f2 := shm_512 f2
  replace f6 := shm_989 f6
  replace f7 := shm_5 f7
  replace f8 := shm_5 f8
  replace f9 := shm_5 f9
  have q3 : n_v vs 3 = n_v vs 0 := f7.symm
  have q4 : n_v vs 4 = n_v vs 1 := f8.symm
  have q5 : n_v vs 5 = n_v vs 2 := f9.symm
  simp only [q3, q4, q5] at f2 f6
  have nf0 : fc_1 PRD (20, [3, 4, 5, 9], [60, 0, 3, 86, 33, 34, 35]) ws (vs) := by
    refine ⟨nf_in hl rfl, sgq_989 ?_⟩
    · show EOL (w_ei ws (w_ar ws (n_v vs 3) 33)) (w_ei ws (w_ar ws (n_v vs 3) 34)) (w_ei ws (w_ar ws (n_v vs 3) 35)) (v_iv (n_v vs 4)) (v_iv (n_v vs 5)) (v_iv (n_v vs 9))
      simp only [q3, q4, q5]
      exact vc_Mo_edgeOf_2_0 (v_iv (n_v vs 1)) (v_iv (n_v vs 2)) (v_iv (n_v vs 6)) (v_iv (n_v vs 8)) (v_iv (n_v vs 9)) (w_ei ws (w_ar ws (n_v vs 0) 33)) (w_ei ws (w_ar ws (n_v vs 0) 34)) (w_ei ws (w_ar ws (n_v vs 0) 35)) k1 k2 k6 k8 k9 d0 f2 f6
  refine ⟨(fun _ h => (by cases h)), [], trivial, ?_, (fun _ h => (by cases h))⟩
  rw [List.append_nil]
  exact List.forall_mem_cons.mpr ⟨⟨show (20 : Nat) < 100 from by decide, nf0⟩, (fun _ h => (by cases h))⟩
set_option maxHeartbeats 4000000 in
theorem vc_Mo_edgeOf_3_0 (x1 : Int) (x2 : Int) (x6 : Int) (x9 : Int) (x10 : Int) (pt_0 : Int → Int) (ph_0 : Int → Int) (alive_0 : Int → Int) (k1 : 0 ≤ x1 ∧ x1 ≤ 24) (k2 : (-1) ≤ x2 ∧ x2 ≤ 24) (k6 : 0 ≤ x6 ∧ x6 ≤ 79) (k9 : 0 ≤ x9 ∧ x9 ≤ 0) (k10 : 1 ≤ x10 ∧ x10 ≤ 80) (d0 : x6 + 1 ≤ x10 ∧ x10 ≤ x6 + 1) (f2 : ATP (pt_0) (ph_0) (alive_0) (x6) (x2) (x9)) (f8 : EOL (pt_0) (ph_0) (alive_0) (x1) (x2) (x6)) : EOL (pt_0) (ph_0) (alive_0) (x1) (x2) (x10) := by
  first
    | (intro e a b; exfalso; omega)
    | (have h := ‹EOL _ _ _ _ _ _›
       intro e a b c
       by_cases q : e = x6
       · subst q
         first
           | (exact absurd (‹ATP _ _ _ _ x1 _›.mpr ⟨c.1, by rcases c.2 with z | z; exact Or.inl z.1; exact Or.inr z.2⟩) (by omega))
           | (exact absurd (‹ATP _ _ _ _ x2 _›.mpr ⟨c.1, by rcases c.2 with z | z; exact Or.inr z.2; exact Or.inl z.1⟩) (by omega))
           | (have := ‹GOK _ _ _ _›.1 e a (by omega); rcases c.2 with z | z <;> omega)
       · exact h e a (by omega) c)
def o_Mo_edgeOf_3 : or_T := (2, 11, [(0, (2, 0, 0, [165])), (1, (0, 0, 24, [])), (2, (0, -1, 24, [])), (3, (2, 0, 0, [165])), (4, (0, 0, 24, [])), (5, (0, -1, 24, [])), (6, (0, 0, 79, [])), (7, (0, 1, 80, [])), (8, (0, 1, 1, [])), (9, (0, 0, 0, [])), (10, (0, 1, 80, []))], [(6, [10, 6], [1]), (8, [9], [0]), (20, [3, 6, 5, 9], [60, 0, 3, 83, 33, 34, 35]), (8, [8], [1]), (20, [3, 6, 4, 8], [60, 0, 3, 83, 33, 34, 35]), (7, [6, 7], [2]), (9, [7, 3], [32]), (20, [3], [60, 2, 2, 75, 31, 32, 33, 34]), (20, [3, 4, 5, 6], [60, 0, 3, 86, 33, 34, 35]), (24, [0, 3], []), (24, [1, 4], []), (24, [2, 5], [])], [], [], [(20, [3, 4, 5, 10], [60, 0, 3, 86, 33, 34, 35])], [], [(10, 6, 1, 1), (10, 7, -4294967296, 0), (6, 7, -4294967296, -1), (1, 4, -4294967296, 0), (2, 5, -4294967296, 0), (4, 1, -4294967296, 0), (5, 2, -4294967296, 0)])
theorem oo_Mo_edgeOf_3 {kA : Nat → ClassId} : or_ok PRD kA GG o_Mo_edgeOf_3 := by
  refine or_mk fun A ta ws vs hD hth hl => ?_
  intro t0 r0 t1 k1 t2 k2 t3 r3 t4 k4 t5 k5 t6 k6 t7 k7 t8 k8 t9 k9 t10 k10 d0 d1 d2 d3 d4 d5 d6 f0 f1 f2 f3 f4 f5 f6 f7 f8 f9 f10 f11
  replace f2 := shm_512 f2
  replace f8 := shm_989 f8
  replace f9 := shm_5 f9
  replace f10 := shm_5 f10
  replace f11 := shm_5 f11
  have q3 : n_v vs 3 = n_v vs 0 := f9.symm
  have q4 : n_v vs 4 = n_v vs 1 := f10.symm
  have q5 : n_v vs 5 = n_v vs 2 := f11.symm
  simp only [q3, q5, q4] at f2 f8
  have nf0 : fc_1 PRD (20, [3, 4, 5, 10], [60, 0, 3, 86, 33, 34, 35]) ws (vs) := by
    refine ⟨nf_in hl rfl, sgq_989 ?_⟩
    · show EOL (w_ei ws (w_ar ws (n_v vs 3) 33)) (w_ei ws (w_ar ws (n_v vs 3) 34)) (w_ei ws (w_ar ws (n_v vs 3) 35)) (v_iv (n_v vs 4)) (v_iv (n_v vs 5)) (v_iv (n_v vs 10))
      simp only [q3, q4, q5]
      exact vc_Mo_edgeOf_3_0 (v_iv (n_v vs 1)) (v_iv (n_v vs 2)) (v_iv (n_v vs 6)) (v_iv (n_v vs 9)) (v_iv (n_v vs 10)) (w_ei ws (w_ar ws (n_v vs 0) 33)) (w_ei ws (w_ar ws (n_v vs 0) 34)) (w_ei ws (w_ar ws (n_v vs 0) 35)) k1 k2 k6 k9 k10 d0 f2 f8
  refine ⟨(fun _ h => (by cases h)), [], trivial, ?_, (fun _ h => (by cases h))⟩
  rw [List.append_nil]
  exact List.forall_mem_cons.mpr ⟨⟨show (20 : Nat) < 100 from by decide, nf0⟩, (fun _ h => (by cases h))⟩
set_option maxHeartbeats 4000000 in
theorem vc_Mo_edgeOf_4_0 (x1 : Int) (x2 : Int) (x4 : Int) (x5 : Int) (x6 : Int) (x7 : Int) (x10 : Int) (pt_0 : Int → Int) (ph_0 : Int → Int) (alive_0 : Int → Int) (pm_0 : Int) (pn_0 : Int) (k1 : 0 ≤ x1 ∧ x1 ≤ 24) (k2 : 0 ≤ x2 ∧ x2 ≤ 24) (k4 : 0 ≤ x4 ∧ x4 ≤ 24) (k5 : 0 ≤ x5 ∧ x5 ≤ 24) (k6 : 0 ≤ x6 ∧ x6 ≤ 79) (k7 : 1 ≤ x7 ∧ x7 ≤ 80) (k10 : 1 ≤ x10 ∧ x10 ≤ 80) (d0 : x6 + 1 ≤ x10 ∧ x10 ≤ x6 + 1) (d1 : x7 + (-4294967296) ≤ x10 ∧ x10 ≤ x7 + 0) (d2 : x5 + 0 ≤ x4 ∧ x4 ≤ x5 + 0) (d3 : x7 + (-4294967296) ≤ x6 ∧ x6 ≤ x7 + (-1)) (d4 : x4 + (-4294967296) ≤ x1 ∧ x1 ≤ x4 + 0) (d5 : x5 + (-4294967296) ≤ x2 ∧ x2 ≤ x5 + 0) (d6 : x1 + (-4294967296) ≤ x4 ∧ x4 ≤ x1 + 0) (d7 : x2 + (-4294967296) ≤ x5 ∧ x5 ≤ x2 + 0) (g7 : x7 = pm_0) (f8 : GOK (pn_0) (pm_0) (pt_0) (ph_0)) (f9 : EOL (pt_0) (ph_0) (alive_0) (x1) (x2) (x6)) (kz_0_31 : 0 ≤ pn_0 ∧ pn_0 ≤ 25) (kz_0_32 : 0 ≤ pm_0 ∧ pm_0 ≤ 80) : EOL (pt_0) (ph_0) (alive_0) (x1) (x2) (x10) := by
  first
    | (intro e a b; exfalso; omega)
    | (have h := ‹EOL _ _ _ _ _ _›
       intro e a b c
       by_cases q : e = x6
       · subst q
         first
           | (exact absurd (‹ATP _ _ _ _ x1 _›.mpr ⟨c.1, by rcases c.2 with z | z; exact Or.inl z.1; exact Or.inr z.2⟩) (by omega))
           | (exact absurd (‹ATP _ _ _ _ x2 _›.mpr ⟨c.1, by rcases c.2 with z | z; exact Or.inr z.2; exact Or.inl z.1⟩) (by omega))
           | (have := ‹GOK _ _ _ _›.1 e a (by omega); rcases c.2 with z | z <;> omega)
       · exact h e a (by omega) c)
def o_Mo_edgeOf_4 : or_T := (2, 11, [(0, (2, 0, 0, [165])), (1, (0, 0, 24, [])), (2, (0, 0, 24, [])), (3, (2, 0, 0, [165])), (4, (0, 0, 24, [])), (5, (0, 0, 24, [])), (6, (0, 0, 79, [])), (7, (0, 1, 80, [])), (8, (0, 1, 1, [])), (9, (0, 1, 1, [])), (10, (0, 1, 80, []))], [(6, [10, 6], [1]), (7, [4, 5], [0]), (8, [9], [1]), (20, [3, 6, 5, 9], [60, 0, 3, 83, 33, 34, 35]), (8, [8], [1]), (20, [3, 6, 4, 8], [60, 0, 3, 83, 33, 34, 35]), (7, [6, 7], [2]), (9, [7, 3], [32]), (20, [3], [60, 2, 2, 75, 31, 32, 33, 34]), (20, [3, 4, 5, 6], [60, 0, 3, 86, 33, 34, 35]), (24, [0, 3], []), (24, [1, 4], []), (24, [2, 5], [])], [], [], [(20, [3, 4, 5, 10], [60, 0, 3, 86, 33, 34, 35])], [], [(10, 6, 1, 1), (10, 7, -4294967296, 0), (4, 5, 0, 0), (6, 7, -4294967296, -1), (1, 4, -4294967296, 0), (2, 5, -4294967296, 0), (4, 1, -4294967296, 0), (5, 2, -4294967296, 0)])
theorem oo_Mo_edgeOf_4 {kA : Nat → ClassId} : or_ok PRD kA GG o_Mo_edgeOf_4 := by
  refine or_mk fun A ta ws vs hD hth hl => ?_
  intro t0 r0 t1 k1 t2 k2 t3 r3 t4 k4 t5 k5 t6 k6 t7 k7 t8 k8 t9 k9 t10 k10 d0 d1 d2 d3 d4 d5 d6 d7 f0 f1 f2 f3 f4 f5 f6 f7 f8 f9 f10 f11 f12
  replace f7 := shm_525 f7
  replace f8 := shm_575 f8
  replace f9 := shm_989 f9
  replace f10 := shm_5 f10
  replace f11 := shm_5 f11
  replace f12 := shm_5 f12
  have q3 : n_v vs 3 = n_v vs 0 := f10.symm
  have q4 : n_v vs 4 = n_v vs 1 := f11.symm
  have q5 : n_v vs 5 = n_v vs 2 := f12.symm
  simp only [q4, q5, q3] at f7 f8 f9
  have g7 : v_iv (n_v vs 7) = w_fi ws (n_v vs 0) 32 := congrArg v_iv f7
  have kz_0_31 := fdq_145 hD hth r0
  have kz_0_32 := fdq_140 hD hth r0
  have nf0 : fc_1 PRD (20, [3, 4, 5, 10], [60, 0, 3, 86, 33, 34, 35]) ws (vs) := by
    refine ⟨nf_in hl rfl, sgq_989 ?_⟩
    · show EOL (w_ei ws (w_ar ws (n_v vs 3) 33)) (w_ei ws (w_ar ws (n_v vs 3) 34)) (w_ei ws (w_ar ws (n_v vs 3) 35)) (v_iv (n_v vs 4)) (v_iv (n_v vs 5)) (v_iv (n_v vs 10))
      simp only [q3, q4, q5]
      exact vc_Mo_edgeOf_4_0 (v_iv (n_v vs 1)) (v_iv (n_v vs 2)) (v_iv (n_v vs 4)) (v_iv (n_v vs 5)) (v_iv (n_v vs 6)) (v_iv (n_v vs 7)) (v_iv (n_v vs 10)) (w_ei ws (w_ar ws (n_v vs 0) 33)) (w_ei ws (w_ar ws (n_v vs 0) 34)) (w_ei ws (w_ar ws (n_v vs 0) 35)) (w_fi ws (n_v vs 0) 32) (w_fi ws (n_v vs 0) 31) k1 k2 k4 k5 k6 k7 k10 d0 d1 d2 d3 d4 d5 d6 d7 g7 f8 f9 kz_0_31 kz_0_32
  refine ⟨(fun _ h => (by cases h)), [], trivial, ?_, (fun _ h => (by cases h))⟩
  rw [List.append_nil]
  exact List.forall_mem_cons.mpr ⟨⟨show (20 : Nat) < 100 from by decide, nf0⟩, (fun _ h => (by cases h))⟩
set_option maxHeartbeats 4000000 in
theorem vc_Mo_edgeOf_5_0 (x1 : Int) (x2 : Int) (x4 : Int) (x5 : Int) (x6 : Int) (x7 : Int) (x8 : Int) (x9 : Int) (pt_0 : Int → Int) (ph_0 : Int → Int) (alive_0 : Int → Int) (pm_0 : Int) (k1 : 0 ≤ x1 ∧ x1 ≤ 24) (k2 : 0 ≤ x2 ∧ x2 ≤ 24) (k4 : 0 ≤ x4 ∧ x4 ≤ 24) (k5 : 0 ≤ x5 ∧ x5 ≤ 24) (k6 : 0 ≤ x6 ∧ x6 ≤ 79) (k7 : 1 ≤ x7 ∧ x7 ≤ 80) (k8 : 1 ≤ x8 ∧ x8 ≤ 1) (k9 : 1 ≤ x9 ∧ x9 ≤ 1) (d0 : x7 + (-4294967296) ≤ x6 ∧ x6 ≤ x7 + (-1)) (d1 : x4 + (-4294967296) ≤ x1 ∧ x1 ≤ x4 + 0) (d2 : x5 + (-4294967296) ≤ x2 ∧ x2 ≤ x5 + 0) (d3 : x1 + (-4294967296) ≤ x4 ∧ x4 ≤ x1 + 0) (d4 : x2 + (-4294967296) ≤ x5 ∧ x5 ≤ x2 + 0) (f0 : x1 ≠ x2) (f1 : x9 ≠ 0) (f2 : ATP (pt_0) (ph_0) (alive_0) (x6) (x2) (x9)) (f3 : x8 ≠ 0) (f4 : ATP (pt_0) (ph_0) (alive_0) (x6) (x1) (x8)) (g6 : x7 = pm_0) (kz_0_32 : 0 ≤ pm_0 ∧ pm_0 ≤ 80) : EOF (pm_0) (pt_0) (ph_0) (alive_0) (x1) (x2) (x6) := by
  right
  have p1 := ‹ATP _ _ _ _ x1 _›.mp (by omega)
  have p2 := ‹ATP _ _ _ _ x2 _›.mp (by omega)
  refine ⟨by omega, by omega, p1.1, ?_⟩
  rcases p1.2 with z | z <;> rcases p2.2 with w | w
  · omega
  · exact Or.inl ⟨z, w⟩
  · exact Or.inr ⟨w, z⟩
  · omega
def o_Mo_edgeOf_5 : or_T := (34, 10, [(0, (2, 0, 0, [165])), (1, (0, 0, 24, [])), (2, (0, 0, 24, [])), (4, (0, 0, 24, [])), (5, (0, 0, 24, [])), (6, (0, 0, 79, [])), (7, (0, 1, 80, [])), (8, (0, 1, 1, [])), (9, (0, 1, 1, []))], [(7, [4, 5], [1]), (8, [9], [1]), (20, [3, 6, 5, 9], [60, 0, 3, 83, 33, 34, 35]), (8, [8], [1]), (20, [3, 6, 4, 8], [60, 0, 3, 83, 33, 34, 35]), (9, [7, 3], [32]), (24, [0, 3], []), (24, [1, 4], []), (24, [2, 5], [])], [], [], [(20, [0, 1, 2, 6], [60, 1, 3, 85, 32, 33, 34, 35])], [], [(6, 7, -4294967296, -1), (1, 4, -4294967296, 0), (2, 5, -4294967296, 0), (4, 1, -4294967296, 0), (5, 2, -4294967296, 0)])
theorem oo_Mo_edgeOf_5 {kA : Nat → ClassId} : or_ok PRD kA GG o_Mo_edgeOf_5 := by
  refine or_mk fun A ta ws vs hD hth hl => ?_
  intro t0 r0 t1 k1 t2 k2 t4 k4 t5 k5 t6 k6 t7 k7 t8 k8 t9 k9 d0 d1 d2 d3 d4 f0 f1 f2 f3 f4 f6 f9 f10 f11
  replace f0 := shm_40 f0
  replace f2 := shm_512 f2
  replace f4 := shm_512 f4
  replace f6 := shm_525 f6
  replace f9 := shm_5 f9
  replace f10 := shm_5 f10
  replace f11 := shm_5 f11
  have q3 : n_v vs 3 = n_v vs 0 := f9.symm
  have q4 : n_v vs 4 = n_v vs 1 := f10.symm
  have q5 : n_v vs 5 = n_v vs 2 := f11.symm
  simp only [q4, q5, q3] at f0 f2 f4 f6
  have g6 : v_iv (n_v vs 7) = w_fi ws (n_v vs 0) 32 := congrArg v_iv f6
  have kz_0_32 := fdq_140 hD hth r0
  have nf0 : fc_1 PRD (20, [0, 1, 2, 6], [60, 1, 3, 85, 32, 33, 34, 35]) ws (vs) := ⟨nf_in hl rfl, sgq_990 (vc_Mo_edgeOf_5_0 (v_iv (n_v vs 1)) (v_iv (n_v vs 2)) (v_iv (n_v vs 4)) (v_iv (n_v vs 5)) (v_iv (n_v vs 6)) (v_iv (n_v vs 7)) (v_iv (n_v vs 8)) (v_iv (n_v vs 9)) (w_ei ws (w_ar ws (n_v vs 0) 33)) (w_ei ws (w_ar ws (n_v vs 0) 34)) (w_ei ws (w_ar ws (n_v vs 0) 35)) (w_fi ws (n_v vs 0) 32) k1 k2 k4 k5 k6 k7 k8 k9 d0 d1 d2 d3 d4 f0 (shm_142 f1) f2 (shm_142 f3) f4 g6 kz_0_32)⟩
  refine ⟨(fun _ h => (by cases h)), [], trivial, ?_, (fun _ h => (by cases h))⟩
  rw [List.append_nil]
  exact List.forall_mem_cons.mpr ⟨⟨show (20 : Nat) < 100 from by decide, nf0⟩, (fun _ h => (by cases h))⟩
def n_Mo_edgeOf_an : List an_T := [(2, [(0, (2, 0, 0, [165])), (1, (0, (Int.negSucc 0), 25, [])), (2, (0, (Int.negSucc 0), 24, [])), (3, (0, 0, 80, []))], [], (0, 0), [(0, 0, 99998), (1, 6, 80), (0, 0, 100000)], [(1, 4, (Int.negSucc 999999999999), 0), (2, 5, (Int.negSucc 999999999999), 0), (4, 1, (Int.negSucc 999999999999), 0), (5, 2, (Int.negSucc 999999999999), 0)], [], [(2, 0, 0, [165]), (0, (Int.negSucc 0), 25, []), (0, (Int.negSucc 0), 24, [])], 0, [], [(20, [3], [60, 2, 2, 75, 31, 32, 33, 34]), (20, [3, 4, 5, 6], [60, 0, 3, 86, 33, 34, 35]), (24, [0, 3], []), (24, [1, 4], []), (24, [2, 5], [])])]
def t_Mo_edgeOf_ct : ct_L := [(1, 600, e_Mo_at1)]
set_option maxRecDepth 100000 in
theorem c_Mo_edgeOf {l : Launch} {D : va_G} {kA : Nat → ClassId} (h_Mo_at1 : ct_ok PRD l D kA GG y_Mo_at1 z_Mo_at1 e_Mo_at1) : ct_ok PRD l D kA GG y_Mo_edgeOf z_Mo_edgeOf e_Mo_edgeOf := chk_all_ok (FT := [(597, 13, 32)]) (PT := []) (CT := t_Mo_edgeOf_ct) (KT := []) (NT := []) (AN := n_Mo_edgeOf_an) (OT := [o_Mo_edgeOf_0, o_Mo_edgeOf_1, o_Mo_edgeOf_2, o_Mo_edgeOf_3, o_Mo_edgeOf_4, o_Mo_edgeOf_5]) 3 200 (List.forall_mem_cons.mpr ⟨oo_Mo_edgeOf_0, List.forall_mem_cons.mpr ⟨oo_Mo_edgeOf_1, List.forall_mem_cons.mpr ⟨oo_Mo_edgeOf_2, List.forall_mem_cons.mpr ⟨oo_Mo_edgeOf_3, List.forall_mem_cons.mpr ⟨oo_Mo_edgeOf_4, List.forall_mem_cons.mpr ⟨oo_Mo_edgeOf_5, List.forall_mem_nil _⟩⟩⟩⟩⟩⟩) (by decide +kernel) ⟨List.forall_mem_cons.mpr ⟨gf_Mo_597, List.forall_mem_nil _⟩, List.forall_mem_nil _, List.forall_mem_cons.mpr ⟨cl_virtual (y := y_Mo_at1) (ci := 13) rfl rfl ⟨_, _, rfl⟩ (by decide +kernel) h_Mo_at1 wm_3159 wm_9 wm_3156 wm_3158 wv_14_15 ⟨by decide, by decide, by decide +kernel⟩ (by decide), List.forall_mem_nil _⟩, List.forall_mem_nil _, List.forall_mem_nil _, GG_pl⟩ (by decide +kernel)
set_option maxHeartbeats 4000000 in
theorem vc_Mo_firstFit_0_0 (x1 : Int) (x2 : Int) (ends_0 : Int → Int) (faceNodes_0 : Int → Int) (k1 : 0 ≤ x1 ∧ x1 ≤ 79) (k2 : 0 ≤ x2 ∧ x2 ≤ 0) : FFL (ends_0) (faceNodes_0) (x1) (x2) := by
  first
    | (intro g a b; exfalso; omega)
    | (have h := ‹FFL _ _ _ _›
       intro g a b c
       by_cases q : g = x4
       · rw [q] at c; exact absurd (‹FIT _ _ _ _ _›.mpr c) (by omega)
       · exact h g a (by omega) c)
def o_Mo_firstFit_0 : or_T := (2, 3, [(1, (0, 0, 79, [])), (2, (0, 0, 0, []))], [], [], [], [(20, [0, 1, 2], [60, 0, 2, 116, 50, 51]), (24, [0, 0], []), (24, [1, 1], [])], [], [])
theorem oo_Mo_firstFit_0 {kA : Nat → ClassId} : or_ok PRD kA GG o_Mo_firstFit_0 := by
  refine or_mk fun A ta ws vs hD hth hl => ?_
  intro t1 k1 t2 k2
  have nf0 : fc_1 PRD (20, [0, 1, 2], [60, 0, 2, 116, 50, 51]) ws (vs) := ⟨nf_in hl rfl, sgq_991 (vc_Mo_firstFit_0_0 (v_iv (n_v vs 1)) (v_iv (n_v vs 2)) (w_ei ws (w_ar ws (n_v vs 0) 50)) (w_ei ws (w_ar ws (n_v vs 0) 51)) k1 k2)⟩
  have nf1 : fc_1 PRD (24, [0, 0], []) ws (vs) := by
    refine ⟨nf_in hl rfl, sgq_1 ?_⟩
    · show n_v vs 0 = n_v vs 0
      first | rfl | simp only [true_and]
  have nf2 : fc_1 PRD (24, [1, 1], []) ws (vs) := by
    refine ⟨nf_in hl rfl, sgq_1 ?_⟩
    · show n_v vs 1 = n_v vs 1
      first | rfl | simp only [true_and]
  refine ⟨(fun _ h => (by cases h)), [], trivial, ?_, (fun _ h => (by cases h))⟩
  rw [List.append_nil]
  exact List.forall_mem_cons.mpr ⟨⟨show (20 : Nat) < 100 from by decide, nf0⟩, List.forall_mem_cons.mpr ⟨⟨show (24 : Nat) < 100 from by decide, nf1⟩, List.forall_mem_cons.mpr ⟨⟨show (24 : Nat) < 100 from by decide, nf2⟩, (fun _ h => (by cases h))⟩⟩⟩
set_option maxHeartbeats 4000000 in
theorem vc_Mo_firstFit_1_0 (x1 : Int) (x4 : Int) (x5 : Int) (x6 : Int) (faces_0 : Int) (ends_0 : Int → Int) (faceNodes_0 : Int → Int) (k1 : 0 ≤ x1 ∧ x1 ≤ 79) (k4 : 0 ≤ x4 ∧ x4 ≤ 120) (k5 : 0 ≤ x5 ∧ x5 ≤ 120) (k6 : (-1) ≤ x6 ∧ x6 ≤ (-1)) (d0 : x5 + 0 ≤ x4 ∧ x4 ≤ x5 + 4294967296) (g1 : x5 = faces_0) (f2 : FFL (ends_0) (faceNodes_0) (x1) (x4)) (kz_0_39 : 0 ≤ faces_0 ∧ faces_0 ≤ 120) : FFT (faces_0) (ends_0) (faceNodes_0) (x1) (x6) := by
  exact Or.inl ⟨by omega, fun g a b => ‹FFL _ _ _ _› g a (by omega)⟩
def o_Mo_firstFit_1 : or_T := (28, 7, [(0, (2, 0, 0, [165])), (1, (0, 0, 79, [])), (4, (0, 0, 120, [])), (5, (0, 0, 120, [])), (6, (0, -1, -1, []))], [(9, [5, 2], [39]), (20, [2, 3, 4], [60, 0, 2, 116, 50, 51]), (24, [0, 2], []), (24, [1, 3], [])], [], [], [(20, [0, 1, 6], [60, 1, 2, 117, 39, 50, 51])], [], [(4, 5, 0, 4294967296)])
theorem oo_Mo_firstFit_1 {kA : Nat → ClassId} : or_ok PRD kA GG o_Mo_firstFit_1 := by
  refine or_mk fun A ta ws vs hD hth hl => ?_
  intro t0 r0 t1 k1 t4 k4 t5 k5 t6 k6 d0 f1 f2 f3 f4
  replace f1 := shm_516 f1
  replace f2 := shm_991 f2
  replace f3 := shm_5 f3
  replace f4 := shm_5 f4
  have q2 : n_v vs 2 = n_v vs 0 := f3.symm
  have q3 : n_v vs 3 = n_v vs 1 := f4.symm
  simp only [q2, q3] at f1 f2
  have g1 : v_iv (n_v vs 5) = w_fi ws (n_v vs 0) 39 := congrArg v_iv f1
  have kz_0_39 := fdq_135 hD hth r0
  have nf0 : fc_1 PRD (20, [0, 1, 6], [60, 1, 2, 117, 39, 50, 51]) ws (vs) := ⟨nf_in hl rfl, sgq_992 (vc_Mo_firstFit_1_0 (v_iv (n_v vs 1)) (v_iv (n_v vs 4)) (v_iv (n_v vs 5)) (v_iv (n_v vs 6)) (w_fi ws (n_v vs 0) 39) (w_ei ws (w_ar ws (n_v vs 0) 50)) (w_ei ws (w_ar ws (n_v vs 0) 51)) k1 k4 k5 k6 d0 g1 f2 kz_0_39)⟩
  refine ⟨(fun _ h => (by cases h)), [], trivial, ?_, (fun _ h => (by cases h))⟩
  rw [List.append_nil]
  exact List.forall_mem_cons.mpr ⟨⟨show (20 : Nat) < 100 from by decide, nf0⟩, (fun _ h => (by cases h))⟩
set_option maxHeartbeats 4000000 in
theorem vc_Mo_firstFit_2_0 (x1 : Int) (x4 : Int) (x6 : Int) (x7 : Int) (ends_0 : Int → Int) (faceNodes_0 : Int → Int) (k1 : 0 ≤ x1 ∧ x1 ≤ 79) (k4 : 0 ≤ x4 ∧ x4 ≤ 119) (k6 : 0 ≤ x6 ∧ x6 ≤ 0) (k7 : 1 ≤ x7 ∧ x7 ≤ 120) (d0 : x4 + 1 ≤ x7 ∧ x7 ≤ x4 + 1) (f2 : FIT (ends_0) (faceNodes_0) (x1) (x4) (x6)) (f5 : FFL (ends_0) (faceNodes_0) (x1) (x4)) : FFL (ends_0) (faceNodes_0) (x1) (x7) := by
  first
    | (intro g a b; exfalso; omega)
    | (have h := ‹FFL _ _ _ _›
       intro g a b c
       by_cases q : g = x4
       · rw [q] at c; exact absurd (‹FIT _ _ _ _ _›.mpr c) (by omega)
       · exact h g a (by omega) c)
def o_Mo_firstFit_2 : or_T := (2, 8, [(1, (0, 0, 79, [])), (4, (0, 0, 119, [])), (6, (0, 0, 0, [])), (7, (0, 1, 120, []))], [(20, [2, 3, 4, 6], [60, 0, 2, 115, 50, 51]), (20, [2, 3, 4], [60, 0, 2, 116, 50, 51]), (24, [0, 2], []), (24, [1, 3], [])], [], [], [(20, [2, 3, 7], [60, 0, 2, 116, 50, 51])], [], [(7, 4, 1, 1)])
theorem oo_Mo_firstFit_2 {kA : Nat → ClassId} : or_ok PRD kA GG o_Mo_firstFit_2 := by
  refine or_mk fun A ta ws vs hD hth hl => ?_
  intro t1 k1 t4 k4 t6 k6 t7 k7 d0 f2 f5 f6 f7
  replace f2 := shm_574 f2
  replace f5 := shm_991 f5
  replace f6 := shm_5 f6
  replace f7 := shm_5 f7
  have q2 : n_v vs 2 = n_v vs 0 := f6.symm
  have q3 : n_v vs 3 = n_v vs 1 := f7.symm
  simp only [q2, q3] at f2 f5
  have nf0 : fc_1 PRD (20, [2, 3, 7], [60, 0, 2, 116, 50, 51]) ws (vs) := by
    refine ⟨nf_in hl rfl, sgq_991 ?_⟩
    · show FFL (w_ei ws (w_ar ws (n_v vs 2) 50)) (w_ei ws (w_ar ws (n_v vs 2) 51)) (v_iv (n_v vs 3)) (v_iv (n_v vs 7))
      simp only [q2, q3]
      exact vc_Mo_firstFit_2_0 (v_iv (n_v vs 1)) (v_iv (n_v vs 4)) (v_iv (n_v vs 6)) (v_iv (n_v vs 7)) (w_ei ws (w_ar ws (n_v vs 0) 50)) (w_ei ws (w_ar ws (n_v vs 0) 51)) k1 k4 k6 k7 d0 f2 f5
  refine ⟨(fun _ h => (by cases h)), [], trivial, ?_, (fun _ h => (by cases h))⟩
  rw [List.append_nil]
  exact List.forall_mem_cons.mpr ⟨⟨show (20 : Nat) < 100 from by decide, nf0⟩, (fun _ h => (by cases h))⟩
set_option maxHeartbeats 4000000 in
theorem vc_Mo_firstFit_3_0 (x1 : Int) (x4 : Int) (x5 : Int) (x6 : Int) (ends_0 : Int → Int) (faceNodes_0 : Int → Int) (faces_0 : Int) (k1 : 0 ≤ x1 ∧ x1 ≤ 79) (k4 : 0 ≤ x4 ∧ x4 ≤ 119) (k5 : 1 ≤ x5 ∧ x5 ≤ 120) (k6 : 1 ≤ x6 ∧ x6 ≤ 1) (d0 : x5 + (-4294967296) ≤ x4 ∧ x4 ≤ x5 + (-1)) (f0 : x6 ≠ 0) (f1 : FIT (ends_0) (faceNodes_0) (x1) (x4) (x6)) (g3 : x5 = faces_0) (kz_0_39 : 0 ≤ faces_0 ∧ faces_0 ≤ 120) : FFT (faces_0) (ends_0) (faceNodes_0) (x1) (x4) := by
  exact Or.inr ⟨by omega, by omega, ‹FIT _ _ _ _ _›.mp (by omega)⟩
def o_Mo_firstFit_3 : or_T := (20, 7, [(0, (2, 0, 0, [165])), (1, (0, 0, 79, [])), (4, (0, 0, 119, [])), (5, (0, 1, 120, [])), (6, (0, 1, 1, []))], [(8, [6], [1]), (20, [2, 3, 4, 6], [60, 0, 2, 115, 50, 51]), (9, [5, 2], [39]), (24, [0, 2], []), (24, [1, 3], [])], [], [], [(20, [0, 1, 4], [60, 1, 2, 117, 39, 50, 51])], [], [(4, 5, -4294967296, -1)])
theorem oo_Mo_firstFit_3 {kA : Nat → ClassId} : or_ok PRD kA GG o_Mo_firstFit_3 := by
  refine or_mk fun A ta ws vs hD hth hl => ?_
  intro t0 r0 t1 k1 t4 k4 t5 k5 t6 k6 d0 f0 f1 f3 f5 f6
  replace f1 := shm_574 f1
  replace f3 := shm_516 f3
  replace f5 := shm_5 f5
  replace f6 := shm_5 f6
  have q2 : n_v vs 2 = n_v vs 0 := f5.symm
  have q3 : n_v vs 3 = n_v vs 1 := f6.symm
  simp only [q2, q3] at f1 f3
  have g3 : v_iv (n_v vs 5) = w_fi ws (n_v vs 0) 39 := congrArg v_iv f3
  have kz_0_39 := fdq_135 hD hth r0
  have nf0 : fc_1 PRD (20, [0, 1, 4], [60, 1, 2, 117, 39, 50, 51]) ws (vs) := ⟨nf_in hl rfl, sgq_992 (vc_Mo_firstFit_3_0 (v_iv (n_v vs 1)) (v_iv (n_v vs 4)) (v_iv (n_v vs 5)) (v_iv (n_v vs 6)) (w_ei ws (w_ar ws (n_v vs 0) 50)) (w_ei ws (w_ar ws (n_v vs 0) 51)) (w_fi ws (n_v vs 0) 39) k1 k4 k5 k6 d0 (shm_142 f0) f1 g3 kz_0_39)⟩
  refine ⟨(fun _ h => (by cases h)), [], trivial, ?_, (fun _ h => (by cases h))⟩
  rw [List.append_nil]
  exact List.forall_mem_cons.mpr ⟨⟨show (20 : Nat) < 100 from by decide, nf0⟩, (fun _ h => (by cases h))⟩
def n_Mo_firstFit_an : List an_T := [(2, [(0, (2, 0, 0, [165])), (1, (0, 0, 79, [])), (2, (0, 0, 120, []))], [], (0, 0), [(0, 0, 99998), (1, 4, 120), (0, 0, 100000)], [(1, 3, (Int.negSucc 999999999999), 0), (3, 1, (Int.negSucc 999999999999), 0)], [], [(2, 0, 0, [165]), (0, 0, 79, [])], 0, [], [(20, [2, 3, 4], [60, 0, 2, 116, 50, 51]), (24, [0, 2], []), (24, [1, 3], [])])]
def t_Mo_firstFit_ct : ct_L := [(1, 662, e_Mo_fitsFace)]
set_option maxRecDepth 100000 in
theorem c_Mo_firstFit {l : Launch} {D : va_G} {kA : Nat → ClassId} (h_Mo_fitsFace : ct_ok PRD l D kA GG y_Mo_fitsFace z_Mo_fitsFace e_Mo_fitsFace) : ct_ok PRD l D kA GG y_Mo_firstFit z_Mo_firstFit e_Mo_firstFit := chk_all_ok (FT := [(612, 13, 39)]) (PT := []) (CT := t_Mo_firstFit_ct) (KT := []) (NT := []) (AN := n_Mo_firstFit_an) (OT := [o_Mo_firstFit_0, o_Mo_firstFit_1, o_Mo_firstFit_2, o_Mo_firstFit_3]) 3 200 (List.forall_mem_cons.mpr ⟨oo_Mo_firstFit_0, List.forall_mem_cons.mpr ⟨oo_Mo_firstFit_1, List.forall_mem_cons.mpr ⟨oo_Mo_firstFit_2, List.forall_mem_cons.mpr ⟨oo_Mo_firstFit_3, List.forall_mem_nil _⟩⟩⟩⟩) (by decide +kernel) ⟨List.forall_mem_cons.mpr ⟨gf_Mo_612, List.forall_mem_nil _⟩, List.forall_mem_nil _, List.forall_mem_cons.mpr ⟨cl_virtual (y := y_Mo_fitsFace) (ci := 13) rfl rfl ⟨_, _, rfl⟩ (by decide +kernel) h_Mo_fitsFace wm_3223 wm_9 wm_3220 wm_3222 wv_15_14 ⟨by decide, by decide, by decide +kernel⟩ (by decide), List.forall_mem_nil _⟩, List.forall_mem_nil _, List.forall_mem_nil _, GG_pl⟩ (by decide +kernel)
set_option maxHeartbeats 4000000 in
theorem vc_Mo_insert_0_0 (x1 : Int) (x4 : Int) (x5 : Int) (bestWay_0 : Int → Int) (pt_0 : Int → Int) (ph_0 : Int → Int) (drawnNode_0 : Int → Int) (row_0 : Int → Int) (pn_0 : Int) (rowMany_0 : Int) (k1 : 0 ≤ x1 ∧ x1 ≤ 31) (k4 : 0 ≤ x4 ∧ x4 ≤ 0) (k5 : 0 ≤ x5 ∧ x5 ≤ 24) (h0 : x5 = bestWay_0 (x4)) (f2 : INP (pn_0) (rowMany_0) (pt_0) (ph_0) (drawnNode_0) (row_0) (bestWay_0) (x1)) (kz_0_31 : 0 ≤ pn_0 ∧ pn_0 ≤ 25) (kz_0_125 : 0 ≤ rowMany_0 ∧ rowMany_0 ≤ 100) : RPL (rowMany_0) (row_0) (x5) := by
  have h := inp_end ‹INP _ _ _ _ _ _ _ _› 0 (Or.inl rfl)
  rw [← (by omega : x4 = 0), ← ‹x5 = bestWay_0 x4›] at h; exact h
def o_Mo_insert_0 : or_T := (7, 6, [(0, (2, 0, 0, [165])), (1, (0, 0, 31, [])), (4, (0, 0, 0, [])), (5, (0, 0, 24, []))], [(10, [5, 3, 4], []), (9, [3, 0], [52]), (20, [0, 1], [60, 2, 5, 311, 31, 125, 33, 34, 42, 117, 52])], [], [], [(20, [0, 5], [60, 1, 1, 308, 125, 117])], [], [])
theorem oo_Mo_insert_0 {kA : Nat → ClassId} : or_ok PRD kA GG o_Mo_insert_0 := by
  refine or_mk fun A ta ws vs hD hth hl => ?_
  intro t0 r0 t1 k1 t4 k4 t5 k5 f0 f1 f2
  replace f0 := shm_107 f0
  replace f1 := shm_993 f1
  have ad_3 : v_ad (n_v vs 3) = w_ar ws (n_v vs 0) 52 := congrArg v_ad f1
  simp only [ad_3] at f0
  have h0 : v_iv (n_v vs 5) = w_ei ws (w_ar ws (n_v vs 0) 52) (v_iv (n_v vs 4)) := f0
  have kz_0_31 := fdq_145 hD hth r0
  have kz_0_125 := fdq_182 hD hth r0
  have nf0 : fc_1 PRD (20, [0, 5], [60, 1, 1, 308, 125, 117]) ws (vs) := ⟨nf_in hl rfl, sgq_711 (vc_Mo_insert_0_0 (v_iv (n_v vs 1)) (v_iv (n_v vs 4)) (v_iv (n_v vs 5)) (w_ei ws (w_ar ws (n_v vs 0) 52)) (w_ei ws (w_ar ws (n_v vs 0) 33)) (w_ei ws (w_ar ws (n_v vs 0) 34)) (w_ei ws (w_ar ws (n_v vs 0) 42)) (w_ei ws (w_ar ws (n_v vs 0) 117)) (w_fi ws (n_v vs 0) 31) (w_fi ws (n_v vs 0) 125) k1 k4 k5 h0 (shm_994 f2) kz_0_31 kz_0_125)⟩
  refine ⟨(fun _ h => (by cases h)), [], trivial, ?_, (fun _ h => (by cases h))⟩
  rw [List.append_nil]
  exact List.forall_mem_cons.mpr ⟨⟨show (20 : Nat) < 100 from by decide, nf0⟩, (fun _ h => (by cases h))⟩
set_option maxHeartbeats 4000000 in
theorem vc_Mo_insert_1_r0 (x1 : Int) (x8 : Int) (row_0 : Int → Int) (rowMany_0 : Int) (bestWay_0 : Int → Int) (pt_0 : Int → Int) (ph_0 : Int → Int) (drawnNode_0 : Int → Int) (pn_0 : Int) (k1 : 0 ≤ x1 ∧ x1 ≤ 31) (k8 : (-1) ≤ x8 ∧ x8 ≤ 30) (d0 : x1 + (-1) ≤ x8 ∧ x8 ≤ x1 + (-1)) (f5 : INP (pn_0) (rowMany_0) (pt_0) (ph_0) (drawnNode_0) (row_0) (bestWay_0) (x1)) (kz_0_31 : 0 ≤ pn_0 ∧ pn_0 ≤ 25) (kz_0_125 : 0 ≤ rowMany_0 ∧ rowMany_0 ≤ 100) : 0 ≤ x8 ∧ x8 ≤ 29 := by
  first
    | omega
    | (have h := inp_len ‹INP _ _ _ _ _ _ _ _›; omega)
    | (have h := in1_len ‹IN1 _ _ _ _ _ _ _ _ _ _ _ _›; omega)
    | (have h := in2_len ‹IN2 _ _ _ _ _ _ _ _ _ _ _ _›; omega)
    | (have h := in2_len ‹IN2 _ _ _ _ _ _ _ _ _ _ _ _›
       have w := in2_W (t := x13) ‹IN2 _ _ _ _ _ _ _ _ _ _ _ _› (by omega) (by omega)
       omega)
    | (have h := in2_len ‹IN2 _ _ _ _ _ _ _ _ _ _ _ _›
       have w := in2_W (t := x14) ‹IN2 _ _ _ _ _ _ _ _ _ _ _ _› (by omega) (by omega)
       omega)
def o_Mo_insert_1 : or_T := (19, 9, [(0, (2, 0, 0, [165])), (1, (0, 0, 31, [])), (2, (0, 0, 100, [])), (3, (2, 0, 0, [195])), (4, (0, 0, 0, [])), (5, (0, 0, 24, [])), (6, (0, 0, 99, [])), (7, (0, 1, 1, [])), (8, (0, -1, 30, []))], [(2, [8, 1, 7], []), (9, [3, 0], [52]), (20, [0, 5, 6], [60, 1, 1, 310, 125, 117]), (20, [0, 5], [60, 1, 1, 308, 125, 117]), (10, [5, 3, 4], []), (20, [0, 1], [60, 2, 5, 311, 31, 125, 33, 34, 42, 117, 52]), (20, [0, 2], [50, 1, 0, 125, 1, 3, 2, 0, 125, 1, 1])], [(8, (0, 0, 29, []))], [], [], [], [(8, 1, -1, -1)])
theorem oo_Mo_insert_1 {kA : Nat → ClassId} : or_ok PRD kA GG o_Mo_insert_1 := by
  refine or_mk fun A ta ws vs hD hth hl => ?_
  intro t0 r0 t1 k1 t2 k2 t3 r3 t4 k4 t5 k5 t6 k6 t7 k7 t8 k8 d0 f0 f1 f2 f3 f4 f5 f6
  have kz_0_31 := fdq_145 hD hth r0
  have kz_0_125 := fdq_182 hD hth r0
  have hrf0 : 0 ≤ v_iv (n_v vs 8) ∧ v_iv (n_v vs 8) ≤ 29 := vc_Mo_insert_1_r0 (v_iv (n_v vs 1)) (v_iv (n_v vs 8)) (w_ei ws (w_ar ws (n_v vs 0) 117)) (w_fi ws (n_v vs 0) 125) (w_ei ws (w_ar ws (n_v vs 0) 52)) (w_ei ws (w_ar ws (n_v vs 0) 33)) (w_ei ws (w_ar ws (n_v vs 0) 34)) (w_ei ws (w_ar ws (n_v vs 0) 42)) (w_fi ws (n_v vs 0) 31) k1 k8 d0 (shm_994 f5) kz_0_31 kz_0_125
  have rf8 : tv_ok ta (0, 0, 29, []) (n_v vs 8) := tv_in t8 (by first | omega | grind) (by first | omega | grind)
  refine ⟨List.forall_mem_cons.mpr ⟨rf8, (fun _ h => (by cases h))⟩, [], trivial, ?_, (fun _ h => (by cases h))⟩
  rw [List.append_nil]
  exact (fun _ h => (by cases h))
set_option maxHeartbeats 4000000 in
theorem vc_Mo_insert_2_0 (x1 : Int) (x8 : Int) (x9 : Int) (bestWay_0 : Int → Int) (row_0 : Int → Int) (rowMany_0 : Int) (pt_0 : Int → Int) (ph_0 : Int → Int) (drawnNode_0 : Int → Int) (pn_0 : Int) (k1 : 0 ≤ x1 ∧ x1 ≤ 31) (k8 : 0 ≤ x8 ∧ x8 ≤ 29) (k9 : 0 ≤ x9 ∧ x9 ≤ 24) (d0 : x1 + (-1) ≤ x8 ∧ x8 ≤ x1 + (-1)) (h0 : x9 = bestWay_0 (x8)) (f6 : INP (pn_0) (rowMany_0) (pt_0) (ph_0) (drawnNode_0) (row_0) (bestWay_0) (x1)) (kz_0_31 : 0 ≤ pn_0 ∧ pn_0 ≤ 25) (kz_0_125 : 0 ≤ rowMany_0 ∧ rowMany_0 ≤ 100) : RPL (rowMany_0) (row_0) (x9) := by
  have h := inp_end ‹INP _ _ _ _ _ _ _ _› (x1 - 1) (Or.inr rfl)
  rw [← (by omega : x8 = x1 - 1), ← ‹x9 = bestWay_0 x8›] at h; exact h
def o_Mo_insert_2 : or_T := (20, 10, [(0, (2, 0, 0, [165])), (1, (0, 0, 31, [])), (8, (0, 0, 29, [])), (9, (0, 0, 24, []))], [(10, [9, 3, 8], []), (9, [3, 0], [52]), (20, [0, 1], [60, 2, 5, 311, 31, 125, 33, 34, 42, 117, 52])], [], [], [(20, [0, 9], [60, 1, 1, 308, 125, 117])], [], [(8, 1, -1, -1)])
theorem oo_Mo_insert_2 {kA : Nat → ClassId} : or_ok PRD kA GG o_Mo_insert_2 := by
  refine or_mk fun A ta ws vs hD hth hl => ?_
  intro t0 r0 t1 k1 t8 k8 t9 k9 d0 f0 f2 f6
  replace f0 := shm_107 f0
  replace f2 := shm_993 f2
  have ad_3 : v_ad (n_v vs 3) = w_ar ws (n_v vs 0) 52 := congrArg v_ad f2
  simp only [ad_3] at f0
  have h0 : v_iv (n_v vs 9) = w_ei ws (w_ar ws (n_v vs 0) 52) (v_iv (n_v vs 8)) := f0
  have kz_0_31 := fdq_145 hD hth r0
  have kz_0_125 := fdq_182 hD hth r0
  have nf0 : fc_1 PRD (20, [0, 9], [60, 1, 1, 308, 125, 117]) ws (vs) := ⟨nf_in hl rfl, sgq_711 (vc_Mo_insert_2_0 (v_iv (n_v vs 1)) (v_iv (n_v vs 8)) (v_iv (n_v vs 9)) (w_ei ws (w_ar ws (n_v vs 0) 52)) (w_ei ws (w_ar ws (n_v vs 0) 117)) (w_fi ws (n_v vs 0) 125) (w_ei ws (w_ar ws (n_v vs 0) 33)) (w_ei ws (w_ar ws (n_v vs 0) 34)) (w_ei ws (w_ar ws (n_v vs 0) 42)) (w_fi ws (n_v vs 0) 31) k1 k8 k9 d0 h0 (shm_994 f6) kz_0_31 kz_0_125)⟩
  refine ⟨(fun _ h => (by cases h)), [], trivial, ?_, (fun _ h => (by cases h))⟩
  rw [List.append_nil]
  exact List.forall_mem_cons.mpr ⟨⟨show (20 : Nat) < 100 from by decide, nf0⟩, (fun _ h => (by cases h))⟩
set_option maxHeartbeats 4000000 in
theorem vc_Mo_insert_3_0 (x1 : Int) (x4 : Int) (x5 : Int) (x6 : Int) (x8 : Int) (x9 : Int) (x10 : Int) (x12 : Int) (x13 : Int) (x15 : Int) (rowMany_0 : Int) (row_0 : Int → Int) (bestWay_0 : Int → Int) (pt_0 : Int → Int) (ph_0 : Int → Int) (drawnNode_0 : Int → Int) (pn_0 : Int) (k1 : 0 ≤ x1 ∧ x1 ≤ 31) (k4 : 0 ≤ x4 ∧ x4 ≤ 0) (k5 : 0 ≤ x5 ∧ x5 ≤ 24) (k6 : 0 ≤ x6 ∧ x6 ≤ 99) (k8 : 0 ≤ x8 ∧ x8 ≤ 29) (k9 : 0 ≤ x9 ∧ x9 ≤ 24) (k10 : 0 ≤ x10 ∧ x10 ≤ 99) (k12 : (-2) ≤ x12 ∧ x12 ≤ 29) (k13 : 0 ≤ x13 ∧ x13 ≤ 100) (k15 : (-1) ≤ x15 ∧ x15 ≤ 99) (d0 : x13 + (-1) ≤ x15 ∧ x15 ≤ x13 + (-1)) (d1 : x10 + 0 ≤ x6 ∧ x6 ≤ x10 + 4294967296) (d2 : x1 + (-2) ≤ x12 ∧ x12 ≤ x1 + (-2)) (d3 : x1 + (-1) ≤ x8 ∧ x8 ≤ x1 + (-1)) (g1 : x13 = rowMany_0) (f4 : RPQ (rowMany_0) (row_0) (x9) (x10)) (h6 : x9 = bestWay_0 (x8)) (f9 : RPQ (rowMany_0) (row_0) (x5) (x6)) (h11 : x5 = bestWay_0 (x4)) (f12 : INP (pn_0) (rowMany_0) (pt_0) (ph_0) (drawnNode_0) (row_0) (bestWay_0) (x1)) (kz_0_31 : 0 ≤ pn_0 ∧ pn_0 ≤ 25) (kz_0_125 : 0 ≤ rowMany_0 ∧ rowMany_0 ≤ 100) : IN1 (pn_0) (rowMany_0) (pt_0) (ph_0) (drawnNode_0) (row_0) (bestWay_0) (x1) (x6) (x10) (x6) (x15) := by
  first
    | exact in1_step ‹IN1 _ _ _ _ _ _ _ _ _ _ _ _› (by omega) (by omega) (by assumption) (by omega) (by assumption) (by omega)
    | exact ⟨row_0, ⟨‹INP _ _ _ _ _ _ _ _›, ⟨by have h := (‹RPQ _ _ x5 x6›).1; omega, by have h := (‹RPQ _ _ x5 x6›).2.1; omega, by have h := (‹RPQ _ _ x5 x6›).2.2; rw [h, ← (by omega : x4 = 0)]; assumption⟩, by have h := (‹RPQ _ _ x9 x10›).1; omega, by have h := (‹RPQ _ _ x9 x10›).2.1; omega, by have h := (‹RPQ _ _ x9 x10›).2.2; rw [h, ← (by omega : x8 = x1 - 1)]; assumption⟩, by unfold frm; rw [if_neg (by omega)], by have h := (‹RPQ _ _ x5 x6›).2.1; have h2 := (‹RPQ _ _ x9 x10›).2.1; omega, by omega, fun _ _ _ => rfl, fun t a b => by exfalso; omega⟩
    | exact ⟨row_0, ⟨‹INP _ _ _ _ _ _ _ _›, ⟨by have h := (‹RPQ _ _ x5 x6›).1; omega, by have h := (‹RPQ _ _ x5 x6›).2.1; omega, by have h := (‹RPQ _ _ x5 x6›).2.2; rw [h, ← (by omega : x4 = 0)]; assumption⟩, by have h := (‹RPQ _ _ x9 x10›).1; omega, by have h := (‹RPQ _ _ x9 x10›).2.1; omega, by have h := (‹RPQ _ _ x9 x10›).2.2; rw [h, ← (by omega : x8 = x1 - 1)]; assumption⟩, by unfold frm; rw [if_pos (by omega)]; omega, by have h := (‹RPQ _ _ x5 x6›).2.1; have h2 := (‹RPQ _ _ x9 x10›).2.1; omega, by omega, fun _ _ _ => rfl, fun t a b => by exfalso; omega⟩
set_option maxHeartbeats 4000000 in
theorem vc_Mo_insert_3_1 (x1 : Int) (x12 : Int) (x13 : Int) (x14 : Int) (k1 : 0 ≤ x1 ∧ x1 ≤ 31) (k12 : (-2) ≤ x12 ∧ x12 ≤ 29) (d2 : x1 + (-2) ≤ x12 ∧ x12 ≤ x1 + (-2)) : x12 = (x1 - 2) := by
  first
    | omega
    | (have h := inp_len ‹INP _ _ _ _ _ _ _ _›; omega)
    | (have h := in1_len ‹IN1 _ _ _ _ _ _ _ _ _ _ _ _›; omega)
    | (have h := in2_len ‹IN2 _ _ _ _ _ _ _ _ _ _ _ _›; omega)
    | (have h := in2_len ‹IN2 _ _ _ _ _ _ _ _ _ _ _ _›
       have w := in2_W (t := x13) ‹IN2 _ _ _ _ _ _ _ _ _ _ _ _› (by omega) (by omega)
       omega)
    | (have h := in2_len ‹IN2 _ _ _ _ _ _ _ _ _ _ _ _›
       have w := in2_W (t := x14) ‹IN2 _ _ _ _ _ _ _ _ _ _ _ _› (by omega) (by omega)
       omega)
def o_Mo_insert_3 : or_T := (51, 16, [(0, (2, 0, 0, [165])), (1, (0, 0, 31, [])), (4, (0, 0, 0, [])), (5, (0, 0, 24, [])), (6, (0, 0, 99, [])), (8, (0, 0, 29, [])), (9, (0, 0, 24, [])), (10, (0, 0, 99, [])), (12, (0, -2, 29, [])), (13, (0, 0, 100, [])), (15, (0, -1, 99, []))], [(9, [13, 0], [125]), (20, [0, 9, 10], [60, 1, 1, 310, 125, 117]), (10, [9, 3, 8], []), (9, [3, 0], [52]), (20, [0, 5, 6], [60, 1, 1, 310, 125, 117]), (10, [5, 3, 4], []), (20, [0, 1], [60, 2, 5, 311, 31, 125, 33, 34, 42, 117, 52])], [], [], [(20, [0, 1, 6, 10, 6, 15], [60, 2, 5, 313, 31, 125, 33, 34, 42, 117, 52]), (20, [12, 1], [50, 0, 0, 1, 2, 1, 0, 5, 2, 1, 1, 0, 2]), (24, [0, 0], [])], [], [(15, 13, -1, -1), (6, 10, 0, 4294967296), (12, 1, -2, -2), (8, 1, -1, -1)])
theorem oo_Mo_insert_3 {kA : Nat → ClassId} : or_ok PRD kA GG o_Mo_insert_3 := by
  refine or_mk fun A ta ws vs hD hth hl => ?_
  intro t0 r0 t1 k1 t4 k4 t5 k5 t6 k6 t8 k8 t9 k9 t10 k10 t12 k12 t13 k13 t15 k15 d0 d1 d2 d3 f1 f4 f6 f8 f9 f11 f12
  replace f1 := shm_996 f1
  replace f6 := shm_107 f6
  replace f8 := shm_993 f8
  replace f11 := shm_107 f11
  have ad_3 : v_ad (n_v vs 3) = w_ar ws (n_v vs 0) 52 := congrArg v_ad f8
  have g1 : v_iv (n_v vs 13) = w_fi ws (n_v vs 0) 125 := congrArg v_iv f1
  simp only [ad_3] at f6
  have h6 : v_iv (n_v vs 9) = w_ei ws (w_ar ws (n_v vs 0) 52) (v_iv (n_v vs 8)) := f6
  simp only [ad_3] at f11
  have h11 : v_iv (n_v vs 5) = w_ei ws (w_ar ws (n_v vs 0) 52) (v_iv (n_v vs 4)) := f11
  have kz_0_31 := fdq_145 hD hth r0
  have kz_0_125 := fdq_182 hD hth r0
  have nf0 : fc_1 PRD (20, [0, 1, 6, 10, 6, 15], [60, 2, 5, 313, 31, 125, 33, 34, 42, 117, 52]) ws (vs) := ⟨nf_in hl rfl, sgq_997 (vc_Mo_insert_3_0 (v_iv (n_v vs 1)) (v_iv (n_v vs 4)) (v_iv (n_v vs 5)) (v_iv (n_v vs 6)) (v_iv (n_v vs 8)) (v_iv (n_v vs 9)) (v_iv (n_v vs 10)) (v_iv (n_v vs 12)) (v_iv (n_v vs 13)) (v_iv (n_v vs 15)) (w_fi ws (n_v vs 0) 125) (w_ei ws (w_ar ws (n_v vs 0) 117)) (w_ei ws (w_ar ws (n_v vs 0) 52)) (w_ei ws (w_ar ws (n_v vs 0) 33)) (w_ei ws (w_ar ws (n_v vs 0) 34)) (w_ei ws (w_ar ws (n_v vs 0) 42)) (w_fi ws (n_v vs 0) 31) k1 k4 k5 k6 k8 k9 k10 k12 k13 k15 d0 d1 d2 d3 g1 (shm_714 f4) h6 (shm_714 f9) h11 (shm_994 f12) kz_0_31 kz_0_125)⟩
  have nf1 : fc_1 PRD (20, [12, 1], [50, 0, 0, 1, 2, 1, 0, 5, 2, 1, 1, 0, 2]) ws (vs) := ⟨nf_in hl rfl, sgq_998 (vc_Mo_insert_3_1 (v_iv (n_v vs 1)) (v_iv (n_v vs 12)) (v_iv (n_v vs 13)) (v_iv (n_v vs 14)) k1 k12 d2)⟩
  have nf2 : fc_1 PRD (24, [0, 0], []) ws (vs) := by
    refine ⟨nf_in hl rfl, sgq_1 ?_⟩
    · show n_v vs 0 = n_v vs 0
      first | rfl | simp only [true_and]
  refine ⟨(fun _ h => (by cases h)), [], trivial, ?_, (fun _ h => (by cases h))⟩
  rw [List.append_nil]
  exact List.forall_mem_cons.mpr ⟨⟨show (20 : Nat) < 100 from by decide, nf0⟩, List.forall_mem_cons.mpr ⟨⟨show (20 : Nat) < 100 from by decide, nf1⟩, List.forall_mem_cons.mpr ⟨⟨show (24 : Nat) < 100 from by decide, nf2⟩, (fun _ h => (by cases h))⟩⟩⟩
set_option maxHeartbeats 4000000 in
theorem vc_Mo_insert_4_0 (x1 : Int) (x4 : Int) (x5 : Int) (x6 : Int) (x8 : Int) (x9 : Int) (x10 : Int) (x12 : Int) (x14 : Int) (x15 : Int) (x17 : Int) (rowMany_0 : Int) (row_0 : Int → Int) (bestWay_0 : Int → Int) (pt_0 : Int → Int) (ph_0 : Int → Int) (drawnNode_0 : Int → Int) (pn_0 : Int) (k1 : 0 ≤ x1 ∧ x1 ≤ 31) (k4 : 0 ≤ x4 ∧ x4 ≤ 0) (k5 : 0 ≤ x5 ∧ x5 ≤ 24) (k6 : 0 ≤ x6 ∧ x6 ≤ 98) (k8 : 0 ≤ x8 ∧ x8 ≤ 29) (k9 : 0 ≤ x9 ∧ x9 ≤ 24) (k10 : 1 ≤ x10 ∧ x10 ≤ 99) (k12 : (-2) ≤ x12 ∧ x12 ≤ 29) (k14 : 1 ≤ x14 ∧ x14 ≤ 99) (k15 : 0 ≤ x15 ∧ x15 ≤ 100) (k17 : (-1) ≤ x17 ∧ x17 ≤ 99) (d0 : x15 + (-1) ≤ x17 ∧ x17 ≤ x15 + (-1)) (d1 : x6 + 1 ≤ x14 ∧ x14 ≤ x6 + 1) (d4 : x1 + (-2) ≤ x12 ∧ x12 ≤ x1 + (-2)) (d5 : x1 + (-1) ≤ x8 ∧ x8 ≤ x1 + (-1)) (g1 : x15 = rowMany_0) (f3 : x6 < x10) (f5 : RPQ (rowMany_0) (row_0) (x9) (x10)) (h7 : x9 = bestWay_0 (x8)) (f10 : RPQ (rowMany_0) (row_0) (x5) (x6)) (h12 : x5 = bestWay_0 (x4)) (f13 : INP (pn_0) (rowMany_0) (pt_0) (ph_0) (drawnNode_0) (row_0) (bestWay_0) (x1)) (kz_0_31 : 0 ≤ pn_0 ∧ pn_0 ≤ 25) (kz_0_125 : 0 ≤ rowMany_0 ∧ rowMany_0 ≤ 100) : IN1 (pn_0) (rowMany_0) (pt_0) (ph_0) (drawnNode_0) (row_0) (bestWay_0) (x1) (x6) (x10) (x14) (x17) := by
  first
    | exact in1_step ‹IN1 _ _ _ _ _ _ _ _ _ _ _ _› (by omega) (by omega) (by assumption) (by omega) (by assumption) (by omega)
    | exact ⟨row_0, ⟨‹INP _ _ _ _ _ _ _ _›, ⟨by have h := (‹RPQ _ _ x5 x6›).1; omega, by have h := (‹RPQ _ _ x5 x6›).2.1; omega, by have h := (‹RPQ _ _ x5 x6›).2.2; rw [h, ← (by omega : x4 = 0)]; assumption⟩, by have h := (‹RPQ _ _ x9 x10›).1; omega, by have h := (‹RPQ _ _ x9 x10›).2.1; omega, by have h := (‹RPQ _ _ x9 x10›).2.2; rw [h, ← (by omega : x8 = x1 - 1)]; assumption⟩, by unfold frm; rw [if_neg (by omega)], by have h := (‹RPQ _ _ x5 x6›).2.1; have h2 := (‹RPQ _ _ x9 x10›).2.1; omega, by omega, fun _ _ _ => rfl, fun t a b => by exfalso; omega⟩
    | exact ⟨row_0, ⟨‹INP _ _ _ _ _ _ _ _›, ⟨by have h := (‹RPQ _ _ x5 x6›).1; omega, by have h := (‹RPQ _ _ x5 x6›).2.1; omega, by have h := (‹RPQ _ _ x5 x6›).2.2; rw [h, ← (by omega : x4 = 0)]; assumption⟩, by have h := (‹RPQ _ _ x9 x10›).1; omega, by have h := (‹RPQ _ _ x9 x10›).2.1; omega, by have h := (‹RPQ _ _ x9 x10›).2.2; rw [h, ← (by omega : x8 = x1 - 1)]; assumption⟩, by unfold frm; rw [if_pos (by omega)]; omega, by have h := (‹RPQ _ _ x5 x6›).2.1; have h2 := (‹RPQ _ _ x9 x10›).2.1; omega, by omega, fun _ _ _ => rfl, fun t a b => by exfalso; omega⟩
set_option maxHeartbeats 4000000 in
theorem vc_Mo_insert_4_1 (x1 : Int) (x12 : Int) (x13 : Int) (x14 : Int) (k1 : 0 ≤ x1 ∧ x1 ≤ 31) (k12 : (-2) ≤ x12 ∧ x12 ≤ 29) (d4 : x1 + (-2) ≤ x12 ∧ x12 ≤ x1 + (-2)) : x12 = (x1 - 2) := by
  first
    | omega
    | (have h := inp_len ‹INP _ _ _ _ _ _ _ _›; omega)
    | (have h := in1_len ‹IN1 _ _ _ _ _ _ _ _ _ _ _ _›; omega)
    | (have h := in2_len ‹IN2 _ _ _ _ _ _ _ _ _ _ _ _›; omega)
    | (have h := in2_len ‹IN2 _ _ _ _ _ _ _ _ _ _ _ _›
       have w := in2_W (t := x13) ‹IN2 _ _ _ _ _ _ _ _ _ _ _ _› (by omega) (by omega)
       omega)
    | (have h := in2_len ‹IN2 _ _ _ _ _ _ _ _ _ _ _ _›
       have w := in2_W (t := x14) ‹IN2 _ _ _ _ _ _ _ _ _ _ _ _› (by omega) (by omega)
       omega)
def o_Mo_insert_4 : or_T := (51, 18, [(0, (2, 0, 0, [165])), (1, (0, 0, 31, [])), (4, (0, 0, 0, [])), (5, (0, 0, 24, [])), (6, (0, 0, 98, [])), (8, (0, 0, 29, [])), (9, (0, 0, 24, [])), (10, (0, 1, 99, [])), (12, (0, -2, 29, [])), (14, (0, 1, 99, [])), (15, (0, 0, 100, [])), (17, (0, -1, 99, []))], [(9, [15, 0], [125]), (7, [6, 10], [2]), (20, [0, 9, 10], [60, 1, 1, 310, 125, 117]), (10, [9, 3, 8], []), (9, [3, 0], [52]), (20, [0, 5, 6], [60, 1, 1, 310, 125, 117]), (10, [5, 3, 4], []), (20, [0, 1], [60, 2, 5, 311, 31, 125, 33, 34, 42, 117, 52])], [], [], [(20, [0, 1, 6, 10, 14, 17], [60, 2, 5, 313, 31, 125, 33, 34, 42, 117, 52]), (20, [12, 1], [50, 0, 0, 1, 2, 1, 0, 5, 2, 1, 1, 0, 2]), (24, [0, 0], [])], [], [(17, 15, -1, -1), (14, 6, 1, 1), (12, 1, -2, -2), (8, 1, -1, -1)])
theorem oo_Mo_insert_4 {kA : Nat → ClassId} : or_ok PRD kA GG o_Mo_insert_4 := by
  refine or_mk fun A ta ws vs hD hth hl => ?_
  intro t0 r0 t1 k1 t4 k4 t5 k5 t6 k6 t8 k8 t9 k9 t10 k10 t12 k12 t14 k14 t15 k15 t17 k17 d0 d1 d4 d5 f1 f3 f5 f7 f9 f10 f12 f13
  replace f1 := shm_996 f1
  replace f7 := shm_107 f7
  replace f9 := shm_993 f9
  replace f12 := shm_107 f12
  have ad_3 : v_ad (n_v vs 3) = w_ar ws (n_v vs 0) 52 := congrArg v_ad f9
  have g1 : v_iv (n_v vs 15) = w_fi ws (n_v vs 0) 125 := congrArg v_iv f1
  simp only [ad_3] at f7
  have h7 : v_iv (n_v vs 9) = w_ei ws (w_ar ws (n_v vs 0) 52) (v_iv (n_v vs 8)) := f7
  simp only [ad_3] at f12
  have h12 : v_iv (n_v vs 5) = w_ei ws (w_ar ws (n_v vs 0) 52) (v_iv (n_v vs 4)) := f12
  have kz_0_31 := fdq_145 hD hth r0
  have kz_0_125 := fdq_182 hD hth r0
  have nf0 : fc_1 PRD (20, [0, 1, 6, 10, 14, 17], [60, 2, 5, 313, 31, 125, 33, 34, 42, 117, 52]) ws (vs) := ⟨nf_in hl rfl, sgq_999 (vc_Mo_insert_4_0 (v_iv (n_v vs 1)) (v_iv (n_v vs 4)) (v_iv (n_v vs 5)) (v_iv (n_v vs 6)) (v_iv (n_v vs 8)) (v_iv (n_v vs 9)) (v_iv (n_v vs 10)) (v_iv (n_v vs 12)) (v_iv (n_v vs 14)) (v_iv (n_v vs 15)) (v_iv (n_v vs 17)) (w_fi ws (n_v vs 0) 125) (w_ei ws (w_ar ws (n_v vs 0) 117)) (w_ei ws (w_ar ws (n_v vs 0) 52)) (w_ei ws (w_ar ws (n_v vs 0) 33)) (w_ei ws (w_ar ws (n_v vs 0) 34)) (w_ei ws (w_ar ws (n_v vs 0) 42)) (w_fi ws (n_v vs 0) 31) k1 k4 k5 k6 k8 k9 k10 k12 k14 k15 k17 d0 d1 d4 d5 g1 (shm_6 f3) (shm_714 f5) h7 (shm_714 f10) h12 (shm_994 f13) kz_0_31 kz_0_125)⟩
  have nf1 : fc_1 PRD (20, [12, 1], [50, 0, 0, 1, 2, 1, 0, 5, 2, 1, 1, 0, 2]) ws (vs) := ⟨nf_in hl rfl, sgq_998 (vc_Mo_insert_4_1 (v_iv (n_v vs 1)) (v_iv (n_v vs 12)) (v_iv (n_v vs 13)) (v_iv (n_v vs 14)) k1 k12 d4)⟩
  have nf2 : fc_1 PRD (24, [0, 0], []) ws (vs) := by
    refine ⟨nf_in hl rfl, sgq_1 ?_⟩
    · show n_v vs 0 = n_v vs 0
      first | rfl | simp only [true_and]
  refine ⟨(fun _ h => (by cases h)), [], trivial, ?_, (fun _ h => (by cases h))⟩
  rw [List.append_nil]
  exact List.forall_mem_cons.mpr ⟨⟨show (20 : Nat) < 100 from by decide, nf0⟩, List.forall_mem_cons.mpr ⟨⟨show (20 : Nat) < 100 from by decide, nf1⟩, List.forall_mem_cons.mpr ⟨⟨show (24 : Nat) < 100 from by decide, nf2⟩, (fun _ h => (by cases h))⟩⟩⟩
set_option maxHeartbeats 4000000 in
theorem vc_Mo_insert_5_0 (x4 : Int) (x5 : Int) (x6 : Int) (x8 : Int) (x9 : Int) (x10 : Int) (pt_0 : Int → Int) (ph_0 : Int → Int) (drawnNode_0 : Int → Int) (row_0 : Int → Int) (bestWay_0 : Int → Int) (pn_0 : Int) (rowMany_0 : Int) (k4 : 0 ≤ x4 ∧ x4 ≤ 31) (k5 : 0 ≤ x5 ∧ x5 ≤ 99) (k6 : 0 ≤ x6 ∧ x6 ≤ 99) (k8 : 0 ≤ x8 ∧ x8 ≤ 99) (k9 : (-1) ≤ x9 ∧ x9 ≤ 98) (k10 : 0 ≤ x10 ∧ x10 ≤ 0) (f0 : x9 < x8) (f1 : IN1 (pn_0) (rowMany_0) (pt_0) (ph_0) (drawnNode_0) (row_0) (bestWay_0) (x4) (x5) (x6) (x8) (x9)) (kz_0_31 : 0 ≤ pn_0 ∧ pn_0 ≤ 25) (kz_0_125 : 0 ≤ rowMany_0 ∧ rowMany_0 ≤ 100) : IN2 (pn_0) (rowMany_0) (pt_0) (ph_0) (drawnNode_0) (row_0) (bestWay_0) (x4) (x5) (x6) (x8) (x10) := by
  first
    | exact in2_start ‹IN1 _ _ _ _ _ _ _ _ _ _ _ _› (by omega) (by omega)
    | exact in2_step ‹IN2 _ _ _ _ _ _ _ _ _ _ _ _› (by omega) (by omega) (by assumption) (by omega) (by assumption) (Or.inl ⟨by omega, by omega⟩)
    | exact in2_step ‹IN2 _ _ _ _ _ _ _ _ _ _ _ _› (by omega) (by omega) (by assumption) (by omega) (by assumption) (Or.inr ⟨by omega, by omega⟩)
def o_Mo_insert_5 : or_T := (84, 11, [(0, (2, 0, 0, [165])), (4, (0, 0, 31, [])), (5, (0, 0, 99, [])), (6, (0, 0, 99, [])), (8, (0, 0, 99, [])), (9, (0, -1, 98, [])), (10, (0, 0, 0, []))], [(7, [9, 8], [2]), (20, [3, 4, 5, 6, 8, 9], [60, 2, 5, 313, 31, 125, 33, 34, 42, 117, 52]), (24, [0, 3], [])], [], [], [(20, [3, 4, 5, 6, 8, 10], [60, 2, 5, 314, 31, 125, 33, 34, 42, 117, 52])], [], [])
theorem oo_Mo_insert_5 {kA : Nat → ClassId} : or_ok PRD kA GG o_Mo_insert_5 := by
  refine or_mk fun A ta ws vs hD hth hl => ?_
  intro t0 r0 t4 k4 t5 k5 t6 k6 t8 k8 t9 k9 t10 k10 f0 f1 f4
  replace f0 := shm_6 f0
  replace f1 := shm_999 f1
  replace f4 := shm_5 f4
  have q3 : n_v vs 3 = n_v vs 0 := f4.symm
  simp only [q3] at f1
  have kz_0_31 := fdq_145 hD hth r0
  have kz_0_125 := fdq_182 hD hth r0
  have nf0 : fc_1 PRD (20, [3, 4, 5, 6, 8, 10], [60, 2, 5, 314, 31, 125, 33, 34, 42, 117, 52]) ws (vs) := by
    refine ⟨nf_in hl rfl, sgq_1000 ?_⟩
    · show IN2 (w_fi ws (n_v vs 3) 31) (w_fi ws (n_v vs 3) 125) (w_ei ws (w_ar ws (n_v vs 3) 33)) (w_ei ws (w_ar ws (n_v vs 3) 34)) (w_ei ws (w_ar ws (n_v vs 3) 42)) (w_ei ws (w_ar ws (n_v vs 3) 117)) (w_ei ws (w_ar ws (n_v vs 3) 52)) (v_iv (n_v vs 4)) (v_iv (n_v vs 5)) (v_iv (n_v vs 6)) (v_iv (n_v vs 8)) (v_iv (n_v vs 10))
      rw [q3]
      exact vc_Mo_insert_5_0 (v_iv (n_v vs 4)) (v_iv (n_v vs 5)) (v_iv (n_v vs 6)) (v_iv (n_v vs 8)) (v_iv (n_v vs 9)) (v_iv (n_v vs 10)) (w_ei ws (w_ar ws (n_v vs 0) 33)) (w_ei ws (w_ar ws (n_v vs 0) 34)) (w_ei ws (w_ar ws (n_v vs 0) 42)) (w_ei ws (w_ar ws (n_v vs 0) 117)) (w_ei ws (w_ar ws (n_v vs 0) 52)) (w_fi ws (n_v vs 0) 31) (w_fi ws (n_v vs 0) 125) k4 k5 k6 k8 k9 k10 f0 f1 kz_0_31 kz_0_125
  refine ⟨(fun _ h => (by cases h)), [], trivial, ?_, (fun _ h => (by cases h))⟩
  rw [List.append_nil]
  exact List.forall_mem_cons.mpr ⟨⟨show (20 : Nat) < 100 from by decide, nf0⟩, (fun _ h => (by cases h))⟩
set_option maxHeartbeats 4000000 in
theorem vc_Mo_insert_6_r0 (x2 : Int) (x4 : Int) (x5 : Int) (x6 : Int) (x7 : Int) (x8 : Int) (x9 : Int) (x11 : Int) (row_0 : Int → Int) (pt_0 : Int → Int) (ph_0 : Int → Int) (drawnNode_0 : Int → Int) (bestWay_0 : Int → Int) (pn_0 : Int) (rowMany_0 : Int) (k2 : 0 ≤ x2 ∧ x2 ≤ 100) (k4 : 0 ≤ x4 ∧ x4 ≤ 31) (k5 : 0 ≤ x5 ∧ x5 ≤ 99) (k6 : 0 ≤ x6 ∧ x6 ≤ 99) (k7 : (-2) ≤ x7 ∧ x7 ≤ 29) (k8 : 0 ≤ x8 ∧ x8 ≤ 99) (k9 : 0 ≤ x9 ∧ x9 ≤ 99) (k11 : (-2) ≤ x11 ∧ x11 ≤ 128) (d0 : x7 + 0 ≤ x11 ∧ x11 ≤ x7 + 99) (d2 : x9 + (-2) ≤ x11 ∧ x11 ≤ x9 + 29) (d5 : x7 + (-4294967296) ≤ x4 ∧ x4 ≤ x7 + 2) (d8 : x4 + (-4294967296) ≤ x7 ∧ x7 ≤ x4 + (-2)) (f2 : x11 = x9 + x7) (f4 : IN1 (pn_0) (rowMany_0) (pt_0) (ph_0) (drawnNode_0) (row_0) (bestWay_0) (x4) (x5) (x6) (x8) (x9)) (f5 : rowMany_0 = x2) (kz_0_31 : 0 ≤ pn_0 ∧ pn_0 ≤ 25) (kz_0_125 : 0 ≤ rowMany_0 ∧ rowMany_0 ≤ 100) : 0 ≤ x11 ∧ x11 ≤ 99 := by
  first
    | omega
    | (have h := inp_len ‹INP _ _ _ _ _ _ _ _›; omega)
    | (have h := in1_len ‹IN1 _ _ _ _ _ _ _ _ _ _ _ _›; omega)
    | (have h := in2_len ‹IN2 _ _ _ _ _ _ _ _ _ _ _ _›; omega)
    | (have h := in2_len ‹IN2 _ _ _ _ _ _ _ _ _ _ _ _›
       have w := in2_W (t := x13) ‹IN2 _ _ _ _ _ _ _ _ _ _ _ _› (by omega) (by omega)
       omega)
    | (have h := in2_len ‹IN2 _ _ _ _ _ _ _ _ _ _ _ _›
       have w := in2_W (t := x14) ‹IN2 _ _ _ _ _ _ _ _ _ _ _ _› (by omega) (by omega)
       omega)
def o_Mo_insert_6 : or_T := (74, 13, [(0, (2, 0, 0, [165])), (2, (0, 0, 100, [])), (3, (2, 0, 0, [165])), (4, (0, 0, 31, [])), (5, (0, 0, 99, [])), (6, (0, 0, 99, [])), (7, (0, -2, 29, [])), (8, (0, 0, 99, [])), (9, (0, 0, 99, [])), (10, (2, 0, 0, [249])), (11, (0, -2, 128, [])), (12, (0, 0, 75, []))], [(10, [12, 10, 9], []), (9, [10, 3], [117]), (1, [11, 9, 7], []), (7, [9, 8], [3]), (20, [3, 4, 5, 6, 8, 9], [60, 2, 5, 313, 31, 125, 33, 34, 42, 117, 52]), (20, [3, 2], [50, 1, 0, 125, 1, 3, 2, 0, 125, 1, 1]), (20, [7, 4], [50, 0, 0, 1, 2, 1, 0, 5, 2, 1, 1, 0, 2]), (24, [0, 3], [])], [(11, (0, 0, 99, []))], [], [], [], [(11, 7, 0, 99), (11, 4, -4294967296, 97), (11, 9, -2, 29), (11, 8, -2, 4294967296), (9, 8, 0, 4294967296), (4, 7, -4294967296, 2), (5, 8, -4294967296, 0), (6, 8, -4294967296, 98), (7, 4, -4294967296, -2), (8, 5, -4294967296, 1)])
theorem oo_Mo_insert_6 {kA : Nat → ClassId} : or_ok PRD kA GG o_Mo_insert_6 := by
  refine or_mk fun A ta ws vs hD hth hl => ?_
  intro t0 r0 t2 k2 t3 r3 t4 k4 t5 k5 t6 k6 t7 k7 t8 k8 t9 k9 t10 r10 t11 k11 t12 k12 d0 d1 d2 d3 d4 d5 d6 d7 d8 d9 f0 f1 f2 f3 f4 f5 f6 f7
  replace f4 := shm_999 f4
  replace f5 := shm_995 f5
  replace f7 := shm_5 f7
  have q3 : n_v vs 3 = n_v vs 0 := f7.symm
  simp only [q3] at f4 f5
  have kz_0_31 := fdq_145 hD hth r0
  have kz_0_125 := fdq_182 hD hth r0
  have hrf0 : 0 ≤ v_iv (n_v vs 11) ∧ v_iv (n_v vs 11) ≤ 99 := vc_Mo_insert_6_r0 (v_iv (n_v vs 2)) (v_iv (n_v vs 4)) (v_iv (n_v vs 5)) (v_iv (n_v vs 6)) (v_iv (n_v vs 7)) (v_iv (n_v vs 8)) (v_iv (n_v vs 9)) (v_iv (n_v vs 11)) (w_ei ws (w_ar ws (n_v vs 0) 117)) (w_ei ws (w_ar ws (n_v vs 0) 33)) (w_ei ws (w_ar ws (n_v vs 0) 34)) (w_ei ws (w_ar ws (n_v vs 0) 42)) (w_ei ws (w_ar ws (n_v vs 0) 52)) (w_fi ws (n_v vs 0) 31) (w_fi ws (n_v vs 0) 125) k2 k4 k5 k6 k7 k8 k9 k11 d0 d2 d5 d8 (shm_12 f2) f4 f5 kz_0_31 kz_0_125
  have rf11 : tv_ok ta (0, 0, 99, []) (n_v vs 11) := tv_in t11 (by first | omega | grind) (by first | omega | grind)
  refine ⟨List.forall_mem_cons.mpr ⟨rf11, (fun _ h => (by cases h))⟩, [], trivial, ?_, (fun _ h => (by cases h))⟩
  rw [List.append_nil]
  exact (fun _ h => (by cases h))
set_option maxHeartbeats 4000000 in
theorem vc_Mo_insert_7_0 (x4 : Int) (x5 : Int) (x6 : Int) (x7 : Int) (x8 : Int) (x9 : Int) (x11 : Int) (x12 : Int) (x13 : Int) (rowMany_0 : Int) (row_1 : Int → Int) (pt_1 : Int → Int) (ph_1 : Int → Int) (drawnNode_1 : Int → Int) (bestWay_1 : Int → Int) (pn_1 : Int) (rowMany_1 : Int) (pn_0 : Int) (pt_0 : Int → Int) (ph_0 : Int → Int) (drawnNode_0 : Int → Int) (bestWay_0 : Int → Int) (row_0 : Int → Int) (k4 : 0 ≤ x4 ∧ x4 ≤ 31) (k5 : 0 ≤ x5 ∧ x5 ≤ 99) (k6 : 0 ≤ x6 ∧ x6 ≤ 99) (k7 : (-2) ≤ x7 ∧ x7 ≤ 29) (k8 : 0 ≤ x8 ∧ x8 ≤ 99) (k9 : 0 ≤ x9 ∧ x9 ≤ 99) (k11 : 0 ≤ x11 ∧ x11 ≤ 99) (k12 : 0 ≤ x12 ∧ x12 ≤ 75) (k13 : (-1) ≤ x13 ∧ x13 ≤ 98) (d0 : x9 + (-1) ≤ x13 ∧ x13 ≤ x9 + (-1)) (d7 : x7 + (-4294967296) ≤ x4 ∧ x4 ≤ x7 + 2) (d10 : x4 + (-4294967296) ≤ x7 ∧ x7 ≤ x4 + (-2)) (h5 : x12 = row_1 (x9)) (f7 : x11 = x9 + x7) (f8 : x8 ≤ x9) (f9 : IN1 (pn_1) (rowMany_1) (pt_1) (ph_1) (drawnNode_1) (row_1) (bestWay_1) (x4) (x5) (x6) (x8) (x9)) (fe_0_31_1 : pn_0 = pn_1) (fe_0_125_1 : rowMany_0 = rowMany_1) (hE_0_33_1 : ∀ j : Int, pt_0 j = pt_1 j) (hE_0_34_1 : ∀ j : Int, ph_0 j = ph_1 j) (hE_0_42_1 : ∀ j : Int, drawnNode_0 j = drawnNode_1 j) (hE_0_52_1 : ∀ j : Int, bestWay_0 j = bestWay_1 j) (hE_0_117_1 : ∀ j : Int, 0 ≤ j → (j = x11 → row_0 j = x12) ∧ (j ≠ x11 → row_0 j = row_1 j)) (kz_0_31 : 0 ≤ pn_0 ∧ pn_0 ≤ 25) (kz_0_125 : 0 ≤ rowMany_0 ∧ rowMany_0 ≤ 100) : IN1 (pn_0) (rowMany_0) (pt_0) (ph_0) (drawnNode_0) (row_0) (bestWay_0) (x4) (x5) (x6) (x8) (x13) := by
  subst fe_0_31_1
  subst fe_0_125_1
  have e_hE_0_33_1 := funext hE_0_33_1; subst e_hE_0_33_1
  have e_hE_0_34_1 := funext hE_0_34_1; subst e_hE_0_34_1
  have e_hE_0_42_1 := funext hE_0_42_1; subst e_hE_0_42_1
  have e_hE_0_52_1 := funext hE_0_52_1; subst e_hE_0_52_1
  first
    | exact in1_step ‹IN1 _ _ _ _ _ _ _ _ _ _ _ _› (by omega) (by omega) (by assumption) (by omega) (by assumption) (by omega)
    | exact ⟨row_0, ⟨‹INP _ _ _ _ _ _ _ _›, ⟨by have h := (‹RPQ _ _ x5 x6›).1; omega, by have h := (‹RPQ _ _ x5 x6›).2.1; omega, by have h := (‹RPQ _ _ x5 x6›).2.2; rw [h, ← (by omega : x4 = 0)]; assumption⟩, by have h := (‹RPQ _ _ x9 x10›).1; omega, by have h := (‹RPQ _ _ x9 x10›).2.1; omega, by have h := (‹RPQ _ _ x9 x10›).2.2; rw [h, ← (by omega : x8 = x1 - 1)]; assumption⟩, by unfold frm; rw [if_neg (by omega)], by have h := (‹RPQ _ _ x5 x6›).2.1; have h2 := (‹RPQ _ _ x9 x10›).2.1; omega, by omega, fun _ _ _ => rfl, fun t a b => by exfalso; omega⟩
    | exact ⟨row_0, ⟨‹INP _ _ _ _ _ _ _ _›, ⟨by have h := (‹RPQ _ _ x5 x6›).1; omega, by have h := (‹RPQ _ _ x5 x6›).2.1; omega, by have h := (‹RPQ _ _ x5 x6›).2.2; rw [h, ← (by omega : x4 = 0)]; assumption⟩, by have h := (‹RPQ _ _ x9 x10›).1; omega, by have h := (‹RPQ _ _ x9 x10›).2.1; omega, by have h := (‹RPQ _ _ x9 x10›).2.2; rw [h, ← (by omega : x8 = x1 - 1)]; assumption⟩, by unfold frm; rw [if_pos (by omega)]; omega, by have h := (‹RPQ _ _ x5 x6›).2.1; have h2 := (‹RPQ _ _ x9 x10›).2.1; omega, by omega, fun _ _ _ => rfl, fun t a b => by exfalso; omega⟩
def o_Mo_insert_7 : or_T := (51, 14, [(0, (2, 0, 0, [165])), (4, (0, 0, 31, [])), (5, (0, 0, 99, [])), (6, (0, 0, 99, [])), (7, (0, -2, 29, [])), (8, (0, 0, 99, [])), (9, (0, 0, 99, [])), (10, (2, 0, 0, [249])), (11, (0, 0, 99, [])), (12, (0, 0, 75, [])), (13, (0, -1, 98, []))], [(24, [0, 3], []), (100, [10, 11, 12], []), (10, [12, 10, 9], []), (9, [10, 3], [117]), (1, [11, 9, 7], []), (7, [9, 8], [3]), (20, [3, 4, 5, 6, 8, 9], [60, 2, 5, 313, 31, 125, 33, 34, 42, 117, 52])], [], [], [(20, [3, 4, 5, 6, 8, 13], [60, 2, 5, 313, 31, 125, 33, 34, 42, 117, 52])], [], [(13, 9, -1, -1), (11, 7, 0, 99), (11, 4, -4294967296, 97), (11, 9, -2, 29), (11, 8, -2, 4294967296), (4, 7, -4294967296, 2), (7, 4, -4294967296, -2)])
theorem oo_Mo_insert_7 {kA : Nat → ClassId} : or_ok PRD kA GG o_Mo_insert_7 := by
  refine or_mk fun A ta ws vs hD hth hl => ?_
  intro t0 r0 t4 k4 t5 k5 t6 k6 t7 k7 t8 k8 t9 k9 t10 r10 t11 k11 t12 k12 t13 k13 d0 d2 d3 d4 d5 d7 d10 f3 ta1 w1 le1 s1 f5 f6 f7 f8 f9
  replace f3 := shm_5 f3
  have s1 : (∀ b j, w_el ws b j = if b = v_ad (n_v vs 10) ∧ j = (v_iv (n_v vs 11)).toNat then v_iv (n_v vs 12) else w_el w1 b j) ∧ ∀ b k, w_fd ws b k = w_fd w1 b k := s1.2
  replace f5 := shm_107 f5
  replace f6 := shm_713 f6
  replace f7 := shm_12 f7
  replace f8 := shm_2 f8
  replace f9 := shm_999 f9
  have q3 : n_v vs 3 = n_v vs 0 := f3.symm
  simp only [q3] at f6 f9
  have ar_0_33_1 : w_ar w1 (n_v vs 0) 33 = w_ar ws (n_v vs 0) 33 := congrArg v_ad (s1.2 _ _).symm
  have cr_0_33 := fdq_117 hD hth r0
  have ar_0_34_1 : w_ar w1 (n_v vs 0) 34 = w_ar ws (n_v vs 0) 34 := congrArg v_ad (s1.2 _ _).symm
  have cr_0_34 := fdq_118 hD hth r0
  have ar_0_42_1 : w_ar w1 (n_v vs 0) 42 = w_ar ws (n_v vs 0) 42 := congrArg v_ad (s1.2 _ _).symm
  have cr_0_42 := fdq_136 hD hth r0
  have ar_0_52_1 : w_ar w1 (n_v vs 0) 52 = w_ar ws (n_v vs 0) 52 := congrArg v_ad (s1.2 _ _).symm
  have cr_0_52 := fdq_236 hD hth r0
  have ar_0_117_1 : w_ar w1 (n_v vs 0) 117 = w_ar ws (n_v vs 0) 117 := congrArg v_ad (s1.2 _ _).symm
  have ad_10 : v_ad (n_v vs 10) = w_ar ws (n_v vs 0) 117 := (congrArg v_ad f6).trans ar_0_117_1
  simp only [ad_10] at f5
  have h5 : v_iv (n_v vs 12) = w_ei w1 (w_ar ws (n_v vs 0) 117) (v_iv (n_v vs 9)) := f5
  simp only [ar_0_33_1, ar_0_34_1, ar_0_42_1, ar_0_52_1, ar_0_117_1] at f9
  have fe_0_31_1 : w_fi ws (n_v vs 0) 31 = w_fi w1 (n_v vs 0) 31 := congrArg v_iv (s1.2 _ _)
  have fe_0_125_1 : w_fi ws (n_v vs 0) 125 = w_fi w1 (n_v vs 0) 125 := congrArg v_iv (s1.2 _ _)
  have hE_0_33_1 : ∀ j : Int, w_ei ws (w_ar ws (n_v vs 0) 33) j = w_ei w1 (w_ar ws (n_v vs 0) 33) j := el_kp s1.1 r10 cr_0_33 (by decide)
  have hE_0_34_1 : ∀ j : Int, w_ei ws (w_ar ws (n_v vs 0) 34) j = w_ei w1 (w_ar ws (n_v vs 0) 34) j := el_kp s1.1 r10 cr_0_34 (by decide)
  have hE_0_42_1 : ∀ j : Int, w_ei ws (w_ar ws (n_v vs 0) 42) j = w_ei w1 (w_ar ws (n_v vs 0) 42) j := el_kp s1.1 r10 cr_0_42 (by decide)
  have hE_0_52_1 : ∀ j : Int, w_ei ws (w_ar ws (n_v vs 0) 52) j = w_ei w1 (w_ar ws (n_v vs 0) 52) j := el_kp s1.1 r10 cr_0_52 (by decide)
  have hE_0_117_1 : ∀ j : Int, 0 ≤ j → (j = v_iv (n_v vs 11) → w_ei ws (w_ar ws (n_v vs 0) 117) j = v_iv (n_v vs 12)) ∧ (j ≠ v_iv (n_v vs 11) → w_ei ws (w_ar ws (n_v vs 0) 117) j = w_ei w1 (w_ar ws (n_v vs 0) 117) j) := fun j hj => ⟨fun h => by unfold w_ei; rw [s1.1, if_pos ⟨ad_10.symm, by rw [h]⟩], fun h => by unfold w_ei; rw [s1.1, if_neg (fun e => h (by have := e.2; omega))]⟩
  have kz_0_31 := fdq_145 hD hth r0
  have kz_0_125 := fdq_182 hD hth r0
  have nf0 : fc_1 PRD (20, [3, 4, 5, 6, 8, 13], [60, 2, 5, 313, 31, 125, 33, 34, 42, 117, 52]) ws (vs) := by
    refine ⟨nf_in hl rfl, sgq_999 ?_⟩
    · show IN1 (w_fi ws (n_v vs 3) 31) (w_fi ws (n_v vs 3) 125) (w_ei ws (w_ar ws (n_v vs 3) 33)) (w_ei ws (w_ar ws (n_v vs 3) 34)) (w_ei ws (w_ar ws (n_v vs 3) 42)) (w_ei ws (w_ar ws (n_v vs 3) 117)) (w_ei ws (w_ar ws (n_v vs 3) 52)) (v_iv (n_v vs 4)) (v_iv (n_v vs 5)) (v_iv (n_v vs 6)) (v_iv (n_v vs 8)) (v_iv (n_v vs 13))
      rw [q3]
      exact vc_Mo_insert_7_0 (v_iv (n_v vs 4)) (v_iv (n_v vs 5)) (v_iv (n_v vs 6)) (v_iv (n_v vs 7)) (v_iv (n_v vs 8)) (v_iv (n_v vs 9)) (v_iv (n_v vs 11)) (v_iv (n_v vs 12)) (v_iv (n_v vs 13)) (w_fi ws (n_v vs 0) 125) (w_ei w1 (w_ar ws (n_v vs 0) 117)) (w_ei w1 (w_ar ws (n_v vs 0) 33)) (w_ei w1 (w_ar ws (n_v vs 0) 34)) (w_ei w1 (w_ar ws (n_v vs 0) 42)) (w_ei w1 (w_ar ws (n_v vs 0) 52)) (w_fi w1 (n_v vs 0) 31) (w_fi w1 (n_v vs 0) 125) (w_fi ws (n_v vs 0) 31) (w_ei ws (w_ar ws (n_v vs 0) 33)) (w_ei ws (w_ar ws (n_v vs 0) 34)) (w_ei ws (w_ar ws (n_v vs 0) 42)) (w_ei ws (w_ar ws (n_v vs 0) 52)) (w_ei ws (w_ar ws (n_v vs 0) 117)) k4 k5 k6 k7 k8 k9 k11 k12 k13 d0 d7 d10 h5 f7 f8 f9 fe_0_31_1 fe_0_125_1 hE_0_33_1 hE_0_34_1 hE_0_42_1 hE_0_52_1 hE_0_117_1 kz_0_31 kz_0_125
  refine ⟨(fun _ h => (by cases h)), [], trivial, ?_, (fun _ h => (by cases h))⟩
  rw [List.append_nil]
  exact List.forall_mem_cons.mpr ⟨⟨show (20 : Nat) < 100 from by decide, nf0⟩, (fun _ h => (by cases h))⟩
set_option maxHeartbeats 4000000 in
theorem vc_Mo_insert_8_r0 (x4 : Int) (x5 : Int) (x6 : Int) (x7 : Int) (x8 : Int) (x9 : Int) (x10 : Int) (x11 : Int) (rowMany_0 : Int) (pt_0 : Int → Int) (ph_0 : Int → Int) (drawnNode_0 : Int → Int) (row_0 : Int → Int) (bestWay_0 : Int → Int) (pn_0 : Int) (k4 : 0 ≤ x4 ∧ x4 ≤ 31) (k5 : 0 ≤ x5 ∧ x5 ≤ 99) (k6 : 0 ≤ x6 ∧ x6 ≤ 99) (k7 : (-2) ≤ x7 ∧ x7 ≤ 29) (k8 : 0 ≤ x8 ∧ x8 ≤ 99) (k9 : 0 ≤ x9 ∧ x9 ≤ 29) (k10 : 0 ≤ x10 ∧ x10 ≤ 100) (k11 : (-2) ≤ x11 ∧ x11 ≤ 129) (d2 : x10 + (-2) ≤ x11 ∧ x11 ≤ x10 + 29) (d4 : x7 + (-4294967296) ≤ x4 ∧ x4 ≤ x7 + 2) (d7 : x4 + (-4294967296) ≤ x7 ∧ x7 ≤ x4 + (-2)) (f0 : x11 = x10 + x7) (g1 : x10 = rowMany_0) (f3 : IN2 (pn_0) (rowMany_0) (pt_0) (ph_0) (drawnNode_0) (row_0) (bestWay_0) (x4) (x5) (x6) (x8) (x9)) (kz_0_31 : 0 ≤ pn_0 ∧ pn_0 ≤ 25) (kz_0_125 : 0 ≤ rowMany_0 ∧ rowMany_0 ≤ 100) : 0 ≤ x11 ∧ x11 ≤ 100 := by
  first
    | omega
    | (have h := inp_len ‹INP _ _ _ _ _ _ _ _›; omega)
    | (have h := in1_len ‹IN1 _ _ _ _ _ _ _ _ _ _ _ _›; omega)
    | (have h := in2_len ‹IN2 _ _ _ _ _ _ _ _ _ _ _ _›; omega)
    | (have h := in2_len ‹IN2 _ _ _ _ _ _ _ _ _ _ _ _›
       have w := in2_W (t := x13) ‹IN2 _ _ _ _ _ _ _ _ _ _ _ _› (by omega) (by omega)
       omega)
    | (have h := in2_len ‹IN2 _ _ _ _ _ _ _ _ _ _ _ _›
       have w := in2_W (t := x14) ‹IN2 _ _ _ _ _ _ _ _ _ _ _ _› (by omega) (by omega)
       omega)
def o_Mo_insert_8 : or_T := (137, 12, [(0, (2, 0, 0, [165])), (2, (0, 0, 100, [])), (3, (2, 0, 0, [165])), (4, (0, 0, 31, [])), (5, (0, 0, 99, [])), (6, (0, 0, 99, [])), (7, (0, -2, 29, [])), (8, (0, 0, 99, [])), (9, (0, 0, 29, [])), (10, (0, 0, 100, [])), (11, (0, -2, 129, []))], [(1, [11, 10, 7], []), (9, [10, 3], [125]), (7, [9, 7], [3]), (20, [3, 4, 5, 6, 8, 9], [60, 2, 5, 314, 31, 125, 33, 34, 42, 117, 52]), (20, [3, 2], [50, 1, 0, 125, 1, 3, 2, 0, 125, 1, 1]), (20, [7, 4], [50, 0, 0, 1, 2, 1, 0, 5, 2, 1, 1, 0, 2]), (24, [0, 3], [])], [(11, (0, 0, 100, []))], [], [], [], [(11, 7, 0, 100), (11, 4, -4294967296, 98), (11, 10, -2, 29), (9, 7, 0, 4294967296), (4, 7, -4294967296, 2), (5, 8, -4294967296, 0), (6, 8, -4294967296, 98), (7, 4, -4294967296, -2), (8, 5, -4294967296, 1), (9, 4, -4294967296, 0), (9, 7, -4294967296, 2)])
theorem oo_Mo_insert_8 {kA : Nat → ClassId} : or_ok PRD kA GG o_Mo_insert_8 := by
  refine or_mk fun A ta ws vs hD hth hl => ?_
  intro t0 r0 t2 k2 t3 r3 t4 k4 t5 k5 t6 k6 t7 k7 t8 k8 t9 k9 t10 k10 t11 k11 d0 d1 d2 d3 d4 d5 d6 d7 d8 d9 d10 f0 f1 f2 f3 f4 f5 f6
  replace f1 := shm_996 f1
  replace f3 := shm_1000 f3
  replace f6 := shm_5 f6
  have q3 : n_v vs 3 = n_v vs 0 := f6.symm
  simp only [q3] at f1 f3
  have g1 : v_iv (n_v vs 10) = w_fi ws (n_v vs 0) 125 := congrArg v_iv f1
  have kz_0_31 := fdq_145 hD hth r0
  have kz_0_125 := fdq_182 hD hth r0
  have hrf0 : 0 ≤ v_iv (n_v vs 11) ∧ v_iv (n_v vs 11) ≤ 100 := vc_Mo_insert_8_r0 (v_iv (n_v vs 4)) (v_iv (n_v vs 5)) (v_iv (n_v vs 6)) (v_iv (n_v vs 7)) (v_iv (n_v vs 8)) (v_iv (n_v vs 9)) (v_iv (n_v vs 10)) (v_iv (n_v vs 11)) (w_fi ws (n_v vs 0) 125) (w_ei ws (w_ar ws (n_v vs 0) 33)) (w_ei ws (w_ar ws (n_v vs 0) 34)) (w_ei ws (w_ar ws (n_v vs 0) 42)) (w_ei ws (w_ar ws (n_v vs 0) 117)) (w_ei ws (w_ar ws (n_v vs 0) 52)) (w_fi ws (n_v vs 0) 31) k4 k5 k6 k7 k8 k9 k10 k11 d2 d4 d7 (shm_12 f0) g1 f3 kz_0_31 kz_0_125
  have rf11 : tv_ok ta (0, 0, 100, []) (n_v vs 11) := tv_in t11 (by first | omega | grind) (by first | omega | grind)
  refine ⟨List.forall_mem_cons.mpr ⟨rf11, (fun _ h => (by cases h))⟩, [], trivial, ?_, (fun _ h => (by cases h))⟩
  rw [List.append_nil]
  exact (fun _ h => (by cases h))
set_option maxHeartbeats 4000000 in
theorem vc_Mo_insert_9_0 (x4 : Int) (x5 : Int) (x6 : Int) (x7 : Int) (x8 : Int) (x9 : Int) (x10 : Int) (x11 : Int) (rowMany_1 : Int) (pt_1 : Int → Int) (ph_1 : Int → Int) (drawnNode_1 : Int → Int) (row_1 : Int → Int) (bestWay_1 : Int → Int) (pn_1 : Int) (pn_0 : Int) (rowMany_0 : Int) (pt_0 : Int → Int) (ph_0 : Int → Int) (drawnNode_0 : Int → Int) (bestWay_0 : Int → Int) (row_0 : Int → Int) (k4 : 0 ≤ x4 ∧ x4 ≤ 31) (k5 : 0 ≤ x5 ∧ x5 ≤ 99) (k6 : 0 ≤ x6 ∧ x6 ≤ 99) (k7 : (-2) ≤ x7 ∧ x7 ≤ 29) (k8 : 0 ≤ x8 ∧ x8 ≤ 99) (k9 : 0 ≤ x9 ∧ x9 ≤ 29) (k10 : 0 ≤ x10 ∧ x10 ≤ 100) (k11 : 0 ≤ x11 ∧ x11 ≤ 100) (d3 : x7 + 0 ≤ x9 ∧ x9 ≤ x7 + 4294967296) (d4 : x7 + (-4294967296) ≤ x4 ∧ x4 ≤ x7 + 2) (d7 : x4 + (-4294967296) ≤ x7 ∧ x7 ≤ x4 + (-2)) (d9 : x4 + (-4294967296) ≤ x9 ∧ x9 ≤ x4 + 0) (f3 : x11 = x10 + x7) (g4 : x10 = rowMany_1) (f6 : IN2 (pn_1) (rowMany_1) (pt_1) (ph_1) (drawnNode_1) (row_1) (bestWay_1) (x4) (x5) (x6) (x8) (x9)) (fe_0_31_1 : pn_0 = pn_1) (fe_0_125_1 : rowMany_0 = x11) (hE_0_33_1 : ∀ j : Int, pt_0 j = pt_1 j) (hE_0_34_1 : ∀ j : Int, ph_0 j = ph_1 j) (hE_0_42_1 : ∀ j : Int, drawnNode_0 j = drawnNode_1 j) (hE_0_52_1 : ∀ j : Int, bestWay_0 j = bestWay_1 j) (hE_0_117_1 : ∀ j : Int, row_0 j = row_1 j) (kz_0_31 : 0 ≤ pn_0 ∧ pn_0 ≤ 25) (kz_0_125 : 0 ≤ rowMany_0 ∧ rowMany_0 ≤ 100) : STR (pn_0) (rowMany_0) (pt_0) (ph_0) (row_0) := by
  subst fe_0_31_1
  have e_hE_0_33_1 := funext hE_0_33_1; subst e_hE_0_33_1
  have e_hE_0_34_1 := funext hE_0_34_1; subst e_hE_0_34_1
  have e_hE_0_42_1 := funext hE_0_42_1; subst e_hE_0_42_1
  have e_hE_0_52_1 := funext hE_0_52_1; subst e_hE_0_52_1
  have e_hE_0_117_1 := funext hE_0_117_1; subst e_hE_0_117_1
  exact in2_end ‹IN2 _ _ _ _ _ _ _ _ _ _ _ _› (by omega) (by omega)
set_option maxHeartbeats 4000000 in
theorem vc_Mo_insert_9_1 (x2 : Int) (x4 : Int) (x5 : Int) (x6 : Int) (x7 : Int) (x8 : Int) (x9 : Int) (x10 : Int) (x11 : Int) (rowMany_1 : Int) (pt_1 : Int → Int) (ph_1 : Int → Int) (drawnNode_1 : Int → Int) (row_1 : Int → Int) (bestWay_1 : Int → Int) (pn_1 : Int) (pn_0 : Int) (rowMany_0 : Int) (pt_0 : Int → Int) (ph_0 : Int → Int) (drawnNode_0 : Int → Int) (bestWay_0 : Int → Int) (row_0 : Int → Int) (k2 : 0 ≤ x2 ∧ x2 ≤ 100) (k4 : 0 ≤ x4 ∧ x4 ≤ 31) (k5 : 0 ≤ x5 ∧ x5 ≤ 99) (k6 : 0 ≤ x6 ∧ x6 ≤ 99) (k7 : (-2) ≤ x7 ∧ x7 ≤ 29) (k8 : 0 ≤ x8 ∧ x8 ≤ 99) (k9 : 0 ≤ x9 ∧ x9 ≤ 29) (k10 : 0 ≤ x10 ∧ x10 ≤ 100) (k11 : 0 ≤ x11 ∧ x11 ≤ 100) (d2 : x10 + (-2) ≤ x11 ∧ x11 ≤ x10 + 29) (d4 : x7 + (-4294967296) ≤ x4 ∧ x4 ≤ x7 + 2) (d7 : x4 + (-4294967296) ≤ x7 ∧ x7 ≤ x4 + (-2)) (f3 : x11 = x10 + x7) (g4 : x10 = rowMany_1) (f6 : IN2 (pn_1) (rowMany_1) (pt_1) (ph_1) (drawnNode_1) (row_1) (bestWay_1) (x4) (x5) (x6) (x8) (x9)) (f7 : rowMany_1 = x2) (fe_0_31_1 : pn_0 = pn_1) (fe_0_125_1 : rowMany_0 = x11) (hE_0_33_1 : ∀ j : Int, pt_0 j = pt_1 j) (hE_0_34_1 : ∀ j : Int, ph_0 j = ph_1 j) (hE_0_42_1 : ∀ j : Int, drawnNode_0 j = drawnNode_1 j) (hE_0_52_1 : ∀ j : Int, bestWay_0 j = bestWay_1 j) (hE_0_117_1 : ∀ j : Int, row_0 j = row_1 j) (kz_0_31 : 0 ≤ pn_0 ∧ pn_0 ≤ 25) (kz_0_125 : 0 ≤ rowMany_0 ∧ rowMany_0 ≤ 100) : (x2 + 1) ≤ rowMany_0 := by
  subst fe_0_31_1
  have e_hE_0_33_1 := funext hE_0_33_1; subst e_hE_0_33_1
  have e_hE_0_34_1 := funext hE_0_34_1; subst e_hE_0_34_1
  have e_hE_0_42_1 := funext hE_0_42_1; subst e_hE_0_42_1
  have e_hE_0_52_1 := funext hE_0_52_1; subst e_hE_0_52_1
  have e_hE_0_117_1 := funext hE_0_117_1; subst e_hE_0_117_1
  first
    | omega
    | (have h := inp_len ‹INP _ _ _ _ _ _ _ _›; omega)
    | (have h := in1_len ‹IN1 _ _ _ _ _ _ _ _ _ _ _ _›; omega)
    | (have h := in2_len ‹IN2 _ _ _ _ _ _ _ _ _ _ _ _›; omega)
    | (have h := in2_len ‹IN2 _ _ _ _ _ _ _ _ _ _ _ _›
       have w := in2_W (t := x13) ‹IN2 _ _ _ _ _ _ _ _ _ _ _ _› (by omega) (by omega)
       omega)
    | (have h := in2_len ‹IN2 _ _ _ _ _ _ _ _ _ _ _ _›
       have w := in2_W (t := x14) ‹IN2 _ _ _ _ _ _ _ _ _ _ _ _› (by omega) (by omega)
       omega)
def o_Mo_insert_9 : or_T := (140, 12, [(0, (2, 0, 0, [165])), (2, (0, 0, 100, [])), (4, (0, 0, 31, [])), (5, (0, 0, 99, [])), (6, (0, 0, 99, [])), (7, (0, -2, 29, [])), (8, (0, 0, 99, [])), (9, (0, 0, 29, [])), (10, (0, 0, 100, [])), (11, (0, 0, 100, []))], [(24, [0, 3], []), (101, [3, 11], [125]), (1, [11, 10, 7], []), (9, [10, 3], [125]), (20, [3, 4, 5, 6, 8, 9], [60, 2, 5, 314, 31, 125, 33, 34, 42, 117, 52]), (20, [3, 2], [50, 1, 0, 125, 1, 3, 2, 0, 125, 1, 1])], [], [], [(20, [0], [60, 2, 3, 298, 31, 125, 33, 34, 117]), (20, [2, 0], [50, 1, 0, 1125, 0, 6, 4, 2, 1, 0, 0, 1, 2, 1, 125])], [], [(11, 10, -2, 29), (9, 7, 0, 4294967296), (4, 7, -4294967296, 2), (7, 4, -4294967296, -2), (9, 4, -4294967296, 0)])
theorem oo_Mo_insert_9 {kA : Nat → ClassId} : or_ok PRD kA GG o_Mo_insert_9 := by
  refine or_mk fun A ta ws vs hD hth hl => ?_
  intro t0 r0 t2 k2 t4 k4 t5 k5 t6 k6 t7 k7 t8 k8 t9 k9 t10 k10 t11 k11 d2 d3 d4 d7 d9 f1 ta1 w1 le1 s1 f3 f4 f6 f7
  replace f1 := shm_5 f1
  have s1 : (∀ b j, w_el ws b j = w_el w1 b j) ∧ ∀ b j, w_fd ws b j = if b = v_ad (n_v vs 3) ∧ j = 125 then n_v vs 11 else w_fd w1 b j := s1.2
  replace f4 := shm_996 f4
  replace f6 := shm_1000 f6
  replace f7 := shm_995 f7
  have q3 : n_v vs 3 = n_v vs 0 := f1.symm
  rw [q3] at s1
  simp only [q3] at f4 f6 f7
  have ar_0_33_1 : w_ar w1 (n_v vs 0) 33 = w_ar ws (n_v vs 0) 33 := by show v_ad (w_fd w1 _ _) = v_ad (w_fd ws _ _); rw [s1.2, if_neg (fun e => absurd e.2 (by decide))]
  have ar_0_34_1 : w_ar w1 (n_v vs 0) 34 = w_ar ws (n_v vs 0) 34 := by show v_ad (w_fd w1 _ _) = v_ad (w_fd ws _ _); rw [s1.2, if_neg (fun e => absurd e.2 (by decide))]
  have ar_0_42_1 : w_ar w1 (n_v vs 0) 42 = w_ar ws (n_v vs 0) 42 := by show v_ad (w_fd w1 _ _) = v_ad (w_fd ws _ _); rw [s1.2, if_neg (fun e => absurd e.2 (by decide))]
  have ar_0_52_1 : w_ar w1 (n_v vs 0) 52 = w_ar ws (n_v vs 0) 52 := by show v_ad (w_fd w1 _ _) = v_ad (w_fd ws _ _); rw [s1.2, if_neg (fun e => absurd e.2 (by decide))]
  have ar_0_117_1 : w_ar w1 (n_v vs 0) 117 = w_ar ws (n_v vs 0) 117 := by show v_ad (w_fd w1 _ _) = v_ad (w_fd ws _ _); rw [s1.2, if_neg (fun e => absurd e.2 (by decide))]
  have g4 : v_iv (n_v vs 10) = w_fi w1 (n_v vs 0) 125 := congrArg v_iv f4
  simp only [ar_0_33_1, ar_0_34_1, ar_0_42_1, ar_0_52_1, ar_0_117_1] at f6
  have fe_0_31_1 : w_fi ws (n_v vs 0) 31 = w_fi w1 (n_v vs 0) 31 := by show v_iv (w_fd _ _ _) = v_iv (w_fd _ _ _); rw [s1.2, if_neg (fun e => absurd e.2 (by decide))]
  have fe_0_125_1 : w_fi ws (n_v vs 0) 125 = v_iv (n_v vs 11) := by show v_iv (w_fd _ _ _) = _; rw [s1.2, if_pos ⟨rfl, rfl⟩]
  have hE_0_33_1 : ∀ j : Int, w_ei ws (w_ar ws (n_v vs 0) 33) j = w_ei w1 (w_ar ws (n_v vs 0) 33) j := fun j => s1.1 _ _
  have hE_0_34_1 : ∀ j : Int, w_ei ws (w_ar ws (n_v vs 0) 34) j = w_ei w1 (w_ar ws (n_v vs 0) 34) j := fun j => s1.1 _ _
  have hE_0_42_1 : ∀ j : Int, w_ei ws (w_ar ws (n_v vs 0) 42) j = w_ei w1 (w_ar ws (n_v vs 0) 42) j := fun j => s1.1 _ _
  have hE_0_52_1 : ∀ j : Int, w_ei ws (w_ar ws (n_v vs 0) 52) j = w_ei w1 (w_ar ws (n_v vs 0) 52) j := fun j => s1.1 _ _
  have hE_0_117_1 : ∀ j : Int, w_ei ws (w_ar ws (n_v vs 0) 117) j = w_ei w1 (w_ar ws (n_v vs 0) 117) j := fun j => s1.1 _ _
  have kz_0_31 := fdq_145 hD hth r0
  have kz_0_125 := fdq_182 hD hth r0
  have nf0 : fc_1 PRD (20, [0], [60, 2, 3, 298, 31, 125, 33, 34, 117]) ws (vs) := ⟨nf_in hl rfl, sgq_1001 (vc_Mo_insert_9_0 (v_iv (n_v vs 4)) (v_iv (n_v vs 5)) (v_iv (n_v vs 6)) (v_iv (n_v vs 7)) (v_iv (n_v vs 8)) (v_iv (n_v vs 9)) (v_iv (n_v vs 10)) (v_iv (n_v vs 11)) (w_fi w1 (n_v vs 0) 125) (w_ei w1 (w_ar ws (n_v vs 0) 33)) (w_ei w1 (w_ar ws (n_v vs 0) 34)) (w_ei w1 (w_ar ws (n_v vs 0) 42)) (w_ei w1 (w_ar ws (n_v vs 0) 117)) (w_ei w1 (w_ar ws (n_v vs 0) 52)) (w_fi w1 (n_v vs 0) 31) (w_fi ws (n_v vs 0) 31) (w_fi ws (n_v vs 0) 125) (w_ei ws (w_ar ws (n_v vs 0) 33)) (w_ei ws (w_ar ws (n_v vs 0) 34)) (w_ei ws (w_ar ws (n_v vs 0) 42)) (w_ei ws (w_ar ws (n_v vs 0) 52)) (w_ei ws (w_ar ws (n_v vs 0) 117)) k4 k5 k6 k7 k8 k9 k10 k11 d3 d4 d7 d9 (shm_12 f3) g4 f6 fe_0_31_1 fe_0_125_1 hE_0_33_1 hE_0_34_1 hE_0_42_1 hE_0_52_1 hE_0_117_1 kz_0_31 kz_0_125)⟩
  have nf1 : fc_1 PRD (20, [2, 0], [50, 1, 0, 1125, 0, 6, 4, 2, 1, 0, 0, 1, 2, 1, 125]) ws (vs) := ⟨nf_in hl rfl, sgq_1002 (vc_Mo_insert_9_1 (v_iv (n_v vs 2)) (v_iv (n_v vs 4)) (v_iv (n_v vs 5)) (v_iv (n_v vs 6)) (v_iv (n_v vs 7)) (v_iv (n_v vs 8)) (v_iv (n_v vs 9)) (v_iv (n_v vs 10)) (v_iv (n_v vs 11)) (w_fi w1 (n_v vs 0) 125) (w_ei w1 (w_ar ws (n_v vs 0) 33)) (w_ei w1 (w_ar ws (n_v vs 0) 34)) (w_ei w1 (w_ar ws (n_v vs 0) 42)) (w_ei w1 (w_ar ws (n_v vs 0) 117)) (w_ei w1 (w_ar ws (n_v vs 0) 52)) (w_fi w1 (n_v vs 0) 31) (w_fi ws (n_v vs 0) 31) (w_fi ws (n_v vs 0) 125) (w_ei ws (w_ar ws (n_v vs 0) 33)) (w_ei ws (w_ar ws (n_v vs 0) 34)) (w_ei ws (w_ar ws (n_v vs 0) 42)) (w_ei ws (w_ar ws (n_v vs 0) 52)) (w_ei ws (w_ar ws (n_v vs 0) 117)) k2 k4 k5 k6 k7 k8 k9 k10 k11 d2 d4 d7 (shm_12 f3) g4 f6 f7 fe_0_31_1 fe_0_125_1 hE_0_33_1 hE_0_34_1 hE_0_42_1 hE_0_52_1 hE_0_117_1 kz_0_31 kz_0_125)⟩
  refine ⟨(fun _ h => (by cases h)), [], trivial, ?_, (fun _ h => (by cases h))⟩
  rw [List.append_nil]
  exact List.forall_mem_cons.mpr ⟨⟨show (20 : Nat) < 100 from by decide, nf0⟩, List.forall_mem_cons.mpr ⟨⟨show (20 : Nat) < 100 from by decide, nf1⟩, (fun _ h => (by cases h))⟩⟩
set_option maxHeartbeats 4000000 in
theorem vc_Mo_insert_10_r0 (x2 : Int) (x4 : Int) (x5 : Int) (x6 : Int) (x7 : Int) (x8 : Int) (x9 : Int) (x11 : Int) (x13 : Int) (x14 : Int) (bestWay_0 : Int → Int) (pt_0 : Int → Int) (ph_0 : Int → Int) (drawnNode_0 : Int → Int) (row_0 : Int → Int) (pn_0 : Int) (rowMany_0 : Int) (k2 : 0 ≤ x2 ∧ x2 ≤ 100) (k4 : 3 ≤ x4 ∧ x4 ≤ 31) (k5 : 0 ≤ x5 ∧ x5 ≤ 99) (k6 : 0 ≤ x6 ∧ x6 ≤ 99) (k7 : 1 ≤ x7 ∧ x7 ≤ 29) (k8 : 0 ≤ x8 ∧ x8 ≤ 99) (k9 : 0 ≤ x9 ∧ x9 ≤ 28) (k11 : 0 ≤ x11 ∧ x11 ≤ 127) (k13 : 1 ≤ x13 ∧ x13 ≤ 29) (k14 : 0 ≤ x14 ∧ x14 ≤ 24) (d0 : x7 + (-28) ≤ x13 ∧ x13 ≤ x7 + 0) (d1 : x4 + (-4294967296) ≤ x13 ∧ x13 ≤ x4 + (-2)) (d2 : x6 + 0 ≤ x5 ∧ x5 ≤ x6 + 4294967296) (d3 : x9 + 0 ≤ x11 ∧ x11 ≤ x9 + 99) (d4 : x7 + (-4294967296) ≤ x11 ∧ x11 ≤ x7 + 98) (d5 : x4 + (-4294967296) ≤ x11 ∧ x11 ≤ x4 + 99) (d6 : x7 + (-4294967296) ≤ x11 ∧ x11 ≤ x7 + 101) (d7 : x8 + 0 ≤ x11 ∧ x11 ≤ x8 + 28) (d8 : x5 + (-4294967296) ≤ x11 ∧ x11 ≤ x5 + 29) (d9 : x7 + (-4294967296) ≤ x9 ∧ x9 ≤ x7 + (-1)) (d10 : x7 + (-4294967296) ≤ x4 ∧ x4 ≤ x7 + 2) (d11 : x8 + (-4294967296) ≤ x5 ∧ x5 ≤ x8 + 0) (d12 : x8 + (-4294967296) ≤ x6 ∧ x6 ≤ x8 + 98) (d13 : x4 + (-4294967296) ≤ x7 ∧ x7 ≤ x4 + (-2)) (d14 : x5 + (-4294967296) ≤ x8 ∧ x8 ≤ x5 + 1) (d15 : x4 + (-4294967296) ≤ x9 ∧ x9 ≤ x4 + 0) (d16 : x7 + (-4294967296) ≤ x9 ∧ x9 ≤ x7 + 2) (h0 : x14 = bestWay_0 (x13)) (f1 : x13 = x7 - x9) (f2 : x6 ≤ x5) (f4 : x11 = x8 + x9) (f6 : x9 < x7) (f7 : IN2 (pn_0) (rowMany_0) (pt_0) (ph_0) (drawnNode_0) (row_0) (bestWay_0) (x4) (x5) (x6) (x8) (x9)) (f8 : rowMany_0 = x2) (f9 : x7 = (x4 - 2)) (hK_0_33 : ∀ j : Int, 0 ≤ j → j < 80 → 0 ≤ pt_0 j ∧ pt_0 j ≤ 24) (hK_0_34 : ∀ j : Int, 0 ≤ j → j < 80 → 0 ≤ ph_0 j ∧ ph_0 j ≤ 24) (hK_0_42 : ∀ j : Int, 0 ≤ j → j < 26 → 0 ≤ drawnNode_0 j ∧ drawnNode_0 j ≤ 1) (hK_0_52 : ∀ j : Int, 0 ≤ j → j < 30 → 0 ≤ bestWay_0 j ∧ bestWay_0 j ≤ 24) (hK_0_117 : ∀ j : Int, 0 ≤ j → j < 100 → 0 ≤ row_0 j ∧ row_0 j ≤ 75) (kz_0_31 : 0 ≤ pn_0 ∧ pn_0 ≤ 25) (kz_0_125 : 0 ≤ rowMany_0 ∧ rowMany_0 ≤ 100) : 0 ≤ x11 ∧ x11 ≤ 99 := by
  first
    | omega
    | (have h := inp_len ‹INP _ _ _ _ _ _ _ _›; omega)
    | (have h := in1_len ‹IN1 _ _ _ _ _ _ _ _ _ _ _ _›; omega)
    | (have h := in2_len ‹IN2 _ _ _ _ _ _ _ _ _ _ _ _›; omega)
    | (have h := in2_len ‹IN2 _ _ _ _ _ _ _ _ _ _ _ _›
       have w := in2_W (t := x13) ‹IN2 _ _ _ _ _ _ _ _ _ _ _ _› (by omega) (by omega)
       omega)
    | (have h := in2_len ‹IN2 _ _ _ _ _ _ _ _ _ _ _ _›
       have w := in2_W (t := x14) ‹IN2 _ _ _ _ _ _ _ _ _ _ _ _› (by omega) (by omega)
       omega)
def o_Mo_insert_10 : or_T := (122, 15, [(0, (2, 0, 0, [165])), (2, (0, 0, 100, [])), (3, (2, 0, 0, [165])), (4, (0, 3, 31, [])), (5, (0, 0, 99, [])), (6, (0, 0, 99, [])), (7, (0, 1, 29, [])), (8, (0, 0, 99, [])), (9, (0, 0, 28, [])), (10, (2, 0, 0, [249])), (11, (0, 0, 127, [])), (12, (2, 0, 0, [195])), (13, (0, 1, 29, [])), (14, (0, 0, 24, []))], [(10, [14, 12, 13], []), (2, [13, 7, 9], []), (7, [5, 6], [3]), (9, [12, 3], [52]), (1, [11, 8, 9], []), (9, [10, 3], [117]), (7, [9, 7], [2]), (20, [3, 4, 5, 6, 8, 9], [60, 2, 5, 314, 31, 125, 33, 34, 42, 117, 52]), (20, [3, 2], [50, 1, 0, 125, 1, 3, 2, 0, 125, 1, 1]), (20, [7, 4], [50, 0, 0, 1, 2, 1, 0, 5, 2, 1, 1, 0, 2]), (24, [0, 3], [])], [(11, (0, 0, 99, []))], [], [], [], [(13, 7, -28, 0), (13, 4, -4294967296, -2), (5, 6, 0, 4294967296), (11, 9, 0, 99), (11, 7, -4294967296, 98), (11, 4, -4294967296, 99), (11, 7, -4294967296, 101), (11, 8, 0, 28), (11, 5, -4294967296, 29), (9, 7, -4294967296, -1), (4, 7, -4294967296, 2), (5, 8, -4294967296, 0), (6, 8, -4294967296, 98), (7, 4, -4294967296, -2), (8, 5, -4294967296, 1), (9, 4, -4294967296, 0), (9, 7, -4294967296, 2)])
theorem oo_Mo_insert_10 {kA : Nat → ClassId} : or_ok PRD kA GG o_Mo_insert_10 := by
  refine or_mk fun A ta ws vs hD hth hl => ?_
  intro t0 r0 t2 k2 t3 r3 t4 k4 t5 k5 t6 k6 t7 k7 t8 k8 t9 k9 t10 r10 t11 k11 t12 r12 t13 k13 t14 k14 d0 d1 d2 d3 d4 d5 d6 d7 d8 d9 d10 d11 d12 d13 d14 d15 d16 f0 f1 f2 f3 f4 f5 f6 f7 f8 f9 f10
  replace f0 := shm_107 f0
  replace f3 := shm_993 f3
  replace f7 := shm_1000 f7
  replace f8 := shm_995 f8
  replace f10 := shm_5 f10
  have q3 : n_v vs 3 = n_v vs 0 := f10.symm
  simp only [q3] at f3 f7 f8
  have cr_0_33 := fdq_117 hD hth r0
  have cr_0_34 := fdq_118 hD hth r0
  have cr_0_42 := fdq_136 hD hth r0
  have cr_0_52 := fdq_236 hD hth r0
  have cr_0_117 := fdq_181 hD hth r0
  have ad_12 : v_ad (n_v vs 12) = w_ar ws (n_v vs 0) 52 := congrArg v_ad f3
  simp only [ad_12] at f0
  have h0 : v_iv (n_v vs 14) = w_ei ws (w_ar ws (n_v vs 0) 52) (v_iv (n_v vs 13)) := f0
  have hK_0_33 := elq_60 hD hth cr_0_33
  have hK_0_34 := elq_61 hD hth cr_0_34
  have hK_0_42 := elq_75 hD hth cr_0_42
  have hK_0_52 := elq_147 hD hth cr_0_52
  have hK_0_117 := elq_108 hD hth cr_0_117
  have kz_0_31 := fdq_145 hD hth r0
  have kz_0_125 := fdq_182 hD hth r0
  have hrf0 : 0 ≤ v_iv (n_v vs 11) ∧ v_iv (n_v vs 11) ≤ 99 := vc_Mo_insert_10_r0 (v_iv (n_v vs 2)) (v_iv (n_v vs 4)) (v_iv (n_v vs 5)) (v_iv (n_v vs 6)) (v_iv (n_v vs 7)) (v_iv (n_v vs 8)) (v_iv (n_v vs 9)) (v_iv (n_v vs 11)) (v_iv (n_v vs 13)) (v_iv (n_v vs 14)) (w_ei ws (w_ar ws (n_v vs 0) 52)) (w_ei ws (w_ar ws (n_v vs 0) 33)) (w_ei ws (w_ar ws (n_v vs 0) 34)) (w_ei ws (w_ar ws (n_v vs 0) 42)) (w_ei ws (w_ar ws (n_v vs 0) 117)) (w_fi ws (n_v vs 0) 31) (w_fi ws (n_v vs 0) 125) k2 k4 k5 k6 k7 k8 k9 k11 k13 k14 d0 d1 d2 d3 d4 d5 d6 d7 d8 d9 d10 d11 d12 d13 d14 d15 d16 h0 (shm_14 f1) (shm_2 f2) (shm_12 f4) (shm_6 f6) f7 f8 (shm_998 f9) hK_0_33 hK_0_34 hK_0_42 hK_0_52 hK_0_117 kz_0_31 kz_0_125
  have rf11 : tv_ok ta (0, 0, 99, []) (n_v vs 11) := tv_in t11 (by first | omega | grind) (by first | omega | grind)
  refine ⟨List.forall_mem_cons.mpr ⟨rf11, (fun _ h => (by cases h))⟩, [], trivial, ?_, (fun _ h => (by cases h))⟩
  rw [List.append_nil]
  exact (fun _ h => (by cases h))
set_option maxHeartbeats 4000000 in
theorem vc_Mo_insert_11_0 (x2 : Int) (x4 : Int) (x5 : Int) (x6 : Int) (x7 : Int) (x8 : Int) (x9 : Int) (x11 : Int) (x13 : Int) (x14 : Int) (x15 : Int) (rowMany_0 : Int) (bestWay_1 : Int → Int) (pt_1 : Int → Int) (ph_1 : Int → Int) (drawnNode_1 : Int → Int) (row_1 : Int → Int) (pn_1 : Int) (rowMany_1 : Int) (pn_0 : Int) (pt_0 : Int → Int) (ph_0 : Int → Int) (drawnNode_0 : Int → Int) (bestWay_0 : Int → Int) (row_0 : Int → Int) (k2 : 0 ≤ x2 ∧ x2 ≤ 100) (k4 : 3 ≤ x4 ∧ x4 ≤ 31) (k5 : 0 ≤ x5 ∧ x5 ≤ 99) (k6 : 0 ≤ x6 ∧ x6 ≤ 99) (k7 : 1 ≤ x7 ∧ x7 ≤ 29) (k8 : 0 ≤ x8 ∧ x8 ≤ 99) (k9 : 0 ≤ x9 ∧ x9 ≤ 28) (k11 : 0 ≤ x11 ∧ x11 ≤ 99) (k13 : 1 ≤ x13 ∧ x13 ≤ 29) (k14 : 0 ≤ x14 ∧ x14 ≤ 24) (k15 : 1 ≤ x15 ∧ x15 ≤ 29) (d0 : x9 + 1 ≤ x15 ∧ x15 ≤ x9 + 1) (d1 : x7 + (-4294967296) ≤ x15 ∧ x15 ≤ x7 + 0) (d2 : x4 + (-4294967296) ≤ x15 ∧ x15 ≤ x4 + 1) (d3 : x7 + (-4294967296) ≤ x15 ∧ x15 ≤ x7 + 3) (d4 : x7 + (-28) ≤ x13 ∧ x13 ≤ x7 + 0) (d5 : x4 + (-4294967296) ≤ x13 ∧ x13 ≤ x4 + (-2)) (d6 : x6 + 0 ≤ x5 ∧ x5 ≤ x6 + 4294967296) (d7 : x9 + 0 ≤ x11 ∧ x11 ≤ x9 + 99) (d8 : x8 + 0 ≤ x11 ∧ x11 ≤ x8 + 28) (d9 : x5 + (-4294967296) ≤ x11 ∧ x11 ≤ x5 + 29) (d10 : x7 + (-4294967296) ≤ x9 ∧ x9 ≤ x7 + (-1)) (d11 : x7 + (-4294967296) ≤ x4 ∧ x4 ≤ x7 + 2) (d12 : x8 + (-4294967296) ≤ x5 ∧ x5 ≤ x8 + 0) (d13 : x8 + (-4294967296) ≤ x6 ∧ x6 ≤ x8 + 98) (d14 : x4 + (-4294967296) ≤ x7 ∧ x7 ≤ x4 + (-2)) (d15 : x5 + (-4294967296) ≤ x8 ∧ x8 ≤ x5 + 1) (d16 : x4 + (-4294967296) ≤ x9 ∧ x9 ≤ x4 + 0) (d17 : x7 + (-4294967296) ≤ x9 ∧ x9 ≤ x7 + 2) (f0 : x15 = x9 + 1) (f1 : rowMany_0 = x2) (f2 : x7 = (x4 - 2)) (h5 : x14 = bestWay_1 (x13)) (f6 : x13 = x7 - x9) (f7 : x6 ≤ x5) (f9 : x11 = x8 + x9) (f11 : x9 < x7) (f12 : IN2 (pn_1) (rowMany_1) (pt_1) (ph_1) (drawnNode_1) (row_1) (bestWay_1) (x4) (x5) (x6) (x8) (x9)) (f13 : rowMany_1 = x2) (f14 : x7 = (x4 - 2)) (fe_0_31_1 : pn_0 = pn_1) (fe_0_125_1 : rowMany_0 = rowMany_1) (hE_0_33_1 : ∀ j : Int, pt_0 j = pt_1 j) (hK_0_33 : ∀ j : Int, 0 ≤ j → j < 80 → 0 ≤ pt_0 j ∧ pt_0 j ≤ 24) (hE_0_34_1 : ∀ j : Int, ph_0 j = ph_1 j) (hK_0_34 : ∀ j : Int, 0 ≤ j → j < 80 → 0 ≤ ph_0 j ∧ ph_0 j ≤ 24) (hE_0_42_1 : ∀ j : Int, drawnNode_0 j = drawnNode_1 j) (hK_0_42 : ∀ j : Int, 0 ≤ j → j < 26 → 0 ≤ drawnNode_0 j ∧ drawnNode_0 j ≤ 1) (hE_0_52_1 : ∀ j : Int, bestWay_0 j = bestWay_1 j) (hK_0_52 : ∀ j : Int, 0 ≤ j → j < 30 → 0 ≤ bestWay_0 j ∧ bestWay_0 j ≤ 24) (hE_0_117_1 : ∀ j : Int, 0 ≤ j → (j = x11 → row_0 j = x14) ∧ (j ≠ x11 → row_0 j = row_1 j)) (hK_0_117 : ∀ j : Int, 0 ≤ j → j < 100 → 0 ≤ row_0 j ∧ row_0 j ≤ 75) (kz_0_31 : 0 ≤ pn_0 ∧ pn_0 ≤ 25) (kz_0_125 : 0 ≤ rowMany_0 ∧ rowMany_0 ≤ 100) : IN2 (pn_0) (rowMany_0) (pt_0) (ph_0) (drawnNode_0) (row_0) (bestWay_0) (x4) (x5) (x6) (x8) (x15) := by
  subst fe_0_31_1
  subst fe_0_125_1
  have e_hE_0_33_1 := funext hE_0_33_1; subst e_hE_0_33_1
  have e_hE_0_34_1 := funext hE_0_34_1; subst e_hE_0_34_1
  have e_hE_0_42_1 := funext hE_0_42_1; subst e_hE_0_42_1
  have e_hE_0_52_1 := funext hE_0_52_1; subst e_hE_0_52_1
  first
    | exact in2_start ‹IN1 _ _ _ _ _ _ _ _ _ _ _ _› (by omega) (by omega)
    | exact in2_step ‹IN2 _ _ _ _ _ _ _ _ _ _ _ _› (by omega) (by omega) (by assumption) (by omega) (by assumption) (Or.inl ⟨by omega, by omega⟩)
    | exact in2_step ‹IN2 _ _ _ _ _ _ _ _ _ _ _ _› (by omega) (by omega) (by assumption) (by omega) (by assumption) (Or.inr ⟨by omega, by omega⟩)
def o_Mo_insert_11 : or_T := (84, 16, [(0, (2, 0, 0, [165])), (2, (0, 0, 100, [])), (4, (0, 3, 31, [])), (5, (0, 0, 99, [])), (6, (0, 0, 99, [])), (7, (0, 1, 29, [])), (8, (0, 0, 99, [])), (9, (0, 0, 28, [])), (10, (2, 0, 0, [249])), (11, (0, 0, 99, [])), (13, (0, 1, 29, [])), (14, (0, 0, 24, [])), (15, (0, 1, 29, []))], [(6, [15, 9], [1]), (20, [3, 2], [50, 1, 0, 125, 1, 3, 2, 0, 125, 1, 1]), (20, [7, 4], [50, 0, 0, 1, 2, 1, 0, 5, 2, 1, 1, 0, 2]), (24, [0, 3], []), (100, [10, 11, 14], []), (10, [14, 12, 13], []), (2, [13, 7, 9], []), (7, [5, 6], [3]), (9, [12, 3], [52]), (1, [11, 8, 9], []), (9, [10, 3], [117]), (7, [9, 7], [2]), (20, [3, 4, 5, 6, 8, 9], [60, 2, 5, 314, 31, 125, 33, 34, 42, 117, 52]), (20, [3, 2], [50, 1, 0, 125, 1, 3, 2, 0, 125, 1, 1]), (20, [7, 4], [50, 0, 0, 1, 2, 1, 0, 5, 2, 1, 1, 0, 2])], [], [], [(20, [3, 4, 5, 6, 8, 15], [60, 2, 5, 314, 31, 125, 33, 34, 42, 117, 52])], [], [(15, 9, 1, 1), (15, 7, -4294967296, 0), (15, 4, -4294967296, 1), (15, 7, -4294967296, 3), (13, 7, -28, 0), (13, 4, -4294967296, -2), (5, 6, 0, 4294967296), (11, 9, 0, 99), (11, 8, 0, 28), (11, 5, -4294967296, 29), (9, 7, -4294967296, -1), (4, 7, -4294967296, 2), (5, 8, -4294967296, 0), (6, 8, -4294967296, 98), (7, 4, -4294967296, -2), (8, 5, -4294967296, 1), (9, 4, -4294967296, 0), (9, 7, -4294967296, 2)])
theorem oo_Mo_insert_11 {kA : Nat → ClassId} : or_ok PRD kA GG o_Mo_insert_11 := by
  refine or_mk fun A ta ws vs hD hth hl => ?_
  intro t0 r0 t2 k2 t4 k4 t5 k5 t6 k6 t7 k7 t8 k8 t9 k9 t10 r10 t11 k11 t13 k13 t14 k14 t15 k15 d0 d1 d2 d3 d4 d5 d6 d7 d8 d9 d10 d11 d12 d13 d14 d15 d16 d17 f0 f1 f2 f3 ta1 w1 le1 s1 f5 f6 f7 f8 f9 f10 f11 f12 f13 f14
  replace f0 := shm_4 f0
  replace f1 := shm_995 f1
  replace f2 := shm_998 f2
  replace f3 := shm_5 f3
  have s1 : (∀ b j, w_el ws b j = if b = v_ad (n_v vs 10) ∧ j = (v_iv (n_v vs 11)).toNat then v_iv (n_v vs 14) else w_el w1 b j) ∧ ∀ b k, w_fd ws b k = w_fd w1 b k := s1.2
  replace f5 := shm_107 f5
  replace f6 := shm_14 f6
  replace f7 := shm_2 f7
  replace f8 := shm_993 f8
  replace f9 := shm_12 f9
  replace f10 := shm_713 f10
  replace f11 := shm_6 f11
  replace f12 := shm_1000 f12
  replace f13 := shm_995 f13
  replace f14 := shm_998 f14
  have q3 : n_v vs 3 = n_v vs 0 := f3.symm
  simp only [q3] at f1 f8 f10 f12 f13
  have ar_0_33_1 : w_ar w1 (n_v vs 0) 33 = w_ar ws (n_v vs 0) 33 := congrArg v_ad (s1.2 _ _).symm
  have cr_0_33 := fdq_117 hD hth r0
  have ar_0_34_1 : w_ar w1 (n_v vs 0) 34 = w_ar ws (n_v vs 0) 34 := congrArg v_ad (s1.2 _ _).symm
  have cr_0_34 := fdq_118 hD hth r0
  have ar_0_42_1 : w_ar w1 (n_v vs 0) 42 = w_ar ws (n_v vs 0) 42 := congrArg v_ad (s1.2 _ _).symm
  have cr_0_42 := fdq_136 hD hth r0
  have ar_0_52_1 : w_ar w1 (n_v vs 0) 52 = w_ar ws (n_v vs 0) 52 := congrArg v_ad (s1.2 _ _).symm
  have cr_0_52 := fdq_236 hD hth r0
  have ar_0_117_1 : w_ar w1 (n_v vs 0) 117 = w_ar ws (n_v vs 0) 117 := congrArg v_ad (s1.2 _ _).symm
  have cr_0_117 := fdq_181 hD hth r0
  have ad_12 : v_ad (n_v vs 12) = w_ar ws (n_v vs 0) 52 := (congrArg v_ad f8).trans ar_0_52_1
  have ad_10 : v_ad (n_v vs 10) = w_ar ws (n_v vs 0) 117 := (congrArg v_ad f10).trans ar_0_117_1
  simp only [ad_12] at f5
  have h5 : v_iv (n_v vs 14) = w_ei w1 (w_ar ws (n_v vs 0) 52) (v_iv (n_v vs 13)) := f5
  simp only [ar_0_33_1, ar_0_34_1, ar_0_42_1, ar_0_52_1, ar_0_117_1] at f12
  have fe_0_31_1 : w_fi ws (n_v vs 0) 31 = w_fi w1 (n_v vs 0) 31 := congrArg v_iv (s1.2 _ _)
  have fe_0_125_1 : w_fi ws (n_v vs 0) 125 = w_fi w1 (n_v vs 0) 125 := congrArg v_iv (s1.2 _ _)
  have hE_0_33_1 : ∀ j : Int, w_ei ws (w_ar ws (n_v vs 0) 33) j = w_ei w1 (w_ar ws (n_v vs 0) 33) j := el_kp s1.1 r10 cr_0_33 (by decide)
  have hK_0_33 := elq_60 hD hth cr_0_33
  have hE_0_34_1 : ∀ j : Int, w_ei ws (w_ar ws (n_v vs 0) 34) j = w_ei w1 (w_ar ws (n_v vs 0) 34) j := el_kp s1.1 r10 cr_0_34 (by decide)
  have hK_0_34 := elq_61 hD hth cr_0_34
  have hE_0_42_1 : ∀ j : Int, w_ei ws (w_ar ws (n_v vs 0) 42) j = w_ei w1 (w_ar ws (n_v vs 0) 42) j := el_kp s1.1 r10 cr_0_42 (by decide)
  have hK_0_42 := elq_75 hD hth cr_0_42
  have hE_0_52_1 : ∀ j : Int, w_ei ws (w_ar ws (n_v vs 0) 52) j = w_ei w1 (w_ar ws (n_v vs 0) 52) j := el_kp s1.1 r10 cr_0_52 (by decide)
  have hK_0_52 := elq_147 hD hth cr_0_52
  have hE_0_117_1 : ∀ j : Int, 0 ≤ j → (j = v_iv (n_v vs 11) → w_ei ws (w_ar ws (n_v vs 0) 117) j = v_iv (n_v vs 14)) ∧ (j ≠ v_iv (n_v vs 11) → w_ei ws (w_ar ws (n_v vs 0) 117) j = w_ei w1 (w_ar ws (n_v vs 0) 117) j) := fun j hj => ⟨fun h => by unfold w_ei; rw [s1.1, if_pos ⟨ad_10.symm, by rw [h]⟩], fun h => by unfold w_ei; rw [s1.1, if_neg (fun e => h (by have := e.2; omega))]⟩
  have hK_0_117 := elq_108 hD hth cr_0_117
  have kz_0_31 := fdq_145 hD hth r0
  have kz_0_125 := fdq_182 hD hth r0
  have nf0 : fc_1 PRD (20, [3, 4, 5, 6, 8, 15], [60, 2, 5, 314, 31, 125, 33, 34, 42, 117, 52]) ws (vs) := by
    refine ⟨nf_in hl rfl, sgq_1000 ?_⟩
    · show IN2 (w_fi ws (n_v vs 3) 31) (w_fi ws (n_v vs 3) 125) (w_ei ws (w_ar ws (n_v vs 3) 33)) (w_ei ws (w_ar ws (n_v vs 3) 34)) (w_ei ws (w_ar ws (n_v vs 3) 42)) (w_ei ws (w_ar ws (n_v vs 3) 117)) (w_ei ws (w_ar ws (n_v vs 3) 52)) (v_iv (n_v vs 4)) (v_iv (n_v vs 5)) (v_iv (n_v vs 6)) (v_iv (n_v vs 8)) (v_iv (n_v vs 15))
      rw [q3]
      exact vc_Mo_insert_11_0 (v_iv (n_v vs 2)) (v_iv (n_v vs 4)) (v_iv (n_v vs 5)) (v_iv (n_v vs 6)) (v_iv (n_v vs 7)) (v_iv (n_v vs 8)) (v_iv (n_v vs 9)) (v_iv (n_v vs 11)) (v_iv (n_v vs 13)) (v_iv (n_v vs 14)) (v_iv (n_v vs 15)) (w_fi ws (n_v vs 0) 125) (w_ei w1 (w_ar ws (n_v vs 0) 52)) (w_ei w1 (w_ar ws (n_v vs 0) 33)) (w_ei w1 (w_ar ws (n_v vs 0) 34)) (w_ei w1 (w_ar ws (n_v vs 0) 42)) (w_ei w1 (w_ar ws (n_v vs 0) 117)) (w_fi w1 (n_v vs 0) 31) (w_fi w1 (n_v vs 0) 125) (w_fi ws (n_v vs 0) 31) (w_ei ws (w_ar ws (n_v vs 0) 33)) (w_ei ws (w_ar ws (n_v vs 0) 34)) (w_ei ws (w_ar ws (n_v vs 0) 42)) (w_ei ws (w_ar ws (n_v vs 0) 52)) (w_ei ws (w_ar ws (n_v vs 0) 117)) k2 k4 k5 k6 k7 k8 k9 k11 k13 k14 k15 d0 d1 d2 d3 d4 d5 d6 d7 d8 d9 d10 d11 d12 d13 d14 d15 d16 d17 f0 f1 f2 h5 f6 f7 f9 f11 f12 f13 f14 fe_0_31_1 fe_0_125_1 hE_0_33_1 hK_0_33 hE_0_34_1 hK_0_34 hE_0_42_1 hK_0_42 hE_0_52_1 hK_0_52 hE_0_117_1 hK_0_117 kz_0_31 kz_0_125
  refine ⟨(fun _ h => (by cases h)), [], trivial, ?_, (fun _ h => (by cases h))⟩
  rw [List.append_nil]
  exact List.forall_mem_cons.mpr ⟨⟨show (20 : Nat) < 100 from by decide, nf0⟩, (fun _ h => (by cases h))⟩
set_option maxHeartbeats 4000000 in
theorem vc_Mo_insert_12_r0 (x2 : Int) (x4 : Int) (x5 : Int) (x6 : Int) (x7 : Int) (x8 : Int) (x9 : Int) (x11 : Int) (x13 : Int) (x14 : Int) (x15 : Int) (bestWay_0 : Int → Int) (pt_0 : Int → Int) (ph_0 : Int → Int) (drawnNode_0 : Int → Int) (row_0 : Int → Int) (pn_0 : Int) (rowMany_0 : Int) (k2 : 0 ≤ x2 ∧ x2 ≤ 100) (k4 : 3 ≤ x4 ∧ x4 ≤ 31) (k5 : 0 ≤ x5 ∧ x5 ≤ 98) (k6 : 1 ≤ x6 ∧ x6 ≤ 99) (k7 : 1 ≤ x7 ∧ x7 ≤ 29) (k8 : 0 ≤ x8 ∧ x8 ≤ 99) (k9 : 0 ≤ x9 ∧ x9 ≤ 28) (k11 : 0 ≤ x11 ∧ x11 ≤ 127) (k13 : 1 ≤ x13 ∧ x13 ≤ 1) (k14 : 1 ≤ x14 ∧ x14 ≤ 29) (k15 : 0 ≤ x15 ∧ x15 ≤ 24) (d0 : x9 + 1 ≤ x14 ∧ x14 ≤ x9 + 1) (d1 : x7 + (-4294967296) ≤ x14 ∧ x14 ≤ x7 + 0) (d2 : x4 + (-4294967296) ≤ x14 ∧ x14 ≤ x4 + 1) (d3 : x7 + (-4294967296) ≤ x14 ∧ x14 ≤ x7 + 3) (d4 : x6 + (-4294967296) ≤ x5 ∧ x5 ≤ x6 + (-1)) (d5 : x9 + 0 ≤ x11 ∧ x11 ≤ x9 + 99) (d6 : x7 + (-4294967296) ≤ x11 ∧ x11 ≤ x7 + 98) (d7 : x4 + (-4294967296) ≤ x11 ∧ x11 ≤ x4 + 99) (d8 : x7 + (-4294967296) ≤ x11 ∧ x11 ≤ x7 + 101) (d9 : x8 + 0 ≤ x11 ∧ x11 ≤ x8 + 28) (d10 : x5 + (-4294967296) ≤ x11 ∧ x11 ≤ x5 + 29) (d11 : x7 + (-4294967296) ≤ x9 ∧ x9 ≤ x7 + (-1)) (d12 : x7 + (-4294967296) ≤ x4 ∧ x4 ≤ x7 + 2) (d13 : x8 + (-4294967296) ≤ x5 ∧ x5 ≤ x8 + 0) (d14 : x8 + (-4294967296) ≤ x6 ∧ x6 ≤ x8 + 98) (d15 : x4 + (-4294967296) ≤ x7 ∧ x7 ≤ x4 + (-2)) (d16 : x5 + (-4294967296) ≤ x8 ∧ x8 ≤ x5 + 1) (d17 : x4 + (-4294967296) ≤ x9 ∧ x9 ≤ x4 + 0) (d18 : x7 + (-4294967296) ≤ x9 ∧ x9 ≤ x7 + 2) (h0 : x15 = bestWay_0 (x14)) (f1 : x14 = x13 + x9) (f2 : x5 < x6) (f4 : x11 = x8 + x9) (f6 : x9 < x7) (f7 : IN2 (pn_0) (rowMany_0) (pt_0) (ph_0) (drawnNode_0) (row_0) (bestWay_0) (x4) (x5) (x6) (x8) (x9)) (f8 : rowMany_0 = x2) (f9 : x7 = (x4 - 2)) (hK_0_33 : ∀ j : Int, 0 ≤ j → j < 80 → 0 ≤ pt_0 j ∧ pt_0 j ≤ 24) (hK_0_34 : ∀ j : Int, 0 ≤ j → j < 80 → 0 ≤ ph_0 j ∧ ph_0 j ≤ 24) (hK_0_42 : ∀ j : Int, 0 ≤ j → j < 26 → 0 ≤ drawnNode_0 j ∧ drawnNode_0 j ≤ 1) (hK_0_52 : ∀ j : Int, 0 ≤ j → j < 30 → 0 ≤ bestWay_0 j ∧ bestWay_0 j ≤ 24) (hK_0_117 : ∀ j : Int, 0 ≤ j → j < 100 → 0 ≤ row_0 j ∧ row_0 j ≤ 75) (kz_0_31 : 0 ≤ pn_0 ∧ pn_0 ≤ 25) (kz_0_125 : 0 ≤ rowMany_0 ∧ rowMany_0 ≤ 100) : 0 ≤ x11 ∧ x11 ≤ 99 := by
  first
    | omega
    | (have h := inp_len ‹INP _ _ _ _ _ _ _ _›; omega)
    | (have h := in1_len ‹IN1 _ _ _ _ _ _ _ _ _ _ _ _›; omega)
    | (have h := in2_len ‹IN2 _ _ _ _ _ _ _ _ _ _ _ _›; omega)
    | (have h := in2_len ‹IN2 _ _ _ _ _ _ _ _ _ _ _ _›
       have w := in2_W (t := x13) ‹IN2 _ _ _ _ _ _ _ _ _ _ _ _› (by omega) (by omega)
       omega)
    | (have h := in2_len ‹IN2 _ _ _ _ _ _ _ _ _ _ _ _›
       have w := in2_W (t := x14) ‹IN2 _ _ _ _ _ _ _ _ _ _ _ _› (by omega) (by omega)
       omega)
def o_Mo_insert_12 : or_T := (122, 16, [(0, (2, 0, 0, [165])), (2, (0, 0, 100, [])), (3, (2, 0, 0, [165])), (4, (0, 3, 31, [])), (5, (0, 0, 98, [])), (6, (0, 1, 99, [])), (7, (0, 1, 29, [])), (8, (0, 0, 99, [])), (9, (0, 0, 28, [])), (10, (2, 0, 0, [249])), (11, (0, 0, 127, [])), (12, (2, 0, 0, [195])), (13, (0, 1, 1, [])), (14, (0, 1, 29, [])), (15, (0, 0, 24, []))], [(10, [15, 12, 14], []), (1, [14, 13, 9], []), (7, [5, 6], [2]), (9, [12, 3], [52]), (1, [11, 8, 9], []), (9, [10, 3], [117]), (7, [9, 7], [2]), (20, [3, 4, 5, 6, 8, 9], [60, 2, 5, 314, 31, 125, 33, 34, 42, 117, 52]), (20, [3, 2], [50, 1, 0, 125, 1, 3, 2, 0, 125, 1, 1]), (20, [7, 4], [50, 0, 0, 1, 2, 1, 0, 5, 2, 1, 1, 0, 2]), (24, [0, 3], [])], [(11, (0, 0, 99, []))], [], [], [], [(14, 9, 1, 1), (14, 7, -4294967296, 0), (14, 4, -4294967296, 1), (14, 7, -4294967296, 3), (5, 6, -4294967296, -1), (11, 9, 0, 99), (11, 7, -4294967296, 98), (11, 4, -4294967296, 99), (11, 7, -4294967296, 101), (11, 8, 0, 28), (11, 5, -4294967296, 29), (9, 7, -4294967296, -1), (4, 7, -4294967296, 2), (5, 8, -4294967296, 0), (6, 8, -4294967296, 98), (7, 4, -4294967296, -2), (8, 5, -4294967296, 1), (9, 4, -4294967296, 0), (9, 7, -4294967296, 2)])
theorem oo_Mo_insert_12 {kA : Nat → ClassId} : or_ok PRD kA GG o_Mo_insert_12 := by
  refine or_mk fun A ta ws vs hD hth hl => ?_
  intro t0 r0 t2 k2 t3 r3 t4 k4 t5 k5 t6 k6 t7 k7 t8 k8 t9 k9 t10 r10 t11 k11 t12 r12 t13 k13 t14 k14 t15 k15 d0 d1 d2 d3 d4 d5 d6 d7 d8 d9 d10 d11 d12 d13 d14 d15 d16 d17 d18 f0 f1 f2 f3 f4 f5 f6 f7 f8 f9 f10
  replace f0 := shm_107 f0
  replace f3 := shm_993 f3
  replace f7 := shm_1000 f7
  replace f8 := shm_995 f8
  replace f10 := shm_5 f10
  have q3 : n_v vs 3 = n_v vs 0 := f10.symm
  simp only [q3] at f3 f7 f8
  have cr_0_33 := fdq_117 hD hth r0
  have cr_0_34 := fdq_118 hD hth r0
  have cr_0_42 := fdq_136 hD hth r0
  have cr_0_52 := fdq_236 hD hth r0
  have cr_0_117 := fdq_181 hD hth r0
  have ad_12 : v_ad (n_v vs 12) = w_ar ws (n_v vs 0) 52 := congrArg v_ad f3
  simp only [ad_12] at f0
  have h0 : v_iv (n_v vs 15) = w_ei ws (w_ar ws (n_v vs 0) 52) (v_iv (n_v vs 14)) := f0
  have hK_0_33 := elq_60 hD hth cr_0_33
  have hK_0_34 := elq_61 hD hth cr_0_34
  have hK_0_42 := elq_75 hD hth cr_0_42
  have hK_0_52 := elq_147 hD hth cr_0_52
  have hK_0_117 := elq_108 hD hth cr_0_117
  have kz_0_31 := fdq_145 hD hth r0
  have kz_0_125 := fdq_182 hD hth r0
  have hrf0 : 0 ≤ v_iv (n_v vs 11) ∧ v_iv (n_v vs 11) ≤ 99 := vc_Mo_insert_12_r0 (v_iv (n_v vs 2)) (v_iv (n_v vs 4)) (v_iv (n_v vs 5)) (v_iv (n_v vs 6)) (v_iv (n_v vs 7)) (v_iv (n_v vs 8)) (v_iv (n_v vs 9)) (v_iv (n_v vs 11)) (v_iv (n_v vs 13)) (v_iv (n_v vs 14)) (v_iv (n_v vs 15)) (w_ei ws (w_ar ws (n_v vs 0) 52)) (w_ei ws (w_ar ws (n_v vs 0) 33)) (w_ei ws (w_ar ws (n_v vs 0) 34)) (w_ei ws (w_ar ws (n_v vs 0) 42)) (w_ei ws (w_ar ws (n_v vs 0) 117)) (w_fi ws (n_v vs 0) 31) (w_fi ws (n_v vs 0) 125) k2 k4 k5 k6 k7 k8 k9 k11 k13 k14 k15 d0 d1 d2 d3 d4 d5 d6 d7 d8 d9 d10 d11 d12 d13 d14 d15 d16 d17 d18 h0 (shm_12 f1) (shm_6 f2) (shm_12 f4) (shm_6 f6) f7 f8 (shm_998 f9) hK_0_33 hK_0_34 hK_0_42 hK_0_52 hK_0_117 kz_0_31 kz_0_125
  have rf11 : tv_ok ta (0, 0, 99, []) (n_v vs 11) := tv_in t11 (by first | omega | grind) (by first | omega | grind)
  refine ⟨List.forall_mem_cons.mpr ⟨rf11, (fun _ h => (by cases h))⟩, [], trivial, ?_, (fun _ h => (by cases h))⟩
  rw [List.append_nil]
  exact (fun _ h => (by cases h))
set_option maxHeartbeats 4000000 in
theorem vc_Mo_insert_13_0 (x2 : Int) (x4 : Int) (x5 : Int) (x6 : Int) (x7 : Int) (x8 : Int) (x9 : Int) (x11 : Int) (x13 : Int) (x14 : Int) (x15 : Int) (x16 : Int) (rowMany_0 : Int) (bestWay_1 : Int → Int) (pt_1 : Int → Int) (ph_1 : Int → Int) (drawnNode_1 : Int → Int) (row_1 : Int → Int) (pn_1 : Int) (rowMany_1 : Int) (pn_0 : Int) (pt_0 : Int → Int) (ph_0 : Int → Int) (drawnNode_0 : Int → Int) (bestWay_0 : Int → Int) (row_0 : Int → Int) (k2 : 0 ≤ x2 ∧ x2 ≤ 100) (k4 : 3 ≤ x4 ∧ x4 ≤ 31) (k5 : 0 ≤ x5 ∧ x5 ≤ 98) (k6 : 1 ≤ x6 ∧ x6 ≤ 99) (k7 : 1 ≤ x7 ∧ x7 ≤ 29) (k8 : 0 ≤ x8 ∧ x8 ≤ 99) (k9 : 0 ≤ x9 ∧ x9 ≤ 28) (k11 : 0 ≤ x11 ∧ x11 ≤ 99) (k13 : 1 ≤ x13 ∧ x13 ≤ 1) (k14 : 1 ≤ x14 ∧ x14 ≤ 29) (k15 : 0 ≤ x15 ∧ x15 ≤ 24) (k16 : 1 ≤ x16 ∧ x16 ≤ 29) (d0 : x9 + 1 ≤ x16 ∧ x16 ≤ x9 + 1) (d1 : x7 + (-4294967296) ≤ x16 ∧ x16 ≤ x7 + 0) (d2 : x4 + (-4294967296) ≤ x16 ∧ x16 ≤ x4 + 1) (d3 : x7 + (-4294967296) ≤ x16 ∧ x16 ≤ x7 + 3) (d4 : x9 + 1 ≤ x14 ∧ x14 ≤ x9 + 1) (d5 : x7 + (-4294967296) ≤ x14 ∧ x14 ≤ x7 + 0) (d6 : x4 + (-4294967296) ≤ x14 ∧ x14 ≤ x4 + 1) (d7 : x7 + (-4294967296) ≤ x14 ∧ x14 ≤ x7 + 3) (d8 : x6 + (-4294967296) ≤ x5 ∧ x5 ≤ x6 + (-1)) (d9 : x9 + 0 ≤ x11 ∧ x11 ≤ x9 + 99) (d10 : x8 + 0 ≤ x11 ∧ x11 ≤ x8 + 28) (d11 : x5 + (-4294967296) ≤ x11 ∧ x11 ≤ x5 + 29) (d12 : x7 + (-4294967296) ≤ x9 ∧ x9 ≤ x7 + (-1)) (d13 : x7 + (-4294967296) ≤ x4 ∧ x4 ≤ x7 + 2) (d14 : x8 + (-4294967296) ≤ x5 ∧ x5 ≤ x8 + 0) (d15 : x8 + (-4294967296) ≤ x6 ∧ x6 ≤ x8 + 98) (d16 : x4 + (-4294967296) ≤ x7 ∧ x7 ≤ x4 + (-2)) (d17 : x5 + (-4294967296) ≤ x8 ∧ x8 ≤ x5 + 1) (d18 : x4 + (-4294967296) ≤ x9 ∧ x9 ≤ x4 + 0) (d19 : x7 + (-4294967296) ≤ x9 ∧ x9 ≤ x7 + 2) (f0 : x16 = x9 + 1) (f1 : rowMany_0 = x2) (f2 : x7 = (x4 - 2)) (h5 : x15 = bestWay_1 (x14)) (f6 : x14 = x13 + x9) (f7 : x5 < x6) (f9 : x11 = x8 + x9) (f11 : x9 < x7) (f12 : IN2 (pn_1) (rowMany_1) (pt_1) (ph_1) (drawnNode_1) (row_1) (bestWay_1) (x4) (x5) (x6) (x8) (x9)) (f13 : rowMany_1 = x2) (f14 : x7 = (x4 - 2)) (fe_0_31_1 : pn_0 = pn_1) (fe_0_125_1 : rowMany_0 = rowMany_1) (hE_0_33_1 : ∀ j : Int, pt_0 j = pt_1 j) (hK_0_33 : ∀ j : Int, 0 ≤ j → j < 80 → 0 ≤ pt_0 j ∧ pt_0 j ≤ 24) (hE_0_34_1 : ∀ j : Int, ph_0 j = ph_1 j) (hK_0_34 : ∀ j : Int, 0 ≤ j → j < 80 → 0 ≤ ph_0 j ∧ ph_0 j ≤ 24) (hE_0_42_1 : ∀ j : Int, drawnNode_0 j = drawnNode_1 j) (hK_0_42 : ∀ j : Int, 0 ≤ j → j < 26 → 0 ≤ drawnNode_0 j ∧ drawnNode_0 j ≤ 1) (hE_0_52_1 : ∀ j : Int, bestWay_0 j = bestWay_1 j) (hK_0_52 : ∀ j : Int, 0 ≤ j → j < 30 → 0 ≤ bestWay_0 j ∧ bestWay_0 j ≤ 24) (hE_0_117_1 : ∀ j : Int, 0 ≤ j → (j = x11 → row_0 j = x15) ∧ (j ≠ x11 → row_0 j = row_1 j)) (hK_0_117 : ∀ j : Int, 0 ≤ j → j < 100 → 0 ≤ row_0 j ∧ row_0 j ≤ 75) (kz_0_31 : 0 ≤ pn_0 ∧ pn_0 ≤ 25) (kz_0_125 : 0 ≤ rowMany_0 ∧ rowMany_0 ≤ 100) : IN2 (pn_0) (rowMany_0) (pt_0) (ph_0) (drawnNode_0) (row_0) (bestWay_0) (x4) (x5) (x6) (x8) (x16) := by
  subst fe_0_31_1
  subst fe_0_125_1
  have e_hE_0_33_1 := funext hE_0_33_1; subst e_hE_0_33_1
  have e_hE_0_34_1 := funext hE_0_34_1; subst e_hE_0_34_1
  have e_hE_0_42_1 := funext hE_0_42_1; subst e_hE_0_42_1
  have e_hE_0_52_1 := funext hE_0_52_1; subst e_hE_0_52_1
  first
    | exact in2_start ‹IN1 _ _ _ _ _ _ _ _ _ _ _ _› (by omega) (by omega)
    | exact in2_step ‹IN2 _ _ _ _ _ _ _ _ _ _ _ _› (by omega) (by omega) (by assumption) (by omega) (by assumption) (Or.inl ⟨by omega, by omega⟩)
    | exact in2_step ‹IN2 _ _ _ _ _ _ _ _ _ _ _ _› (by omega) (by omega) (by assumption) (by omega) (by assumption) (Or.inr ⟨by omega, by omega⟩)
def o_Mo_insert_13 : or_T := (84, 17, [(0, (2, 0, 0, [165])), (2, (0, 0, 100, [])), (4, (0, 3, 31, [])), (5, (0, 0, 98, [])), (6, (0, 1, 99, [])), (7, (0, 1, 29, [])), (8, (0, 0, 99, [])), (9, (0, 0, 28, [])), (10, (2, 0, 0, [249])), (11, (0, 0, 99, [])), (13, (0, 1, 1, [])), (14, (0, 1, 29, [])), (15, (0, 0, 24, [])), (16, (0, 1, 29, []))], [(6, [16, 9], [1]), (20, [3, 2], [50, 1, 0, 125, 1, 3, 2, 0, 125, 1, 1]), (20, [7, 4], [50, 0, 0, 1, 2, 1, 0, 5, 2, 1, 1, 0, 2]), (24, [0, 3], []), (100, [10, 11, 15], []), (10, [15, 12, 14], []), (1, [14, 13, 9], []), (7, [5, 6], [2]), (9, [12, 3], [52]), (1, [11, 8, 9], []), (9, [10, 3], [117]), (7, [9, 7], [2]), (20, [3, 4, 5, 6, 8, 9], [60, 2, 5, 314, 31, 125, 33, 34, 42, 117, 52]), (20, [3, 2], [50, 1, 0, 125, 1, 3, 2, 0, 125, 1, 1]), (20, [7, 4], [50, 0, 0, 1, 2, 1, 0, 5, 2, 1, 1, 0, 2])], [], [], [(20, [3, 4, 5, 6, 8, 16], [60, 2, 5, 314, 31, 125, 33, 34, 42, 117, 52])], [], [(16, 9, 1, 1), (16, 7, -4294967296, 0), (16, 4, -4294967296, 1), (16, 7, -4294967296, 3), (14, 9, 1, 1), (14, 7, -4294967296, 0), (14, 4, -4294967296, 1), (14, 7, -4294967296, 3), (5, 6, -4294967296, -1), (11, 9, 0, 99), (11, 8, 0, 28), (11, 5, -4294967296, 29), (9, 7, -4294967296, -1), (4, 7, -4294967296, 2), (5, 8, -4294967296, 0), (6, 8, -4294967296, 98), (7, 4, -4294967296, -2), (8, 5, -4294967296, 1), (9, 4, -4294967296, 0), (9, 7, -4294967296, 2)])
theorem oo_Mo_insert_13 {kA : Nat → ClassId} : or_ok PRD kA GG o_Mo_insert_13 := by
  refine or_mk fun A ta ws vs hD hth hl => ?_
  intro t0 r0 t2 k2 t4 k4 t5 k5 t6 k6 t7 k7 t8 k8 t9 k9 t10 r10 t11 k11 t13 k13 t14 k14 t15 k15 t16 k16 d0 d1 d2 d3 d4 d5 d6 d7 d8 d9 d10 d11 d12 d13 d14 d15 d16 d17 d18 d19 f0 f1 f2 f3 ta1 w1 le1 s1 f5 f6 f7 f8 f9 f10 f11 f12 f13 f14
  replace f0 := shm_4 f0
  replace f1 := shm_995 f1
  replace f2 := shm_998 f2
  replace f3 := shm_5 f3
  have s1 : (∀ b j, w_el ws b j = if b = v_ad (n_v vs 10) ∧ j = (v_iv (n_v vs 11)).toNat then v_iv (n_v vs 15) else w_el w1 b j) ∧ ∀ b k, w_fd ws b k = w_fd w1 b k := s1.2
  replace f5 := shm_107 f5
  replace f6 := shm_12 f6
  replace f7 := shm_6 f7
  replace f8 := shm_993 f8
  replace f9 := shm_12 f9
  replace f10 := shm_713 f10
  replace f11 := shm_6 f11
  replace f12 := shm_1000 f12
  replace f13 := shm_995 f13
  replace f14 := shm_998 f14
  have q3 : n_v vs 3 = n_v vs 0 := f3.symm
  simp only [q3] at f1 f8 f10 f12 f13
  have ar_0_33_1 : w_ar w1 (n_v vs 0) 33 = w_ar ws (n_v vs 0) 33 := congrArg v_ad (s1.2 _ _).symm
  have cr_0_33 := fdq_117 hD hth r0
  have ar_0_34_1 : w_ar w1 (n_v vs 0) 34 = w_ar ws (n_v vs 0) 34 := congrArg v_ad (s1.2 _ _).symm
  have cr_0_34 := fdq_118 hD hth r0
  have ar_0_42_1 : w_ar w1 (n_v vs 0) 42 = w_ar ws (n_v vs 0) 42 := congrArg v_ad (s1.2 _ _).symm
  have cr_0_42 := fdq_136 hD hth r0
  have ar_0_52_1 : w_ar w1 (n_v vs 0) 52 = w_ar ws (n_v vs 0) 52 := congrArg v_ad (s1.2 _ _).symm
  have cr_0_52 := fdq_236 hD hth r0
  have ar_0_117_1 : w_ar w1 (n_v vs 0) 117 = w_ar ws (n_v vs 0) 117 := congrArg v_ad (s1.2 _ _).symm
  have cr_0_117 := fdq_181 hD hth r0
  have ad_12 : v_ad (n_v vs 12) = w_ar ws (n_v vs 0) 52 := (congrArg v_ad f8).trans ar_0_52_1
  have ad_10 : v_ad (n_v vs 10) = w_ar ws (n_v vs 0) 117 := (congrArg v_ad f10).trans ar_0_117_1
  simp only [ad_12] at f5
  have h5 : v_iv (n_v vs 15) = w_ei w1 (w_ar ws (n_v vs 0) 52) (v_iv (n_v vs 14)) := f5
  simp only [ar_0_33_1, ar_0_34_1, ar_0_42_1, ar_0_52_1, ar_0_117_1] at f12
  have fe_0_31_1 : w_fi ws (n_v vs 0) 31 = w_fi w1 (n_v vs 0) 31 := congrArg v_iv (s1.2 _ _)
  have fe_0_125_1 : w_fi ws (n_v vs 0) 125 = w_fi w1 (n_v vs 0) 125 := congrArg v_iv (s1.2 _ _)
  have hE_0_33_1 : ∀ j : Int, w_ei ws (w_ar ws (n_v vs 0) 33) j = w_ei w1 (w_ar ws (n_v vs 0) 33) j := el_kp s1.1 r10 cr_0_33 (by decide)
  have hK_0_33 := elq_60 hD hth cr_0_33
  have hE_0_34_1 : ∀ j : Int, w_ei ws (w_ar ws (n_v vs 0) 34) j = w_ei w1 (w_ar ws (n_v vs 0) 34) j := el_kp s1.1 r10 cr_0_34 (by decide)
  have hK_0_34 := elq_61 hD hth cr_0_34
  have hE_0_42_1 : ∀ j : Int, w_ei ws (w_ar ws (n_v vs 0) 42) j = w_ei w1 (w_ar ws (n_v vs 0) 42) j := el_kp s1.1 r10 cr_0_42 (by decide)
  have hK_0_42 := elq_75 hD hth cr_0_42
  have hE_0_52_1 : ∀ j : Int, w_ei ws (w_ar ws (n_v vs 0) 52) j = w_ei w1 (w_ar ws (n_v vs 0) 52) j := el_kp s1.1 r10 cr_0_52 (by decide)
  have hK_0_52 := elq_147 hD hth cr_0_52
  have hE_0_117_1 : ∀ j : Int, 0 ≤ j → (j = v_iv (n_v vs 11) → w_ei ws (w_ar ws (n_v vs 0) 117) j = v_iv (n_v vs 15)) ∧ (j ≠ v_iv (n_v vs 11) → w_ei ws (w_ar ws (n_v vs 0) 117) j = w_ei w1 (w_ar ws (n_v vs 0) 117) j) := fun j hj => ⟨fun h => by unfold w_ei; rw [s1.1, if_pos ⟨ad_10.symm, by rw [h]⟩], fun h => by unfold w_ei; rw [s1.1, if_neg (fun e => h (by have := e.2; omega))]⟩
  have hK_0_117 := elq_108 hD hth cr_0_117
  have kz_0_31 := fdq_145 hD hth r0
  have kz_0_125 := fdq_182 hD hth r0
  have nf0 : fc_1 PRD (20, [3, 4, 5, 6, 8, 16], [60, 2, 5, 314, 31, 125, 33, 34, 42, 117, 52]) ws (vs) := by
    refine ⟨nf_in hl rfl, sgq_1000 ?_⟩
    · show IN2 (w_fi ws (n_v vs 3) 31) (w_fi ws (n_v vs 3) 125) (w_ei ws (w_ar ws (n_v vs 3) 33)) (w_ei ws (w_ar ws (n_v vs 3) 34)) (w_ei ws (w_ar ws (n_v vs 3) 42)) (w_ei ws (w_ar ws (n_v vs 3) 117)) (w_ei ws (w_ar ws (n_v vs 3) 52)) (v_iv (n_v vs 4)) (v_iv (n_v vs 5)) (v_iv (n_v vs 6)) (v_iv (n_v vs 8)) (v_iv (n_v vs 16))
      rw [q3]
      exact vc_Mo_insert_13_0 (v_iv (n_v vs 2)) (v_iv (n_v vs 4)) (v_iv (n_v vs 5)) (v_iv (n_v vs 6)) (v_iv (n_v vs 7)) (v_iv (n_v vs 8)) (v_iv (n_v vs 9)) (v_iv (n_v vs 11)) (v_iv (n_v vs 13)) (v_iv (n_v vs 14)) (v_iv (n_v vs 15)) (v_iv (n_v vs 16)) (w_fi ws (n_v vs 0) 125) (w_ei w1 (w_ar ws (n_v vs 0) 52)) (w_ei w1 (w_ar ws (n_v vs 0) 33)) (w_ei w1 (w_ar ws (n_v vs 0) 34)) (w_ei w1 (w_ar ws (n_v vs 0) 42)) (w_ei w1 (w_ar ws (n_v vs 0) 117)) (w_fi w1 (n_v vs 0) 31) (w_fi w1 (n_v vs 0) 125) (w_fi ws (n_v vs 0) 31) (w_ei ws (w_ar ws (n_v vs 0) 33)) (w_ei ws (w_ar ws (n_v vs 0) 34)) (w_ei ws (w_ar ws (n_v vs 0) 42)) (w_ei ws (w_ar ws (n_v vs 0) 52)) (w_ei ws (w_ar ws (n_v vs 0) 117)) k2 k4 k5 k6 k7 k8 k9 k11 k13 k14 k15 k16 d0 d1 d2 d3 d4 d5 d6 d7 d8 d9 d10 d11 d12 d13 d14 d15 d16 d17 d18 d19 f0 f1 f2 h5 f6 f7 f9 f11 f12 f13 f14 fe_0_31_1 fe_0_125_1 hE_0_33_1 hK_0_33 hE_0_34_1 hK_0_34 hE_0_42_1 hK_0_42 hE_0_52_1 hK_0_52 hE_0_117_1 hK_0_117 kz_0_31 kz_0_125
  refine ⟨(fun _ h => (by cases h)), [], trivial, ?_, (fun _ h => (by cases h))⟩
  rw [List.append_nil]
  exact List.forall_mem_cons.mpr ⟨⟨show (20 : Nat) < 100 from by decide, nf0⟩, (fun _ h => (by cases h))⟩
def n_Mo_insert_an : List an_T := [(51, [(0, (2, 0, 0, [165])), (1, (0, 0, 31, [])), (2, (0, 0, 99, [])), (3, (0, 0, 99, [])), (4, (0, (Int.negSucc 1), 29, [])), (5, (0, 0, 99, [])), (6, (0, (Int.negSucc 0), 99, []))], [], (0, 0), [(0, 0, 99949), (2, 9, (Int.negSucc 0)), (0, 0, 100000)], [(1, 4, (Int.negSucc 999999999999), 0), (1, 7, (Int.negSucc 999999999999), 2), (4, 1, (Int.negSucc 999999999999), 0), (4, 7, (Int.negSucc 999999999999), 2), (5, 8, (Int.negSucc 999999999999), 0), (6, 8, (Int.negSucc 999999999999), 98), (7, 1, (Int.negSucc 999999999999), (Int.negSucc 1)), (7, 4, (Int.negSucc 999999999999), (Int.negSucc 1)), (8, 5, (Int.negSucc 999999999999), 1)], [], [(2, 0, 0, [165]), (0, 0, 31, []), (0, 0, 100, [])], 0, [], [(20, [3, 4, 5, 6, 8, 9], [60, 2, 5, 313, 31, 125, 33, 34, 42, 117, 52]), (20, [3, 2], [50, 1, 0, 125, 1, 3, 2, 0, 125, 1, 1]), (20, [7, 4], [50, 0, 0, 1, 2, 1, 0, 5, 2, 1, 1, 0, 2]), (24, [0, 3], [])]), (84, [(0, (2, 0, 0, [165])), (1, (0, 0, 31, [])), (2, (0, 0, 99, [])), (3, (0, 0, 99, [])), (4, (0, (Int.negSucc 1), 29, [])), (5, (0, 0, 99, [])), (6, (0, 0, 29, []))], [], (0, 0), [(0, 0, 99916), (1, 9, 29), (0, 0, 100000)], [(1, 4, (Int.negSucc 999999999999), 0), (1, 7, (Int.negSucc 999999999999), 2), (4, 1, (Int.negSucc 999999999999), 0), (4, 7, (Int.negSucc 999999999999), 2), (5, 8, (Int.negSucc 999999999999), 0), (6, 8, (Int.negSucc 999999999999), 98), (7, 1, (Int.negSucc 999999999999), (Int.negSucc 1)), (7, 4, (Int.negSucc 999999999999), (Int.negSucc 1)), (8, 5, (Int.negSucc 999999999999), 1), (9, 1, (Int.negSucc 999999999999), 0), (9, 4, (Int.negSucc 999999999999), 0), (9, 7, (Int.negSucc 999999999999), 2)], [], [(2, 0, 0, [165]), (0, 0, 31, []), (0, 0, 100, [])], 0, [], [(20, [3, 4, 5, 6, 8, 9], [60, 2, 5, 314, 31, 125, 33, 34, 42, 117, 52]), (20, [3, 2], [50, 1, 0, 125, 1, 3, 2, 0, 125, 1, 1]), (20, [7, 4], [50, 0, 0, 1, 2, 1, 0, 5, 2, 1, 1, 0, 2]), (24, [0, 3], [])])]
def t_Mo_insert_ct : ct_L := [(1, 942, e_Mo_rowPlace)]
set_option maxRecDepth 100000 in
theorem c_Mo_insert {l : Launch} {D : va_G} {kA : Nat → ClassId} (h_Mo_rowPlace : ct_ok PRD l D kA GG y_Mo_rowPlace z_Mo_rowPlace e_Mo_rowPlace) : ct_ok PRD l D kA GG y_Mo_insert z_Mo_insert e_Mo_insert := chk_all_ok (FT := [(102, 13, 52), (265, 13, 117), (936, 13, 125)]) (PT := [(936, 13, 125, .int)]) (CT := t_Mo_insert_ct) (KT := []) (NT := []) (AN := n_Mo_insert_an) (OT := [o_Mo_insert_0, o_Mo_insert_1, o_Mo_insert_2, o_Mo_insert_3, o_Mo_insert_4, o_Mo_insert_5, o_Mo_insert_6, o_Mo_insert_7, o_Mo_insert_8, o_Mo_insert_9, o_Mo_insert_10, o_Mo_insert_11, o_Mo_insert_12, o_Mo_insert_13]) 3 368 (List.forall_mem_cons.mpr ⟨oo_Mo_insert_0, List.forall_mem_cons.mpr ⟨oo_Mo_insert_1, List.forall_mem_cons.mpr ⟨oo_Mo_insert_2, List.forall_mem_cons.mpr ⟨oo_Mo_insert_3, List.forall_mem_cons.mpr ⟨oo_Mo_insert_4, List.forall_mem_cons.mpr ⟨oo_Mo_insert_5, List.forall_mem_cons.mpr ⟨oo_Mo_insert_6, List.forall_mem_cons.mpr ⟨oo_Mo_insert_7, List.forall_mem_cons.mpr ⟨oo_Mo_insert_8, List.forall_mem_cons.mpr ⟨oo_Mo_insert_9, List.forall_mem_cons.mpr ⟨oo_Mo_insert_10, List.forall_mem_cons.mpr ⟨oo_Mo_insert_11, List.forall_mem_cons.mpr ⟨oo_Mo_insert_12, List.forall_mem_cons.mpr ⟨oo_Mo_insert_13, List.forall_mem_nil _⟩⟩⟩⟩⟩⟩⟩⟩⟩⟩⟩⟩⟩⟩) (by decide +kernel) ⟨List.forall_mem_cons.mpr ⟨gf_Mo_102, List.forall_mem_cons.mpr ⟨gf_Mo_265, List.forall_mem_cons.mpr ⟨gf_Mo_936, List.forall_mem_nil _⟩⟩⟩, List.forall_mem_cons.mpr ⟨pf_Mo_936, List.forall_mem_nil _⟩, List.forall_mem_cons.mpr ⟨cl_virtual (y := y_Mo_rowPlace) (ci := 13) rfl rfl ⟨_, _, rfl⟩ (by decide +kernel) h_Mo_rowPlace wm_3538 wm_9 wm_3535 wm_3537 wv_20_4 ⟨by decide, by decide, by decide +kernel⟩ (by decide), List.forall_mem_nil _⟩, List.forall_mem_nil _, List.forall_mem_nil _, GG_pl⟩ (by decide +kernel)
set_option maxHeartbeats 4000000 in
theorem vc_Mo_join_0_0 (x1 : Int) (x2 : Int) (x3 : Int) (x4 : Int) (x5 : Int) (x6 : Int) (pt_0 : Int → Int) (ph_0 : Int → Int) (alive_0 : Int → Int) (blockOf_0 : Int → Int) (pm_0 : Int) (k1 : (-1) ≤ x1 ∧ x1 ≤ 79) (k2 : (-1) ≤ x2 ∧ x2 ≤ 79) (k3 : 0 ≤ x3 ∧ x3 ≤ 24) (k4 : 0 ≤ x4 ∧ x4 ≤ 79) (k5 : 0 ≤ x5 ∧ x5 ≤ 79) (k6 : 0 ≤ x6 ∧ x6 ≤ 0) (f1 : BB (pm_0) (pt_0) (ph_0) (alive_0) (blockOf_0) (x3) (x4) (x5)) (f2 : JNP (pm_0) (pt_0) (ph_0) (alive_0) (blockOf_0) (x3) (x4) (x5) (x1) (x2)) (kz_0_32 : 0 ≤ pm_0 ∧ pm_0 ≤ 80) : JNL (pm_0) (pt_0) (ph_0) (alive_0) (blockOf_0) (x3) (x4) (x5) (x1) (x2) (x6) := by
  first
    | (have h := jn_start ‹BB _ _ _ _ _ _ _ _› ‹JNP _ _ _ _ _ _ _ _ _ _›
       first | rw [show x6 = 0 by omega] | rw [show x7 = 0 by omega] | rw [show x8 = 0 by omega] | rw [show x9 = 0 by omega]
       exact h)
    | (have h := ‹JNL _ _ _ _ _ _ _ _ _ _ _›
       first | rw [show x13 = x9 + 1 by omega] | rw [show x14 = x9 + 1 by omega]
       refine jn_step h (by omega) (fun j a b => (hE_0_17_1 j a).2 b) (fun _ => ?_) (fun z => absurd ?_ z)
       · have := (hE_0_17_1 x9 (by omega)).1 rfl
         rw [this]; split <;> omega
       · first | exact Or.inl (by omega) | exact Or.inr (by omega))
    | (have h := ‹JNL _ _ _ _ _ _ _ _ _ _ _›
       rw [show x14 = x9 + 1 by omega]
       exact jn_step h (by omega) (fun _ _ _ => rfl) (fun z => absurd z (by omega)) (fun _ => rfl))
def o_Mo_join_0 : or_T := (8, 7, [(0, (2, 0, 0, [165])), (1, (0, -1, 79, [])), (2, (0, -1, 79, [])), (3, (0, 0, 24, [])), (4, (0, 0, 79, [])), (5, (0, 0, 79, [])), (6, (0, 0, 0, []))], [(20, [0, 3, 4, 5], [60, 1, 4, 87, 32, 33, 34, 35, 17]), (20, [0, 3, 4, 5, 1, 2], [60, 1, 4, 91, 32, 33, 34, 35, 17])], [], [], [(20, [0, 3, 4, 5, 1, 2, 6], [60, 1, 4, 92, 32, 33, 34, 35, 17]), (24, [0, 0], []), (24, [1, 1], []), (24, [2, 2], [])], [], [])
theorem oo_Mo_join_0 {kA : Nat → ClassId} : or_ok PRD kA GG o_Mo_join_0 := by
  refine or_mk fun A ta ws vs hD hth hl => ?_
  intro t0 r0 t1 k1 t2 k2 t3 k3 t4 k4 t5 k5 t6 k6 f1 f2
  have kz_0_32 := fdq_140 hD hth r0
  have nf0 : fc_1 PRD (20, [0, 3, 4, 5, 1, 2, 6], [60, 1, 4, 92, 32, 33, 34, 35, 17]) ws (vs) := ⟨nf_in hl rfl, sgq_1005 (vc_Mo_join_0_0 (v_iv (n_v vs 1)) (v_iv (n_v vs 2)) (v_iv (n_v vs 3)) (v_iv (n_v vs 4)) (v_iv (n_v vs 5)) (v_iv (n_v vs 6)) (w_ei ws (w_ar ws (n_v vs 0) 33)) (w_ei ws (w_ar ws (n_v vs 0) 34)) (w_ei ws (w_ar ws (n_v vs 0) 35)) (w_ei ws (w_ar ws (n_v vs 0) 17)) (w_fi ws (n_v vs 0) 32) k1 k2 k3 k4 k5 k6 (shm_1003 f1) (shm_1004 f2) kz_0_32)⟩
  have nf1 : fc_1 PRD (24, [0, 0], []) ws (vs) := by
    refine ⟨nf_in hl rfl, sgq_1 ?_⟩
    · show n_v vs 0 = n_v vs 0
      first | rfl | simp only [true_and]
  have nf2 : fc_1 PRD (24, [1, 1], []) ws (vs) := by
    refine ⟨nf_in hl rfl, sgq_1 ?_⟩
    · show n_v vs 1 = n_v vs 1
      first | rfl | simp only [true_and]
  have nf3 : fc_1 PRD (24, [2, 2], []) ws (vs) := by
    refine ⟨nf_in hl rfl, sgq_1 ?_⟩
    · show n_v vs 2 = n_v vs 2
      first | rfl | simp only [true_and]
  refine ⟨(fun _ h => (by cases h)), [], trivial, ?_, (fun _ h => (by cases h))⟩
  rw [List.append_nil]
  exact List.forall_mem_cons.mpr ⟨⟨show (20 : Nat) < 100 from by decide, nf0⟩, List.forall_mem_cons.mpr ⟨⟨show (24 : Nat) < 100 from by decide, nf1⟩, List.forall_mem_cons.mpr ⟨⟨show (24 : Nat) < 100 from by decide, nf2⟩, List.forall_mem_cons.mpr ⟨⟨show (24 : Nat) < 100 from by decide, nf3⟩, (fun _ h => (by cases h))⟩⟩⟩⟩
set_option maxHeartbeats 4000000 in
theorem vc_Mo_join_1_0 (x1 : Int) (x2 : Int) (x3 : Int) (x4 : Int) (x5 : Int) (pt_0 : Int → Int) (ph_0 : Int → Int) (alive_0 : Int → Int) (blockOf_0 : Int → Int) (pm_0 : Int) (k1 : (-1) ≤ x1 ∧ x1 ≤ 79) (k2 : (-1) ≤ x2 ∧ x2 ≤ 79) (k3 : 0 ≤ x3 ∧ x3 ≤ 24) (k4 : 0 ≤ x4 ∧ x4 ≤ 79) (k5 : 0 ≤ x5 ∧ x5 ≤ 79) (d0 : x2 + 0 ≤ x1 ∧ x1 ≤ x2 + 0) (f1 : BB (pm_0) (pt_0) (ph_0) (alive_0) (blockOf_0) (x3) (x4) (x5)) (f2 : JNP (pm_0) (pt_0) (ph_0) (alive_0) (blockOf_0) (x3) (x4) (x5) (x1) (x2)) (kz_0_32 : 0 ≤ pm_0 ∧ pm_0 ≤ 80) : BBn (pm_0) (pt_0) (ph_0) (alive_0) (blockOf_0) (x3) (x4) (x5) := by
  exact jn_same ‹BB _ _ _ _ _ _ _ _› (by have h := ‹JNP _ _ _ _ _ _ _ _ _ _›; rw [show x2 = x1 by omega] at h; exact h)
def o_Mo_join_1 : or_T := (5, 6, [(0, (2, 0, 0, [165])), (1, (0, -1, 79, [])), (2, (0, -1, 79, [])), (3, (0, 0, 24, [])), (4, (0, 0, 79, [])), (5, (0, 0, 79, []))], [(20, [0, 3, 4, 5], [60, 1, 4, 87, 32, 33, 34, 35, 17]), (20, [0, 3, 4, 5, 1, 2], [60, 1, 4, 91, 32, 33, 34, 35, 17])], [], [], [(20, [0, 3, 4, 5], [60, 1, 4, 88, 32, 33, 34, 35, 17])], [], [(1, 2, 0, 0)])
theorem oo_Mo_join_1 {kA : Nat → ClassId} : or_ok PRD kA GG o_Mo_join_1 := by
  refine or_mk fun A ta ws vs hD hth hl => ?_
  intro t0 r0 t1 k1 t2 k2 t3 k3 t4 k4 t5 k5 d0 f1 f2
  have kz_0_32 := fdq_140 hD hth r0
  have nf0 : fc_1 PRD (20, [0, 3, 4, 5], [60, 1, 4, 88, 32, 33, 34, 35, 17]) ws (vs) := ⟨nf_in hl rfl, sgq_1006 (vc_Mo_join_1_0 (v_iv (n_v vs 1)) (v_iv (n_v vs 2)) (v_iv (n_v vs 3)) (v_iv (n_v vs 4)) (v_iv (n_v vs 5)) (w_ei ws (w_ar ws (n_v vs 0) 33)) (w_ei ws (w_ar ws (n_v vs 0) 34)) (w_ei ws (w_ar ws (n_v vs 0) 35)) (w_ei ws (w_ar ws (n_v vs 0) 17)) (w_fi ws (n_v vs 0) 32) k1 k2 k3 k4 k5 d0 (shm_1003 f1) (shm_1004 f2) kz_0_32)⟩
  refine ⟨(fun _ h => (by cases h)), [], trivial, ?_, (fun _ h => (by cases h))⟩
  rw [List.append_nil]
  exact List.forall_mem_cons.mpr ⟨⟨show (20 : Nat) < 100 from by decide, nf0⟩, (fun _ h => (by cases h))⟩
set_option maxHeartbeats 4000000 in
theorem vc_Mo_join_2_0 (x1 : Int) (x2 : Int) (x3 : Int) (x4 : Int) (x5 : Int) (x9 : Int) (x10 : Int) (pm_0 : Int) (pt_0 : Int → Int) (ph_0 : Int → Int) (alive_0 : Int → Int) (blockOf_0 : Int → Int) (k1 : (-1) ≤ x1 ∧ x1 ≤ 79) (k2 : (-1) ≤ x2 ∧ x2 ≤ 79) (k3 : 0 ≤ x3 ∧ x3 ≤ 24) (k4 : 0 ≤ x4 ∧ x4 ≤ 79) (k5 : 0 ≤ x5 ∧ x5 ≤ 79) (k9 : 0 ≤ x9 ∧ x9 ≤ 80) (k10 : 0 ≤ x10 ∧ x10 ≤ 80) (d0 : x10 + 0 ≤ x9 ∧ x9 ≤ x10 + 4294967296) (g1 : x10 = pm_0) (f2 : JNL (pm_0) (pt_0) (ph_0) (alive_0) (blockOf_0) (x3) (x4) (x5) (x1) (x2) (x9)) (kz_0_32 : 0 ≤ pm_0 ∧ pm_0 ≤ 80) : BBn (pm_0) (pt_0) (ph_0) (alive_0) (blockOf_0) (x3) (x4) (x5) := by
  exact jn_end ‹JNL _ _ _ _ _ _ _ _ _ _ _› (by omega)
def o_Mo_join_2 : or_T := (53, 11, [(0, (2, 0, 0, [165])), (1, (0, -1, 79, [])), (2, (0, -1, 79, [])), (3, (0, 0, 24, [])), (4, (0, 0, 79, [])), (5, (0, 0, 79, [])), (9, (0, 0, 80, [])), (10, (0, 0, 80, []))], [(9, [10, 6], [32]), (20, [6, 3, 4, 5, 7, 8, 9], [60, 1, 4, 92, 32, 33, 34, 35, 17]), (24, [0, 6], []), (24, [1, 7], []), (24, [2, 8], [])], [], [], [(20, [0, 3, 4, 5], [60, 1, 4, 88, 32, 33, 34, 35, 17])], [], [(9, 10, 0, 4294967296)])
theorem oo_Mo_join_2 {kA : Nat → ClassId} : or_ok PRD kA GG o_Mo_join_2 := by
  refine or_mk fun A ta ws vs hD hth hl => ?_
  intro t0 r0 t1 k1 t2 k2 t3 k3 t4 k4 t5 k5 t9 k9 t10 k10 d0 f1 f2 f3 f4 f5
  replace f1 := shm_525 f1
  replace f2 := shm_1005 f2
  replace f3 := shm_5 f3
  replace f4 := shm_5 f4
  replace f5 := shm_5 f5
  have q6 : n_v vs 6 = n_v vs 0 := f3.symm
  have q7 : n_v vs 7 = n_v vs 1 := f4.symm
  have q8 : n_v vs 8 = n_v vs 2 := f5.symm
  simp only [q6, q7, q8] at f1 f2
  have g1 : v_iv (n_v vs 10) = w_fi ws (n_v vs 0) 32 := congrArg v_iv f1
  have kz_0_32 := fdq_140 hD hth r0
  have nf0 : fc_1 PRD (20, [0, 3, 4, 5], [60, 1, 4, 88, 32, 33, 34, 35, 17]) ws (vs) := ⟨nf_in hl rfl, sgq_1006 (vc_Mo_join_2_0 (v_iv (n_v vs 1)) (v_iv (n_v vs 2)) (v_iv (n_v vs 3)) (v_iv (n_v vs 4)) (v_iv (n_v vs 5)) (v_iv (n_v vs 9)) (v_iv (n_v vs 10)) (w_fi ws (n_v vs 0) 32) (w_ei ws (w_ar ws (n_v vs 0) 33)) (w_ei ws (w_ar ws (n_v vs 0) 34)) (w_ei ws (w_ar ws (n_v vs 0) 35)) (w_ei ws (w_ar ws (n_v vs 0) 17)) k1 k2 k3 k4 k5 k9 k10 d0 g1 f2 kz_0_32)⟩
  refine ⟨(fun _ h => (by cases h)), [], trivial, ?_, (fun _ h => (by cases h))⟩
  rw [List.append_nil]
  exact List.forall_mem_cons.mpr ⟨⟨show (20 : Nat) < 100 from by decide, nf0⟩, (fun _ h => (by cases h))⟩
set_option maxHeartbeats 4000000 in
theorem vc_Mo_join_3_0 (x1 : Int) (x2 : Int) (x3 : Int) (x4 : Int) (x5 : Int) (x7 : Int) (x8 : Int) (x9 : Int) (x12 : Int) (x13 : Int) (blockOf_1 : Int → Int) (pm_1 : Int) (pt_1 : Int → Int) (ph_1 : Int → Int) (alive_1 : Int → Int) (pm_0 : Int) (blockOf_0 : Int → Int) (pt_0 : Int → Int) (ph_0 : Int → Int) (alive_0 : Int → Int) (k1 : (-1) ≤ x1 ∧ x1 ≤ 79) (k2 : (-1) ≤ x2 ∧ x2 ≤ 79) (k3 : 0 ≤ x3 ∧ x3 ≤ 24) (k4 : 0 ≤ x4 ∧ x4 ≤ 79) (k5 : 0 ≤ x5 ∧ x5 ≤ 79) (k7 : (-1) ≤ x7 ∧ x7 ≤ 79) (k8 : (-1) ≤ x8 ∧ x8 ≤ 79) (k9 : 0 ≤ x9 ∧ x9 ≤ 79) (k12 : (-1) ≤ x12 ∧ x12 ≤ 79) (k13 : 1 ≤ x13 ∧ x13 ≤ 80) (d0 : x9 + 1 ≤ x13 ∧ x13 ≤ x9 + 1) (d2 : x8 + 0 ≤ x7 ∧ x7 ≤ x8 + 4294967296) (d3 : x7 + 0 ≤ x12 ∧ x12 ≤ x7 + 0) (d5 : x7 + (-4294967296) ≤ x1 ∧ x1 ≤ x7 + 0) (d6 : x8 + (-4294967296) ≤ x2 ∧ x2 ≤ x8 + 0) (d7 : x1 + (-4294967296) ≤ x7 ∧ x7 ≤ x1 + 0) (d8 : x2 + (-4294967296) ≤ x8 ∧ x8 ≤ x2 + 0) (f0 : x13 = x9 + 1) (h9 : x12 = blockOf_1 (x9)) (f12 : JNL (pm_1) (pt_1) (ph_1) (alive_1) (blockOf_1) (x3) (x4) (x5) (x1) (x2) (x9)) (fe_0_32_1 : pm_0 = pm_1) (hE_0_17_1 : ∀ j : Int, 0 ≤ j → (j = x9 → blockOf_0 j = x2) ∧ (j ≠ x9 → blockOf_0 j = blockOf_1 j)) (hE_0_33_1 : ∀ j : Int, pt_0 j = pt_1 j) (hE_0_34_1 : ∀ j : Int, ph_0 j = ph_1 j) (hE_0_35_1 : ∀ j : Int, alive_0 j = alive_1 j) (kz_0_32 : 0 ≤ pm_0 ∧ pm_0 ≤ 80) : JNL (pm_0) (pt_0) (ph_0) (alive_0) (blockOf_0) (x3) (x4) (x5) (x1) (x2) (x13) := by
  subst fe_0_32_1
  have e_hE_0_33_1 := funext hE_0_33_1; subst e_hE_0_33_1
  have e_hE_0_34_1 := funext hE_0_34_1; subst e_hE_0_34_1
  have e_hE_0_35_1 := funext hE_0_35_1; subst e_hE_0_35_1
  first
    | (have h := jn_start ‹BB _ _ _ _ _ _ _ _› ‹JNP _ _ _ _ _ _ _ _ _ _›
       first | rw [show x6 = 0 by omega] | rw [show x7 = 0 by omega] | rw [show x8 = 0 by omega] | rw [show x9 = 0 by omega]
       exact h)
    | (have h := ‹JNL _ _ _ _ _ _ _ _ _ _ _›
       first | rw [show x13 = x9 + 1 by omega] | rw [show x14 = x9 + 1 by omega]
       refine jn_step h (by omega) (fun j a b => (hE_0_17_1 j a).2 b) (fun _ => ?_) (fun z => absurd ?_ z)
       · have := (hE_0_17_1 x9 (by omega)).1 rfl
         rw [this]; split <;> omega
       · first | exact Or.inl (by omega) | exact Or.inr (by omega))
    | (have h := ‹JNL _ _ _ _ _ _ _ _ _ _ _›
       rw [show x14 = x9 + 1 by omega]
       exact jn_step h (by omega) (fun _ _ _ => rfl) (fun z => absurd z (by omega)) (fun _ => rfl))
def o_Mo_join_3 : or_T := (8, 14, [(0, (2, 0, 0, [165])), (1, (0, -1, 79, [])), (2, (0, -1, 79, [])), (3, (0, 0, 24, [])), (4, (0, 0, 79, [])), (5, (0, 0, 79, [])), (6, (2, 0, 0, [165])), (7, (0, -1, 79, [])), (8, (0, -1, 79, [])), (9, (0, 0, 79, [])), (10, (0, 1, 80, [])), (11, (2, 0, 0, [172])), (12, (0, -1, 79, [])), (13, (0, 1, 80, []))], [(6, [13, 9], [1]), (24, [0, 6], []), (24, [1, 7], []), (24, [2, 8], []), (100, [11, 9, 8], []), (7, [8, 7], [5]), (7, [8, 8], [5]), (9, [11, 6], [17]), (7, [12, 7], [0]), (10, [12, 11, 9], []), (7, [9, 10], [2]), (9, [10, 6], [32]), (20, [6, 3, 4, 5, 7, 8, 9], [60, 1, 4, 92, 32, 33, 34, 35, 17])], [], [], [(20, [6, 3, 4, 5, 7, 8, 13], [60, 1, 4, 92, 32, 33, 34, 35, 17])], [], [(13, 9, 1, 1), (13, 10, -4294967296, 0), (7, 8, 0, 4294967296), (12, 7, 0, 0), (9, 10, -4294967296, -1), (1, 7, -4294967296, 0), (2, 8, -4294967296, 0), (7, 1, -4294967296, 0), (8, 2, -4294967296, 0)])
theorem oo_Mo_join_3 {kA : Nat → ClassId} : or_ok PRD kA GG o_Mo_join_3 := by
  refine or_mk fun A ta ws vs hD hth hl => ?_
  intro t0 r0 t1 k1 t2 k2 t3 k3 t4 k4 t5 k5 t6 r6 t7 k7 t8 k8 t9 k9 t10 k10 t11 r11 t12 k12 t13 k13 d0 d1 d2 d3 d4 d5 d6 d7 d8 f0 f1 f2 f3 ta1 w1 le1 s1 f5 f6 f7 f8 f9 f10 f11 f12
  replace f0 := shm_4 f0
  replace f1 := shm_5 f1
  replace f2 := shm_5 f2
  replace f3 := shm_5 f3
  have s1 : (∀ b j, w_el ws b j = if b = v_ad (n_v vs 11) ∧ j = (v_iv (n_v vs 9)).toNat then v_iv (n_v vs 8) else w_el w1 b j) ∧ ∀ b k, w_fd ws b k = w_fd w1 b k := s1.2
  replace f7 := shm_795 f7
  replace f9 := shm_107 f9
  replace f12 := shm_1005 f12
  have q6 : n_v vs 6 = n_v vs 0 := f1.symm
  have q7 : n_v vs 7 = n_v vs 1 := f2.symm
  have q8 : n_v vs 8 = n_v vs 2 := f3.symm
  rw [q8] at s1
  simp only [q7, q8, q6] at f7 f12
  have ar_0_17_1 : w_ar w1 (n_v vs 0) 17 = w_ar ws (n_v vs 0) 17 := congrArg v_ad (s1.2 _ _).symm
  have ar_0_33_1 : w_ar w1 (n_v vs 0) 33 = w_ar ws (n_v vs 0) 33 := congrArg v_ad (s1.2 _ _).symm
  have cr_0_33 := fdq_117 hD hth r0
  have ar_0_34_1 : w_ar w1 (n_v vs 0) 34 = w_ar ws (n_v vs 0) 34 := congrArg v_ad (s1.2 _ _).symm
  have cr_0_34 := fdq_118 hD hth r0
  have ar_0_35_1 : w_ar w1 (n_v vs 0) 35 = w_ar ws (n_v vs 0) 35 := congrArg v_ad (s1.2 _ _).symm
  have cr_0_35 := fdq_132 hD hth r0
  have ad_11 : v_ad (n_v vs 11) = w_ar ws (n_v vs 0) 17 := (congrArg v_ad f7).trans ar_0_17_1
  simp only [ad_11] at f9
  have h9 : v_iv (n_v vs 12) = w_ei w1 (w_ar ws (n_v vs 0) 17) (v_iv (n_v vs 9)) := f9
  simp only [ar_0_17_1, ar_0_33_1, ar_0_34_1, ar_0_35_1] at f12
  have fe_0_32_1 : w_fi ws (n_v vs 0) 32 = w_fi w1 (n_v vs 0) 32 := congrArg v_iv (s1.2 _ _)
  have hE_0_17_1 : ∀ j : Int, 0 ≤ j → (j = v_iv (n_v vs 9) → w_ei ws (w_ar ws (n_v vs 0) 17) j = v_iv (n_v vs 2)) ∧ (j ≠ v_iv (n_v vs 9) → w_ei ws (w_ar ws (n_v vs 0) 17) j = w_ei w1 (w_ar ws (n_v vs 0) 17) j) := fun j hj => ⟨fun h => by unfold w_ei; rw [s1.1, if_pos ⟨ad_11.symm, by rw [h]⟩], fun h => by unfold w_ei; rw [s1.1, if_neg (fun e => h (by have := e.2; omega))]⟩
  have hE_0_33_1 : ∀ j : Int, w_ei ws (w_ar ws (n_v vs 0) 33) j = w_ei w1 (w_ar ws (n_v vs 0) 33) j := el_kp s1.1 r11 cr_0_33 (by decide)
  have hE_0_34_1 : ∀ j : Int, w_ei ws (w_ar ws (n_v vs 0) 34) j = w_ei w1 (w_ar ws (n_v vs 0) 34) j := el_kp s1.1 r11 cr_0_34 (by decide)
  have hE_0_35_1 : ∀ j : Int, w_ei ws (w_ar ws (n_v vs 0) 35) j = w_ei w1 (w_ar ws (n_v vs 0) 35) j := el_kp s1.1 r11 cr_0_35 (by decide)
  have kz_0_32 := fdq_140 hD hth r0
  have nf0 : fc_1 PRD (20, [6, 3, 4, 5, 7, 8, 13], [60, 1, 4, 92, 32, 33, 34, 35, 17]) ws (vs) := by
    refine ⟨nf_in hl rfl, sgq_1005 ?_⟩
    · show JNL (w_fi ws (n_v vs 6) 32) (w_ei ws (w_ar ws (n_v vs 6) 33)) (w_ei ws (w_ar ws (n_v vs 6) 34)) (w_ei ws (w_ar ws (n_v vs 6) 35)) (w_ei ws (w_ar ws (n_v vs 6) 17)) (v_iv (n_v vs 3)) (v_iv (n_v vs 4)) (v_iv (n_v vs 5)) (v_iv (n_v vs 7)) (v_iv (n_v vs 8)) (v_iv (n_v vs 13))
      simp only [q6, q7, q8]
      exact vc_Mo_join_3_0 (v_iv (n_v vs 1)) (v_iv (n_v vs 2)) (v_iv (n_v vs 3)) (v_iv (n_v vs 4)) (v_iv (n_v vs 5)) (v_iv (n_v vs 7)) (v_iv (n_v vs 8)) (v_iv (n_v vs 9)) (v_iv (n_v vs 12)) (v_iv (n_v vs 13)) (w_ei w1 (w_ar ws (n_v vs 0) 17)) (w_fi w1 (n_v vs 0) 32) (w_ei w1 (w_ar ws (n_v vs 0) 33)) (w_ei w1 (w_ar ws (n_v vs 0) 34)) (w_ei w1 (w_ar ws (n_v vs 0) 35)) (w_fi ws (n_v vs 0) 32) (w_ei ws (w_ar ws (n_v vs 0) 17)) (w_ei ws (w_ar ws (n_v vs 0) 33)) (w_ei ws (w_ar ws (n_v vs 0) 34)) (w_ei ws (w_ar ws (n_v vs 0) 35)) k1 k2 k3 k4 k5 k7 k8 k9 k12 k13 d0 d2 d3 d5 d6 d7 d8 f0 h9 f12 fe_0_32_1 hE_0_17_1 hE_0_33_1 hE_0_34_1 hE_0_35_1 kz_0_32
  refine ⟨(fun _ h => (by cases h)), [], trivial, ?_, (fun _ h => (by cases h))⟩
  rw [List.append_nil]
  exact List.forall_mem_cons.mpr ⟨⟨show (20 : Nat) < 100 from by decide, nf0⟩, (fun _ h => (by cases h))⟩
set_option maxHeartbeats 4000000 in
theorem vc_Mo_join_4_0 (x1 : Int) (x2 : Int) (x3 : Int) (x4 : Int) (x5 : Int) (x7 : Int) (x8 : Int) (x9 : Int) (x12 : Int) (x13 : Int) (blockOf_1 : Int → Int) (pm_1 : Int) (pt_1 : Int → Int) (ph_1 : Int → Int) (alive_1 : Int → Int) (pm_0 : Int) (blockOf_0 : Int → Int) (pt_0 : Int → Int) (ph_0 : Int → Int) (alive_0 : Int → Int) (k1 : (-1) ≤ x1 ∧ x1 ≤ 79) (k2 : (-1) ≤ x2 ∧ x2 ≤ 79) (k3 : 0 ≤ x3 ∧ x3 ≤ 24) (k4 : 0 ≤ x4 ∧ x4 ≤ 79) (k5 : 0 ≤ x5 ∧ x5 ≤ 79) (k7 : (-1) ≤ x7 ∧ x7 ≤ 78) (k8 : 0 ≤ x8 ∧ x8 ≤ 79) (k9 : 0 ≤ x9 ∧ x9 ≤ 79) (k12 : (-1) ≤ x12 ∧ x12 ≤ 79) (k13 : 1 ≤ x13 ∧ x13 ≤ 80) (d0 : x9 + 1 ≤ x13 ∧ x13 ≤ x9 + 1) (d2 : x8 + (-4294967296) ≤ x7 ∧ x7 ≤ x8 + (-1)) (d3 : x7 + 0 ≤ x12 ∧ x12 ≤ x7 + 0) (d5 : x7 + (-4294967296) ≤ x1 ∧ x1 ≤ x7 + 0) (d6 : x8 + (-4294967296) ≤ x2 ∧ x2 ≤ x8 + 0) (d7 : x1 + (-4294967296) ≤ x7 ∧ x7 ≤ x1 + 0) (d8 : x2 + (-4294967296) ≤ x8 ∧ x8 ≤ x2 + 0) (f0 : x13 = x9 + 1) (h9 : x12 = blockOf_1 (x9)) (f12 : JNL (pm_1) (pt_1) (ph_1) (alive_1) (blockOf_1) (x3) (x4) (x5) (x1) (x2) (x9)) (fe_0_32_1 : pm_0 = pm_1) (hE_0_17_1 : ∀ j : Int, 0 ≤ j → (j = x9 → blockOf_0 j = x1) ∧ (j ≠ x9 → blockOf_0 j = blockOf_1 j)) (hE_0_33_1 : ∀ j : Int, pt_0 j = pt_1 j) (hE_0_34_1 : ∀ j : Int, ph_0 j = ph_1 j) (hE_0_35_1 : ∀ j : Int, alive_0 j = alive_1 j) (kz_0_32 : 0 ≤ pm_0 ∧ pm_0 ≤ 80) : JNL (pm_0) (pt_0) (ph_0) (alive_0) (blockOf_0) (x3) (x4) (x5) (x1) (x2) (x13) := by
  subst fe_0_32_1
  have e_hE_0_33_1 := funext hE_0_33_1; subst e_hE_0_33_1
  have e_hE_0_34_1 := funext hE_0_34_1; subst e_hE_0_34_1
  have e_hE_0_35_1 := funext hE_0_35_1; subst e_hE_0_35_1
  first
    | (have h := jn_start ‹BB _ _ _ _ _ _ _ _› ‹JNP _ _ _ _ _ _ _ _ _ _›
       first | rw [show x6 = 0 by omega] | rw [show x7 = 0 by omega] | rw [show x8 = 0 by omega] | rw [show x9 = 0 by omega]
       exact h)
    | (have h := ‹JNL _ _ _ _ _ _ _ _ _ _ _›
       first | rw [show x13 = x9 + 1 by omega] | rw [show x14 = x9 + 1 by omega]
       refine jn_step h (by omega) (fun j a b => (hE_0_17_1 j a).2 b) (fun _ => ?_) (fun z => absurd ?_ z)
       · have := (hE_0_17_1 x9 (by omega)).1 rfl
         rw [this]; split <;> omega
       · first | exact Or.inl (by omega) | exact Or.inr (by omega))
    | (have h := ‹JNL _ _ _ _ _ _ _ _ _ _ _›
       rw [show x14 = x9 + 1 by omega]
       exact jn_step h (by omega) (fun _ _ _ => rfl) (fun z => absurd z (by omega)) (fun _ => rfl))
def o_Mo_join_4 : or_T := (8, 14, [(0, (2, 0, 0, [165])), (1, (0, -1, 79, [])), (2, (0, -1, 79, [])), (3, (0, 0, 24, [])), (4, (0, 0, 79, [])), (5, (0, 0, 79, [])), (6, (2, 0, 0, [165])), (7, (0, -1, 78, [])), (8, (0, 0, 79, [])), (9, (0, 0, 79, [])), (10, (0, 1, 80, [])), (11, (2, 0, 0, [172])), (12, (0, -1, 79, [])), (13, (0, 1, 80, []))], [(6, [13, 9], [1]), (24, [0, 6], []), (24, [1, 7], []), (24, [2, 8], []), (100, [11, 9, 7], []), (7, [7, 7], [5]), (7, [7, 8], [5]), (9, [11, 6], [17]), (7, [12, 7], [0]), (10, [12, 11, 9], []), (7, [9, 10], [2]), (9, [10, 6], [32]), (20, [6, 3, 4, 5, 7, 8, 9], [60, 1, 4, 92, 32, 33, 34, 35, 17])], [], [], [(20, [6, 3, 4, 5, 7, 8, 13], [60, 1, 4, 92, 32, 33, 34, 35, 17])], [], [(13, 9, 1, 1), (13, 10, -4294967296, 0), (7, 8, -4294967296, -1), (12, 7, 0, 0), (9, 10, -4294967296, -1), (1, 7, -4294967296, 0), (2, 8, -4294967296, 0), (7, 1, -4294967296, 0), (8, 2, -4294967296, 0)])
theorem oo_Mo_join_4 {kA : Nat → ClassId} : or_ok PRD kA GG o_Mo_join_4 := by
  refine or_mk fun A ta ws vs hD hth hl => ?_
  intro t0 r0 t1 k1 t2 k2 t3 k3 t4 k4 t5 k5 t6 r6 t7 k7 t8 k8 t9 k9 t10 k10 t11 r11 t12 k12 t13 k13 d0 d1 d2 d3 d4 d5 d6 d7 d8 f0 f1 f2 f3 ta1 w1 le1 s1 f5 f6 f7 f8 f9 f10 f11 f12
  replace f0 := shm_4 f0
  replace f1 := shm_5 f1
  replace f2 := shm_5 f2
  replace f3 := shm_5 f3
  have s1 : (∀ b j, w_el ws b j = if b = v_ad (n_v vs 11) ∧ j = (v_iv (n_v vs 9)).toNat then v_iv (n_v vs 7) else w_el w1 b j) ∧ ∀ b k, w_fd ws b k = w_fd w1 b k := s1.2
  replace f7 := shm_795 f7
  replace f9 := shm_107 f9
  replace f12 := shm_1005 f12
  have q6 : n_v vs 6 = n_v vs 0 := f1.symm
  have q7 : n_v vs 7 = n_v vs 1 := f2.symm
  have q8 : n_v vs 8 = n_v vs 2 := f3.symm
  rw [q7] at s1
  simp only [q7, q8, q6] at f7 f12
  have ar_0_17_1 : w_ar w1 (n_v vs 0) 17 = w_ar ws (n_v vs 0) 17 := congrArg v_ad (s1.2 _ _).symm
  have ar_0_33_1 : w_ar w1 (n_v vs 0) 33 = w_ar ws (n_v vs 0) 33 := congrArg v_ad (s1.2 _ _).symm
  have cr_0_33 := fdq_117 hD hth r0
  have ar_0_34_1 : w_ar w1 (n_v vs 0) 34 = w_ar ws (n_v vs 0) 34 := congrArg v_ad (s1.2 _ _).symm
  have cr_0_34 := fdq_118 hD hth r0
  have ar_0_35_1 : w_ar w1 (n_v vs 0) 35 = w_ar ws (n_v vs 0) 35 := congrArg v_ad (s1.2 _ _).symm
  have cr_0_35 := fdq_132 hD hth r0
  have ad_11 : v_ad (n_v vs 11) = w_ar ws (n_v vs 0) 17 := (congrArg v_ad f7).trans ar_0_17_1
  simp only [ad_11] at f9
  have h9 : v_iv (n_v vs 12) = w_ei w1 (w_ar ws (n_v vs 0) 17) (v_iv (n_v vs 9)) := f9
  simp only [ar_0_17_1, ar_0_33_1, ar_0_34_1, ar_0_35_1] at f12
  have fe_0_32_1 : w_fi ws (n_v vs 0) 32 = w_fi w1 (n_v vs 0) 32 := congrArg v_iv (s1.2 _ _)
  have hE_0_17_1 : ∀ j : Int, 0 ≤ j → (j = v_iv (n_v vs 9) → w_ei ws (w_ar ws (n_v vs 0) 17) j = v_iv (n_v vs 1)) ∧ (j ≠ v_iv (n_v vs 9) → w_ei ws (w_ar ws (n_v vs 0) 17) j = w_ei w1 (w_ar ws (n_v vs 0) 17) j) := fun j hj => ⟨fun h => by unfold w_ei; rw [s1.1, if_pos ⟨ad_11.symm, by rw [h]⟩], fun h => by unfold w_ei; rw [s1.1, if_neg (fun e => h (by have := e.2; omega))]⟩
  have hE_0_33_1 : ∀ j : Int, w_ei ws (w_ar ws (n_v vs 0) 33) j = w_ei w1 (w_ar ws (n_v vs 0) 33) j := el_kp s1.1 r11 cr_0_33 (by decide)
  have hE_0_34_1 : ∀ j : Int, w_ei ws (w_ar ws (n_v vs 0) 34) j = w_ei w1 (w_ar ws (n_v vs 0) 34) j := el_kp s1.1 r11 cr_0_34 (by decide)
  have hE_0_35_1 : ∀ j : Int, w_ei ws (w_ar ws (n_v vs 0) 35) j = w_ei w1 (w_ar ws (n_v vs 0) 35) j := el_kp s1.1 r11 cr_0_35 (by decide)
  have kz_0_32 := fdq_140 hD hth r0
  have nf0 : fc_1 PRD (20, [6, 3, 4, 5, 7, 8, 13], [60, 1, 4, 92, 32, 33, 34, 35, 17]) ws (vs) := by
    refine ⟨nf_in hl rfl, sgq_1005 ?_⟩
    · show JNL (w_fi ws (n_v vs 6) 32) (w_ei ws (w_ar ws (n_v vs 6) 33)) (w_ei ws (w_ar ws (n_v vs 6) 34)) (w_ei ws (w_ar ws (n_v vs 6) 35)) (w_ei ws (w_ar ws (n_v vs 6) 17)) (v_iv (n_v vs 3)) (v_iv (n_v vs 4)) (v_iv (n_v vs 5)) (v_iv (n_v vs 7)) (v_iv (n_v vs 8)) (v_iv (n_v vs 13))
      simp only [q6, q7, q8]
      exact vc_Mo_join_4_0 (v_iv (n_v vs 1)) (v_iv (n_v vs 2)) (v_iv (n_v vs 3)) (v_iv (n_v vs 4)) (v_iv (n_v vs 5)) (v_iv (n_v vs 7)) (v_iv (n_v vs 8)) (v_iv (n_v vs 9)) (v_iv (n_v vs 12)) (v_iv (n_v vs 13)) (w_ei w1 (w_ar ws (n_v vs 0) 17)) (w_fi w1 (n_v vs 0) 32) (w_ei w1 (w_ar ws (n_v vs 0) 33)) (w_ei w1 (w_ar ws (n_v vs 0) 34)) (w_ei w1 (w_ar ws (n_v vs 0) 35)) (w_fi ws (n_v vs 0) 32) (w_ei ws (w_ar ws (n_v vs 0) 17)) (w_ei ws (w_ar ws (n_v vs 0) 33)) (w_ei ws (w_ar ws (n_v vs 0) 34)) (w_ei ws (w_ar ws (n_v vs 0) 35)) k1 k2 k3 k4 k5 k7 k8 k9 k12 k13 d0 d2 d3 d5 d6 d7 d8 f0 h9 f12 fe_0_32_1 hE_0_17_1 hE_0_33_1 hE_0_34_1 hE_0_35_1 kz_0_32
  refine ⟨(fun _ h => (by cases h)), [], trivial, ?_, (fun _ h => (by cases h))⟩
  rw [List.append_nil]
  exact List.forall_mem_cons.mpr ⟨⟨show (20 : Nat) < 100 from by decide, nf0⟩, (fun _ h => (by cases h))⟩
set_option maxHeartbeats 4000000 in
theorem vc_Mo_join_5_0 (x1 : Int) (x2 : Int) (x3 : Int) (x4 : Int) (x5 : Int) (x7 : Int) (x8 : Int) (x9 : Int) (x12 : Int) (x13 : Int) (x14 : Int) (blockOf_0 : Int → Int) (pm_0 : Int) (pt_0 : Int → Int) (ph_0 : Int → Int) (alive_0 : Int → Int) (k1 : (-1) ≤ x1 ∧ x1 ≤ 79) (k2 : (-1) ≤ x2 ∧ x2 ≤ 79) (k3 : 0 ≤ x3 ∧ x3 ≤ 24) (k4 : 0 ≤ x4 ∧ x4 ≤ 79) (k5 : 0 ≤ x5 ∧ x5 ≤ 79) (k7 : (-1) ≤ x7 ∧ x7 ≤ 79) (k8 : (-1) ≤ x8 ∧ x8 ≤ 79) (k9 : 0 ≤ x9 ∧ x9 ≤ 79) (k12 : (-1) ≤ x12 ∧ x12 ≤ 79) (k13 : (-1) ≤ x13 ∧ x13 ≤ 79) (k14 : 1 ≤ x14 ∧ x14 ≤ 80) (d0 : x9 + 1 ≤ x14 ∧ x14 ≤ x9 + 1) (d3 : x7 + (-4294967296) ≤ x1 ∧ x1 ≤ x7 + 0) (d4 : x8 + (-4294967296) ≤ x2 ∧ x2 ≤ x8 + 0) (d5 : x1 + (-4294967296) ≤ x7 ∧ x7 ≤ x1 + 0) (d6 : x2 + (-4294967296) ≤ x8 ∧ x8 ≤ x2 + 0) (f0 : x14 = x9 + 1) (f1 : x13 ≠ x2) (h2 : x13 = blockOf_0 (x9)) (f4 : x12 ≠ x1) (h5 : x12 = blockOf_0 (x9)) (f8 : JNL (pm_0) (pt_0) (ph_0) (alive_0) (blockOf_0) (x3) (x4) (x5) (x1) (x2) (x9)) (kz_0_32 : 0 ≤ pm_0 ∧ pm_0 ≤ 80) : JNL (pm_0) (pt_0) (ph_0) (alive_0) (blockOf_0) (x3) (x4) (x5) (x1) (x2) (x14) := by
  first
    | (have h := jn_start ‹BB _ _ _ _ _ _ _ _› ‹JNP _ _ _ _ _ _ _ _ _ _›
       first | rw [show x6 = 0 by omega] | rw [show x7 = 0 by omega] | rw [show x8 = 0 by omega] | rw [show x9 = 0 by omega]
       exact h)
    | (have h := ‹JNL _ _ _ _ _ _ _ _ _ _ _›
       first | rw [show x13 = x9 + 1 by omega] | rw [show x14 = x9 + 1 by omega]
       refine jn_step h (by omega) (fun j a b => (hE_0_17_1 j a).2 b) (fun _ => ?_) (fun z => absurd ?_ z)
       · have := (hE_0_17_1 x9 (by omega)).1 rfl
         rw [this]; split <;> omega
       · first | exact Or.inl (by omega) | exact Or.inr (by omega))
    | (have h := ‹JNL _ _ _ _ _ _ _ _ _ _ _›
       rw [show x14 = x9 + 1 by omega]
       exact jn_step h (by omega) (fun _ _ _ => rfl) (fun z => absurd z (by omega)) (fun _ => rfl))
def o_Mo_join_5 : or_T := (8, 15, [(0, (2, 0, 0, [165])), (1, (0, -1, 79, [])), (2, (0, -1, 79, [])), (3, (0, 0, 24, [])), (4, (0, 0, 79, [])), (5, (0, 0, 79, [])), (6, (2, 0, 0, [165])), (7, (0, -1, 79, [])), (8, (0, -1, 79, [])), (9, (0, 0, 79, [])), (10, (0, 1, 80, [])), (11, (2, 0, 0, [172])), (12, (0, -1, 79, [])), (13, (0, -1, 79, [])), (14, (0, 1, 80, []))], [(6, [14, 9], [1]), (7, [13, 8], [1]), (10, [13, 11, 9], []), (9, [11, 6], [17]), (7, [12, 7], [1]), (10, [12, 11, 9], []), (7, [9, 10], [2]), (9, [10, 6], [32]), (20, [6, 3, 4, 5, 7, 8, 9], [60, 1, 4, 92, 32, 33, 34, 35, 17]), (24, [0, 6], []), (24, [1, 7], []), (24, [2, 8], [])], [], [], [(20, [6, 3, 4, 5, 7, 8, 14], [60, 1, 4, 92, 32, 33, 34, 35, 17])], [], [(14, 9, 1, 1), (14, 10, -4294967296, 0), (9, 10, -4294967296, -1), (1, 7, -4294967296, 0), (2, 8, -4294967296, 0), (7, 1, -4294967296, 0), (8, 2, -4294967296, 0)])
theorem oo_Mo_join_5 {kA : Nat → ClassId} : or_ok PRD kA GG o_Mo_join_5 := by
  refine or_mk fun A ta ws vs hD hth hl => ?_
  intro t0 r0 t1 k1 t2 k2 t3 k3 t4 k4 t5 k5 t6 r6 t7 k7 t8 k8 t9 k9 t10 k10 t11 r11 t12 k12 t13 k13 t14 k14 d0 d1 d2 d3 d4 d5 d6 f0 f1 f2 f3 f4 f5 f6 f7 f8 f9 f10 f11
  replace f0 := shm_4 f0
  replace f1 := shm_40 f1
  replace f2 := shm_107 f2
  replace f3 := shm_795 f3
  replace f4 := shm_40 f4
  replace f5 := shm_107 f5
  replace f8 := shm_1005 f8
  replace f9 := shm_5 f9
  replace f10 := shm_5 f10
  replace f11 := shm_5 f11
  have q6 : n_v vs 6 = n_v vs 0 := f9.symm
  have q7 : n_v vs 7 = n_v vs 1 := f10.symm
  have q8 : n_v vs 8 = n_v vs 2 := f11.symm
  simp only [q8, q6, q7] at f1 f3 f4 f8
  have ad_11 : v_ad (n_v vs 11) = w_ar ws (n_v vs 0) 17 := congrArg v_ad f3
  simp only [ad_11] at f2
  have h2 : v_iv (n_v vs 13) = w_ei ws (w_ar ws (n_v vs 0) 17) (v_iv (n_v vs 9)) := f2
  simp only [ad_11] at f5
  have h5 : v_iv (n_v vs 12) = w_ei ws (w_ar ws (n_v vs 0) 17) (v_iv (n_v vs 9)) := f5
  have kz_0_32 := fdq_140 hD hth r0
  have nf0 : fc_1 PRD (20, [6, 3, 4, 5, 7, 8, 14], [60, 1, 4, 92, 32, 33, 34, 35, 17]) ws (vs) := by
    refine ⟨nf_in hl rfl, sgq_1005 ?_⟩
    · show JNL (w_fi ws (n_v vs 6) 32) (w_ei ws (w_ar ws (n_v vs 6) 33)) (w_ei ws (w_ar ws (n_v vs 6) 34)) (w_ei ws (w_ar ws (n_v vs 6) 35)) (w_ei ws (w_ar ws (n_v vs 6) 17)) (v_iv (n_v vs 3)) (v_iv (n_v vs 4)) (v_iv (n_v vs 5)) (v_iv (n_v vs 7)) (v_iv (n_v vs 8)) (v_iv (n_v vs 14))
      simp only [q6, q7, q8]
      exact vc_Mo_join_5_0 (v_iv (n_v vs 1)) (v_iv (n_v vs 2)) (v_iv (n_v vs 3)) (v_iv (n_v vs 4)) (v_iv (n_v vs 5)) (v_iv (n_v vs 7)) (v_iv (n_v vs 8)) (v_iv (n_v vs 9)) (v_iv (n_v vs 12)) (v_iv (n_v vs 13)) (v_iv (n_v vs 14)) (w_ei ws (w_ar ws (n_v vs 0) 17)) (w_fi ws (n_v vs 0) 32) (w_ei ws (w_ar ws (n_v vs 0) 33)) (w_ei ws (w_ar ws (n_v vs 0) 34)) (w_ei ws (w_ar ws (n_v vs 0) 35)) k1 k2 k3 k4 k5 k7 k8 k9 k12 k13 k14 d0 d3 d4 d5 d6 f0 f1 h2 f4 h5 f8 kz_0_32
  refine ⟨(fun _ h => (by cases h)), [], trivial, ?_, (fun _ h => (by cases h))⟩
  rw [List.append_nil]
  exact List.forall_mem_cons.mpr ⟨⟨show (20 : Nat) < 100 from by decide, nf0⟩, (fun _ h => (by cases h))⟩
set_option maxHeartbeats 4000000 in
theorem vc_Mo_join_6_0 (x1 : Int) (x2 : Int) (x3 : Int) (x4 : Int) (x5 : Int) (x7 : Int) (x8 : Int) (x9 : Int) (x13 : Int) (x14 : Int) (blockOf_1 : Int → Int) (pm_1 : Int) (pt_1 : Int → Int) (ph_1 : Int → Int) (alive_1 : Int → Int) (pm_0 : Int) (blockOf_0 : Int → Int) (pt_0 : Int → Int) (ph_0 : Int → Int) (alive_0 : Int → Int) (k1 : (-1) ≤ x1 ∧ x1 ≤ 79) (k2 : (-1) ≤ x2 ∧ x2 ≤ 79) (k3 : 0 ≤ x3 ∧ x3 ≤ 24) (k4 : 0 ≤ x4 ∧ x4 ≤ 79) (k5 : 0 ≤ x5 ∧ x5 ≤ 79) (k7 : (-1) ≤ x7 ∧ x7 ≤ 79) (k8 : (-1) ≤ x8 ∧ x8 ≤ 79) (k9 : 0 ≤ x9 ∧ x9 ≤ 79) (k13 : (-1) ≤ x13 ∧ x13 ≤ 79) (k14 : 1 ≤ x14 ∧ x14 ≤ 80) (d0 : x9 + 1 ≤ x14 ∧ x14 ≤ x9 + 1) (d2 : x8 + 0 ≤ x7 ∧ x7 ≤ x8 + 4294967296) (d3 : x8 + 0 ≤ x13 ∧ x13 ≤ x8 + 0) (d5 : x7 + (-4294967296) ≤ x1 ∧ x1 ≤ x7 + 0) (d6 : x8 + (-4294967296) ≤ x2 ∧ x2 ≤ x8 + 0) (d7 : x1 + (-4294967296) ≤ x7 ∧ x7 ≤ x1 + 0) (d8 : x2 + (-4294967296) ≤ x8 ∧ x8 ≤ x2 + 0) (f0 : x14 = x9 + 1) (h9 : x13 = blockOf_1 (x9)) (f14 : JNL (pm_1) (pt_1) (ph_1) (alive_1) (blockOf_1) (x3) (x4) (x5) (x1) (x2) (x9)) (fe_0_32_1 : pm_0 = pm_1) (hE_0_17_1 : ∀ j : Int, 0 ≤ j → (j = x9 → blockOf_0 j = x2) ∧ (j ≠ x9 → blockOf_0 j = blockOf_1 j)) (hE_0_33_1 : ∀ j : Int, pt_0 j = pt_1 j) (hE_0_34_1 : ∀ j : Int, ph_0 j = ph_1 j) (hE_0_35_1 : ∀ j : Int, alive_0 j = alive_1 j) (kz_0_32 : 0 ≤ pm_0 ∧ pm_0 ≤ 80) : JNL (pm_0) (pt_0) (ph_0) (alive_0) (blockOf_0) (x3) (x4) (x5) (x1) (x2) (x14) := by
  subst fe_0_32_1
  have e_hE_0_33_1 := funext hE_0_33_1; subst e_hE_0_33_1
  have e_hE_0_34_1 := funext hE_0_34_1; subst e_hE_0_34_1
  have e_hE_0_35_1 := funext hE_0_35_1; subst e_hE_0_35_1
  first
    | (have h := jn_start ‹BB _ _ _ _ _ _ _ _› ‹JNP _ _ _ _ _ _ _ _ _ _›
       first | rw [show x6 = 0 by omega] | rw [show x7 = 0 by omega] | rw [show x8 = 0 by omega] | rw [show x9 = 0 by omega]
       exact h)
    | (have h := ‹JNL _ _ _ _ _ _ _ _ _ _ _›
       first | rw [show x13 = x9 + 1 by omega] | rw [show x14 = x9 + 1 by omega]
       refine jn_step h (by omega) (fun j a b => (hE_0_17_1 j a).2 b) (fun _ => ?_) (fun z => absurd ?_ z)
       · have := (hE_0_17_1 x9 (by omega)).1 rfl
         rw [this]; split <;> omega
       · first | exact Or.inl (by omega) | exact Or.inr (by omega))
    | (have h := ‹JNL _ _ _ _ _ _ _ _ _ _ _›
       rw [show x14 = x9 + 1 by omega]
       exact jn_step h (by omega) (fun _ _ _ => rfl) (fun z => absurd z (by omega)) (fun _ => rfl))
def o_Mo_join_6 : or_T := (8, 15, [(0, (2, 0, 0, [165])), (1, (0, -1, 79, [])), (2, (0, -1, 79, [])), (3, (0, 0, 24, [])), (4, (0, 0, 79, [])), (5, (0, 0, 79, [])), (6, (2, 0, 0, [165])), (7, (0, -1, 79, [])), (8, (0, -1, 79, [])), (9, (0, 0, 79, [])), (10, (0, 1, 80, [])), (11, (2, 0, 0, [172])), (12, (0, -1, 79, [])), (13, (0, -1, 79, [])), (14, (0, 1, 80, []))], [(6, [14, 9], [1]), (24, [0, 6], []), (24, [1, 7], []), (24, [2, 8], []), (100, [11, 9, 8], []), (7, [8, 7], [5]), (7, [8, 8], [5]), (9, [11, 6], [17]), (7, [13, 8], [0]), (10, [13, 11, 9], []), (7, [12, 7], [1]), (10, [12, 11, 9], []), (7, [9, 10], [2]), (9, [10, 6], [32]), (20, [6, 3, 4, 5, 7, 8, 9], [60, 1, 4, 92, 32, 33, 34, 35, 17])], [], [], [(20, [6, 3, 4, 5, 7, 8, 14], [60, 1, 4, 92, 32, 33, 34, 35, 17])], [], [(14, 9, 1, 1), (14, 10, -4294967296, 0), (7, 8, 0, 4294967296), (13, 8, 0, 0), (9, 10, -4294967296, -1), (1, 7, -4294967296, 0), (2, 8, -4294967296, 0), (7, 1, -4294967296, 0), (8, 2, -4294967296, 0)])
theorem oo_Mo_join_6 {kA : Nat → ClassId} : or_ok PRD kA GG o_Mo_join_6 := by
  refine or_mk fun A ta ws vs hD hth hl => ?_
  intro t0 r0 t1 k1 t2 k2 t3 k3 t4 k4 t5 k5 t6 r6 t7 k7 t8 k8 t9 k9 t10 k10 t11 r11 t12 k12 t13 k13 t14 k14 d0 d1 d2 d3 d4 d5 d6 d7 d8 f0 f1 f2 f3 ta1 w1 le1 s1 f5 f6 f7 f8 f9 f10 f11 f12 f13 f14
  replace f0 := shm_4 f0
  replace f1 := shm_5 f1
  replace f2 := shm_5 f2
  replace f3 := shm_5 f3
  have s1 : (∀ b j, w_el ws b j = if b = v_ad (n_v vs 11) ∧ j = (v_iv (n_v vs 9)).toNat then v_iv (n_v vs 8) else w_el w1 b j) ∧ ∀ b k, w_fd ws b k = w_fd w1 b k := s1.2
  replace f7 := shm_795 f7
  replace f9 := shm_107 f9
  replace f14 := shm_1005 f14
  have q6 : n_v vs 6 = n_v vs 0 := f1.symm
  have q7 : n_v vs 7 = n_v vs 1 := f2.symm
  have q8 : n_v vs 8 = n_v vs 2 := f3.symm
  rw [q8] at s1
  simp only [q7, q8, q6] at f7 f14
  have ar_0_17_1 : w_ar w1 (n_v vs 0) 17 = w_ar ws (n_v vs 0) 17 := congrArg v_ad (s1.2 _ _).symm
  have ar_0_33_1 : w_ar w1 (n_v vs 0) 33 = w_ar ws (n_v vs 0) 33 := congrArg v_ad (s1.2 _ _).symm
  have cr_0_33 := fdq_117 hD hth r0
  have ar_0_34_1 : w_ar w1 (n_v vs 0) 34 = w_ar ws (n_v vs 0) 34 := congrArg v_ad (s1.2 _ _).symm
  have cr_0_34 := fdq_118 hD hth r0
  have ar_0_35_1 : w_ar w1 (n_v vs 0) 35 = w_ar ws (n_v vs 0) 35 := congrArg v_ad (s1.2 _ _).symm
  have cr_0_35 := fdq_132 hD hth r0
  have ad_11 : v_ad (n_v vs 11) = w_ar ws (n_v vs 0) 17 := (congrArg v_ad f7).trans ar_0_17_1
  simp only [ad_11] at f9
  have h9 : v_iv (n_v vs 13) = w_ei w1 (w_ar ws (n_v vs 0) 17) (v_iv (n_v vs 9)) := f9
  simp only [ar_0_17_1, ar_0_33_1, ar_0_34_1, ar_0_35_1] at f14
  have fe_0_32_1 : w_fi ws (n_v vs 0) 32 = w_fi w1 (n_v vs 0) 32 := congrArg v_iv (s1.2 _ _)
  have hE_0_17_1 : ∀ j : Int, 0 ≤ j → (j = v_iv (n_v vs 9) → w_ei ws (w_ar ws (n_v vs 0) 17) j = v_iv (n_v vs 2)) ∧ (j ≠ v_iv (n_v vs 9) → w_ei ws (w_ar ws (n_v vs 0) 17) j = w_ei w1 (w_ar ws (n_v vs 0) 17) j) := fun j hj => ⟨fun h => by unfold w_ei; rw [s1.1, if_pos ⟨ad_11.symm, by rw [h]⟩], fun h => by unfold w_ei; rw [s1.1, if_neg (fun e => h (by have := e.2; omega))]⟩
  have hE_0_33_1 : ∀ j : Int, w_ei ws (w_ar ws (n_v vs 0) 33) j = w_ei w1 (w_ar ws (n_v vs 0) 33) j := el_kp s1.1 r11 cr_0_33 (by decide)
  have hE_0_34_1 : ∀ j : Int, w_ei ws (w_ar ws (n_v vs 0) 34) j = w_ei w1 (w_ar ws (n_v vs 0) 34) j := el_kp s1.1 r11 cr_0_34 (by decide)
  have hE_0_35_1 : ∀ j : Int, w_ei ws (w_ar ws (n_v vs 0) 35) j = w_ei w1 (w_ar ws (n_v vs 0) 35) j := el_kp s1.1 r11 cr_0_35 (by decide)
  have kz_0_32 := fdq_140 hD hth r0
  have nf0 : fc_1 PRD (20, [6, 3, 4, 5, 7, 8, 14], [60, 1, 4, 92, 32, 33, 34, 35, 17]) ws (vs) := by
    refine ⟨nf_in hl rfl, sgq_1005 ?_⟩
    · show JNL (w_fi ws (n_v vs 6) 32) (w_ei ws (w_ar ws (n_v vs 6) 33)) (w_ei ws (w_ar ws (n_v vs 6) 34)) (w_ei ws (w_ar ws (n_v vs 6) 35)) (w_ei ws (w_ar ws (n_v vs 6) 17)) (v_iv (n_v vs 3)) (v_iv (n_v vs 4)) (v_iv (n_v vs 5)) (v_iv (n_v vs 7)) (v_iv (n_v vs 8)) (v_iv (n_v vs 14))
      simp only [q6, q7, q8]
      exact vc_Mo_join_6_0 (v_iv (n_v vs 1)) (v_iv (n_v vs 2)) (v_iv (n_v vs 3)) (v_iv (n_v vs 4)) (v_iv (n_v vs 5)) (v_iv (n_v vs 7)) (v_iv (n_v vs 8)) (v_iv (n_v vs 9)) (v_iv (n_v vs 13)) (v_iv (n_v vs 14)) (w_ei w1 (w_ar ws (n_v vs 0) 17)) (w_fi w1 (n_v vs 0) 32) (w_ei w1 (w_ar ws (n_v vs 0) 33)) (w_ei w1 (w_ar ws (n_v vs 0) 34)) (w_ei w1 (w_ar ws (n_v vs 0) 35)) (w_fi ws (n_v vs 0) 32) (w_ei ws (w_ar ws (n_v vs 0) 17)) (w_ei ws (w_ar ws (n_v vs 0) 33)) (w_ei ws (w_ar ws (n_v vs 0) 34)) (w_ei ws (w_ar ws (n_v vs 0) 35)) k1 k2 k3 k4 k5 k7 k8 k9 k13 k14 d0 d2 d3 d5 d6 d7 d8 f0 h9 f14 fe_0_32_1 hE_0_17_1 hE_0_33_1 hE_0_34_1 hE_0_35_1 kz_0_32
  refine ⟨(fun _ h => (by cases h)), [], trivial, ?_, (fun _ h => (by cases h))⟩
  rw [List.append_nil]
  exact List.forall_mem_cons.mpr ⟨⟨show (20 : Nat) < 100 from by decide, nf0⟩, (fun _ h => (by cases h))⟩
set_option maxHeartbeats 4000000 in
theorem vc_Mo_join_7_0 (x1 : Int) (x2 : Int) (x3 : Int) (x4 : Int) (x5 : Int) (x7 : Int) (x8 : Int) (x9 : Int) (x13 : Int) (x14 : Int) (blockOf_1 : Int → Int) (pm_1 : Int) (pt_1 : Int → Int) (ph_1 : Int → Int) (alive_1 : Int → Int) (pm_0 : Int) (blockOf_0 : Int → Int) (pt_0 : Int → Int) (ph_0 : Int → Int) (alive_0 : Int → Int) (k1 : (-1) ≤ x1 ∧ x1 ≤ 79) (k2 : (-1) ≤ x2 ∧ x2 ≤ 79) (k3 : 0 ≤ x3 ∧ x3 ≤ 24) (k4 : 0 ≤ x4 ∧ x4 ≤ 79) (k5 : 0 ≤ x5 ∧ x5 ≤ 79) (k7 : (-1) ≤ x7 ∧ x7 ≤ 78) (k8 : 0 ≤ x8 ∧ x8 ≤ 79) (k9 : 0 ≤ x9 ∧ x9 ≤ 79) (k13 : (-1) ≤ x13 ∧ x13 ≤ 79) (k14 : 1 ≤ x14 ∧ x14 ≤ 80) (d0 : x9 + 1 ≤ x14 ∧ x14 ≤ x9 + 1) (d2 : x8 + (-4294967296) ≤ x7 ∧ x7 ≤ x8 + (-1)) (d3 : x8 + 0 ≤ x13 ∧ x13 ≤ x8 + 0) (d5 : x7 + (-4294967296) ≤ x1 ∧ x1 ≤ x7 + 0) (d6 : x8 + (-4294967296) ≤ x2 ∧ x2 ≤ x8 + 0) (d7 : x1 + (-4294967296) ≤ x7 ∧ x7 ≤ x1 + 0) (d8 : x2 + (-4294967296) ≤ x8 ∧ x8 ≤ x2 + 0) (f0 : x14 = x9 + 1) (h9 : x13 = blockOf_1 (x9)) (f14 : JNL (pm_1) (pt_1) (ph_1) (alive_1) (blockOf_1) (x3) (x4) (x5) (x1) (x2) (x9)) (fe_0_32_1 : pm_0 = pm_1) (hE_0_17_1 : ∀ j : Int, 0 ≤ j → (j = x9 → blockOf_0 j = x1) ∧ (j ≠ x9 → blockOf_0 j = blockOf_1 j)) (hE_0_33_1 : ∀ j : Int, pt_0 j = pt_1 j) (hE_0_34_1 : ∀ j : Int, ph_0 j = ph_1 j) (hE_0_35_1 : ∀ j : Int, alive_0 j = alive_1 j) (kz_0_32 : 0 ≤ pm_0 ∧ pm_0 ≤ 80) : JNL (pm_0) (pt_0) (ph_0) (alive_0) (blockOf_0) (x3) (x4) (x5) (x1) (x2) (x14) := by
  subst fe_0_32_1
  have e_hE_0_33_1 := funext hE_0_33_1; subst e_hE_0_33_1
  have e_hE_0_34_1 := funext hE_0_34_1; subst e_hE_0_34_1
  have e_hE_0_35_1 := funext hE_0_35_1; subst e_hE_0_35_1
  first
    | (have h := jn_start ‹BB _ _ _ _ _ _ _ _› ‹JNP _ _ _ _ _ _ _ _ _ _›
       first | rw [show x6 = 0 by omega] | rw [show x7 = 0 by omega] | rw [show x8 = 0 by omega] | rw [show x9 = 0 by omega]
       exact h)
    | (have h := ‹JNL _ _ _ _ _ _ _ _ _ _ _›
       first | rw [show x13 = x9 + 1 by omega] | rw [show x14 = x9 + 1 by omega]
       refine jn_step h (by omega) (fun j a b => (hE_0_17_1 j a).2 b) (fun _ => ?_) (fun z => absurd ?_ z)
       · have := (hE_0_17_1 x9 (by omega)).1 rfl
         rw [this]; split <;> omega
       · first | exact Or.inl (by omega) | exact Or.inr (by omega))
    | (have h := ‹JNL _ _ _ _ _ _ _ _ _ _ _›
       rw [show x14 = x9 + 1 by omega]
       exact jn_step h (by omega) (fun _ _ _ => rfl) (fun z => absurd z (by omega)) (fun _ => rfl))
def o_Mo_join_7 : or_T := (8, 15, [(0, (2, 0, 0, [165])), (1, (0, -1, 79, [])), (2, (0, -1, 79, [])), (3, (0, 0, 24, [])), (4, (0, 0, 79, [])), (5, (0, 0, 79, [])), (6, (2, 0, 0, [165])), (7, (0, -1, 78, [])), (8, (0, 0, 79, [])), (9, (0, 0, 79, [])), (10, (0, 1, 80, [])), (11, (2, 0, 0, [172])), (12, (0, -1, 79, [])), (13, (0, -1, 79, [])), (14, (0, 1, 80, []))], [(6, [14, 9], [1]), (24, [0, 6], []), (24, [1, 7], []), (24, [2, 8], []), (100, [11, 9, 7], []), (7, [7, 7], [5]), (7, [7, 8], [5]), (9, [11, 6], [17]), (7, [13, 8], [0]), (10, [13, 11, 9], []), (7, [12, 7], [1]), (10, [12, 11, 9], []), (7, [9, 10], [2]), (9, [10, 6], [32]), (20, [6, 3, 4, 5, 7, 8, 9], [60, 1, 4, 92, 32, 33, 34, 35, 17])], [], [], [(20, [6, 3, 4, 5, 7, 8, 14], [60, 1, 4, 92, 32, 33, 34, 35, 17])], [], [(14, 9, 1, 1), (14, 10, -4294967296, 0), (7, 8, -4294967296, -1), (13, 8, 0, 0), (9, 10, -4294967296, -1), (1, 7, -4294967296, 0), (2, 8, -4294967296, 0), (7, 1, -4294967296, 0), (8, 2, -4294967296, 0)])
theorem oo_Mo_join_7 {kA : Nat → ClassId} : or_ok PRD kA GG o_Mo_join_7 := by
  refine or_mk fun A ta ws vs hD hth hl => ?_
  intro t0 r0 t1 k1 t2 k2 t3 k3 t4 k4 t5 k5 t6 r6 t7 k7 t8 k8 t9 k9 t10 k10 t11 r11 t12 k12 t13 k13 t14 k14 d0 d1 d2 d3 d4 d5 d6 d7 d8 f0 f1 f2 f3 ta1 w1 le1 s1 f5 f6 f7 f8 f9 f10 f11 f12 f13 f14
  replace f0 := shm_4 f0
  replace f1 := shm_5 f1
  replace f2 := shm_5 f2
  replace f3 := shm_5 f3
  have s1 : (∀ b j, w_el ws b j = if b = v_ad (n_v vs 11) ∧ j = (v_iv (n_v vs 9)).toNat then v_iv (n_v vs 7) else w_el w1 b j) ∧ ∀ b k, w_fd ws b k = w_fd w1 b k := s1.2
  replace f7 := shm_795 f7
  replace f9 := shm_107 f9
  replace f14 := shm_1005 f14
  have q6 : n_v vs 6 = n_v vs 0 := f1.symm
  have q7 : n_v vs 7 = n_v vs 1 := f2.symm
  have q8 : n_v vs 8 = n_v vs 2 := f3.symm
  rw [q7] at s1
  simp only [q7, q8, q6] at f7 f14
  have ar_0_17_1 : w_ar w1 (n_v vs 0) 17 = w_ar ws (n_v vs 0) 17 := congrArg v_ad (s1.2 _ _).symm
  have ar_0_33_1 : w_ar w1 (n_v vs 0) 33 = w_ar ws (n_v vs 0) 33 := congrArg v_ad (s1.2 _ _).symm
  have cr_0_33 := fdq_117 hD hth r0
  have ar_0_34_1 : w_ar w1 (n_v vs 0) 34 = w_ar ws (n_v vs 0) 34 := congrArg v_ad (s1.2 _ _).symm
  have cr_0_34 := fdq_118 hD hth r0
  have ar_0_35_1 : w_ar w1 (n_v vs 0) 35 = w_ar ws (n_v vs 0) 35 := congrArg v_ad (s1.2 _ _).symm
  have cr_0_35 := fdq_132 hD hth r0
  have ad_11 : v_ad (n_v vs 11) = w_ar ws (n_v vs 0) 17 := (congrArg v_ad f7).trans ar_0_17_1
  simp only [ad_11] at f9
  have h9 : v_iv (n_v vs 13) = w_ei w1 (w_ar ws (n_v vs 0) 17) (v_iv (n_v vs 9)) := f9
  simp only [ar_0_17_1, ar_0_33_1, ar_0_34_1, ar_0_35_1] at f14
  have fe_0_32_1 : w_fi ws (n_v vs 0) 32 = w_fi w1 (n_v vs 0) 32 := congrArg v_iv (s1.2 _ _)
  have hE_0_17_1 : ∀ j : Int, 0 ≤ j → (j = v_iv (n_v vs 9) → w_ei ws (w_ar ws (n_v vs 0) 17) j = v_iv (n_v vs 1)) ∧ (j ≠ v_iv (n_v vs 9) → w_ei ws (w_ar ws (n_v vs 0) 17) j = w_ei w1 (w_ar ws (n_v vs 0) 17) j) := fun j hj => ⟨fun h => by unfold w_ei; rw [s1.1, if_pos ⟨ad_11.symm, by rw [h]⟩], fun h => by unfold w_ei; rw [s1.1, if_neg (fun e => h (by have := e.2; omega))]⟩
  have hE_0_33_1 : ∀ j : Int, w_ei ws (w_ar ws (n_v vs 0) 33) j = w_ei w1 (w_ar ws (n_v vs 0) 33) j := el_kp s1.1 r11 cr_0_33 (by decide)
  have hE_0_34_1 : ∀ j : Int, w_ei ws (w_ar ws (n_v vs 0) 34) j = w_ei w1 (w_ar ws (n_v vs 0) 34) j := el_kp s1.1 r11 cr_0_34 (by decide)
  have hE_0_35_1 : ∀ j : Int, w_ei ws (w_ar ws (n_v vs 0) 35) j = w_ei w1 (w_ar ws (n_v vs 0) 35) j := el_kp s1.1 r11 cr_0_35 (by decide)
  have kz_0_32 := fdq_140 hD hth r0
  have nf0 : fc_1 PRD (20, [6, 3, 4, 5, 7, 8, 14], [60, 1, 4, 92, 32, 33, 34, 35, 17]) ws (vs) := by
    refine ⟨nf_in hl rfl, sgq_1005 ?_⟩
    · show JNL (w_fi ws (n_v vs 6) 32) (w_ei ws (w_ar ws (n_v vs 6) 33)) (w_ei ws (w_ar ws (n_v vs 6) 34)) (w_ei ws (w_ar ws (n_v vs 6) 35)) (w_ei ws (w_ar ws (n_v vs 6) 17)) (v_iv (n_v vs 3)) (v_iv (n_v vs 4)) (v_iv (n_v vs 5)) (v_iv (n_v vs 7)) (v_iv (n_v vs 8)) (v_iv (n_v vs 14))
      simp only [q6, q7, q8]
      exact vc_Mo_join_7_0 (v_iv (n_v vs 1)) (v_iv (n_v vs 2)) (v_iv (n_v vs 3)) (v_iv (n_v vs 4)) (v_iv (n_v vs 5)) (v_iv (n_v vs 7)) (v_iv (n_v vs 8)) (v_iv (n_v vs 9)) (v_iv (n_v vs 13)) (v_iv (n_v vs 14)) (w_ei w1 (w_ar ws (n_v vs 0) 17)) (w_fi w1 (n_v vs 0) 32) (w_ei w1 (w_ar ws (n_v vs 0) 33)) (w_ei w1 (w_ar ws (n_v vs 0) 34)) (w_ei w1 (w_ar ws (n_v vs 0) 35)) (w_fi ws (n_v vs 0) 32) (w_ei ws (w_ar ws (n_v vs 0) 17)) (w_ei ws (w_ar ws (n_v vs 0) 33)) (w_ei ws (w_ar ws (n_v vs 0) 34)) (w_ei ws (w_ar ws (n_v vs 0) 35)) k1 k2 k3 k4 k5 k7 k8 k9 k13 k14 d0 d2 d3 d5 d6 d7 d8 f0 h9 f14 fe_0_32_1 hE_0_17_1 hE_0_33_1 hE_0_34_1 hE_0_35_1 kz_0_32
  refine ⟨(fun _ h => (by cases h)), [], trivial, ?_, (fun _ h => (by cases h))⟩
  rw [List.append_nil]
  exact List.forall_mem_cons.mpr ⟨⟨show (20 : Nat) < 100 from by decide, nf0⟩, (fun _ h => (by cases h))⟩
def n_Mo_join_an : List an_T := [(8, [(0, (2, 0, 0, [165])), (1, (0, (Int.negSucc 0), 79, [])), (2, (0, (Int.negSucc 0), 79, [])), (3, (0, 0, 80, []))], [], (0, 0), [(0, 0, 99992), (1, 9, 80), (0, 0, 100000)], [(1, 7, (Int.negSucc 999999999999), 0), (2, 8, (Int.negSucc 999999999999), 0), (7, 1, (Int.negSucc 999999999999), 0), (8, 2, (Int.negSucc 999999999999), 0)], [], [(2, 0, 0, [165]), (0, (Int.negSucc 0), 79, []), (0, (Int.negSucc 0), 79, []), (0, 0, 24, []), (0, 0, 79, []), (0, 0, 79, [])], 0, [], [(20, [6, 3, 4, 5, 7, 8, 9], [60, 1, 4, 92, 32, 33, 34, 35, 17]), (24, [0, 6], []), (24, [1, 7], []), (24, [2, 8], [])])]
def t_Mo_join_ct : ct_L := [(0, 547, e_Mo_min)]
set_option maxRecDepth 100000 in
theorem c_Mo_join {l : Launch} {D : va_G} {kA : Nat → ClassId} (h_Mo_min : ct_ok PRD l D kA GG y_Mo_min z_Mo_min e_Mo_min) : ct_ok PRD l D kA GG y_Mo_join z_Mo_join e_Mo_join := chk_all_ok (FT := [(32, 13, 17), (597, 13, 32)]) (PT := []) (CT := t_Mo_join_ct) (KT := []) (NT := []) (AN := n_Mo_join_an) (OT := [o_Mo_join_0, o_Mo_join_1, o_Mo_join_2, o_Mo_join_3, o_Mo_join_4, o_Mo_join_5, o_Mo_join_6, o_Mo_join_7]) 3 200 (List.forall_mem_cons.mpr ⟨oo_Mo_join_0, List.forall_mem_cons.mpr ⟨oo_Mo_join_1, List.forall_mem_cons.mpr ⟨oo_Mo_join_2, List.forall_mem_cons.mpr ⟨oo_Mo_join_3, List.forall_mem_cons.mpr ⟨oo_Mo_join_4, List.forall_mem_cons.mpr ⟨oo_Mo_join_5, List.forall_mem_cons.mpr ⟨oo_Mo_join_6, List.forall_mem_cons.mpr ⟨oo_Mo_join_7, List.forall_mem_nil _⟩⟩⟩⟩⟩⟩⟩⟩) (by decide +kernel) ⟨List.forall_mem_cons.mpr ⟨gf_Mo_32, List.forall_mem_cons.mpr ⟨gf_Mo_597, List.forall_mem_nil _⟩⟩, List.forall_mem_nil _, List.forall_mem_cons.mpr ⟨cl_static (y := y_Mo_min) h_Mo_min wm_3174 wm_9 wm_3172 wm_3173 ⟨by decide, by decide, by decide +kernel⟩ (by decide), List.forall_mem_nil _⟩, List.forall_mem_nil _, List.forall_mem_nil _, GG_pl⟩ (by decide +kernel)

def o_Mo_newEdge_at_g0_0 : or_T := (4, 8, [(0, (2, 0, 0, [165])), (1, (0, 0, 23, [])), (2, (0, 0, 23, [])), (3, (0, 0, 1, [])), (4, (0, 0, 7, [])), (5, (0, 0, 4, [])), (6, (0, 0, 48, [])), (7, (0, 0, 48, []))], [(20, [7, 0], [30, 0, 1, 0, 0, -1, 3, 2005001]), (20, [7, 0], [30, 0, -1, 0, 0, 1, 3, 2005001]), (20, [0], [30, 47, 1, 3, 2005001]), (20, [0], [60, 1, 3, 199, 5, 2, 3, 4]), (20, [0, 1, 2], [60, 1, 1, 203, 5, 2]), (20, [4, 0], [50, 1, 1, 1005, 1002, 0, 6, 4, 2, 1, 0, 0, 1, 3, 1, 2, 4, 3, 2, 1, 5, 0, 2]), (20, [0, 2, 6, 1, 3, 4, 5], [60, 8, 2, 994, 10, 11, 12, 13, 14, 15, 8, 5, 1, 2])], [(7, (0, 0, 47, []))], [], [], [], [])
theorem oo_Mo_newEdge_at_g0_0 {kA : Nat → ClassId} : or_ok PRD kA GG o_Mo_newEdge_at_g0_0 := by
  refine or_mk fun A ta ws vs hD hth hl => ?_
  intro t0 r0 t1 k1 t2 k2 t3 k3 t4 k4 t5 k5 t6 k6 t7 k7 f0 f1 f2 f3 f4 f5 f6
  replace f0 := shm_121 f0
  replace f1 := shm_122 f1
  replace f2 := shm_1007 f2
  replace f3 := shm_980 f3
  replace f4 := shm_1008 f4
  replace f5 := shm_1009 f5
  replace f6 := shm_1010 f6
  have cr_0_1 := fdq_39 hD hth r0
  have cr_0_2 := fdq_10 hD hth r0
  have cr_0_3 := fdq_142 hD hth r0
  have cr_0_4 := fdq_143 hD hth r0
  have br_0_2_F5_1_0 : w_ei ws (w_ar ws (n_v vs 0) 2) (w_fi ws (n_v vs 0) 5 + 1) = w_el ws (w_ar ws (n_v vs 0) 2) (w_fi ws (n_v vs 0) 5 + 1).toNat := rfl
  have hK_0_1 := elq_7 hD hth cr_0_1
  have hK_0_3 := elq_80 hD hth cr_0_3
  have hK_0_4 := elq_81 hD hth cr_0_4
  have kz_0_8 := fdq_34 hD hth r0
  have kz_0_10 := fdq_43 hD hth r0
  have kz_0_11 := fdq_237 hD hth r0
  have kz_0_12 := fdq_187 hD hth r0
  have kz_0_13 := fdq_238 hD hth r0
  have kz_0_14 := fdq_188 hD hth r0
  have kz_0_15 := fdq_239 hD hth r0
  have rf7 : tv_ok ta (0, 0, 47, []) (n_v vs 7) := tv_in t7 (by first | omega | grind) (by first | omega | grind)
  refine ⟨List.forall_mem_cons.mpr ⟨rf7, (fun _ h => (by cases h))⟩, [], trivial, ?_, (fun _ h => (by cases h))⟩
  rw [List.append_nil]
  exact (fun _ h => (by cases h))
def o_Mo_newEdge_at_g0_1 : or_T := (18, 13, [(0, (2, 0, 0, [165])), (1, (0, 0, 23, [])), (2, (0, 0, 23, [])), (3, (0, 0, 1, [])), (4, (0, 0, 7, [])), (5, (0, 0, 4, [])), (6, (0, 0, 48, [])), (7, (0, 0, 47, [])), (8, (2, 0, 0, [167])), (9, (0, 0, 66297, [])), (10, (0, 1, 1, [])), (11, (0, 1, 66298, [])), (12, (0, 0, 48, []))], [(10, [12, 8, 11], []), (1, [11, 9, 10], []), (9, [9, 0], [5]), (9, [8, 0], [2]), (20, [7, 0], [30, 0, 1, 0, 0, -1, 3, 2005001]), (20, [7, 0], [30, 0, -1, 0, 0, 1, 3, 2005001]), (20, [0], [30, 47, 1, 3, 2005001]), (20, [0], [60, 1, 3, 199, 5, 2, 3, 4]), (20, [0, 1, 2], [60, 1, 1, 203, 5, 2]), (20, [4, 0], [50, 1, 1, 1005, 1002, 0, 6, 4, 2, 1, 0, 0, 1, 3, 1, 2, 4, 3, 2, 1, 5, 0, 2]), (20, [0, 2, 6, 1, 3, 4, 5], [60, 8, 2, 994, 10, 11, 12, 13, 14, 15, 8, 5, 1, 2])], [(12, (0, 0, 47, []))], [], [], [], [(11, 9, 1, 1)])
theorem oo_Mo_newEdge_at_g0_1 {kA : Nat → ClassId} : or_ok PRD kA GG o_Mo_newEdge_at_g0_1 := by
  refine or_mk fun A ta ws vs hD hth hl => ?_
  intro t0 r0 t1 k1 t2 k2 t3 k3 t4 k4 t5 k5 t6 k6 t7 k7 t8 r8 t9 k9 t10 k10 t11 k11 t12 k12 d0 f0 f1 f2 f3 f4 f5 f6 f7 f8 f9 f10
  replace f0 := shm_107 f0
  replace f1 := shm_12 f1
  replace f2 := shm_110 f2
  replace f3 := shm_120 f3
  replace f4 := shm_121 f4
  replace f5 := shm_122 f5
  replace f6 := shm_1007 f6
  replace f7 := shm_980 f7
  replace f8 := shm_1008 f8
  replace f9 := shm_1009 f9
  replace f10 := shm_1010 f10
  have cr_0_1 := fdq_39 hD hth r0
  have cr_0_2 := fdq_10 hD hth r0
  have cr_0_3 := fdq_142 hD hth r0
  have cr_0_4 := fdq_143 hD hth r0
  have ad_8 : v_ad (n_v vs 8) = w_ar ws (n_v vs 0) 2 := congrArg v_ad f3
  simp only [ad_8] at f0
  have h0 : v_iv (n_v vs 12) = w_ei ws (w_ar ws (n_v vs 0) 2) (v_iv (n_v vs 11)) := f0
  have g2 : v_iv (n_v vs 9) = w_fi ws (n_v vs 0) 5 := congrArg v_iv f2
  have cg0_F5_1 : v_iv (n_v vs 11) = w_fi ws (n_v vs 0) 5 + 1 → w_el ws (w_ar ws (n_v vs 0) 2) (v_iv (n_v vs 11)).toNat = w_el ws (w_ar ws (n_v vs 0) 2) (w_fi ws (n_v vs 0) 5 + 1).toNat := fun h => by rw [h]
  have br_0_2_F5_1_0 : w_ei ws (w_ar ws (n_v vs 0) 2) (w_fi ws (n_v vs 0) 5 + 1) = w_el ws (w_ar ws (n_v vs 0) 2) (w_fi ws (n_v vs 0) 5 + 1).toNat := rfl
  have br_0_2_11_0 : w_ei ws (w_ar ws (n_v vs 0) 2) (v_iv (n_v vs 11)) = w_el ws (w_ar ws (n_v vs 0) 2) (v_iv (n_v vs 11)).toNat := rfl
  have hK_0_1 := elq_7 hD hth cr_0_1
  have hK_0_3 := elq_80 hD hth cr_0_3
  have hK_0_4 := elq_81 hD hth cr_0_4
  have kz_0_8 := fdq_34 hD hth r0
  have kz_0_10 := fdq_43 hD hth r0
  have kz_0_11 := fdq_237 hD hth r0
  have kz_0_12 := fdq_187 hD hth r0
  have kz_0_13 := fdq_238 hD hth r0
  have kz_0_14 := fdq_188 hD hth r0
  have kz_0_15 := fdq_239 hD hth r0
  have rf12 : tv_ok ta (0, 0, 47, []) (n_v vs 12) := tv_in t12 (by first | omega | grind) (by first | omega | grind)
  refine ⟨List.forall_mem_cons.mpr ⟨rf12, (fun _ h => (by cases h))⟩, [], trivial, ?_, (fun _ h => (by cases h))⟩
  rw [List.append_nil]
  exact (fun _ h => (by cases h))
set_option maxHeartbeats 4000000 in
theorem vc_Mo_newEdge_at_g0_2_0 (x1 : Int) (x2 : Int) (x3 : Int) (x7 : Int) (x9 : Int) (x11 : Int) (x12 : Int) (x14 : Int) (x16 : Int) (x17 : Int) (x19 : Int) (x20 : Int) (x22 : Int) (x23 : Int) (x24 : Int) (x26 : Int) (x27 : Int) (r_1 : Int) (all_5 : Int → Int) (r_0 : Int) (now_5 : Int → Int) (latest_5 : Int → Int) (r_5 : Int) (tape_5 : Int → Int) (limit_5 : Int) (pos_5 : Int) (kind_5 : Int) (place_5 : Int) (value_5 : Int) (from_5 : Int) (fault_5 : Int) (fault_0 : Int) (fault_1 : Int) (limit_0 : Int) (limit_1 : Int) (pos_0 : Int) (pos_1 : Int) (kind_0 : Int) (kind_1 : Int) (place_0 : Int) (place_1 : Int) (value_0 : Int) (value_1 : Int) (from_0 : Int) (from_1 : Int) (r_2 : Int) (fault_2 : Int) (limit_2 : Int) (pos_2 : Int) (kind_2 : Int) (place_2 : Int) (value_2 : Int) (from_2 : Int) (r_3 : Int) (fault_3 : Int) (limit_3 : Int) (pos_3 : Int) (kind_3 : Int) (place_3 : Int) (value_3 : Int) (from_3 : Int) (r_4 : Int) (fault_4 : Int) (limit_4 : Int) (pos_4 : Int) (kind_4 : Int) (place_4 : Int) (value_4 : Int) (from_4 : Int) (tape_0 : Int → Int) (tape_1 : Int → Int) (tape_2 : Int → Int) (tape_3 : Int → Int) (tape_4 : Int → Int) (all_0 : Int → Int) (all_1 : Int → Int) (all_2 : Int → Int) (all_3 : Int → Int) (all_4 : Int → Int) (now_0 : Int → Int) (now_1 : Int → Int) (now_2 : Int → Int) (now_3 : Int → Int) (now_4 : Int → Int) (latest_0 : Int → Int) (latest_1 : Int → Int) (latest_2 : Int → Int) (latest_3 : Int → Int) (latest_4 : Int → Int) (k1 : 0 ≤ x1 ∧ x1 ≤ 23) (k2 : 0 ≤ x2 ∧ x2 ≤ 23) (k3 : 0 ≤ x3 ∧ x3 ≤ 1) (k7 : 0 ≤ x7 ∧ x7 ≤ 47) (k9 : 0 ≤ x9 ∧ x9 ≤ 66297) (k11 : 1 ≤ x11 ∧ x11 ≤ 66298) (k12 : 0 ≤ x12 ∧ x12 ≤ 47) (k14 : 1 ≤ x14 ∧ x14 ≤ 48) (k16 : 267 ≤ x16 ∧ x16 ≤ 66564) (k17 : 267 ≤ x17 ∧ x17 ≤ 66611) (k19 : 315 ≤ x19 ∧ x19 ≤ 66612) (k20 : 315 ≤ x20 ∧ x20 ≤ 66659) (k22 : 363 ≤ x22 ∧ x22 ≤ 66660) (k23 : 363 ≤ x23 ∧ x23 ≤ 66707) (k24 : 1 ≤ x24 ∧ x24 ≤ 1) (k26 : 411 ≤ x26 ∧ x26 ≤ 66708) (k27 : 411 ≤ x27 ∧ x27 ≤ 66755) (d3 : x9 + 411 ≤ x26 ∧ x26 ≤ x9 + 411) (d7 : x9 + 363 ≤ x22 ∧ x22 ≤ x9 + 363) (d11 : x9 + 315 ≤ x19 ∧ x19 ≤ x9 + 315) (d15 : x9 + 267 ≤ x16 ∧ x16 ≤ x9 + 267) (d16 : x12 + 1 ≤ x14 ∧ x14 ≤ x12 + 1) (d17 : x9 + 1 ≤ x11 ∧ x11 ≤ x9 + 1) (f1 : x27 = x26 + x7) (g3 : x9 = r_1) (f6 : x23 = x22 + x7) (f9 : x20 = x19 + x7) (f12 : x17 = x16 + x7) (h16 : x12 = all_5 (x11)) (f18 : 1 * x7 + ((-1) * all_5 (r_0 + 1) + 0) ≤ 0) (f19 : (-1) * x7 + (1 * all_5 (r_0 + 1) + 0) ≤ 0) (f21 : RWS (r_5) (all_5) (now_5) (latest_5)) (f22 : NWE (r_5) (all_5) (x1) (x2)) (fe_0_5_1 : r_0 = r_1) (fe_0_8_1 : fault_0 = fault_1) (fe_0_10_1 : limit_0 = limit_1) (fe_0_11_1 : pos_0 = pos_1) (fe_0_12_1 : kind_0 = kind_1) (fe_0_13_1 : place_0 = place_1) (fe_0_14_1 : value_0 = value_1) (fe_0_15_1 : from_0 = from_1) (fe_0_5_2 : r_1 = r_2) (fe_0_8_2 : fault_1 = fault_2) (fe_0_10_2 : limit_1 = limit_2) (fe_0_11_2 : pos_1 = pos_2) (fe_0_12_2 : kind_1 = kind_2) (fe_0_13_2 : place_1 = place_2) (fe_0_14_2 : value_1 = value_2) (fe_0_15_2 : from_1 = from_2) (fe_0_5_3 : r_2 = r_3) (fe_0_8_3 : fault_2 = fault_3) (fe_0_10_3 : limit_2 = limit_3) (fe_0_11_3 : pos_2 = pos_3) (fe_0_12_3 : kind_2 = kind_3) (fe_0_13_3 : place_2 = place_3) (fe_0_14_3 : value_2 = value_3) (fe_0_15_3 : from_2 = from_3) (fe_0_5_4 : r_3 = r_4) (fe_0_8_4 : fault_3 = fault_4) (fe_0_10_4 : limit_3 = limit_4) (fe_0_11_4 : pos_3 = pos_4) (fe_0_12_4 : kind_3 = kind_4) (fe_0_13_4 : place_3 = place_4) (fe_0_14_4 : value_3 = value_4) (fe_0_15_4 : from_3 = from_4) (fe_0_5_5 : r_4 = r_5) (fe_0_8_5 : fault_4 = fault_5) (fe_0_10_5 : limit_4 = limit_5) (fe_0_11_5 : pos_4 = pos_5) (fe_0_12_5 : kind_4 = kind_5) (fe_0_13_5 : place_4 = place_5) (fe_0_14_5 : value_4 = value_5) (fe_0_15_5 : from_4 = from_5) (hE_0_1_1 : ∀ j : Int, tape_0 j = tape_1 j) (hE_0_1_2 : ∀ j : Int, tape_1 j = tape_2 j) (hE_0_1_3 : ∀ j : Int, tape_2 j = tape_3 j) (hE_0_1_4 : ∀ j : Int, tape_3 j = tape_4 j) (hE_0_1_5 : ∀ j : Int, tape_4 j = tape_5 j) (hE_0_2_1 : ∀ j : Int, 0 ≤ j → (j = x27 → all_0 j = x3) ∧ (j ≠ x27 → all_0 j = all_1 j)) (hE_0_2_2 : ∀ j : Int, 0 ≤ j → (j = x23 → all_1 j = x24) ∧ (j ≠ x23 → all_1 j = all_2 j)) (hE_0_2_3 : ∀ j : Int, 0 ≤ j → (j = x20 → all_2 j = x2) ∧ (j ≠ x20 → all_2 j = all_3 j)) (hE_0_2_4 : ∀ j : Int, 0 ≤ j → (j = x17 → all_3 j = x1) ∧ (j ≠ x17 → all_3 j = all_4 j)) (hE_0_2_5 : ∀ j : Int, 0 ≤ j → (j = x11 → all_4 j = x14) ∧ (j ≠ x11 → all_4 j = all_5 j)) (hE_0_3_1 : ∀ j : Int, now_0 j = now_1 j) (hE_0_3_2 : ∀ j : Int, now_1 j = now_2 j) (hE_0_3_3 : ∀ j : Int, now_2 j = now_3 j) (hE_0_3_4 : ∀ j : Int, now_3 j = now_4 j) (hE_0_3_5 : ∀ j : Int, now_4 j = now_5 j) (hE_0_4_1 : ∀ j : Int, latest_0 j = latest_1 j) (hE_0_4_2 : ∀ j : Int, latest_1 j = latest_2 j) (hE_0_4_3 : ∀ j : Int, latest_2 j = latest_3 j) (hE_0_4_4 : ∀ j : Int, latest_3 j = latest_4 j) (hE_0_4_5 : ∀ j : Int, latest_4 j = latest_5 j) (kz_0_8 : 0 ≤ fault_0 ∧ fault_0 ≤ 5) (kz_0_10 : 0 ≤ limit_0 ∧ limit_0 ≤ 2000) (kz_0_11 : 0 ≤ pos_0 ∧ pos_0 ≤ 2000) (kz_0_12 : 0 ≤ kind_0 ∧ kind_0 ≤ 4) (kz_0_13 : 0 ≤ place_0 ∧ place_0 ≤ 2000) (kz_0_14 : (-49) ≤ value_0 ∧ value_0 ≤ 1048575) (kz_0_15 : 0 ≤ from_0 ∧ from_0 ≤ 2000) : RWS (r_0) (all_0) (now_0) (latest_0) := by
  subst fe_0_5_1
  subst fe_0_8_1
  subst fe_0_10_1
  subst fe_0_11_1
  subst fe_0_12_1
  subst fe_0_13_1
  subst fe_0_14_1
  subst fe_0_15_1
  subst fe_0_5_2
  subst fe_0_8_2
  subst fe_0_10_2
  subst fe_0_11_2
  subst fe_0_12_2
  subst fe_0_13_2
  subst fe_0_14_2
  subst fe_0_15_2
  subst fe_0_5_3
  subst fe_0_8_3
  subst fe_0_10_3
  subst fe_0_11_3
  subst fe_0_12_3
  subst fe_0_13_3
  subst fe_0_14_3
  subst fe_0_15_3
  subst fe_0_5_4
  subst fe_0_8_4
  subst fe_0_10_4
  subst fe_0_11_4
  subst fe_0_12_4
  subst fe_0_13_4
  subst fe_0_14_4
  subst fe_0_15_4
  subst fe_0_5_5
  subst fe_0_8_5
  subst fe_0_10_5
  subst fe_0_11_5
  subst fe_0_12_5
  subst fe_0_13_5
  subst fe_0_14_5
  subst fe_0_15_5
  have e_hE_0_1_1 := funext hE_0_1_1; subst e_hE_0_1_1
  have e_hE_0_1_2 := funext hE_0_1_2; subst e_hE_0_1_2
  have e_hE_0_1_3 := funext hE_0_1_3; subst e_hE_0_1_3
  have e_hE_0_1_4 := funext hE_0_1_4; subst e_hE_0_1_4
  have e_hE_0_1_5 := funext hE_0_1_5; subst e_hE_0_1_5
  have e_hE_0_3_1 := funext hE_0_3_1; subst e_hE_0_3_1
  have e_hE_0_3_2 := funext hE_0_3_2; subst e_hE_0_3_2
  have e_hE_0_3_3 := funext hE_0_3_3; subst e_hE_0_3_3
  have e_hE_0_3_4 := funext hE_0_3_4; subst e_hE_0_3_4
  have e_hE_0_3_5 := funext hE_0_3_5; subst e_hE_0_3_5
  have e_hE_0_4_1 := funext hE_0_4_1; subst e_hE_0_4_1
  have e_hE_0_4_2 := funext hE_0_4_2; subst e_hE_0_4_2
  have e_hE_0_4_3 := funext hE_0_4_3; subst e_hE_0_4_3
  have e_hE_0_4_4 := funext hE_0_4_4; subst e_hE_0_4_4
  have e_hE_0_4_5 := funext hE_0_4_5; subst e_hE_0_4_5
  try simp only [Int.add_zero] at *
  exact (rws_newEdge ‹RWS _ _ _ _› ‹NWE _ _ _ _› (by assumption) (by assumption) (by assumption) (by assumption) (by assumption) (by omega) (by omega) (by omega) (by omega) (by omega) (by omega) (by omega) (by omega)).1
set_option maxHeartbeats 4000000 in
theorem vc_Mo_newEdge_at_g0_2_1 (x1 : Int) (x2 : Int) (x3 : Int) (x7 : Int) (x9 : Int) (x11 : Int) (x12 : Int) (x14 : Int) (x16 : Int) (x17 : Int) (x19 : Int) (x20 : Int) (x22 : Int) (x23 : Int) (x24 : Int) (x26 : Int) (x27 : Int) (r_1 : Int) (all_5 : Int → Int) (r_0 : Int) (now_5 : Int → Int) (latest_5 : Int → Int) (r_5 : Int) (tape_5 : Int → Int) (limit_5 : Int) (pos_5 : Int) (kind_5 : Int) (place_5 : Int) (value_5 : Int) (from_5 : Int) (fault_5 : Int) (fault_0 : Int) (fault_1 : Int) (limit_0 : Int) (limit_1 : Int) (pos_0 : Int) (pos_1 : Int) (kind_0 : Int) (kind_1 : Int) (place_0 : Int) (place_1 : Int) (value_0 : Int) (value_1 : Int) (from_0 : Int) (from_1 : Int) (r_2 : Int) (fault_2 : Int) (limit_2 : Int) (pos_2 : Int) (kind_2 : Int) (place_2 : Int) (value_2 : Int) (from_2 : Int) (r_3 : Int) (fault_3 : Int) (limit_3 : Int) (pos_3 : Int) (kind_3 : Int) (place_3 : Int) (value_3 : Int) (from_3 : Int) (r_4 : Int) (fault_4 : Int) (limit_4 : Int) (pos_4 : Int) (kind_4 : Int) (place_4 : Int) (value_4 : Int) (from_4 : Int) (tape_0 : Int → Int) (tape_1 : Int → Int) (tape_2 : Int → Int) (tape_3 : Int → Int) (tape_4 : Int → Int) (all_0 : Int → Int) (all_1 : Int → Int) (all_2 : Int → Int) (all_3 : Int → Int) (all_4 : Int → Int) (now_0 : Int → Int) (now_1 : Int → Int) (now_2 : Int → Int) (now_3 : Int → Int) (now_4 : Int → Int) (latest_0 : Int → Int) (latest_1 : Int → Int) (latest_2 : Int → Int) (latest_3 : Int → Int) (latest_4 : Int → Int) (k1 : 0 ≤ x1 ∧ x1 ≤ 23) (k2 : 0 ≤ x2 ∧ x2 ≤ 23) (k3 : 0 ≤ x3 ∧ x3 ≤ 1) (k7 : 0 ≤ x7 ∧ x7 ≤ 47) (k9 : 0 ≤ x9 ∧ x9 ≤ 66297) (k11 : 1 ≤ x11 ∧ x11 ≤ 66298) (k12 : 0 ≤ x12 ∧ x12 ≤ 47) (k14 : 1 ≤ x14 ∧ x14 ≤ 48) (k16 : 267 ≤ x16 ∧ x16 ≤ 66564) (k17 : 267 ≤ x17 ∧ x17 ≤ 66611) (k19 : 315 ≤ x19 ∧ x19 ≤ 66612) (k20 : 315 ≤ x20 ∧ x20 ≤ 66659) (k22 : 363 ≤ x22 ∧ x22 ≤ 66660) (k23 : 363 ≤ x23 ∧ x23 ≤ 66707) (k24 : 1 ≤ x24 ∧ x24 ≤ 1) (k26 : 411 ≤ x26 ∧ x26 ≤ 66708) (k27 : 411 ≤ x27 ∧ x27 ≤ 66755) (d3 : x9 + 411 ≤ x26 ∧ x26 ≤ x9 + 411) (d7 : x9 + 363 ≤ x22 ∧ x22 ≤ x9 + 363) (d11 : x9 + 315 ≤ x19 ∧ x19 ≤ x9 + 315) (d15 : x9 + 267 ≤ x16 ∧ x16 ≤ x9 + 267) (d16 : x12 + 1 ≤ x14 ∧ x14 ≤ x12 + 1) (d17 : x9 + 1 ≤ x11 ∧ x11 ≤ x9 + 1) (f1 : x27 = x26 + x7) (g3 : x9 = r_1) (f6 : x23 = x22 + x7) (f9 : x20 = x19 + x7) (f12 : x17 = x16 + x7) (h16 : x12 = all_5 (x11)) (f18 : 1 * x7 + ((-1) * all_5 (r_0 + 1) + 0) ≤ 0) (f19 : (-1) * x7 + (1 * all_5 (r_0 + 1) + 0) ≤ 0) (f21 : RWS (r_5) (all_5) (now_5) (latest_5)) (f22 : NWE (r_5) (all_5) (x1) (x2)) (fe_0_5_1 : r_0 = r_1) (fe_0_8_1 : fault_0 = fault_1) (fe_0_10_1 : limit_0 = limit_1) (fe_0_11_1 : pos_0 = pos_1) (fe_0_12_1 : kind_0 = kind_1) (fe_0_13_1 : place_0 = place_1) (fe_0_14_1 : value_0 = value_1) (fe_0_15_1 : from_0 = from_1) (fe_0_5_2 : r_1 = r_2) (fe_0_8_2 : fault_1 = fault_2) (fe_0_10_2 : limit_1 = limit_2) (fe_0_11_2 : pos_1 = pos_2) (fe_0_12_2 : kind_1 = kind_2) (fe_0_13_2 : place_1 = place_2) (fe_0_14_2 : value_1 = value_2) (fe_0_15_2 : from_1 = from_2) (fe_0_5_3 : r_2 = r_3) (fe_0_8_3 : fault_2 = fault_3) (fe_0_10_3 : limit_2 = limit_3) (fe_0_11_3 : pos_2 = pos_3) (fe_0_12_3 : kind_2 = kind_3) (fe_0_13_3 : place_2 = place_3) (fe_0_14_3 : value_2 = value_3) (fe_0_15_3 : from_2 = from_3) (fe_0_5_4 : r_3 = r_4) (fe_0_8_4 : fault_3 = fault_4) (fe_0_10_4 : limit_3 = limit_4) (fe_0_11_4 : pos_3 = pos_4) (fe_0_12_4 : kind_3 = kind_4) (fe_0_13_4 : place_3 = place_4) (fe_0_14_4 : value_3 = value_4) (fe_0_15_4 : from_3 = from_4) (fe_0_5_5 : r_4 = r_5) (fe_0_8_5 : fault_4 = fault_5) (fe_0_10_5 : limit_4 = limit_5) (fe_0_11_5 : pos_4 = pos_5) (fe_0_12_5 : kind_4 = kind_5) (fe_0_13_5 : place_4 = place_5) (fe_0_14_5 : value_4 = value_5) (fe_0_15_5 : from_4 = from_5) (hE_0_1_1 : ∀ j : Int, tape_0 j = tape_1 j) (hE_0_1_2 : ∀ j : Int, tape_1 j = tape_2 j) (hE_0_1_3 : ∀ j : Int, tape_2 j = tape_3 j) (hE_0_1_4 : ∀ j : Int, tape_3 j = tape_4 j) (hE_0_1_5 : ∀ j : Int, tape_4 j = tape_5 j) (hE_0_2_1 : ∀ j : Int, 0 ≤ j → (j = x27 → all_0 j = x3) ∧ (j ≠ x27 → all_0 j = all_1 j)) (hE_0_2_2 : ∀ j : Int, 0 ≤ j → (j = x23 → all_1 j = x24) ∧ (j ≠ x23 → all_1 j = all_2 j)) (hE_0_2_3 : ∀ j : Int, 0 ≤ j → (j = x20 → all_2 j = x2) ∧ (j ≠ x20 → all_2 j = all_3 j)) (hE_0_2_4 : ∀ j : Int, 0 ≤ j → (j = x17 → all_3 j = x1) ∧ (j ≠ x17 → all_3 j = all_4 j)) (hE_0_2_5 : ∀ j : Int, 0 ≤ j → (j = x11 → all_4 j = x14) ∧ (j ≠ x11 → all_4 j = all_5 j)) (hE_0_3_1 : ∀ j : Int, now_0 j = now_1 j) (hE_0_3_2 : ∀ j : Int, now_1 j = now_2 j) (hE_0_3_3 : ∀ j : Int, now_2 j = now_3 j) (hE_0_3_4 : ∀ j : Int, now_3 j = now_4 j) (hE_0_3_5 : ∀ j : Int, now_4 j = now_5 j) (hE_0_4_1 : ∀ j : Int, latest_0 j = latest_1 j) (hE_0_4_2 : ∀ j : Int, latest_1 j = latest_2 j) (hE_0_4_3 : ∀ j : Int, latest_2 j = latest_3 j) (hE_0_4_4 : ∀ j : Int, latest_3 j = latest_4 j) (hE_0_4_5 : ∀ j : Int, latest_4 j = latest_5 j) (kz_0_8 : 0 ≤ fault_0 ∧ fault_0 ≤ 5) (kz_0_10 : 0 ≤ limit_0 ∧ limit_0 ≤ 2000) (kz_0_11 : 0 ≤ pos_0 ∧ pos_0 ≤ 2000) (kz_0_12 : 0 ≤ kind_0 ∧ kind_0 ≤ 4) (kz_0_13 : 0 ≤ place_0 ∧ place_0 ≤ 2000) (kz_0_14 : (-49) ≤ value_0 ∧ value_0 ≤ 1048575) (kz_0_15 : 0 ≤ from_0 ∧ from_0 ≤ 2000) : NDA (r_0) (all_0) (x2) := by
  subst fe_0_5_1
  subst fe_0_8_1
  subst fe_0_10_1
  subst fe_0_11_1
  subst fe_0_12_1
  subst fe_0_13_1
  subst fe_0_14_1
  subst fe_0_15_1
  subst fe_0_5_2
  subst fe_0_8_2
  subst fe_0_10_2
  subst fe_0_11_2
  subst fe_0_12_2
  subst fe_0_13_2
  subst fe_0_14_2
  subst fe_0_15_2
  subst fe_0_5_3
  subst fe_0_8_3
  subst fe_0_10_3
  subst fe_0_11_3
  subst fe_0_12_3
  subst fe_0_13_3
  subst fe_0_14_3
  subst fe_0_15_3
  subst fe_0_5_4
  subst fe_0_8_4
  subst fe_0_10_4
  subst fe_0_11_4
  subst fe_0_12_4
  subst fe_0_13_4
  subst fe_0_14_4
  subst fe_0_15_4
  subst fe_0_5_5
  subst fe_0_8_5
  subst fe_0_10_5
  subst fe_0_11_5
  subst fe_0_12_5
  subst fe_0_13_5
  subst fe_0_14_5
  subst fe_0_15_5
  have e_hE_0_1_1 := funext hE_0_1_1; subst e_hE_0_1_1
  have e_hE_0_1_2 := funext hE_0_1_2; subst e_hE_0_1_2
  have e_hE_0_1_3 := funext hE_0_1_3; subst e_hE_0_1_3
  have e_hE_0_1_4 := funext hE_0_1_4; subst e_hE_0_1_4
  have e_hE_0_1_5 := funext hE_0_1_5; subst e_hE_0_1_5
  have e_hE_0_3_1 := funext hE_0_3_1; subst e_hE_0_3_1
  have e_hE_0_3_2 := funext hE_0_3_2; subst e_hE_0_3_2
  have e_hE_0_3_3 := funext hE_0_3_3; subst e_hE_0_3_3
  have e_hE_0_3_4 := funext hE_0_3_4; subst e_hE_0_3_4
  have e_hE_0_3_5 := funext hE_0_3_5; subst e_hE_0_3_5
  have e_hE_0_4_1 := funext hE_0_4_1; subst e_hE_0_4_1
  have e_hE_0_4_2 := funext hE_0_4_2; subst e_hE_0_4_2
  have e_hE_0_4_3 := funext hE_0_4_3; subst e_hE_0_4_3
  have e_hE_0_4_4 := funext hE_0_4_4; subst e_hE_0_4_4
  have e_hE_0_4_5 := funext hE_0_4_5; subst e_hE_0_4_5
  try simp only [Int.add_zero] at *
  have hn := ‹NWE _ _ _ _›
  refine nda_eq ⟨hn.2.2.1, hn.2.2.2.1⟩ (rws_newEdge ‹RWS _ _ _ _› hn (by assumption) (by assumption) (by assumption) (by assumption) (by assumption) (by omega) (by omega) (by omega) (by omega) (by omega) (by omega) (by omega) (by omega)).2
set_option maxHeartbeats 4000000 in
theorem vc_Mo_newEdge_at_g0_2_2 (x1 : Int) (x2 : Int) (x3 : Int) (x4 : Int) (x7 : Int) (x9 : Int) (x11 : Int) (x14 : Int) (x16 : Int) (x17 : Int) (x19 : Int) (x20 : Int) (x22 : Int) (x23 : Int) (x24 : Int) (x26 : Int) (x27 : Int) (r_1 : Int) (all_5 : Int → Int) (r_0 : Int) (now_5 : Int → Int) (latest_5 : Int → Int) (r_5 : Int) (tape_5 : Int → Int) (limit_5 : Int) (pos_5 : Int) (kind_5 : Int) (place_5 : Int) (value_5 : Int) (from_5 : Int) (fault_5 : Int) (fault_0 : Int) (fault_1 : Int) (limit_0 : Int) (limit_1 : Int) (pos_0 : Int) (pos_1 : Int) (kind_0 : Int) (kind_1 : Int) (place_0 : Int) (place_1 : Int) (value_0 : Int) (value_1 : Int) (from_0 : Int) (from_1 : Int) (r_2 : Int) (fault_2 : Int) (limit_2 : Int) (pos_2 : Int) (kind_2 : Int) (place_2 : Int) (value_2 : Int) (from_2 : Int) (r_3 : Int) (fault_3 : Int) (limit_3 : Int) (pos_3 : Int) (kind_3 : Int) (place_3 : Int) (value_3 : Int) (from_3 : Int) (r_4 : Int) (fault_4 : Int) (limit_4 : Int) (pos_4 : Int) (kind_4 : Int) (place_4 : Int) (value_4 : Int) (from_4 : Int) (tape_0 : Int → Int) (tape_1 : Int → Int) (tape_2 : Int → Int) (tape_3 : Int → Int) (tape_4 : Int → Int) (all_0 : Int → Int) (all_1 : Int → Int) (all_2 : Int → Int) (all_3 : Int → Int) (all_4 : Int → Int) (now_0 : Int → Int) (now_1 : Int → Int) (now_2 : Int → Int) (now_3 : Int → Int) (now_4 : Int → Int) (latest_0 : Int → Int) (latest_1 : Int → Int) (latest_2 : Int → Int) (latest_3 : Int → Int) (latest_4 : Int → Int) (k1 : 0 ≤ x1 ∧ x1 ≤ 23) (k2 : 0 ≤ x2 ∧ x2 ≤ 23) (k3 : 0 ≤ x3 ∧ x3 ≤ 1) (k4 : 0 ≤ x4 ∧ x4 ≤ 7) (k7 : 0 ≤ x7 ∧ x7 ≤ 47) (k9 : 0 ≤ x9 ∧ x9 ≤ 66297) (k11 : 1 ≤ x11 ∧ x11 ≤ 66298) (k14 : 1 ≤ x14 ∧ x14 ≤ 48) (k16 : 267 ≤ x16 ∧ x16 ≤ 66564) (k17 : 267 ≤ x17 ∧ x17 ≤ 66611) (k19 : 315 ≤ x19 ∧ x19 ≤ 66612) (k20 : 315 ≤ x20 ∧ x20 ≤ 66659) (k22 : 363 ≤ x22 ∧ x22 ≤ 66660) (k23 : 363 ≤ x23 ∧ x23 ≤ 66707) (k24 : 1 ≤ x24 ∧ x24 ≤ 1) (k26 : 411 ≤ x26 ∧ x26 ≤ 66708) (k27 : 411 ≤ x27 ∧ x27 ≤ 66755) (d3 : x9 + 411 ≤ x26 ∧ x26 ≤ x9 + 411) (d7 : x9 + 363 ≤ x22 ∧ x22 ≤ x9 + 363) (d11 : x9 + 315 ≤ x19 ∧ x19 ≤ x9 + 315) (d14 : x9 + 267 ≤ x17 ∧ x17 ≤ x9 + 314) (d15 : x9 + 267 ≤ x16 ∧ x16 ≤ x9 + 267) (d17 : x9 + 1 ≤ x11 ∧ x11 ≤ x9 + 1) (f1 : x27 = x26 + x7) (g3 : x9 = r_1) (f6 : x23 = x22 + x7) (f9 : x20 = x19 + x7) (f12 : x17 = x16 + x7) (f18 : 1 * x7 + ((-1) * all_5 (r_0 + 1) + 0) ≤ 0) (f19 : (-1) * x7 + (1 * all_5 (r_0 + 1) + 0) ≤ 0) (f23 : (x4 + 1) ≤ all_5 ((r_5 + 2))) (fe_0_5_1 : r_0 = r_1) (fe_0_8_1 : fault_0 = fault_1) (fe_0_10_1 : limit_0 = limit_1) (fe_0_11_1 : pos_0 = pos_1) (fe_0_12_1 : kind_0 = kind_1) (fe_0_13_1 : place_0 = place_1) (fe_0_14_1 : value_0 = value_1) (fe_0_15_1 : from_0 = from_1) (fe_0_5_2 : r_1 = r_2) (fe_0_8_2 : fault_1 = fault_2) (fe_0_10_2 : limit_1 = limit_2) (fe_0_11_2 : pos_1 = pos_2) (fe_0_12_2 : kind_1 = kind_2) (fe_0_13_2 : place_1 = place_2) (fe_0_14_2 : value_1 = value_2) (fe_0_15_2 : from_1 = from_2) (fe_0_5_3 : r_2 = r_3) (fe_0_8_3 : fault_2 = fault_3) (fe_0_10_3 : limit_2 = limit_3) (fe_0_11_3 : pos_2 = pos_3) (fe_0_12_3 : kind_2 = kind_3) (fe_0_13_3 : place_2 = place_3) (fe_0_14_3 : value_2 = value_3) (fe_0_15_3 : from_2 = from_3) (fe_0_5_4 : r_3 = r_4) (fe_0_8_4 : fault_3 = fault_4) (fe_0_10_4 : limit_3 = limit_4) (fe_0_11_4 : pos_3 = pos_4) (fe_0_12_4 : kind_3 = kind_4) (fe_0_13_4 : place_3 = place_4) (fe_0_14_4 : value_3 = value_4) (fe_0_15_4 : from_3 = from_4) (fe_0_5_5 : r_4 = r_5) (fe_0_8_5 : fault_4 = fault_5) (fe_0_10_5 : limit_4 = limit_5) (fe_0_11_5 : pos_4 = pos_5) (fe_0_12_5 : kind_4 = kind_5) (fe_0_13_5 : place_4 = place_5) (fe_0_14_5 : value_4 = value_5) (fe_0_15_5 : from_4 = from_5) (hE_0_1_1 : ∀ j : Int, tape_0 j = tape_1 j) (hE_0_1_2 : ∀ j : Int, tape_1 j = tape_2 j) (hE_0_1_3 : ∀ j : Int, tape_2 j = tape_3 j) (hE_0_1_4 : ∀ j : Int, tape_3 j = tape_4 j) (hE_0_1_5 : ∀ j : Int, tape_4 j = tape_5 j) (hE_0_2_1 : ∀ j : Int, 0 ≤ j → (j = x27 → all_0 j = x3) ∧ (j ≠ x27 → all_0 j = all_1 j)) (hE_0_2_2 : ∀ j : Int, 0 ≤ j → (j = x23 → all_1 j = x24) ∧ (j ≠ x23 → all_1 j = all_2 j)) (hE_0_2_3 : ∀ j : Int, 0 ≤ j → (j = x20 → all_2 j = x2) ∧ (j ≠ x20 → all_2 j = all_3 j)) (hE_0_2_4 : ∀ j : Int, 0 ≤ j → (j = x17 → all_3 j = x1) ∧ (j ≠ x17 → all_3 j = all_4 j)) (hE_0_2_5 : ∀ j : Int, 0 ≤ j → (j = x11 → all_4 j = x14) ∧ (j ≠ x11 → all_4 j = all_5 j)) (hE_0_3_1 : ∀ j : Int, now_0 j = now_1 j) (hE_0_3_2 : ∀ j : Int, now_1 j = now_2 j) (hE_0_3_3 : ∀ j : Int, now_2 j = now_3 j) (hE_0_3_4 : ∀ j : Int, now_3 j = now_4 j) (hE_0_3_5 : ∀ j : Int, now_4 j = now_5 j) (hE_0_4_1 : ∀ j : Int, latest_0 j = latest_1 j) (hE_0_4_2 : ∀ j : Int, latest_1 j = latest_2 j) (hE_0_4_3 : ∀ j : Int, latest_2 j = latest_3 j) (hE_0_4_4 : ∀ j : Int, latest_3 j = latest_4 j) (hE_0_4_5 : ∀ j : Int, latest_4 j = latest_5 j) (kz_0_8 : 0 ≤ fault_0 ∧ fault_0 ≤ 5) (kz_0_10 : 0 ≤ limit_0 ∧ limit_0 ≤ 2000) (kz_0_11 : 0 ≤ pos_0 ∧ pos_0 ≤ 2000) (kz_0_12 : 0 ≤ kind_0 ∧ kind_0 ≤ 4) (kz_0_13 : 0 ≤ place_0 ∧ place_0 ≤ 2000) (kz_0_14 : (-49) ≤ value_0 ∧ value_0 ≤ 1048575) (kz_0_15 : 0 ≤ from_0 ∧ from_0 ≤ 2000) : (x4 + 1) ≤ all_0 ((r_0 + 2)) := by
  subst fe_0_5_1
  subst fe_0_8_1
  subst fe_0_10_1
  subst fe_0_11_1
  subst fe_0_12_1
  subst fe_0_13_1
  subst fe_0_14_1
  subst fe_0_15_1
  subst fe_0_5_2
  subst fe_0_8_2
  subst fe_0_10_2
  subst fe_0_11_2
  subst fe_0_12_2
  subst fe_0_13_2
  subst fe_0_14_2
  subst fe_0_15_2
  subst fe_0_5_3
  subst fe_0_8_3
  subst fe_0_10_3
  subst fe_0_11_3
  subst fe_0_12_3
  subst fe_0_13_3
  subst fe_0_14_3
  subst fe_0_15_3
  subst fe_0_5_4
  subst fe_0_8_4
  subst fe_0_10_4
  subst fe_0_11_4
  subst fe_0_12_4
  subst fe_0_13_4
  subst fe_0_14_4
  subst fe_0_15_4
  subst fe_0_5_5
  subst fe_0_8_5
  subst fe_0_10_5
  subst fe_0_11_5
  subst fe_0_12_5
  subst fe_0_13_5
  subst fe_0_14_5
  subst fe_0_15_5
  have e_hE_0_1_1 := funext hE_0_1_1; subst e_hE_0_1_1
  have e_hE_0_1_2 := funext hE_0_1_2; subst e_hE_0_1_2
  have e_hE_0_1_3 := funext hE_0_1_3; subst e_hE_0_1_3
  have e_hE_0_1_4 := funext hE_0_1_4; subst e_hE_0_1_4
  have e_hE_0_1_5 := funext hE_0_1_5; subst e_hE_0_1_5
  have e_hE_0_3_1 := funext hE_0_3_1; subst e_hE_0_3_1
  have e_hE_0_3_2 := funext hE_0_3_2; subst e_hE_0_3_2
  have e_hE_0_3_3 := funext hE_0_3_3; subst e_hE_0_3_3
  have e_hE_0_3_4 := funext hE_0_3_4; subst e_hE_0_3_4
  have e_hE_0_3_5 := funext hE_0_3_5; subst e_hE_0_3_5
  have e_hE_0_4_1 := funext hE_0_4_1; subst e_hE_0_4_1
  have e_hE_0_4_2 := funext hE_0_4_2; subst e_hE_0_4_2
  have e_hE_0_4_3 := funext hE_0_4_3; subst e_hE_0_4_3
  have e_hE_0_4_4 := funext hE_0_4_4; subst e_hE_0_4_4
  have e_hE_0_4_5 := funext hE_0_4_5; subst e_hE_0_4_5
  first
    | omega
    | (have q1 := (hE_0_2_1 (r_0 + 2) (by omega)).2 (by omega)
       have q2 := (hE_0_2_2 (r_0 + 2) (by omega)).2 (by omega)
       have q3 := (hE_0_2_3 (r_0 + 2) (by omega)).2 (by omega)
       have q4 := (hE_0_2_4 (r_0 + 2) (by omega)).2 (by omega)
       have q5 := (hE_0_2_5 (r_0 + 2) (by omega)).2 (by omega)
       omega)
set_option maxHeartbeats 4000000 in
theorem vc_Mo_newEdge_at_g0_2_3 (x1 : Int) (x2 : Int) (x3 : Int) (x4 : Int) (x5 : Int) (x6 : Int) (x7 : Int) (x9 : Int) (x11 : Int) (x12 : Int) (x14 : Int) (x16 : Int) (x17 : Int) (x19 : Int) (x20 : Int) (x22 : Int) (x23 : Int) (x24 : Int) (x26 : Int) (x27 : Int) (r_1 : Int) (all_5 : Int → Int) (r_0 : Int) (now_5 : Int → Int) (latest_5 : Int → Int) (r_5 : Int) (tape_5 : Int → Int) (limit_5 : Int) (pos_5 : Int) (kind_5 : Int) (place_5 : Int) (value_5 : Int) (from_5 : Int) (fault_5 : Int) (fault_0 : Int) (fault_1 : Int) (limit_0 : Int) (limit_1 : Int) (pos_0 : Int) (pos_1 : Int) (kind_0 : Int) (kind_1 : Int) (place_0 : Int) (place_1 : Int) (value_0 : Int) (value_1 : Int) (from_0 : Int) (from_1 : Int) (r_2 : Int) (fault_2 : Int) (limit_2 : Int) (pos_2 : Int) (kind_2 : Int) (place_2 : Int) (value_2 : Int) (from_2 : Int) (r_3 : Int) (fault_3 : Int) (limit_3 : Int) (pos_3 : Int) (kind_3 : Int) (place_3 : Int) (value_3 : Int) (from_3 : Int) (r_4 : Int) (fault_4 : Int) (limit_4 : Int) (pos_4 : Int) (kind_4 : Int) (place_4 : Int) (value_4 : Int) (from_4 : Int) (tape_0 : Int → Int) (tape_1 : Int → Int) (tape_2 : Int → Int) (tape_3 : Int → Int) (tape_4 : Int → Int) (all_0 : Int → Int) (all_1 : Int → Int) (all_2 : Int → Int) (all_3 : Int → Int) (all_4 : Int → Int) (now_0 : Int → Int) (now_1 : Int → Int) (now_2 : Int → Int) (now_3 : Int → Int) (now_4 : Int → Int) (latest_0 : Int → Int) (latest_1 : Int → Int) (latest_2 : Int → Int) (latest_3 : Int → Int) (latest_4 : Int → Int) (k1 : 0 ≤ x1 ∧ x1 ≤ 23) (k2 : 0 ≤ x2 ∧ x2 ≤ 23) (k3 : 0 ≤ x3 ∧ x3 ≤ 1) (k4 : 0 ≤ x4 ∧ x4 ≤ 7) (k5 : 0 ≤ x5 ∧ x5 ≤ 4) (k6 : 0 ≤ x6 ∧ x6 ≤ 48) (k7 : 0 ≤ x7 ∧ x7 ≤ 47) (k9 : 0 ≤ x9 ∧ x9 ≤ 66297) (k11 : 1 ≤ x11 ∧ x11 ≤ 66298) (k12 : 0 ≤ x12 ∧ x12 ≤ 47) (k14 : 1 ≤ x14 ∧ x14 ≤ 48) (k16 : 267 ≤ x16 ∧ x16 ≤ 66564) (k17 : 267 ≤ x17 ∧ x17 ≤ 66611) (k19 : 315 ≤ x19 ∧ x19 ≤ 66612) (k20 : 315 ≤ x20 ∧ x20 ≤ 66659) (k22 : 363 ≤ x22 ∧ x22 ≤ 66660) (k23 : 363 ≤ x23 ∧ x23 ≤ 66707) (k24 : 1 ≤ x24 ∧ x24 ≤ 1) (k26 : 411 ≤ x26 ∧ x26 ≤ 66708) (k27 : 411 ≤ x27 ∧ x27 ≤ 66755) (d3 : x9 + 411 ≤ x26 ∧ x26 ≤ x9 + 411) (d7 : x9 + 363 ≤ x22 ∧ x22 ≤ x9 + 363) (d11 : x9 + 315 ≤ x19 ∧ x19 ≤ x9 + 315) (d14 : x9 + 267 ≤ x17 ∧ x17 ≤ x9 + 314) (d15 : x9 + 267 ≤ x16 ∧ x16 ≤ x9 + 267) (d16 : x12 + 1 ≤ x14 ∧ x14 ≤ x12 + 1) (d17 : x9 + 1 ≤ x11 ∧ x11 ≤ x9 + 1) (f1 : x27 = x26 + x7) (g3 : x9 = r_1) (f6 : x23 = x22 + x7) (f9 : x20 = x19 + x7) (f12 : x17 = x16 + x7) (h16 : x12 = all_5 (x11)) (f18 : 1 * x7 + ((-1) * all_5 (r_0 + 1) + 0) ≤ 0) (f19 : (-1) * x7 + (1 * all_5 (r_0 + 1) + 0) ≤ 0) (f24 : zRP8 (limit_5) (pos_5) (kind_5) (place_5) (value_5) (from_5) (fault_5) (r_5) (tape_5) (all_5) (x2) (x6) (x1) (x3) (x4) (x5)) (fe_0_5_1 : r_0 = r_1) (fe_0_8_1 : fault_0 = fault_1) (fe_0_10_1 : limit_0 = limit_1) (fe_0_11_1 : pos_0 = pos_1) (fe_0_12_1 : kind_0 = kind_1) (fe_0_13_1 : place_0 = place_1) (fe_0_14_1 : value_0 = value_1) (fe_0_15_1 : from_0 = from_1) (fe_0_5_2 : r_1 = r_2) (fe_0_8_2 : fault_1 = fault_2) (fe_0_10_2 : limit_1 = limit_2) (fe_0_11_2 : pos_1 = pos_2) (fe_0_12_2 : kind_1 = kind_2) (fe_0_13_2 : place_1 = place_2) (fe_0_14_2 : value_1 = value_2) (fe_0_15_2 : from_1 = from_2) (fe_0_5_3 : r_2 = r_3) (fe_0_8_3 : fault_2 = fault_3) (fe_0_10_3 : limit_2 = limit_3) (fe_0_11_3 : pos_2 = pos_3) (fe_0_12_3 : kind_2 = kind_3) (fe_0_13_3 : place_2 = place_3) (fe_0_14_3 : value_2 = value_3) (fe_0_15_3 : from_2 = from_3) (fe_0_5_4 : r_3 = r_4) (fe_0_8_4 : fault_3 = fault_4) (fe_0_10_4 : limit_3 = limit_4) (fe_0_11_4 : pos_3 = pos_4) (fe_0_12_4 : kind_3 = kind_4) (fe_0_13_4 : place_3 = place_4) (fe_0_14_4 : value_3 = value_4) (fe_0_15_4 : from_3 = from_4) (fe_0_5_5 : r_4 = r_5) (fe_0_8_5 : fault_4 = fault_5) (fe_0_10_5 : limit_4 = limit_5) (fe_0_11_5 : pos_4 = pos_5) (fe_0_12_5 : kind_4 = kind_5) (fe_0_13_5 : place_4 = place_5) (fe_0_14_5 : value_4 = value_5) (fe_0_15_5 : from_4 = from_5) (hE_0_1_1 : ∀ j : Int, tape_0 j = tape_1 j) (hE_0_1_2 : ∀ j : Int, tape_1 j = tape_2 j) (hE_0_1_3 : ∀ j : Int, tape_2 j = tape_3 j) (hE_0_1_4 : ∀ j : Int, tape_3 j = tape_4 j) (hE_0_1_5 : ∀ j : Int, tape_4 j = tape_5 j) (hE_0_2_1 : ∀ j : Int, 0 ≤ j → (j = x27 → all_0 j = x3) ∧ (j ≠ x27 → all_0 j = all_1 j)) (hE_0_2_2 : ∀ j : Int, 0 ≤ j → (j = x23 → all_1 j = x24) ∧ (j ≠ x23 → all_1 j = all_2 j)) (hE_0_2_3 : ∀ j : Int, 0 ≤ j → (j = x20 → all_2 j = x2) ∧ (j ≠ x20 → all_2 j = all_3 j)) (hE_0_2_4 : ∀ j : Int, 0 ≤ j → (j = x17 → all_3 j = x1) ∧ (j ≠ x17 → all_3 j = all_4 j)) (hE_0_2_5 : ∀ j : Int, 0 ≤ j → (j = x11 → all_4 j = x14) ∧ (j ≠ x11 → all_4 j = all_5 j)) (hE_0_3_1 : ∀ j : Int, now_0 j = now_1 j) (hE_0_3_2 : ∀ j : Int, now_1 j = now_2 j) (hE_0_3_3 : ∀ j : Int, now_2 j = now_3 j) (hE_0_3_4 : ∀ j : Int, now_3 j = now_4 j) (hE_0_3_5 : ∀ j : Int, now_4 j = now_5 j) (hE_0_4_1 : ∀ j : Int, latest_0 j = latest_1 j) (hE_0_4_2 : ∀ j : Int, latest_1 j = latest_2 j) (hE_0_4_3 : ∀ j : Int, latest_2 j = latest_3 j) (hE_0_4_4 : ∀ j : Int, latest_3 j = latest_4 j) (hE_0_4_5 : ∀ j : Int, latest_4 j = latest_5 j) (kz_0_8 : 0 ≤ fault_0 ∧ fault_0 ≤ 5) (kz_0_10 : 0 ≤ limit_0 ∧ limit_0 ≤ 2000) (kz_0_11 : 0 ≤ pos_0 ∧ pos_0 ≤ 2000) (kz_0_12 : 0 ≤ kind_0 ∧ kind_0 ≤ 4) (kz_0_13 : 0 ≤ place_0 ∧ place_0 ≤ 2000) (kz_0_14 : (-49) ≤ value_0 ∧ value_0 ≤ 1048575) (kz_0_15 : 0 ≤ from_0 ∧ from_0 ≤ 2000) : zRS8 (limit_0) (pos_0) (kind_0) (place_0) (value_0) (from_0) (fault_0) (r_0) (tape_0) (all_0) (x2) (x6) (x4) (x5) := by
  subst fe_0_5_1
  subst fe_0_8_1
  subst fe_0_10_1
  subst fe_0_11_1
  subst fe_0_12_1
  subst fe_0_13_1
  subst fe_0_14_1
  subst fe_0_15_1
  subst fe_0_5_2
  subst fe_0_8_2
  subst fe_0_10_2
  subst fe_0_11_2
  subst fe_0_12_2
  subst fe_0_13_2
  subst fe_0_14_2
  subst fe_0_15_2
  subst fe_0_5_3
  subst fe_0_8_3
  subst fe_0_10_3
  subst fe_0_11_3
  subst fe_0_12_3
  subst fe_0_13_3
  subst fe_0_14_3
  subst fe_0_15_3
  subst fe_0_5_4
  subst fe_0_8_4
  subst fe_0_10_4
  subst fe_0_11_4
  subst fe_0_12_4
  subst fe_0_13_4
  subst fe_0_14_4
  subst fe_0_15_4
  subst fe_0_5_5
  subst fe_0_8_5
  subst fe_0_10_5
  subst fe_0_11_5
  subst fe_0_12_5
  subst fe_0_13_5
  subst fe_0_14_5
  subst fe_0_15_5
  have e_hE_0_1_1 := funext hE_0_1_1; subst e_hE_0_1_1
  have e_hE_0_1_2 := funext hE_0_1_2; subst e_hE_0_1_2
  have e_hE_0_1_3 := funext hE_0_1_3; subst e_hE_0_1_3
  have e_hE_0_1_4 := funext hE_0_1_4; subst e_hE_0_1_4
  have e_hE_0_1_5 := funext hE_0_1_5; subst e_hE_0_1_5
  have e_hE_0_3_1 := funext hE_0_3_1; subst e_hE_0_3_1
  have e_hE_0_3_2 := funext hE_0_3_2; subst e_hE_0_3_2
  have e_hE_0_3_3 := funext hE_0_3_3; subst e_hE_0_3_3
  have e_hE_0_3_4 := funext hE_0_3_4; subst e_hE_0_3_4
  have e_hE_0_3_5 := funext hE_0_3_5; subst e_hE_0_3_5
  have e_hE_0_4_1 := funext hE_0_4_1; subst e_hE_0_4_1
  have e_hE_0_4_2 := funext hE_0_4_2; subst e_hE_0_4_2
  have e_hE_0_4_3 := funext hE_0_4_3; subst e_hE_0_4_3
  have e_hE_0_4_4 := funext hE_0_4_4; subst e_hE_0_4_4
  have e_hE_0_4_5 := funext hE_0_4_5; subst e_hE_0_4_5
  first | subst g3 | skip
  exact ne_8 ‹zRP8 _ _ _ _ _ _ _ _ _ _ _ _ _ _ _ _› (by omega) (by assumption) (by assumption) (by assumption) (by assumption) (by assumption) (by omega) (by omega) (by omega) (by omega) (by omega) (by omega) (by omega) (by omega) (by omega) (by omega) (by omega)
def o_Mo_newEdge_at_g0_2 : or_T := (89, 28, [(0, (2, 0, 0, [165])), (1, (0, 0, 23, [])), (2, (0, 0, 23, [])), (3, (0, 0, 1, [])), (4, (0, 0, 7, [])), (5, (0, 0, 4, [])), (6, (0, 0, 48, [])), (7, (0, 0, 47, [])), (8, (2, 0, 0, [167])), (9, (0, 0, 66297, [])), (10, (0, 1, 1, [])), (11, (0, 1, 66298, [])), (12, (0, 0, 47, [])), (13, (0, 1, 1, [])), (14, (0, 1, 48, [])), (15, (0, 267, 267, [])), (16, (0, 267, 66564, [])), (17, (0, 267, 66611, [])), (18, (0, 315, 315, [])), (19, (0, 315, 66612, [])), (20, (0, 315, 66659, [])), (21, (0, 363, 363, [])), (22, (0, 363, 66660, [])), (23, (0, 363, 66707, [])), (24, (0, 1, 1, [])), (25, (0, 411, 411, [])), (26, (0, 411, 66708, [])), (27, (0, 411, 66755, []))], [(100, [8, 27, 3], []), (1, [27, 26, 7], []), (1, [26, 9, 25], []), (9, [9, 0], [5]), (9, [8, 0], [2]), (100, [8, 23, 24], []), (1, [23, 22, 7], []), (1, [22, 9, 21], []), (100, [8, 20, 2], []), (1, [20, 19, 7], []), (1, [19, 9, 18], []), (100, [8, 17, 1], []), (1, [17, 16, 7], []), (1, [16, 9, 15], []), (100, [8, 11, 14], []), (1, [14, 12, 13], []), (10, [12, 8, 11], []), (1, [11, 9, 10], []), (20, [7, 0], [30, 0, 1, 0, 0, -1, 3, 2005001]), (20, [7, 0], [30, 0, -1, 0, 0, 1, 3, 2005001]), (20, [0], [30, 47, 1, 3, 2005001]), (20, [0], [60, 1, 3, 199, 5, 2, 3, 4]), (20, [0, 1, 2], [60, 1, 1, 203, 5, 2]), (20, [4, 0], [50, 1, 1, 1005, 1002, 0, 6, 4, 2, 1, 0, 0, 1, 3, 1, 2, 4, 3, 2, 1, 5, 0, 2]), (20, [0, 2, 6, 1, 3, 4, 5], [60, 8, 2, 994, 10, 11, 12, 13, 14, 15, 8, 5, 1, 2])], [], [], [(20, [0], [60, 1, 3, 199, 5, 2, 3, 4]), (20, [0, 2], [60, 1, 1, 208, 5, 2]), (20, [4, 0], [50, 1, 1, 1005, 1002, 0, 6, 4, 2, 1, 0, 0, 1, 3, 1, 2, 4, 3, 2, 1, 5, 0, 2]), (20, [0, 2, 6, 4, 5], [60, 8, 2, 968, 10, 11, 12, 13, 14, 15, 8, 5, 1, 2])], [], [(27, 7, 411, 66708), (27, 26, 0, 47), (27, 9, 411, 458), (26, 9, 411, 411), (23, 7, 363, 66660), (23, 22, 0, 47), (23, 9, 363, 410), (22, 9, 363, 363), (20, 7, 315, 66612), (20, 19, 0, 47), (20, 9, 315, 362), (19, 9, 315, 315), (17, 7, 267, 66564), (17, 16, 0, 47), (17, 9, 267, 314), (16, 9, 267, 267), (14, 12, 1, 1), (11, 9, 1, 1)])
set_option maxRecDepth 100000 in
theorem oo_Mo_newEdge_at_g0_2 {kA : Nat → ClassId} : or_ok PRD kA GG o_Mo_newEdge_at_g0_2 := by
  refine or_mk fun A ta ws vs hD hth hl => ?_
  intro t0 r0 t1 k1 t2 k2 t3 k3 t4 k4 t5 k5 t6 k6 t7 k7 t8 r8 t9 k9 t10 k10 t11 k11 t12 k12 t13 k13 t14 k14 t15 k15 t16 k16 t17 k17 t18 k18 t19 k19 t20 k20 t21 k21 t22 k22 t23 k23 t24 k24 t25 k25 t26 k26 t27 k27 d0 d1 d2 d3 d4 d5 d6 d7 d8 d9 d10 d11 d12 d13 d14 d15 d16 d17 ta1 w1 le1 s1 f1 f2 f3 f4 ta2 w2 le2 s2 f6 f7 ta3 w3 le3 s3 f9 f10 ta4 w4 le4 s4 f12 f13 ta5 w5 le5 s5 f15 f16 f17 f18 f19 f20 f21 f22 f23 f24
  have s1 : (∀ b j, w_el ws b j = if b = v_ad (n_v vs 8) ∧ j = (v_iv (n_v vs 27)).toNat then v_iv (n_v vs 3) else w_el w1 b j) ∧ ∀ b k, w_fd ws b k = w_fd w1 b k := s1.2
  replace f1 := shm_12 f1
  replace f2 := shm_12 f2
  replace f3 := shm_110 f3
  replace f4 := shm_120 f4
  have s2 : (∀ b j, w_el w1 b j = if b = v_ad (n_v vs 8) ∧ j = (v_iv (n_v vs 23)).toNat then v_iv (n_v vs 24) else w_el w2 b j) ∧ ∀ b k, w_fd w1 b k = w_fd w2 b k := s2.2
  replace f6 := shm_12 f6
  replace f7 := shm_12 f7
  have s3 : (∀ b j, w_el w2 b j = if b = v_ad (n_v vs 8) ∧ j = (v_iv (n_v vs 20)).toNat then v_iv (n_v vs 2) else w_el w3 b j) ∧ ∀ b k, w_fd w2 b k = w_fd w3 b k := s3.2
  replace f9 := shm_12 f9
  replace f10 := shm_12 f10
  have s4 : (∀ b j, w_el w3 b j = if b = v_ad (n_v vs 8) ∧ j = (v_iv (n_v vs 17)).toNat then v_iv (n_v vs 1) else w_el w4 b j) ∧ ∀ b k, w_fd w3 b k = w_fd w4 b k := s4.2
  replace f12 := shm_12 f12
  replace f13 := shm_12 f13
  have s5 : (∀ b j, w_el w4 b j = if b = v_ad (n_v vs 8) ∧ j = (v_iv (n_v vs 11)).toNat then v_iv (n_v vs 14) else w_el w5 b j) ∧ ∀ b k, w_fd w4 b k = w_fd w5 b k := s5.2
  replace f15 := shm_12 f15
  replace f16 := shm_107 f16
  replace f17 := shm_12 f17
  replace f18 := shm_121 f18
  replace f19 := shm_122 f19
  replace f20 := shm_1007 f20
  replace f21 := shm_980 f21
  replace f22 := shm_1008 f22
  replace f23 := shm_1009 f23
  replace f24 := shm_1010 f24
  have ar_0_1_1 : w_ar w1 (n_v vs 0) 1 = w_ar ws (n_v vs 0) 1 := congrArg v_ad (s1.2 _ _).symm
  have ar_0_1_2 : w_ar w2 (n_v vs 0) 1 = w_ar ws (n_v vs 0) 1 := by rw [← ar_0_1_1]; show v_ad (w_fd w2 _ _) = v_ad (w_fd w1 _ _); rw [s2.2]
  have ar_0_1_3 : w_ar w3 (n_v vs 0) 1 = w_ar ws (n_v vs 0) 1 := by rw [← ar_0_1_2]; show v_ad (w_fd w3 _ _) = v_ad (w_fd w2 _ _); rw [s3.2]
  have ar_0_1_4 : w_ar w4 (n_v vs 0) 1 = w_ar ws (n_v vs 0) 1 := by rw [← ar_0_1_3]; show v_ad (w_fd w4 _ _) = v_ad (w_fd w3 _ _); rw [s4.2]
  have ar_0_1_5 : w_ar w5 (n_v vs 0) 1 = w_ar ws (n_v vs 0) 1 := by rw [← ar_0_1_4]; show v_ad (w_fd w5 _ _) = v_ad (w_fd w4 _ _); rw [s5.2]
  have cr_0_1 := fdq_39 hD hth r0
  have ar_0_2_1 : w_ar w1 (n_v vs 0) 2 = w_ar ws (n_v vs 0) 2 := congrArg v_ad (s1.2 _ _).symm
  have ar_0_2_2 : w_ar w2 (n_v vs 0) 2 = w_ar ws (n_v vs 0) 2 := by rw [← ar_0_2_1]; show v_ad (w_fd w2 _ _) = v_ad (w_fd w1 _ _); rw [s2.2]
  have ar_0_2_3 : w_ar w3 (n_v vs 0) 2 = w_ar ws (n_v vs 0) 2 := by rw [← ar_0_2_2]; show v_ad (w_fd w3 _ _) = v_ad (w_fd w2 _ _); rw [s3.2]
  have ar_0_2_4 : w_ar w4 (n_v vs 0) 2 = w_ar ws (n_v vs 0) 2 := by rw [← ar_0_2_3]; show v_ad (w_fd w4 _ _) = v_ad (w_fd w3 _ _); rw [s4.2]
  have ar_0_2_5 : w_ar w5 (n_v vs 0) 2 = w_ar ws (n_v vs 0) 2 := by rw [← ar_0_2_4]; show v_ad (w_fd w5 _ _) = v_ad (w_fd w4 _ _); rw [s5.2]
  have cr_0_2 := fdq_10 hD hth r0
  have ar_0_3_1 : w_ar w1 (n_v vs 0) 3 = w_ar ws (n_v vs 0) 3 := congrArg v_ad (s1.2 _ _).symm
  have ar_0_3_2 : w_ar w2 (n_v vs 0) 3 = w_ar ws (n_v vs 0) 3 := by rw [← ar_0_3_1]; show v_ad (w_fd w2 _ _) = v_ad (w_fd w1 _ _); rw [s2.2]
  have ar_0_3_3 : w_ar w3 (n_v vs 0) 3 = w_ar ws (n_v vs 0) 3 := by rw [← ar_0_3_2]; show v_ad (w_fd w3 _ _) = v_ad (w_fd w2 _ _); rw [s3.2]
  have ar_0_3_4 : w_ar w4 (n_v vs 0) 3 = w_ar ws (n_v vs 0) 3 := by rw [← ar_0_3_3]; show v_ad (w_fd w4 _ _) = v_ad (w_fd w3 _ _); rw [s4.2]
  have ar_0_3_5 : w_ar w5 (n_v vs 0) 3 = w_ar ws (n_v vs 0) 3 := by rw [← ar_0_3_4]; show v_ad (w_fd w5 _ _) = v_ad (w_fd w4 _ _); rw [s5.2]
  have cr_0_3 := fdq_142 hD hth r0
  have ar_0_4_1 : w_ar w1 (n_v vs 0) 4 = w_ar ws (n_v vs 0) 4 := congrArg v_ad (s1.2 _ _).symm
  have ar_0_4_2 : w_ar w2 (n_v vs 0) 4 = w_ar ws (n_v vs 0) 4 := by rw [← ar_0_4_1]; show v_ad (w_fd w2 _ _) = v_ad (w_fd w1 _ _); rw [s2.2]
  have ar_0_4_3 : w_ar w3 (n_v vs 0) 4 = w_ar ws (n_v vs 0) 4 := by rw [← ar_0_4_2]; show v_ad (w_fd w3 _ _) = v_ad (w_fd w2 _ _); rw [s3.2]
  have ar_0_4_4 : w_ar w4 (n_v vs 0) 4 = w_ar ws (n_v vs 0) 4 := by rw [← ar_0_4_3]; show v_ad (w_fd w4 _ _) = v_ad (w_fd w3 _ _); rw [s4.2]
  have ar_0_4_5 : w_ar w5 (n_v vs 0) 4 = w_ar ws (n_v vs 0) 4 := by rw [← ar_0_4_4]; show v_ad (w_fd w5 _ _) = v_ad (w_fd w4 _ _); rw [s5.2]
  have cr_0_4 := fdq_143 hD hth r0
  have fi_0_5_1 : w_fi w1 (n_v vs 0) 5 = w_fi ws (n_v vs 0) 5 := by show v_iv (w_fd w1 _ _) = v_iv (w_fd ws _ _); rw [s1.2]
  have fi_0_5_2 : w_fi w2 (n_v vs 0) 5 = w_fi ws (n_v vs 0) 5 := by rw [← fi_0_5_1]; show v_iv (w_fd w2 _ _) = v_iv (w_fd w1 _ _); rw [s2.2]
  have fi_0_5_3 : w_fi w3 (n_v vs 0) 5 = w_fi ws (n_v vs 0) 5 := by rw [← fi_0_5_2]; show v_iv (w_fd w3 _ _) = v_iv (w_fd w2 _ _); rw [s3.2]
  have fi_0_5_4 : w_fi w4 (n_v vs 0) 5 = w_fi ws (n_v vs 0) 5 := by rw [← fi_0_5_3]; show v_iv (w_fd w4 _ _) = v_iv (w_fd w3 _ _); rw [s4.2]
  have fi_0_5_5 : w_fi w5 (n_v vs 0) 5 = w_fi ws (n_v vs 0) 5 := by rw [← fi_0_5_4]; show v_iv (w_fd w5 _ _) = v_iv (w_fd w4 _ _); rw [s5.2]
  have ad_8 : v_ad (n_v vs 8) = w_ar ws (n_v vs 0) 2 := (congrArg v_ad f4).trans ar_0_2_1
  have g3 : v_iv (n_v vs 9) = w_fi w1 (n_v vs 0) 5 := congrArg v_iv f3
  simp only [ad_8] at f16
  have h16 : v_iv (n_v vs 12) = w_ei w5 (w_ar ws (n_v vs 0) 2) (v_iv (n_v vs 11)) := f16
  simp only [ar_0_2_5, ar_0_3_5, ar_0_4_5, ar_0_1_5] at f18 f19 f20 f21 f22 f23 f24
  simp only [fi_0_5_5] at f18 f19 f20
  have fe_0_5_1 : w_fi ws (n_v vs 0) 5 = w_fi w1 (n_v vs 0) 5 := congrArg v_iv (s1.2 _ _)
  have fe_0_8_1 : w_fi ws (n_v vs 0) 8 = w_fi w1 (n_v vs 0) 8 := congrArg v_iv (s1.2 _ _)
  have fe_0_10_1 : w_fi ws (n_v vs 0) 10 = w_fi w1 (n_v vs 0) 10 := congrArg v_iv (s1.2 _ _)
  have fe_0_11_1 : w_fi ws (n_v vs 0) 11 = w_fi w1 (n_v vs 0) 11 := congrArg v_iv (s1.2 _ _)
  have fe_0_12_1 : w_fi ws (n_v vs 0) 12 = w_fi w1 (n_v vs 0) 12 := congrArg v_iv (s1.2 _ _)
  have fe_0_13_1 : w_fi ws (n_v vs 0) 13 = w_fi w1 (n_v vs 0) 13 := congrArg v_iv (s1.2 _ _)
  have fe_0_14_1 : w_fi ws (n_v vs 0) 14 = w_fi w1 (n_v vs 0) 14 := congrArg v_iv (s1.2 _ _)
  have fe_0_15_1 : w_fi ws (n_v vs 0) 15 = w_fi w1 (n_v vs 0) 15 := congrArg v_iv (s1.2 _ _)
  have fe_0_5_2 : w_fi w1 (n_v vs 0) 5 = w_fi w2 (n_v vs 0) 5 := congrArg v_iv (s2.2 _ _)
  have fe_0_8_2 : w_fi w1 (n_v vs 0) 8 = w_fi w2 (n_v vs 0) 8 := congrArg v_iv (s2.2 _ _)
  have fe_0_10_2 : w_fi w1 (n_v vs 0) 10 = w_fi w2 (n_v vs 0) 10 := congrArg v_iv (s2.2 _ _)
  have fe_0_11_2 : w_fi w1 (n_v vs 0) 11 = w_fi w2 (n_v vs 0) 11 := congrArg v_iv (s2.2 _ _)
  have fe_0_12_2 : w_fi w1 (n_v vs 0) 12 = w_fi w2 (n_v vs 0) 12 := congrArg v_iv (s2.2 _ _)
  have fe_0_13_2 : w_fi w1 (n_v vs 0) 13 = w_fi w2 (n_v vs 0) 13 := congrArg v_iv (s2.2 _ _)
  have fe_0_14_2 : w_fi w1 (n_v vs 0) 14 = w_fi w2 (n_v vs 0) 14 := congrArg v_iv (s2.2 _ _)
  have fe_0_15_2 : w_fi w1 (n_v vs 0) 15 = w_fi w2 (n_v vs 0) 15 := congrArg v_iv (s2.2 _ _)
  have fe_0_5_3 : w_fi w2 (n_v vs 0) 5 = w_fi w3 (n_v vs 0) 5 := congrArg v_iv (s3.2 _ _)
  have fe_0_8_3 : w_fi w2 (n_v vs 0) 8 = w_fi w3 (n_v vs 0) 8 := congrArg v_iv (s3.2 _ _)
  have fe_0_10_3 : w_fi w2 (n_v vs 0) 10 = w_fi w3 (n_v vs 0) 10 := congrArg v_iv (s3.2 _ _)
  have fe_0_11_3 : w_fi w2 (n_v vs 0) 11 = w_fi w3 (n_v vs 0) 11 := congrArg v_iv (s3.2 _ _)
  have fe_0_12_3 : w_fi w2 (n_v vs 0) 12 = w_fi w3 (n_v vs 0) 12 := congrArg v_iv (s3.2 _ _)
  have fe_0_13_3 : w_fi w2 (n_v vs 0) 13 = w_fi w3 (n_v vs 0) 13 := congrArg v_iv (s3.2 _ _)
  have fe_0_14_3 : w_fi w2 (n_v vs 0) 14 = w_fi w3 (n_v vs 0) 14 := congrArg v_iv (s3.2 _ _)
  have fe_0_15_3 : w_fi w2 (n_v vs 0) 15 = w_fi w3 (n_v vs 0) 15 := congrArg v_iv (s3.2 _ _)
  have fe_0_5_4 : w_fi w3 (n_v vs 0) 5 = w_fi w4 (n_v vs 0) 5 := congrArg v_iv (s4.2 _ _)
  have fe_0_8_4 : w_fi w3 (n_v vs 0) 8 = w_fi w4 (n_v vs 0) 8 := congrArg v_iv (s4.2 _ _)
  have fe_0_10_4 : w_fi w3 (n_v vs 0) 10 = w_fi w4 (n_v vs 0) 10 := congrArg v_iv (s4.2 _ _)
  have fe_0_11_4 : w_fi w3 (n_v vs 0) 11 = w_fi w4 (n_v vs 0) 11 := congrArg v_iv (s4.2 _ _)
  have fe_0_12_4 : w_fi w3 (n_v vs 0) 12 = w_fi w4 (n_v vs 0) 12 := congrArg v_iv (s4.2 _ _)
  have fe_0_13_4 : w_fi w3 (n_v vs 0) 13 = w_fi w4 (n_v vs 0) 13 := congrArg v_iv (s4.2 _ _)
  have fe_0_14_4 : w_fi w3 (n_v vs 0) 14 = w_fi w4 (n_v vs 0) 14 := congrArg v_iv (s4.2 _ _)
  have fe_0_15_4 : w_fi w3 (n_v vs 0) 15 = w_fi w4 (n_v vs 0) 15 := congrArg v_iv (s4.2 _ _)
  have fe_0_5_5 : w_fi w4 (n_v vs 0) 5 = w_fi w5 (n_v vs 0) 5 := congrArg v_iv (s5.2 _ _)
  have fe_0_8_5 : w_fi w4 (n_v vs 0) 8 = w_fi w5 (n_v vs 0) 8 := congrArg v_iv (s5.2 _ _)
  have fe_0_10_5 : w_fi w4 (n_v vs 0) 10 = w_fi w5 (n_v vs 0) 10 := congrArg v_iv (s5.2 _ _)
  have fe_0_11_5 : w_fi w4 (n_v vs 0) 11 = w_fi w5 (n_v vs 0) 11 := congrArg v_iv (s5.2 _ _)
  have fe_0_12_5 : w_fi w4 (n_v vs 0) 12 = w_fi w5 (n_v vs 0) 12 := congrArg v_iv (s5.2 _ _)
  have fe_0_13_5 : w_fi w4 (n_v vs 0) 13 = w_fi w5 (n_v vs 0) 13 := congrArg v_iv (s5.2 _ _)
  have fe_0_14_5 : w_fi w4 (n_v vs 0) 14 = w_fi w5 (n_v vs 0) 14 := congrArg v_iv (s5.2 _ _)
  have fe_0_15_5 : w_fi w4 (n_v vs 0) 15 = w_fi w5 (n_v vs 0) 15 := congrArg v_iv (s5.2 _ _)
  have hE_0_1_1 : ∀ j : Int, w_ei ws (w_ar ws (n_v vs 0) 1) j = w_ei w1 (w_ar ws (n_v vs 0) 1) j := el_kp s1.1 r8 cr_0_1 (by decide)
  have hE_0_1_2 : ∀ j : Int, w_ei w1 (w_ar ws (n_v vs 0) 1) j = w_ei w2 (w_ar ws (n_v vs 0) 1) j := el_kp s2.1 r8 cr_0_1 (by decide)
  have hE_0_1_3 : ∀ j : Int, w_ei w2 (w_ar ws (n_v vs 0) 1) j = w_ei w3 (w_ar ws (n_v vs 0) 1) j := el_kp s3.1 r8 cr_0_1 (by decide)
  have hE_0_1_4 : ∀ j : Int, w_ei w3 (w_ar ws (n_v vs 0) 1) j = w_ei w4 (w_ar ws (n_v vs 0) 1) j := el_kp s4.1 r8 cr_0_1 (by decide)
  have hE_0_1_5 : ∀ j : Int, w_ei w4 (w_ar ws (n_v vs 0) 1) j = w_ei w5 (w_ar ws (n_v vs 0) 1) j := el_kp s5.1 r8 cr_0_1 (by decide)
  have hK_0_1 := elq_7 hD hth cr_0_1
  have hE_0_2_1 : ∀ j : Int, 0 ≤ j → (j = v_iv (n_v vs 27) → w_ei ws (w_ar ws (n_v vs 0) 2) j = v_iv (n_v vs 3)) ∧ (j ≠ v_iv (n_v vs 27) → w_ei ws (w_ar ws (n_v vs 0) 2) j = w_ei w1 (w_ar ws (n_v vs 0) 2) j) := fun j hj => ⟨fun h => by unfold w_ei; rw [s1.1, if_pos ⟨ad_8.symm, by rw [h]⟩], fun h => by unfold w_ei; rw [s1.1, if_neg (fun e => h (by have := e.2; omega))]⟩
  have hE_0_2_2 : ∀ j : Int, 0 ≤ j → (j = v_iv (n_v vs 23) → w_ei w1 (w_ar ws (n_v vs 0) 2) j = v_iv (n_v vs 24)) ∧ (j ≠ v_iv (n_v vs 23) → w_ei w1 (w_ar ws (n_v vs 0) 2) j = w_ei w2 (w_ar ws (n_v vs 0) 2) j) := fun j hj => ⟨fun h => by unfold w_ei; rw [s2.1, if_pos ⟨ad_8.symm, by rw [h]⟩], fun h => by unfold w_ei; rw [s2.1, if_neg (fun e => h (by have := e.2; omega))]⟩
  have hE_0_2_3 : ∀ j : Int, 0 ≤ j → (j = v_iv (n_v vs 20) → w_ei w2 (w_ar ws (n_v vs 0) 2) j = v_iv (n_v vs 2)) ∧ (j ≠ v_iv (n_v vs 20) → w_ei w2 (w_ar ws (n_v vs 0) 2) j = w_ei w3 (w_ar ws (n_v vs 0) 2) j) := fun j hj => ⟨fun h => by unfold w_ei; rw [s3.1, if_pos ⟨ad_8.symm, by rw [h]⟩], fun h => by unfold w_ei; rw [s3.1, if_neg (fun e => h (by have := e.2; omega))]⟩
  have hE_0_2_4 : ∀ j : Int, 0 ≤ j → (j = v_iv (n_v vs 17) → w_ei w3 (w_ar ws (n_v vs 0) 2) j = v_iv (n_v vs 1)) ∧ (j ≠ v_iv (n_v vs 17) → w_ei w3 (w_ar ws (n_v vs 0) 2) j = w_ei w4 (w_ar ws (n_v vs 0) 2) j) := fun j hj => ⟨fun h => by unfold w_ei; rw [s4.1, if_pos ⟨ad_8.symm, by rw [h]⟩], fun h => by unfold w_ei; rw [s4.1, if_neg (fun e => h (by have := e.2; omega))]⟩
  have hE_0_2_5 : ∀ j : Int, 0 ≤ j → (j = v_iv (n_v vs 11) → w_ei w4 (w_ar ws (n_v vs 0) 2) j = v_iv (n_v vs 14)) ∧ (j ≠ v_iv (n_v vs 11) → w_ei w4 (w_ar ws (n_v vs 0) 2) j = w_ei w5 (w_ar ws (n_v vs 0) 2) j) := fun j hj => ⟨fun h => by unfold w_ei; rw [s5.1, if_pos ⟨ad_8.symm, by rw [h]⟩], fun h => by unfold w_ei; rw [s5.1, if_neg (fun e => h (by have := e.2; omega))]⟩
  have hE_0_3_1 : ∀ j : Int, w_ei ws (w_ar ws (n_v vs 0) 3) j = w_ei w1 (w_ar ws (n_v vs 0) 3) j := el_kp s1.1 r8 cr_0_3 (by decide)
  have hE_0_3_2 : ∀ j : Int, w_ei w1 (w_ar ws (n_v vs 0) 3) j = w_ei w2 (w_ar ws (n_v vs 0) 3) j := el_kp s2.1 r8 cr_0_3 (by decide)
  have hE_0_3_3 : ∀ j : Int, w_ei w2 (w_ar ws (n_v vs 0) 3) j = w_ei w3 (w_ar ws (n_v vs 0) 3) j := el_kp s3.1 r8 cr_0_3 (by decide)
  have hE_0_3_4 : ∀ j : Int, w_ei w3 (w_ar ws (n_v vs 0) 3) j = w_ei w4 (w_ar ws (n_v vs 0) 3) j := el_kp s4.1 r8 cr_0_3 (by decide)
  have hE_0_3_5 : ∀ j : Int, w_ei w4 (w_ar ws (n_v vs 0) 3) j = w_ei w5 (w_ar ws (n_v vs 0) 3) j := el_kp s5.1 r8 cr_0_3 (by decide)
  have hK_0_3 := elq_80 hD hth cr_0_3
  have hE_0_4_1 : ∀ j : Int, w_ei ws (w_ar ws (n_v vs 0) 4) j = w_ei w1 (w_ar ws (n_v vs 0) 4) j := el_kp s1.1 r8 cr_0_4 (by decide)
  have hE_0_4_2 : ∀ j : Int, w_ei w1 (w_ar ws (n_v vs 0) 4) j = w_ei w2 (w_ar ws (n_v vs 0) 4) j := el_kp s2.1 r8 cr_0_4 (by decide)
  have hE_0_4_3 : ∀ j : Int, w_ei w2 (w_ar ws (n_v vs 0) 4) j = w_ei w3 (w_ar ws (n_v vs 0) 4) j := el_kp s3.1 r8 cr_0_4 (by decide)
  have hE_0_4_4 : ∀ j : Int, w_ei w3 (w_ar ws (n_v vs 0) 4) j = w_ei w4 (w_ar ws (n_v vs 0) 4) j := el_kp s4.1 r8 cr_0_4 (by decide)
  have hE_0_4_5 : ∀ j : Int, w_ei w4 (w_ar ws (n_v vs 0) 4) j = w_ei w5 (w_ar ws (n_v vs 0) 4) j := el_kp s5.1 r8 cr_0_4 (by decide)
  have hK_0_4 := elq_81 hD hth cr_0_4
  have kz_0_8 := fdq_34 hD hth r0
  have kz_0_10 := fdq_43 hD hth r0
  have kz_0_11 := fdq_237 hD hth r0
  have kz_0_12 := fdq_187 hD hth r0
  have kz_0_13 := fdq_238 hD hth r0
  have kz_0_14 := fdq_188 hD hth r0
  have kz_0_15 := fdq_239 hD hth r0
  first | have hJ0 : w_ei w5 (w_ar ws (n_v vs 0) 2) ((w_fi w5 (n_v vs 0) 5 + 2)) = w_ei w5 (w_ar ws (n_v vs 0) 2) ((w_fi ws (n_v vs 0) 5 + 2)) := congrArg _ (show ((w_fi w5 (n_v vs 0) 5 + 2) : Int) = (w_fi ws (n_v vs 0) 5 + 2) from by omega) | skip
  first | have hI1 := (hE_0_2_1 ((w_fi ws (n_v vs 0) 5 + 2)) (by omega)).2 (by omega) | have hI1 := (hE_0_2_1 ((w_fi ws (n_v vs 0) 5 + 2)) (by omega)).1 (by omega) | skip
  first | have hI2 := (hE_0_2_2 ((w_fi ws (n_v vs 0) 5 + 2)) (by omega)).2 (by omega) | have hI2 := (hE_0_2_2 ((w_fi ws (n_v vs 0) 5 + 2)) (by omega)).1 (by omega) | skip
  first | have hI3 := (hE_0_2_3 ((w_fi ws (n_v vs 0) 5 + 2)) (by omega)).2 (by omega) | have hI3 := (hE_0_2_3 ((w_fi ws (n_v vs 0) 5 + 2)) (by omega)).1 (by omega) | skip
  first | have hI4 := (hE_0_2_4 ((w_fi ws (n_v vs 0) 5 + 2)) (by omega)).2 (by omega) | have hI4 := (hE_0_2_4 ((w_fi ws (n_v vs 0) 5 + 2)) (by omega)).1 (by omega) | skip
  first | have hI5 := (hE_0_2_5 ((w_fi ws (n_v vs 0) 5 + 2)) (by omega)).2 (by omega) | have hI5 := (hE_0_2_5 ((w_fi ws (n_v vs 0) 5 + 2)) (by omega)).1 (by omega) | skip
  have nf0 : fc_1 PRD (20, [0], [60, 1, 3, 199, 5, 2, 3, 4]) ws (vs) := ⟨nf_in hl rfl, sgq_980 (vc_Mo_newEdge_at_g0_2_0 (v_iv (n_v vs 1)) (v_iv (n_v vs 2)) (v_iv (n_v vs 3)) (v_iv (n_v vs 7)) (v_iv (n_v vs 9)) (v_iv (n_v vs 11)) (v_iv (n_v vs 12)) (v_iv (n_v vs 14)) (v_iv (n_v vs 16)) (v_iv (n_v vs 17)) (v_iv (n_v vs 19)) (v_iv (n_v vs 20)) (v_iv (n_v vs 22)) (v_iv (n_v vs 23)) (v_iv (n_v vs 24)) (v_iv (n_v vs 26)) (v_iv (n_v vs 27)) (w_fi w1 (n_v vs 0) 5) (w_ei w5 (w_ar ws (n_v vs 0) 2)) (w_fi ws (n_v vs 0) 5) (w_ei w5 (w_ar ws (n_v vs 0) 3)) (w_ei w5 (w_ar ws (n_v vs 0) 4)) (w_fi w5 (n_v vs 0) 5) (w_ei w5 (w_ar ws (n_v vs 0) 1)) (w_fi w5 (n_v vs 0) 10) (w_fi w5 (n_v vs 0) 11) (w_fi w5 (n_v vs 0) 12) (w_fi w5 (n_v vs 0) 13) (w_fi w5 (n_v vs 0) 14) (w_fi w5 (n_v vs 0) 15) (w_fi w5 (n_v vs 0) 8) (w_fi ws (n_v vs 0) 8) (w_fi w1 (n_v vs 0) 8) (w_fi ws (n_v vs 0) 10) (w_fi w1 (n_v vs 0) 10) (w_fi ws (n_v vs 0) 11) (w_fi w1 (n_v vs 0) 11) (w_fi ws (n_v vs 0) 12) (w_fi w1 (n_v vs 0) 12) (w_fi ws (n_v vs 0) 13) (w_fi w1 (n_v vs 0) 13) (w_fi ws (n_v vs 0) 14) (w_fi w1 (n_v vs 0) 14) (w_fi ws (n_v vs 0) 15) (w_fi w1 (n_v vs 0) 15) (w_fi w2 (n_v vs 0) 5) (w_fi w2 (n_v vs 0) 8) (w_fi w2 (n_v vs 0) 10) (w_fi w2 (n_v vs 0) 11) (w_fi w2 (n_v vs 0) 12) (w_fi w2 (n_v vs 0) 13) (w_fi w2 (n_v vs 0) 14) (w_fi w2 (n_v vs 0) 15) (w_fi w3 (n_v vs 0) 5) (w_fi w3 (n_v vs 0) 8) (w_fi w3 (n_v vs 0) 10) (w_fi w3 (n_v vs 0) 11) (w_fi w3 (n_v vs 0) 12) (w_fi w3 (n_v vs 0) 13) (w_fi w3 (n_v vs 0) 14) (w_fi w3 (n_v vs 0) 15) (w_fi w4 (n_v vs 0) 5) (w_fi w4 (n_v vs 0) 8) (w_fi w4 (n_v vs 0) 10) (w_fi w4 (n_v vs 0) 11) (w_fi w4 (n_v vs 0) 12) (w_fi w4 (n_v vs 0) 13) (w_fi w4 (n_v vs 0) 14) (w_fi w4 (n_v vs 0) 15) (w_ei ws (w_ar ws (n_v vs 0) 1)) (w_ei w1 (w_ar ws (n_v vs 0) 1)) (w_ei w2 (w_ar ws (n_v vs 0) 1)) (w_ei w3 (w_ar ws (n_v vs 0) 1)) (w_ei w4 (w_ar ws (n_v vs 0) 1)) (w_ei ws (w_ar ws (n_v vs 0) 2)) (w_ei w1 (w_ar ws (n_v vs 0) 2)) (w_ei w2 (w_ar ws (n_v vs 0) 2)) (w_ei w3 (w_ar ws (n_v vs 0) 2)) (w_ei w4 (w_ar ws (n_v vs 0) 2)) (w_ei ws (w_ar ws (n_v vs 0) 3)) (w_ei w1 (w_ar ws (n_v vs 0) 3)) (w_ei w2 (w_ar ws (n_v vs 0) 3)) (w_ei w3 (w_ar ws (n_v vs 0) 3)) (w_ei w4 (w_ar ws (n_v vs 0) 3)) (w_ei ws (w_ar ws (n_v vs 0) 4)) (w_ei w1 (w_ar ws (n_v vs 0) 4)) (w_ei w2 (w_ar ws (n_v vs 0) 4)) (w_ei w3 (w_ar ws (n_v vs 0) 4)) (w_ei w4 (w_ar ws (n_v vs 0) 4)) k1 k2 k3 k7 k9 k11 k12 k14 k16 k17 k19 k20 k22 k23 k24 k26 k27 d3 d7 d11 d15 d16 d17 f1 g3 f6 f9 f12 h16 f18 f19 f21 f22 fe_0_5_1 fe_0_8_1 fe_0_10_1 fe_0_11_1 fe_0_12_1 fe_0_13_1 fe_0_14_1 fe_0_15_1 fe_0_5_2 fe_0_8_2 fe_0_10_2 fe_0_11_2 fe_0_12_2 fe_0_13_2 fe_0_14_2 fe_0_15_2 fe_0_5_3 fe_0_8_3 fe_0_10_3 fe_0_11_3 fe_0_12_3 fe_0_13_3 fe_0_14_3 fe_0_15_3 fe_0_5_4 fe_0_8_4 fe_0_10_4 fe_0_11_4 fe_0_12_4 fe_0_13_4 fe_0_14_4 fe_0_15_4 fe_0_5_5 fe_0_8_5 fe_0_10_5 fe_0_11_5 fe_0_12_5 fe_0_13_5 fe_0_14_5 fe_0_15_5 hE_0_1_1 hE_0_1_2 hE_0_1_3 hE_0_1_4 hE_0_1_5 hE_0_2_1 hE_0_2_2 hE_0_2_3 hE_0_2_4 hE_0_2_5 hE_0_3_1 hE_0_3_2 hE_0_3_3 hE_0_3_4 hE_0_3_5 hE_0_4_1 hE_0_4_2 hE_0_4_3 hE_0_4_4 hE_0_4_5 kz_0_8 kz_0_10 kz_0_11 kz_0_12 kz_0_13 kz_0_14 kz_0_15)⟩
  have nf1 : fc_1 PRD (20, [0, 2], [60, 1, 1, 208, 5, 2]) ws (vs) := ⟨nf_in hl rfl, sgq_983 (vc_Mo_newEdge_at_g0_2_1 (v_iv (n_v vs 1)) (v_iv (n_v vs 2)) (v_iv (n_v vs 3)) (v_iv (n_v vs 7)) (v_iv (n_v vs 9)) (v_iv (n_v vs 11)) (v_iv (n_v vs 12)) (v_iv (n_v vs 14)) (v_iv (n_v vs 16)) (v_iv (n_v vs 17)) (v_iv (n_v vs 19)) (v_iv (n_v vs 20)) (v_iv (n_v vs 22)) (v_iv (n_v vs 23)) (v_iv (n_v vs 24)) (v_iv (n_v vs 26)) (v_iv (n_v vs 27)) (w_fi w1 (n_v vs 0) 5) (w_ei w5 (w_ar ws (n_v vs 0) 2)) (w_fi ws (n_v vs 0) 5) (w_ei w5 (w_ar ws (n_v vs 0) 3)) (w_ei w5 (w_ar ws (n_v vs 0) 4)) (w_fi w5 (n_v vs 0) 5) (w_ei w5 (w_ar ws (n_v vs 0) 1)) (w_fi w5 (n_v vs 0) 10) (w_fi w5 (n_v vs 0) 11) (w_fi w5 (n_v vs 0) 12) (w_fi w5 (n_v vs 0) 13) (w_fi w5 (n_v vs 0) 14) (w_fi w5 (n_v vs 0) 15) (w_fi w5 (n_v vs 0) 8) (w_fi ws (n_v vs 0) 8) (w_fi w1 (n_v vs 0) 8) (w_fi ws (n_v vs 0) 10) (w_fi w1 (n_v vs 0) 10) (w_fi ws (n_v vs 0) 11) (w_fi w1 (n_v vs 0) 11) (w_fi ws (n_v vs 0) 12) (w_fi w1 (n_v vs 0) 12) (w_fi ws (n_v vs 0) 13) (w_fi w1 (n_v vs 0) 13) (w_fi ws (n_v vs 0) 14) (w_fi w1 (n_v vs 0) 14) (w_fi ws (n_v vs 0) 15) (w_fi w1 (n_v vs 0) 15) (w_fi w2 (n_v vs 0) 5) (w_fi w2 (n_v vs 0) 8) (w_fi w2 (n_v vs 0) 10) (w_fi w2 (n_v vs 0) 11) (w_fi w2 (n_v vs 0) 12) (w_fi w2 (n_v vs 0) 13) (w_fi w2 (n_v vs 0) 14) (w_fi w2 (n_v vs 0) 15) (w_fi w3 (n_v vs 0) 5) (w_fi w3 (n_v vs 0) 8) (w_fi w3 (n_v vs 0) 10) (w_fi w3 (n_v vs 0) 11) (w_fi w3 (n_v vs 0) 12) (w_fi w3 (n_v vs 0) 13) (w_fi w3 (n_v vs 0) 14) (w_fi w3 (n_v vs 0) 15) (w_fi w4 (n_v vs 0) 5) (w_fi w4 (n_v vs 0) 8) (w_fi w4 (n_v vs 0) 10) (w_fi w4 (n_v vs 0) 11) (w_fi w4 (n_v vs 0) 12) (w_fi w4 (n_v vs 0) 13) (w_fi w4 (n_v vs 0) 14) (w_fi w4 (n_v vs 0) 15) (w_ei ws (w_ar ws (n_v vs 0) 1)) (w_ei w1 (w_ar ws (n_v vs 0) 1)) (w_ei w2 (w_ar ws (n_v vs 0) 1)) (w_ei w3 (w_ar ws (n_v vs 0) 1)) (w_ei w4 (w_ar ws (n_v vs 0) 1)) (w_ei ws (w_ar ws (n_v vs 0) 2)) (w_ei w1 (w_ar ws (n_v vs 0) 2)) (w_ei w2 (w_ar ws (n_v vs 0) 2)) (w_ei w3 (w_ar ws (n_v vs 0) 2)) (w_ei w4 (w_ar ws (n_v vs 0) 2)) (w_ei ws (w_ar ws (n_v vs 0) 3)) (w_ei w1 (w_ar ws (n_v vs 0) 3)) (w_ei w2 (w_ar ws (n_v vs 0) 3)) (w_ei w3 (w_ar ws (n_v vs 0) 3)) (w_ei w4 (w_ar ws (n_v vs 0) 3)) (w_ei ws (w_ar ws (n_v vs 0) 4)) (w_ei w1 (w_ar ws (n_v vs 0) 4)) (w_ei w2 (w_ar ws (n_v vs 0) 4)) (w_ei w3 (w_ar ws (n_v vs 0) 4)) (w_ei w4 (w_ar ws (n_v vs 0) 4)) k1 k2 k3 k7 k9 k11 k12 k14 k16 k17 k19 k20 k22 k23 k24 k26 k27 d3 d7 d11 d15 d16 d17 f1 g3 f6 f9 f12 h16 f18 f19 f21 f22 fe_0_5_1 fe_0_8_1 fe_0_10_1 fe_0_11_1 fe_0_12_1 fe_0_13_1 fe_0_14_1 fe_0_15_1 fe_0_5_2 fe_0_8_2 fe_0_10_2 fe_0_11_2 fe_0_12_2 fe_0_13_2 fe_0_14_2 fe_0_15_2 fe_0_5_3 fe_0_8_3 fe_0_10_3 fe_0_11_3 fe_0_12_3 fe_0_13_3 fe_0_14_3 fe_0_15_3 fe_0_5_4 fe_0_8_4 fe_0_10_4 fe_0_11_4 fe_0_12_4 fe_0_13_4 fe_0_14_4 fe_0_15_4 fe_0_5_5 fe_0_8_5 fe_0_10_5 fe_0_11_5 fe_0_12_5 fe_0_13_5 fe_0_14_5 fe_0_15_5 hE_0_1_1 hE_0_1_2 hE_0_1_3 hE_0_1_4 hE_0_1_5 hE_0_2_1 hE_0_2_2 hE_0_2_3 hE_0_2_4 hE_0_2_5 hE_0_3_1 hE_0_3_2 hE_0_3_3 hE_0_3_4 hE_0_3_5 hE_0_4_1 hE_0_4_2 hE_0_4_3 hE_0_4_4 hE_0_4_5 kz_0_8 kz_0_10 kz_0_11 kz_0_12 kz_0_13 kz_0_14 kz_0_15)⟩
  have nf2 : fc_1 PRD (20, [4, 0], [50, 1, 1, 1005, 1002, 0, 6, 4, 2, 1, 0, 0, 1, 3, 1, 2, 4, 3, 2, 1, 5, 0, 2]) ws (vs) := ⟨nf_in hl rfl, sgq_1009 (vc_Mo_newEdge_at_g0_2_2 (v_iv (n_v vs 1)) (v_iv (n_v vs 2)) (v_iv (n_v vs 3)) (v_iv (n_v vs 4)) (v_iv (n_v vs 7)) (v_iv (n_v vs 9)) (v_iv (n_v vs 11)) (v_iv (n_v vs 14)) (v_iv (n_v vs 16)) (v_iv (n_v vs 17)) (v_iv (n_v vs 19)) (v_iv (n_v vs 20)) (v_iv (n_v vs 22)) (v_iv (n_v vs 23)) (v_iv (n_v vs 24)) (v_iv (n_v vs 26)) (v_iv (n_v vs 27)) (w_fi w1 (n_v vs 0) 5) (w_ei w5 (w_ar ws (n_v vs 0) 2)) (w_fi ws (n_v vs 0) 5) (w_ei w5 (w_ar ws (n_v vs 0) 3)) (w_ei w5 (w_ar ws (n_v vs 0) 4)) (w_fi w5 (n_v vs 0) 5) (w_ei w5 (w_ar ws (n_v vs 0) 1)) (w_fi w5 (n_v vs 0) 10) (w_fi w5 (n_v vs 0) 11) (w_fi w5 (n_v vs 0) 12) (w_fi w5 (n_v vs 0) 13) (w_fi w5 (n_v vs 0) 14) (w_fi w5 (n_v vs 0) 15) (w_fi w5 (n_v vs 0) 8) (w_fi ws (n_v vs 0) 8) (w_fi w1 (n_v vs 0) 8) (w_fi ws (n_v vs 0) 10) (w_fi w1 (n_v vs 0) 10) (w_fi ws (n_v vs 0) 11) (w_fi w1 (n_v vs 0) 11) (w_fi ws (n_v vs 0) 12) (w_fi w1 (n_v vs 0) 12) (w_fi ws (n_v vs 0) 13) (w_fi w1 (n_v vs 0) 13) (w_fi ws (n_v vs 0) 14) (w_fi w1 (n_v vs 0) 14) (w_fi ws (n_v vs 0) 15) (w_fi w1 (n_v vs 0) 15) (w_fi w2 (n_v vs 0) 5) (w_fi w2 (n_v vs 0) 8) (w_fi w2 (n_v vs 0) 10) (w_fi w2 (n_v vs 0) 11) (w_fi w2 (n_v vs 0) 12) (w_fi w2 (n_v vs 0) 13) (w_fi w2 (n_v vs 0) 14) (w_fi w2 (n_v vs 0) 15) (w_fi w3 (n_v vs 0) 5) (w_fi w3 (n_v vs 0) 8) (w_fi w3 (n_v vs 0) 10) (w_fi w3 (n_v vs 0) 11) (w_fi w3 (n_v vs 0) 12) (w_fi w3 (n_v vs 0) 13) (w_fi w3 (n_v vs 0) 14) (w_fi w3 (n_v vs 0) 15) (w_fi w4 (n_v vs 0) 5) (w_fi w4 (n_v vs 0) 8) (w_fi w4 (n_v vs 0) 10) (w_fi w4 (n_v vs 0) 11) (w_fi w4 (n_v vs 0) 12) (w_fi w4 (n_v vs 0) 13) (w_fi w4 (n_v vs 0) 14) (w_fi w4 (n_v vs 0) 15) (w_ei ws (w_ar ws (n_v vs 0) 1)) (w_ei w1 (w_ar ws (n_v vs 0) 1)) (w_ei w2 (w_ar ws (n_v vs 0) 1)) (w_ei w3 (w_ar ws (n_v vs 0) 1)) (w_ei w4 (w_ar ws (n_v vs 0) 1)) (w_ei ws (w_ar ws (n_v vs 0) 2)) (w_ei w1 (w_ar ws (n_v vs 0) 2)) (w_ei w2 (w_ar ws (n_v vs 0) 2)) (w_ei w3 (w_ar ws (n_v vs 0) 2)) (w_ei w4 (w_ar ws (n_v vs 0) 2)) (w_ei ws (w_ar ws (n_v vs 0) 3)) (w_ei w1 (w_ar ws (n_v vs 0) 3)) (w_ei w2 (w_ar ws (n_v vs 0) 3)) (w_ei w3 (w_ar ws (n_v vs 0) 3)) (w_ei w4 (w_ar ws (n_v vs 0) 3)) (w_ei ws (w_ar ws (n_v vs 0) 4)) (w_ei w1 (w_ar ws (n_v vs 0) 4)) (w_ei w2 (w_ar ws (n_v vs 0) 4)) (w_ei w3 (w_ar ws (n_v vs 0) 4)) (w_ei w4 (w_ar ws (n_v vs 0) 4)) k1 k2 k3 k4 k7 k9 k11 k14 k16 k17 k19 k20 k22 k23 k24 k26 k27 d3 d7 d11 d14 d15 d17 f1 g3 f6 f9 f12 f18 f19 f23 fe_0_5_1 fe_0_8_1 fe_0_10_1 fe_0_11_1 fe_0_12_1 fe_0_13_1 fe_0_14_1 fe_0_15_1 fe_0_5_2 fe_0_8_2 fe_0_10_2 fe_0_11_2 fe_0_12_2 fe_0_13_2 fe_0_14_2 fe_0_15_2 fe_0_5_3 fe_0_8_3 fe_0_10_3 fe_0_11_3 fe_0_12_3 fe_0_13_3 fe_0_14_3 fe_0_15_3 fe_0_5_4 fe_0_8_4 fe_0_10_4 fe_0_11_4 fe_0_12_4 fe_0_13_4 fe_0_14_4 fe_0_15_4 fe_0_5_5 fe_0_8_5 fe_0_10_5 fe_0_11_5 fe_0_12_5 fe_0_13_5 fe_0_14_5 fe_0_15_5 hE_0_1_1 hE_0_1_2 hE_0_1_3 hE_0_1_4 hE_0_1_5 hE_0_2_1 hE_0_2_2 hE_0_2_3 hE_0_2_4 hE_0_2_5 hE_0_3_1 hE_0_3_2 hE_0_3_3 hE_0_3_4 hE_0_3_5 hE_0_4_1 hE_0_4_2 hE_0_4_3 hE_0_4_4 hE_0_4_5 kz_0_8 kz_0_10 kz_0_11 kz_0_12 kz_0_13 kz_0_14 kz_0_15)⟩
  have nf3 : fc_1 PRD (20, [0, 2, 6, 4, 5], [60, 8, 2, 968, 10, 11, 12, 13, 14, 15, 8, 5, 1, 2]) ws (vs) := ⟨nf_in hl rfl, sgq_1011 (vc_Mo_newEdge_at_g0_2_3 (v_iv (n_v vs 1)) (v_iv (n_v vs 2)) (v_iv (n_v vs 3)) (v_iv (n_v vs 4)) (v_iv (n_v vs 5)) (v_iv (n_v vs 6)) (v_iv (n_v vs 7)) (v_iv (n_v vs 9)) (v_iv (n_v vs 11)) (v_iv (n_v vs 12)) (v_iv (n_v vs 14)) (v_iv (n_v vs 16)) (v_iv (n_v vs 17)) (v_iv (n_v vs 19)) (v_iv (n_v vs 20)) (v_iv (n_v vs 22)) (v_iv (n_v vs 23)) (v_iv (n_v vs 24)) (v_iv (n_v vs 26)) (v_iv (n_v vs 27)) (w_fi w1 (n_v vs 0) 5) (w_ei w5 (w_ar ws (n_v vs 0) 2)) (w_fi ws (n_v vs 0) 5) (w_ei w5 (w_ar ws (n_v vs 0) 3)) (w_ei w5 (w_ar ws (n_v vs 0) 4)) (w_fi w5 (n_v vs 0) 5) (w_ei w5 (w_ar ws (n_v vs 0) 1)) (w_fi w5 (n_v vs 0) 10) (w_fi w5 (n_v vs 0) 11) (w_fi w5 (n_v vs 0) 12) (w_fi w5 (n_v vs 0) 13) (w_fi w5 (n_v vs 0) 14) (w_fi w5 (n_v vs 0) 15) (w_fi w5 (n_v vs 0) 8) (w_fi ws (n_v vs 0) 8) (w_fi w1 (n_v vs 0) 8) (w_fi ws (n_v vs 0) 10) (w_fi w1 (n_v vs 0) 10) (w_fi ws (n_v vs 0) 11) (w_fi w1 (n_v vs 0) 11) (w_fi ws (n_v vs 0) 12) (w_fi w1 (n_v vs 0) 12) (w_fi ws (n_v vs 0) 13) (w_fi w1 (n_v vs 0) 13) (w_fi ws (n_v vs 0) 14) (w_fi w1 (n_v vs 0) 14) (w_fi ws (n_v vs 0) 15) (w_fi w1 (n_v vs 0) 15) (w_fi w2 (n_v vs 0) 5) (w_fi w2 (n_v vs 0) 8) (w_fi w2 (n_v vs 0) 10) (w_fi w2 (n_v vs 0) 11) (w_fi w2 (n_v vs 0) 12) (w_fi w2 (n_v vs 0) 13) (w_fi w2 (n_v vs 0) 14) (w_fi w2 (n_v vs 0) 15) (w_fi w3 (n_v vs 0) 5) (w_fi w3 (n_v vs 0) 8) (w_fi w3 (n_v vs 0) 10) (w_fi w3 (n_v vs 0) 11) (w_fi w3 (n_v vs 0) 12) (w_fi w3 (n_v vs 0) 13) (w_fi w3 (n_v vs 0) 14) (w_fi w3 (n_v vs 0) 15) (w_fi w4 (n_v vs 0) 5) (w_fi w4 (n_v vs 0) 8) (w_fi w4 (n_v vs 0) 10) (w_fi w4 (n_v vs 0) 11) (w_fi w4 (n_v vs 0) 12) (w_fi w4 (n_v vs 0) 13) (w_fi w4 (n_v vs 0) 14) (w_fi w4 (n_v vs 0) 15) (w_ei ws (w_ar ws (n_v vs 0) 1)) (w_ei w1 (w_ar ws (n_v vs 0) 1)) (w_ei w2 (w_ar ws (n_v vs 0) 1)) (w_ei w3 (w_ar ws (n_v vs 0) 1)) (w_ei w4 (w_ar ws (n_v vs 0) 1)) (w_ei ws (w_ar ws (n_v vs 0) 2)) (w_ei w1 (w_ar ws (n_v vs 0) 2)) (w_ei w2 (w_ar ws (n_v vs 0) 2)) (w_ei w3 (w_ar ws (n_v vs 0) 2)) (w_ei w4 (w_ar ws (n_v vs 0) 2)) (w_ei ws (w_ar ws (n_v vs 0) 3)) (w_ei w1 (w_ar ws (n_v vs 0) 3)) (w_ei w2 (w_ar ws (n_v vs 0) 3)) (w_ei w3 (w_ar ws (n_v vs 0) 3)) (w_ei w4 (w_ar ws (n_v vs 0) 3)) (w_ei ws (w_ar ws (n_v vs 0) 4)) (w_ei w1 (w_ar ws (n_v vs 0) 4)) (w_ei w2 (w_ar ws (n_v vs 0) 4)) (w_ei w3 (w_ar ws (n_v vs 0) 4)) (w_ei w4 (w_ar ws (n_v vs 0) 4)) k1 k2 k3 k4 k5 k6 k7 k9 k11 k12 k14 k16 k17 k19 k20 k22 k23 k24 k26 k27 d3 d7 d11 d14 d15 d16 d17 f1 g3 f6 f9 f12 h16 f18 f19 f24 fe_0_5_1 fe_0_8_1 fe_0_10_1 fe_0_11_1 fe_0_12_1 fe_0_13_1 fe_0_14_1 fe_0_15_1 fe_0_5_2 fe_0_8_2 fe_0_10_2 fe_0_11_2 fe_0_12_2 fe_0_13_2 fe_0_14_2 fe_0_15_2 fe_0_5_3 fe_0_8_3 fe_0_10_3 fe_0_11_3 fe_0_12_3 fe_0_13_3 fe_0_14_3 fe_0_15_3 fe_0_5_4 fe_0_8_4 fe_0_10_4 fe_0_11_4 fe_0_12_4 fe_0_13_4 fe_0_14_4 fe_0_15_4 fe_0_5_5 fe_0_8_5 fe_0_10_5 fe_0_11_5 fe_0_12_5 fe_0_13_5 fe_0_14_5 fe_0_15_5 hE_0_1_1 hE_0_1_2 hE_0_1_3 hE_0_1_4 hE_0_1_5 hE_0_2_1 hE_0_2_2 hE_0_2_3 hE_0_2_4 hE_0_2_5 hE_0_3_1 hE_0_3_2 hE_0_3_3 hE_0_3_4 hE_0_3_5 hE_0_4_1 hE_0_4_2 hE_0_4_3 hE_0_4_4 hE_0_4_5 kz_0_8 kz_0_10 kz_0_11 kz_0_12 kz_0_13 kz_0_14 kz_0_15)⟩
  refine ⟨(fun _ h => (by cases h)), [], trivial, ?_, (fun _ h => (by cases h))⟩
  rw [List.append_nil]
  exact List.forall_mem_cons.mpr ⟨⟨show (20 : Nat) < 100 from by decide, nf0⟩, List.forall_mem_cons.mpr ⟨⟨show (20 : Nat) < 100 from by decide, nf1⟩, List.forall_mem_cons.mpr ⟨⟨show (20 : Nat) < 100 from by decide, nf2⟩, List.forall_mem_cons.mpr ⟨⟨show (20 : Nat) < 100 from by decide, nf3⟩, (fun _ h => (by cases h))⟩⟩⟩⟩
def n_Mo_newEdge_at_g0_an : List an_T := []
def t_Mo_newEdge_at_g0_ct : ct_L := [(1, 401, e_Mo_edges)]
set_option maxRecDepth 100000 in
theorem c_Mo_newEdge_at_g0 {l : Launch} {D : va_G} {kA : Nat → ClassId} (h_Mo_edges : ct_ok PRD l D kA GG y_Mo_edges z_Mo_edges e_Mo_edges) : ct_ok PRD l D kA GG y_Mo_newEdge_at_g0 z_Mo_newEdge_at_g0 e_Mo_newEdge_at_g0 := chk_all_ok (FT := [(16, 13, 2), (391, 13, 5)]) (PT := []) (CT := t_Mo_newEdge_at_g0_ct) (KT := []) (NT := []) (AN := n_Mo_newEdge_at_g0_an) (OT := [o_Mo_newEdge_at_g0_0, o_Mo_newEdge_at_g0_1, o_Mo_newEdge_at_g0_2]) 0 220 (List.forall_mem_cons.mpr ⟨oo_Mo_newEdge_at_g0_0, List.forall_mem_cons.mpr ⟨oo_Mo_newEdge_at_g0_1, List.forall_mem_cons.mpr ⟨oo_Mo_newEdge_at_g0_2, List.forall_mem_nil _⟩⟩⟩) (by decide +kernel) ⟨List.forall_mem_cons.mpr ⟨gf_Mo_16, List.forall_mem_cons.mpr ⟨gf_Mo_391, List.forall_mem_nil _⟩⟩, List.forall_mem_nil _, List.forall_mem_cons.mpr ⟨cl_virtual (y := y_Mo_edges) (ci := 13) rfl rfl ⟨_, _, rfl⟩ (by decide +kernel) h_Mo_edges wm_3037 wm_9 wm_3034 wm_3036 wv_13_6 ⟨by decide, by decide, by decide +kernel⟩ (by decide), List.forall_mem_nil _⟩, List.forall_mem_nil _, List.forall_mem_nil _, GG_pl⟩ (by decide +kernel)
def o_Mo_newEdge_at_gx_0 : or_T := (4, 5, [(0, (2, 0, 0, [165])), (1, (0, 0, 23, [])), (2, (0, 0, 23, [])), (4, (0, 0, 48, []))], [(20, [4, 0], [30, 0, 1, 0, 0, -1, 3, 2005001]), (20, [4, 0], [30, 0, -1, 0, 0, 1, 3, 2005001]), (20, [0], [30, 47, 1, 3, 2005001]), (20, [0], [60, 1, 3, 199, 5, 2, 3, 4]), (20, [0, 1, 2], [60, 1, 1, 203, 5, 2])], [(4, (0, 0, 47, []))], [], [], [], [])
theorem oo_Mo_newEdge_at_gx_0 {kA : Nat → ClassId} : or_ok PRD kA GG o_Mo_newEdge_at_gx_0 := by
  refine or_mk fun A ta ws vs hD hth hl => ?_
  intro t0 r0 t1 k1 t2 k2 t4 k4 f0 f1 f2 f3 f4
  replace f0 := shm_121 f0
  replace f1 := shm_122 f1
  replace f2 := shm_1007 f2
  replace f3 := shm_980 f3
  replace f4 := shm_1008 f4
  have cr_0_2 := fdq_10 hD hth r0
  have cr_0_3 := fdq_142 hD hth r0
  have cr_0_4 := fdq_143 hD hth r0
  have br_0_2_F5_1_0 : w_ei ws (w_ar ws (n_v vs 0) 2) (w_fi ws (n_v vs 0) 5 + 1) = w_el ws (w_ar ws (n_v vs 0) 2) (w_fi ws (n_v vs 0) 5 + 1).toNat := rfl
  have hK_0_3 := elq_80 hD hth cr_0_3
  have hK_0_4 := elq_81 hD hth cr_0_4
  have rf4 : tv_ok ta (0, 0, 47, []) (n_v vs 4) := tv_in t4 (by first | omega | grind) (by first | omega | grind)
  refine ⟨List.forall_mem_cons.mpr ⟨rf4, (fun _ h => (by cases h))⟩, [], trivial, ?_, (fun _ h => (by cases h))⟩
  rw [List.append_nil]
  exact (fun _ h => (by cases h))
def o_Mo_newEdge_at_gx_1 : or_T := (18, 10, [(0, (2, 0, 0, [165])), (1, (0, 0, 23, [])), (2, (0, 0, 23, [])), (4, (0, 0, 47, [])), (5, (2, 0, 0, [167])), (6, (0, 0, 66297, [])), (7, (0, 1, 1, [])), (8, (0, 1, 66298, [])), (9, (0, 0, 48, []))], [(10, [9, 5, 8], []), (1, [8, 6, 7], []), (9, [6, 0], [5]), (9, [5, 0], [2]), (20, [4, 0], [30, 0, 1, 0, 0, -1, 3, 2005001]), (20, [4, 0], [30, 0, -1, 0, 0, 1, 3, 2005001]), (20, [0], [30, 47, 1, 3, 2005001]), (20, [0], [60, 1, 3, 199, 5, 2, 3, 4]), (20, [0, 1, 2], [60, 1, 1, 203, 5, 2])], [(9, (0, 0, 47, []))], [], [], [], [(8, 6, 1, 1)])
theorem oo_Mo_newEdge_at_gx_1 {kA : Nat → ClassId} : or_ok PRD kA GG o_Mo_newEdge_at_gx_1 := by
  refine or_mk fun A ta ws vs hD hth hl => ?_
  intro t0 r0 t1 k1 t2 k2 t4 k4 t5 r5 t6 k6 t7 k7 t8 k8 t9 k9 d0 f0 f1 f2 f3 f4 f5 f6 f7 f8
  replace f0 := shm_107 f0
  replace f1 := shm_12 f1
  replace f2 := shm_110 f2
  replace f3 := shm_120 f3
  replace f4 := shm_121 f4
  replace f5 := shm_122 f5
  replace f6 := shm_1007 f6
  replace f7 := shm_980 f7
  replace f8 := shm_1008 f8
  have cr_0_2 := fdq_10 hD hth r0
  have cr_0_3 := fdq_142 hD hth r0
  have cr_0_4 := fdq_143 hD hth r0
  have ad_5 : v_ad (n_v vs 5) = w_ar ws (n_v vs 0) 2 := congrArg v_ad f3
  simp only [ad_5] at f0
  have h0 : v_iv (n_v vs 9) = w_ei ws (w_ar ws (n_v vs 0) 2) (v_iv (n_v vs 8)) := f0
  have g2 : v_iv (n_v vs 6) = w_fi ws (n_v vs 0) 5 := congrArg v_iv f2
  have cg0_F5_1 : v_iv (n_v vs 8) = w_fi ws (n_v vs 0) 5 + 1 → w_el ws (w_ar ws (n_v vs 0) 2) (v_iv (n_v vs 8)).toNat = w_el ws (w_ar ws (n_v vs 0) 2) (w_fi ws (n_v vs 0) 5 + 1).toNat := fun h => by rw [h]
  have br_0_2_F5_1_0 : w_ei ws (w_ar ws (n_v vs 0) 2) (w_fi ws (n_v vs 0) 5 + 1) = w_el ws (w_ar ws (n_v vs 0) 2) (w_fi ws (n_v vs 0) 5 + 1).toNat := rfl
  have br_0_2_8_0 : w_ei ws (w_ar ws (n_v vs 0) 2) (v_iv (n_v vs 8)) = w_el ws (w_ar ws (n_v vs 0) 2) (v_iv (n_v vs 8)).toNat := rfl
  have hK_0_3 := elq_80 hD hth cr_0_3
  have hK_0_4 := elq_81 hD hth cr_0_4
  have rf9 : tv_ok ta (0, 0, 47, []) (n_v vs 9) := tv_in t9 (by first | omega | grind) (by first | omega | grind)
  refine ⟨List.forall_mem_cons.mpr ⟨rf9, (fun _ h => (by cases h))⟩, [], trivial, ?_, (fun _ h => (by cases h))⟩
  rw [List.append_nil]
  exact (fun _ h => (by cases h))
set_option maxHeartbeats 4000000 in
theorem vc_Mo_newEdge_at_gx_2_0 (x1 : Int) (x2 : Int) (x3 : Int) (x4 : Int) (x6 : Int) (x8 : Int) (x9 : Int) (x11 : Int) (x13 : Int) (x14 : Int) (x16 : Int) (x17 : Int) (x19 : Int) (x20 : Int) (x21 : Int) (x23 : Int) (x24 : Int) (r_1 : Int) (all_5 : Int → Int) (r_0 : Int) (now_5 : Int → Int) (latest_5 : Int → Int) (r_5 : Int) (r_2 : Int) (r_3 : Int) (r_4 : Int) (all_0 : Int → Int) (all_1 : Int → Int) (all_2 : Int → Int) (all_3 : Int → Int) (all_4 : Int → Int) (now_0 : Int → Int) (now_1 : Int → Int) (now_2 : Int → Int) (now_3 : Int → Int) (now_4 : Int → Int) (latest_0 : Int → Int) (latest_1 : Int → Int) (latest_2 : Int → Int) (latest_3 : Int → Int) (latest_4 : Int → Int) (k1 : 0 ≤ x1 ∧ x1 ≤ 23) (k2 : 0 ≤ x2 ∧ x2 ≤ 23) (k3 : 0 ≤ x3 ∧ x3 ≤ 0) (k4 : 0 ≤ x4 ∧ x4 ≤ 47) (k6 : 0 ≤ x6 ∧ x6 ≤ 66297) (k8 : 1 ≤ x8 ∧ x8 ≤ 66298) (k9 : 0 ≤ x9 ∧ x9 ≤ 47) (k11 : 1 ≤ x11 ∧ x11 ≤ 48) (k13 : 267 ≤ x13 ∧ x13 ≤ 66564) (k14 : 267 ≤ x14 ∧ x14 ≤ 66611) (k16 : 315 ≤ x16 ∧ x16 ≤ 66612) (k17 : 315 ≤ x17 ∧ x17 ≤ 66659) (k19 : 363 ≤ x19 ∧ x19 ≤ 66660) (k20 : 363 ≤ x20 ∧ x20 ≤ 66707) (k21 : 1 ≤ x21 ∧ x21 ≤ 1) (k23 : 411 ≤ x23 ∧ x23 ≤ 66708) (k24 : 411 ≤ x24 ∧ x24 ≤ 66755) (d3 : x6 + 411 ≤ x23 ∧ x23 ≤ x6 + 411) (d7 : x6 + 363 ≤ x19 ∧ x19 ≤ x6 + 363) (d11 : x6 + 315 ≤ x16 ∧ x16 ≤ x6 + 315) (d15 : x6 + 267 ≤ x13 ∧ x13 ≤ x6 + 267) (d16 : x9 + 1 ≤ x11 ∧ x11 ≤ x9 + 1) (d17 : x6 + 1 ≤ x8 ∧ x8 ≤ x6 + 1) (f1 : x24 = x23 + x4) (g3 : x6 = r_1) (f6 : x20 = x19 + x4) (f9 : x17 = x16 + x4) (f12 : x14 = x13 + x4) (h16 : x9 = all_5 (x8)) (f18 : 1 * x4 + ((-1) * all_5 (r_0 + 1) + 0) ≤ 0) (f19 : (-1) * x4 + (1 * all_5 (r_0 + 1) + 0) ≤ 0) (f21 : RWS (r_5) (all_5) (now_5) (latest_5)) (f22 : NWE (r_5) (all_5) (x1) (x2)) (fe_0_5_1 : r_0 = r_1) (fe_0_5_2 : r_1 = r_2) (fe_0_5_3 : r_2 = r_3) (fe_0_5_4 : r_3 = r_4) (fe_0_5_5 : r_4 = r_5) (hE_0_2_1 : ∀ j : Int, 0 ≤ j → (j = x24 → all_0 j = x3) ∧ (j ≠ x24 → all_0 j = all_1 j)) (hE_0_2_2 : ∀ j : Int, 0 ≤ j → (j = x20 → all_1 j = x21) ∧ (j ≠ x20 → all_1 j = all_2 j)) (hE_0_2_3 : ∀ j : Int, 0 ≤ j → (j = x17 → all_2 j = x2) ∧ (j ≠ x17 → all_2 j = all_3 j)) (hE_0_2_4 : ∀ j : Int, 0 ≤ j → (j = x14 → all_3 j = x1) ∧ (j ≠ x14 → all_3 j = all_4 j)) (hE_0_2_5 : ∀ j : Int, 0 ≤ j → (j = x8 → all_4 j = x11) ∧ (j ≠ x8 → all_4 j = all_5 j)) (hE_0_3_1 : ∀ j : Int, now_0 j = now_1 j) (hE_0_3_2 : ∀ j : Int, now_1 j = now_2 j) (hE_0_3_3 : ∀ j : Int, now_2 j = now_3 j) (hE_0_3_4 : ∀ j : Int, now_3 j = now_4 j) (hE_0_3_5 : ∀ j : Int, now_4 j = now_5 j) (hE_0_4_1 : ∀ j : Int, latest_0 j = latest_1 j) (hE_0_4_2 : ∀ j : Int, latest_1 j = latest_2 j) (hE_0_4_3 : ∀ j : Int, latest_2 j = latest_3 j) (hE_0_4_4 : ∀ j : Int, latest_3 j = latest_4 j) (hE_0_4_5 : ∀ j : Int, latest_4 j = latest_5 j) : RWS (r_0) (all_0) (now_0) (latest_0) := by
  subst fe_0_5_1
  subst fe_0_5_2
  subst fe_0_5_3
  subst fe_0_5_4
  subst fe_0_5_5
  have e_hE_0_3_1 := funext hE_0_3_1; subst e_hE_0_3_1
  have e_hE_0_3_2 := funext hE_0_3_2; subst e_hE_0_3_2
  have e_hE_0_3_3 := funext hE_0_3_3; subst e_hE_0_3_3
  have e_hE_0_3_4 := funext hE_0_3_4; subst e_hE_0_3_4
  have e_hE_0_3_5 := funext hE_0_3_5; subst e_hE_0_3_5
  have e_hE_0_4_1 := funext hE_0_4_1; subst e_hE_0_4_1
  have e_hE_0_4_2 := funext hE_0_4_2; subst e_hE_0_4_2
  have e_hE_0_4_3 := funext hE_0_4_3; subst e_hE_0_4_3
  have e_hE_0_4_4 := funext hE_0_4_4; subst e_hE_0_4_4
  have e_hE_0_4_5 := funext hE_0_4_5; subst e_hE_0_4_5
  try simp only [Int.add_zero] at *
  exact (rws_newEdge ‹RWS _ _ _ _› ‹NWE _ _ _ _› (by assumption) (by assumption) (by assumption) (by assumption) (by assumption) (by omega) (by omega) (by omega) (by omega) (by omega) (by omega) (by omega) (by omega)).1
set_option maxHeartbeats 4000000 in
theorem vc_Mo_newEdge_at_gx_2_1 (x1 : Int) (x2 : Int) (x3 : Int) (x4 : Int) (x6 : Int) (x8 : Int) (x9 : Int) (x11 : Int) (x13 : Int) (x14 : Int) (x16 : Int) (x17 : Int) (x19 : Int) (x20 : Int) (x21 : Int) (x23 : Int) (x24 : Int) (r_1 : Int) (all_5 : Int → Int) (r_0 : Int) (now_5 : Int → Int) (latest_5 : Int → Int) (r_5 : Int) (r_2 : Int) (r_3 : Int) (r_4 : Int) (all_0 : Int → Int) (all_1 : Int → Int) (all_2 : Int → Int) (all_3 : Int → Int) (all_4 : Int → Int) (now_0 : Int → Int) (now_1 : Int → Int) (now_2 : Int → Int) (now_3 : Int → Int) (now_4 : Int → Int) (latest_0 : Int → Int) (latest_1 : Int → Int) (latest_2 : Int → Int) (latest_3 : Int → Int) (latest_4 : Int → Int) (k1 : 0 ≤ x1 ∧ x1 ≤ 23) (k2 : 0 ≤ x2 ∧ x2 ≤ 23) (k3 : 0 ≤ x3 ∧ x3 ≤ 0) (k4 : 0 ≤ x4 ∧ x4 ≤ 47) (k6 : 0 ≤ x6 ∧ x6 ≤ 66297) (k8 : 1 ≤ x8 ∧ x8 ≤ 66298) (k9 : 0 ≤ x9 ∧ x9 ≤ 47) (k11 : 1 ≤ x11 ∧ x11 ≤ 48) (k13 : 267 ≤ x13 ∧ x13 ≤ 66564) (k14 : 267 ≤ x14 ∧ x14 ≤ 66611) (k16 : 315 ≤ x16 ∧ x16 ≤ 66612) (k17 : 315 ≤ x17 ∧ x17 ≤ 66659) (k19 : 363 ≤ x19 ∧ x19 ≤ 66660) (k20 : 363 ≤ x20 ∧ x20 ≤ 66707) (k21 : 1 ≤ x21 ∧ x21 ≤ 1) (k23 : 411 ≤ x23 ∧ x23 ≤ 66708) (k24 : 411 ≤ x24 ∧ x24 ≤ 66755) (d3 : x6 + 411 ≤ x23 ∧ x23 ≤ x6 + 411) (d7 : x6 + 363 ≤ x19 ∧ x19 ≤ x6 + 363) (d11 : x6 + 315 ≤ x16 ∧ x16 ≤ x6 + 315) (d15 : x6 + 267 ≤ x13 ∧ x13 ≤ x6 + 267) (d16 : x9 + 1 ≤ x11 ∧ x11 ≤ x9 + 1) (d17 : x6 + 1 ≤ x8 ∧ x8 ≤ x6 + 1) (f1 : x24 = x23 + x4) (g3 : x6 = r_1) (f6 : x20 = x19 + x4) (f9 : x17 = x16 + x4) (f12 : x14 = x13 + x4) (h16 : x9 = all_5 (x8)) (f18 : 1 * x4 + ((-1) * all_5 (r_0 + 1) + 0) ≤ 0) (f19 : (-1) * x4 + (1 * all_5 (r_0 + 1) + 0) ≤ 0) (f21 : RWS (r_5) (all_5) (now_5) (latest_5)) (f22 : NWE (r_5) (all_5) (x1) (x2)) (fe_0_5_1 : r_0 = r_1) (fe_0_5_2 : r_1 = r_2) (fe_0_5_3 : r_2 = r_3) (fe_0_5_4 : r_3 = r_4) (fe_0_5_5 : r_4 = r_5) (hE_0_2_1 : ∀ j : Int, 0 ≤ j → (j = x24 → all_0 j = x3) ∧ (j ≠ x24 → all_0 j = all_1 j)) (hE_0_2_2 : ∀ j : Int, 0 ≤ j → (j = x20 → all_1 j = x21) ∧ (j ≠ x20 → all_1 j = all_2 j)) (hE_0_2_3 : ∀ j : Int, 0 ≤ j → (j = x17 → all_2 j = x2) ∧ (j ≠ x17 → all_2 j = all_3 j)) (hE_0_2_4 : ∀ j : Int, 0 ≤ j → (j = x14 → all_3 j = x1) ∧ (j ≠ x14 → all_3 j = all_4 j)) (hE_0_2_5 : ∀ j : Int, 0 ≤ j → (j = x8 → all_4 j = x11) ∧ (j ≠ x8 → all_4 j = all_5 j)) (hE_0_3_1 : ∀ j : Int, now_0 j = now_1 j) (hE_0_3_2 : ∀ j : Int, now_1 j = now_2 j) (hE_0_3_3 : ∀ j : Int, now_2 j = now_3 j) (hE_0_3_4 : ∀ j : Int, now_3 j = now_4 j) (hE_0_3_5 : ∀ j : Int, now_4 j = now_5 j) (hE_0_4_1 : ∀ j : Int, latest_0 j = latest_1 j) (hE_0_4_2 : ∀ j : Int, latest_1 j = latest_2 j) (hE_0_4_3 : ∀ j : Int, latest_2 j = latest_3 j) (hE_0_4_4 : ∀ j : Int, latest_3 j = latest_4 j) (hE_0_4_5 : ∀ j : Int, latest_4 j = latest_5 j) : NDA (r_0) (all_0) (x2) := by
  subst fe_0_5_1
  subst fe_0_5_2
  subst fe_0_5_3
  subst fe_0_5_4
  subst fe_0_5_5
  have e_hE_0_3_1 := funext hE_0_3_1; subst e_hE_0_3_1
  have e_hE_0_3_2 := funext hE_0_3_2; subst e_hE_0_3_2
  have e_hE_0_3_3 := funext hE_0_3_3; subst e_hE_0_3_3
  have e_hE_0_3_4 := funext hE_0_3_4; subst e_hE_0_3_4
  have e_hE_0_3_5 := funext hE_0_3_5; subst e_hE_0_3_5
  have e_hE_0_4_1 := funext hE_0_4_1; subst e_hE_0_4_1
  have e_hE_0_4_2 := funext hE_0_4_2; subst e_hE_0_4_2
  have e_hE_0_4_3 := funext hE_0_4_3; subst e_hE_0_4_3
  have e_hE_0_4_4 := funext hE_0_4_4; subst e_hE_0_4_4
  have e_hE_0_4_5 := funext hE_0_4_5; subst e_hE_0_4_5
  try simp only [Int.add_zero] at *
  have hn := ‹NWE _ _ _ _›
  refine nda_eq ⟨hn.2.2.1, hn.2.2.2.1⟩ (rws_newEdge ‹RWS _ _ _ _› hn (by assumption) (by assumption) (by assumption) (by assumption) (by assumption) (by omega) (by omega) (by omega) (by omega) (by omega) (by omega) (by omega) (by omega)).2
def o_Mo_newEdge_at_gx_2 : or_T := (89, 25, [(0, (2, 0, 0, [165])), (1, (0, 0, 23, [])), (2, (0, 0, 23, [])), (3, (0, 0, 0, [])), (4, (0, 0, 47, [])), (5, (2, 0, 0, [167])), (6, (0, 0, 66297, [])), (8, (0, 1, 66298, [])), (9, (0, 0, 47, [])), (11, (0, 1, 48, [])), (13, (0, 267, 66564, [])), (14, (0, 267, 66611, [])), (16, (0, 315, 66612, [])), (17, (0, 315, 66659, [])), (19, (0, 363, 66660, [])), (20, (0, 363, 66707, [])), (21, (0, 1, 1, [])), (23, (0, 411, 66708, [])), (24, (0, 411, 66755, []))], [(100, [5, 24, 3], []), (1, [24, 23, 4], []), (9, [6, 0], [5]), (9, [5, 0], [2]), (100, [5, 20, 21], []), (1, [20, 19, 4], []), (100, [5, 17, 2], []), (1, [17, 16, 4], []), (100, [5, 14, 1], []), (1, [14, 13, 4], []), (100, [5, 8, 11], []), (10, [9, 5, 8], []), (20, [4, 0], [30, 0, 1, 0, 0, -1, 3, 2005001]), (20, [4, 0], [30, 0, -1, 0, 0, 1, 3, 2005001]), (20, [0], [60, 1, 3, 199, 5, 2, 3, 4]), (20, [0, 1, 2], [60, 1, 1, 203, 5, 2])], [], [], [(20, [0], [60, 1, 3, 199, 5, 2, 3, 4]), (20, [0, 2], [60, 1, 1, 208, 5, 2])], [], [(24, 4, 411, 66708), (24, 23, 0, 47), (24, 6, 411, 458), (23, 6, 411, 411), (20, 4, 363, 66660), (20, 19, 0, 47), (20, 6, 363, 410), (19, 6, 363, 363), (17, 4, 315, 66612), (17, 16, 0, 47), (17, 6, 315, 362), (16, 6, 315, 315), (14, 4, 267, 66564), (14, 13, 0, 47), (14, 6, 267, 314), (13, 6, 267, 267), (11, 9, 1, 1), (8, 6, 1, 1)])
theorem oo_Mo_newEdge_at_gx_2 {kA : Nat → ClassId} : or_ok PRD kA GG o_Mo_newEdge_at_gx_2 := by
  refine or_mk fun A ta ws vs hD hth hl => ?_
  intro t0 r0 t1 k1 t2 k2 t3 k3 t4 k4 t5 r5 t6 k6 t8 k8 t9 k9 t11 k11 t13 k13 t14 k14 t16 k16 t17 k17 t19 k19 t20 k20 t21 k21 t23 k23 t24 k24 d0 d1 d2 d3 d4 d5 d6 d7 d8 d9 d10 d11 d12 d13 d14 d15 d16 d17 ta1 w1 le1 s1 f1 f3 f4 ta2 w2 le2 s2 f6 ta3 w3 le3 s3 f9 ta4 w4 le4 s4 f12 ta5 w5 le5 s5 f16 f18 f19 f21 f22
  have s1 : (∀ b j, w_el ws b j = if b = v_ad (n_v vs 5) ∧ j = (v_iv (n_v vs 24)).toNat then v_iv (n_v vs 3) else w_el w1 b j) ∧ ∀ b k, w_fd ws b k = w_fd w1 b k := s1.2
  replace f3 := shm_110 f3
  replace f4 := shm_120 f4
  have s2 : (∀ b j, w_el w1 b j = if b = v_ad (n_v vs 5) ∧ j = (v_iv (n_v vs 20)).toNat then v_iv (n_v vs 21) else w_el w2 b j) ∧ ∀ b k, w_fd w1 b k = w_fd w2 b k := s2.2
  have s3 : (∀ b j, w_el w2 b j = if b = v_ad (n_v vs 5) ∧ j = (v_iv (n_v vs 17)).toNat then v_iv (n_v vs 2) else w_el w3 b j) ∧ ∀ b k, w_fd w2 b k = w_fd w3 b k := s3.2
  have s4 : (∀ b j, w_el w3 b j = if b = v_ad (n_v vs 5) ∧ j = (v_iv (n_v vs 14)).toNat then v_iv (n_v vs 1) else w_el w4 b j) ∧ ∀ b k, w_fd w3 b k = w_fd w4 b k := s4.2
  have s5 : (∀ b j, w_el w4 b j = if b = v_ad (n_v vs 5) ∧ j = (v_iv (n_v vs 8)).toNat then v_iv (n_v vs 11) else w_el w5 b j) ∧ ∀ b k, w_fd w4 b k = w_fd w5 b k := s5.2
  replace f16 := shm_107 f16
  replace f18 := shm_121 f18
  replace f19 := shm_122 f19
  replace f21 := shm_980 f21
  replace f22 := shm_1008 f22
  have ar_0_2_1 : w_ar w1 (n_v vs 0) 2 = w_ar ws (n_v vs 0) 2 := congrArg v_ad (s1.2 _ _).symm
  have ar_0_2_2 : w_ar w2 (n_v vs 0) 2 = w_ar ws (n_v vs 0) 2 := by rw [← ar_0_2_1]; show v_ad (w_fd w2 _ _) = v_ad (w_fd w1 _ _); rw [s2.2]
  have ar_0_2_3 : w_ar w3 (n_v vs 0) 2 = w_ar ws (n_v vs 0) 2 := by rw [← ar_0_2_2]; show v_ad (w_fd w3 _ _) = v_ad (w_fd w2 _ _); rw [s3.2]
  have ar_0_2_4 : w_ar w4 (n_v vs 0) 2 = w_ar ws (n_v vs 0) 2 := by rw [← ar_0_2_3]; show v_ad (w_fd w4 _ _) = v_ad (w_fd w3 _ _); rw [s4.2]
  have ar_0_2_5 : w_ar w5 (n_v vs 0) 2 = w_ar ws (n_v vs 0) 2 := by rw [← ar_0_2_4]; show v_ad (w_fd w5 _ _) = v_ad (w_fd w4 _ _); rw [s5.2]
  have ar_0_3_1 : w_ar w1 (n_v vs 0) 3 = w_ar ws (n_v vs 0) 3 := congrArg v_ad (s1.2 _ _).symm
  have ar_0_3_2 : w_ar w2 (n_v vs 0) 3 = w_ar ws (n_v vs 0) 3 := by rw [← ar_0_3_1]; show v_ad (w_fd w2 _ _) = v_ad (w_fd w1 _ _); rw [s2.2]
  have ar_0_3_3 : w_ar w3 (n_v vs 0) 3 = w_ar ws (n_v vs 0) 3 := by rw [← ar_0_3_2]; show v_ad (w_fd w3 _ _) = v_ad (w_fd w2 _ _); rw [s3.2]
  have ar_0_3_4 : w_ar w4 (n_v vs 0) 3 = w_ar ws (n_v vs 0) 3 := by rw [← ar_0_3_3]; show v_ad (w_fd w4 _ _) = v_ad (w_fd w3 _ _); rw [s4.2]
  have ar_0_3_5 : w_ar w5 (n_v vs 0) 3 = w_ar ws (n_v vs 0) 3 := by rw [← ar_0_3_4]; show v_ad (w_fd w5 _ _) = v_ad (w_fd w4 _ _); rw [s5.2]
  have cr_0_3 := fdq_142 hD hth r0
  have ar_0_4_1 : w_ar w1 (n_v vs 0) 4 = w_ar ws (n_v vs 0) 4 := congrArg v_ad (s1.2 _ _).symm
  have ar_0_4_2 : w_ar w2 (n_v vs 0) 4 = w_ar ws (n_v vs 0) 4 := by rw [← ar_0_4_1]; show v_ad (w_fd w2 _ _) = v_ad (w_fd w1 _ _); rw [s2.2]
  have ar_0_4_3 : w_ar w3 (n_v vs 0) 4 = w_ar ws (n_v vs 0) 4 := by rw [← ar_0_4_2]; show v_ad (w_fd w3 _ _) = v_ad (w_fd w2 _ _); rw [s3.2]
  have ar_0_4_4 : w_ar w4 (n_v vs 0) 4 = w_ar ws (n_v vs 0) 4 := by rw [← ar_0_4_3]; show v_ad (w_fd w4 _ _) = v_ad (w_fd w3 _ _); rw [s4.2]
  have ar_0_4_5 : w_ar w5 (n_v vs 0) 4 = w_ar ws (n_v vs 0) 4 := by rw [← ar_0_4_4]; show v_ad (w_fd w5 _ _) = v_ad (w_fd w4 _ _); rw [s5.2]
  have cr_0_4 := fdq_143 hD hth r0
  have fi_0_5_1 : w_fi w1 (n_v vs 0) 5 = w_fi ws (n_v vs 0) 5 := by show v_iv (w_fd w1 _ _) = v_iv (w_fd ws _ _); rw [s1.2]
  have fi_0_5_2 : w_fi w2 (n_v vs 0) 5 = w_fi ws (n_v vs 0) 5 := by rw [← fi_0_5_1]; show v_iv (w_fd w2 _ _) = v_iv (w_fd w1 _ _); rw [s2.2]
  have fi_0_5_3 : w_fi w3 (n_v vs 0) 5 = w_fi ws (n_v vs 0) 5 := by rw [← fi_0_5_2]; show v_iv (w_fd w3 _ _) = v_iv (w_fd w2 _ _); rw [s3.2]
  have fi_0_5_4 : w_fi w4 (n_v vs 0) 5 = w_fi ws (n_v vs 0) 5 := by rw [← fi_0_5_3]; show v_iv (w_fd w4 _ _) = v_iv (w_fd w3 _ _); rw [s4.2]
  have fi_0_5_5 : w_fi w5 (n_v vs 0) 5 = w_fi ws (n_v vs 0) 5 := by rw [← fi_0_5_4]; show v_iv (w_fd w5 _ _) = v_iv (w_fd w4 _ _); rw [s5.2]
  have ad_5 : v_ad (n_v vs 5) = w_ar ws (n_v vs 0) 2 := (congrArg v_ad f4).trans ar_0_2_1
  have g3 : v_iv (n_v vs 6) = w_fi w1 (n_v vs 0) 5 := congrArg v_iv f3
  simp only [ad_5] at f16
  have h16 : v_iv (n_v vs 9) = w_ei w5 (w_ar ws (n_v vs 0) 2) (v_iv (n_v vs 8)) := f16
  simp only [ar_0_2_5, ar_0_3_5, ar_0_4_5] at f18 f19 f21 f22
  simp only [fi_0_5_5] at f18 f19
  have fe_0_5_1 : w_fi ws (n_v vs 0) 5 = w_fi w1 (n_v vs 0) 5 := congrArg v_iv (s1.2 _ _)
  have fe_0_5_2 : w_fi w1 (n_v vs 0) 5 = w_fi w2 (n_v vs 0) 5 := congrArg v_iv (s2.2 _ _)
  have fe_0_5_3 : w_fi w2 (n_v vs 0) 5 = w_fi w3 (n_v vs 0) 5 := congrArg v_iv (s3.2 _ _)
  have fe_0_5_4 : w_fi w3 (n_v vs 0) 5 = w_fi w4 (n_v vs 0) 5 := congrArg v_iv (s4.2 _ _)
  have fe_0_5_5 : w_fi w4 (n_v vs 0) 5 = w_fi w5 (n_v vs 0) 5 := congrArg v_iv (s5.2 _ _)
  have hE_0_2_1 : ∀ j : Int, 0 ≤ j → (j = v_iv (n_v vs 24) → w_ei ws (w_ar ws (n_v vs 0) 2) j = v_iv (n_v vs 3)) ∧ (j ≠ v_iv (n_v vs 24) → w_ei ws (w_ar ws (n_v vs 0) 2) j = w_ei w1 (w_ar ws (n_v vs 0) 2) j) := fun j hj => ⟨fun h => by unfold w_ei; rw [s1.1, if_pos ⟨ad_5.symm, by rw [h]⟩], fun h => by unfold w_ei; rw [s1.1, if_neg (fun e => h (by have := e.2; omega))]⟩
  have hE_0_2_2 : ∀ j : Int, 0 ≤ j → (j = v_iv (n_v vs 20) → w_ei w1 (w_ar ws (n_v vs 0) 2) j = v_iv (n_v vs 21)) ∧ (j ≠ v_iv (n_v vs 20) → w_ei w1 (w_ar ws (n_v vs 0) 2) j = w_ei w2 (w_ar ws (n_v vs 0) 2) j) := fun j hj => ⟨fun h => by unfold w_ei; rw [s2.1, if_pos ⟨ad_5.symm, by rw [h]⟩], fun h => by unfold w_ei; rw [s2.1, if_neg (fun e => h (by have := e.2; omega))]⟩
  have hE_0_2_3 : ∀ j : Int, 0 ≤ j → (j = v_iv (n_v vs 17) → w_ei w2 (w_ar ws (n_v vs 0) 2) j = v_iv (n_v vs 2)) ∧ (j ≠ v_iv (n_v vs 17) → w_ei w2 (w_ar ws (n_v vs 0) 2) j = w_ei w3 (w_ar ws (n_v vs 0) 2) j) := fun j hj => ⟨fun h => by unfold w_ei; rw [s3.1, if_pos ⟨ad_5.symm, by rw [h]⟩], fun h => by unfold w_ei; rw [s3.1, if_neg (fun e => h (by have := e.2; omega))]⟩
  have hE_0_2_4 : ∀ j : Int, 0 ≤ j → (j = v_iv (n_v vs 14) → w_ei w3 (w_ar ws (n_v vs 0) 2) j = v_iv (n_v vs 1)) ∧ (j ≠ v_iv (n_v vs 14) → w_ei w3 (w_ar ws (n_v vs 0) 2) j = w_ei w4 (w_ar ws (n_v vs 0) 2) j) := fun j hj => ⟨fun h => by unfold w_ei; rw [s4.1, if_pos ⟨ad_5.symm, by rw [h]⟩], fun h => by unfold w_ei; rw [s4.1, if_neg (fun e => h (by have := e.2; omega))]⟩
  have hE_0_2_5 : ∀ j : Int, 0 ≤ j → (j = v_iv (n_v vs 8) → w_ei w4 (w_ar ws (n_v vs 0) 2) j = v_iv (n_v vs 11)) ∧ (j ≠ v_iv (n_v vs 8) → w_ei w4 (w_ar ws (n_v vs 0) 2) j = w_ei w5 (w_ar ws (n_v vs 0) 2) j) := fun j hj => ⟨fun h => by unfold w_ei; rw [s5.1, if_pos ⟨ad_5.symm, by rw [h]⟩], fun h => by unfold w_ei; rw [s5.1, if_neg (fun e => h (by have := e.2; omega))]⟩
  have hE_0_3_1 : ∀ j : Int, w_ei ws (w_ar ws (n_v vs 0) 3) j = w_ei w1 (w_ar ws (n_v vs 0) 3) j := el_kp s1.1 r5 cr_0_3 (by decide)
  have hE_0_3_2 : ∀ j : Int, w_ei w1 (w_ar ws (n_v vs 0) 3) j = w_ei w2 (w_ar ws (n_v vs 0) 3) j := el_kp s2.1 r5 cr_0_3 (by decide)
  have hE_0_3_3 : ∀ j : Int, w_ei w2 (w_ar ws (n_v vs 0) 3) j = w_ei w3 (w_ar ws (n_v vs 0) 3) j := el_kp s3.1 r5 cr_0_3 (by decide)
  have hE_0_3_4 : ∀ j : Int, w_ei w3 (w_ar ws (n_v vs 0) 3) j = w_ei w4 (w_ar ws (n_v vs 0) 3) j := el_kp s4.1 r5 cr_0_3 (by decide)
  have hE_0_3_5 : ∀ j : Int, w_ei w4 (w_ar ws (n_v vs 0) 3) j = w_ei w5 (w_ar ws (n_v vs 0) 3) j := el_kp s5.1 r5 cr_0_3 (by decide)
  have hE_0_4_1 : ∀ j : Int, w_ei ws (w_ar ws (n_v vs 0) 4) j = w_ei w1 (w_ar ws (n_v vs 0) 4) j := el_kp s1.1 r5 cr_0_4 (by decide)
  have hE_0_4_2 : ∀ j : Int, w_ei w1 (w_ar ws (n_v vs 0) 4) j = w_ei w2 (w_ar ws (n_v vs 0) 4) j := el_kp s2.1 r5 cr_0_4 (by decide)
  have hE_0_4_3 : ∀ j : Int, w_ei w2 (w_ar ws (n_v vs 0) 4) j = w_ei w3 (w_ar ws (n_v vs 0) 4) j := el_kp s3.1 r5 cr_0_4 (by decide)
  have hE_0_4_4 : ∀ j : Int, w_ei w3 (w_ar ws (n_v vs 0) 4) j = w_ei w4 (w_ar ws (n_v vs 0) 4) j := el_kp s4.1 r5 cr_0_4 (by decide)
  have hE_0_4_5 : ∀ j : Int, w_ei w4 (w_ar ws (n_v vs 0) 4) j = w_ei w5 (w_ar ws (n_v vs 0) 4) j := el_kp s5.1 r5 cr_0_4 (by decide)
  have nf0 : fc_1 PRD (20, [0], [60, 1, 3, 199, 5, 2, 3, 4]) ws (vs) := ⟨nf_in hl rfl, sgq_980 (vc_Mo_newEdge_at_gx_2_0 (v_iv (n_v vs 1)) (v_iv (n_v vs 2)) (v_iv (n_v vs 3)) (v_iv (n_v vs 4)) (v_iv (n_v vs 6)) (v_iv (n_v vs 8)) (v_iv (n_v vs 9)) (v_iv (n_v vs 11)) (v_iv (n_v vs 13)) (v_iv (n_v vs 14)) (v_iv (n_v vs 16)) (v_iv (n_v vs 17)) (v_iv (n_v vs 19)) (v_iv (n_v vs 20)) (v_iv (n_v vs 21)) (v_iv (n_v vs 23)) (v_iv (n_v vs 24)) (w_fi w1 (n_v vs 0) 5) (w_ei w5 (w_ar ws (n_v vs 0) 2)) (w_fi ws (n_v vs 0) 5) (w_ei w5 (w_ar ws (n_v vs 0) 3)) (w_ei w5 (w_ar ws (n_v vs 0) 4)) (w_fi w5 (n_v vs 0) 5) (w_fi w2 (n_v vs 0) 5) (w_fi w3 (n_v vs 0) 5) (w_fi w4 (n_v vs 0) 5) (w_ei ws (w_ar ws (n_v vs 0) 2)) (w_ei w1 (w_ar ws (n_v vs 0) 2)) (w_ei w2 (w_ar ws (n_v vs 0) 2)) (w_ei w3 (w_ar ws (n_v vs 0) 2)) (w_ei w4 (w_ar ws (n_v vs 0) 2)) (w_ei ws (w_ar ws (n_v vs 0) 3)) (w_ei w1 (w_ar ws (n_v vs 0) 3)) (w_ei w2 (w_ar ws (n_v vs 0) 3)) (w_ei w3 (w_ar ws (n_v vs 0) 3)) (w_ei w4 (w_ar ws (n_v vs 0) 3)) (w_ei ws (w_ar ws (n_v vs 0) 4)) (w_ei w1 (w_ar ws (n_v vs 0) 4)) (w_ei w2 (w_ar ws (n_v vs 0) 4)) (w_ei w3 (w_ar ws (n_v vs 0) 4)) (w_ei w4 (w_ar ws (n_v vs 0) 4)) k1 k2 k3 k4 k6 k8 k9 k11 k13 k14 k16 k17 k19 k20 k21 k23 k24 d3 d7 d11 d15 d16 d17 (shm_12 f1) g3 (shm_12 f6) (shm_12 f9) (shm_12 f12) h16 f18 f19 f21 f22 fe_0_5_1 fe_0_5_2 fe_0_5_3 fe_0_5_4 fe_0_5_5 hE_0_2_1 hE_0_2_2 hE_0_2_3 hE_0_2_4 hE_0_2_5 hE_0_3_1 hE_0_3_2 hE_0_3_3 hE_0_3_4 hE_0_3_5 hE_0_4_1 hE_0_4_2 hE_0_4_3 hE_0_4_4 hE_0_4_5)⟩
  have nf1 : fc_1 PRD (20, [0, 2], [60, 1, 1, 208, 5, 2]) ws (vs) := ⟨nf_in hl rfl, sgq_983 (vc_Mo_newEdge_at_gx_2_1 (v_iv (n_v vs 1)) (v_iv (n_v vs 2)) (v_iv (n_v vs 3)) (v_iv (n_v vs 4)) (v_iv (n_v vs 6)) (v_iv (n_v vs 8)) (v_iv (n_v vs 9)) (v_iv (n_v vs 11)) (v_iv (n_v vs 13)) (v_iv (n_v vs 14)) (v_iv (n_v vs 16)) (v_iv (n_v vs 17)) (v_iv (n_v vs 19)) (v_iv (n_v vs 20)) (v_iv (n_v vs 21)) (v_iv (n_v vs 23)) (v_iv (n_v vs 24)) (w_fi w1 (n_v vs 0) 5) (w_ei w5 (w_ar ws (n_v vs 0) 2)) (w_fi ws (n_v vs 0) 5) (w_ei w5 (w_ar ws (n_v vs 0) 3)) (w_ei w5 (w_ar ws (n_v vs 0) 4)) (w_fi w5 (n_v vs 0) 5) (w_fi w2 (n_v vs 0) 5) (w_fi w3 (n_v vs 0) 5) (w_fi w4 (n_v vs 0) 5) (w_ei ws (w_ar ws (n_v vs 0) 2)) (w_ei w1 (w_ar ws (n_v vs 0) 2)) (w_ei w2 (w_ar ws (n_v vs 0) 2)) (w_ei w3 (w_ar ws (n_v vs 0) 2)) (w_ei w4 (w_ar ws (n_v vs 0) 2)) (w_ei ws (w_ar ws (n_v vs 0) 3)) (w_ei w1 (w_ar ws (n_v vs 0) 3)) (w_ei w2 (w_ar ws (n_v vs 0) 3)) (w_ei w3 (w_ar ws (n_v vs 0) 3)) (w_ei w4 (w_ar ws (n_v vs 0) 3)) (w_ei ws (w_ar ws (n_v vs 0) 4)) (w_ei w1 (w_ar ws (n_v vs 0) 4)) (w_ei w2 (w_ar ws (n_v vs 0) 4)) (w_ei w3 (w_ar ws (n_v vs 0) 4)) (w_ei w4 (w_ar ws (n_v vs 0) 4)) k1 k2 k3 k4 k6 k8 k9 k11 k13 k14 k16 k17 k19 k20 k21 k23 k24 d3 d7 d11 d15 d16 d17 (shm_12 f1) g3 (shm_12 f6) (shm_12 f9) (shm_12 f12) h16 f18 f19 f21 f22 fe_0_5_1 fe_0_5_2 fe_0_5_3 fe_0_5_4 fe_0_5_5 hE_0_2_1 hE_0_2_2 hE_0_2_3 hE_0_2_4 hE_0_2_5 hE_0_3_1 hE_0_3_2 hE_0_3_3 hE_0_3_4 hE_0_3_5 hE_0_4_1 hE_0_4_2 hE_0_4_3 hE_0_4_4 hE_0_4_5)⟩
  refine ⟨(fun _ h => (by cases h)), [], trivial, ?_, (fun _ h => (by cases h))⟩
  rw [List.append_nil]
  exact List.forall_mem_cons.mpr ⟨⟨show (20 : Nat) < 100 from by decide, nf0⟩, List.forall_mem_cons.mpr ⟨⟨show (20 : Nat) < 100 from by decide, nf1⟩, (fun _ h => (by cases h))⟩⟩
def n_Mo_newEdge_at_gx_an : List an_T := []
def t_Mo_newEdge_at_gx_ct : ct_L := [(1, 401, e_Mo_edges)]
set_option maxRecDepth 100000 in
theorem c_Mo_newEdge_at_gx {l : Launch} {D : va_G} {kA : Nat → ClassId} (h_Mo_edges : ct_ok PRD l D kA GG y_Mo_edges z_Mo_edges e_Mo_edges) : ct_ok PRD l D kA GG y_Mo_newEdge_at_gx z_Mo_newEdge_at_gx e_Mo_newEdge_at_gx := chk_all_ok (FT := [(16, 13, 2), (391, 13, 5)]) (PT := []) (CT := t_Mo_newEdge_at_gx_ct) (KT := []) (NT := []) (AN := n_Mo_newEdge_at_gx_an) (OT := [o_Mo_newEdge_at_gx_0, o_Mo_newEdge_at_gx_1, o_Mo_newEdge_at_gx_2]) 0 220 (List.forall_mem_cons.mpr ⟨oo_Mo_newEdge_at_gx_0, List.forall_mem_cons.mpr ⟨oo_Mo_newEdge_at_gx_1, List.forall_mem_cons.mpr ⟨oo_Mo_newEdge_at_gx_2, List.forall_mem_nil _⟩⟩⟩) (by decide +kernel) ⟨List.forall_mem_cons.mpr ⟨gf_Mo_16, List.forall_mem_cons.mpr ⟨gf_Mo_391, List.forall_mem_nil _⟩⟩, List.forall_mem_nil _, List.forall_mem_cons.mpr ⟨cl_virtual (y := y_Mo_edges) (ci := 13) rfl rfl ⟨_, _, rfl⟩ (by decide +kernel) h_Mo_edges wm_3037 wm_9 wm_3034 wm_3036 wv_13_6 ⟨by decide, by decide, by decide +kernel⟩ (by decide), List.forall_mem_nil _⟩, List.forall_mem_nil _, List.forall_mem_nil _, GG_pl⟩ (by decide +kernel)
set_option maxHeartbeats 4000000 in
theorem vc_Mo_nextDart_0_0 (x1 : Int) (x2 : Int) (x4 : Int) (x5 : Int) (pt_0 : Int → Int) (ph_0 : Int → Int) (rot_0 : Int → Int) (k1 : 0 ≤ x1 ∧ x1 ≤ 159) (k2 : 0 ≤ x2 ∧ x2 ≤ 24) (k4 : 0 ≤ x4 ∧ x4 ≤ 79) (k5 : 0 ≤ x5 ∧ x5 ≤ 0) (f0 : x4 = x1 / 2) (f2 : DTO (pt_0) (ph_0) (x1) (x2)) : ND1 (pt_0) (ph_0) (rot_0) (x1) (x2) (x4) (x5) := by
  first
    | exact ⟨⟨‹DTO _ _ _ _›, by omega⟩, fun j a b => by exfalso; omega⟩
def o_Mo_nextDart_0 : or_T := (13, 6, [(1, (0, 0, 159, [])), (2, (0, 0, 24, [])), (4, (0, 0, 79, [])), (5, (0, 0, 0, []))], [(11, [4, 1], [2]), (20, [0, 1, 2], [60, 0, 2, 186, 33, 34])], [], [], [(20, [0, 1, 2, 4, 5], [60, 0, 3, 189, 33, 34, 37]), (24, [0, 0], []), (24, [1, 1], [])], [], [])
theorem oo_Mo_nextDart_0 {kA : Nat → ClassId} : or_ok PRD kA GG o_Mo_nextDart_0 := by
  refine or_mk fun A ta ws vs hD hth hl => ?_
  intro t1 k1 t2 k2 t4 k4 t5 k5 f0 f2
  have nf0 : fc_1 PRD (20, [0, 1, 2, 4, 5], [60, 0, 3, 189, 33, 34, 37]) ws (vs) := ⟨nf_in hl rfl, sgq_1014 (vc_Mo_nextDart_0_0 (v_iv (n_v vs 1)) (v_iv (n_v vs 2)) (v_iv (n_v vs 4)) (v_iv (n_v vs 5)) (w_ei ws (w_ar ws (n_v vs 0) 33)) (w_ei ws (w_ar ws (n_v vs 0) 34)) (w_ei ws (w_ar ws (n_v vs 0) 37)) k1 k2 k4 k5 (shm_585 f0) (shm_750 f2))⟩
  have nf1 : fc_1 PRD (24, [0, 0], []) ws (vs) := by
    refine ⟨nf_in hl rfl, sgq_1 ?_⟩
    · show n_v vs 0 = n_v vs 0
      first | rfl | simp only [true_and]
  have nf2 : fc_1 PRD (24, [1, 1], []) ws (vs) := by
    refine ⟨nf_in hl rfl, sgq_1 ?_⟩
    · show n_v vs 1 = n_v vs 1
      first | rfl | simp only [true_and]
  refine ⟨(fun _ h => (by cases h)), [], trivial, ?_, (fun _ h => (by cases h))⟩
  rw [List.append_nil]
  exact List.forall_mem_cons.mpr ⟨⟨show (20 : Nat) < 100 from by decide, nf0⟩, List.forall_mem_cons.mpr ⟨⟨show (24 : Nat) < 100 from by decide, nf1⟩, List.forall_mem_cons.mpr ⟨⟨show (24 : Nat) < 100 from by decide, nf2⟩, (fun _ h => (by cases h))⟩⟩⟩
set_option maxHeartbeats 4000000 in
theorem vc_Mo_nextDart_1_r0 (x1 : Int) (x4 : Int) (x5 : Int) (x6 : Int) (x15 : Int) (x17 : Int) (rotMany_0 : Int → Int) (rot_0 : Int → Int) (pt_0 : Int → Int) (ph_0 : Int → Int) (pn_0 : Int) (pm_0 : Int) (alive_0 : Int → Int) (k1 : 0 ≤ x1 ∧ x1 ≤ 159) (k4 : 0 ≤ x4 ∧ x4 ≤ 24) (k5 : 0 ≤ x5 ∧ x5 ≤ 79) (k6 : 0 ≤ x6 ∧ x6 ≤ 79) (k15 : 1 ≤ x15 ∧ x15 ≤ 80) (k17 : 0 ≤ x17 ∧ x17 ≤ 80) (d0 : x6 + 1 ≤ x15 ∧ x15 ≤ x6 + 1) (h0 : x17 = rotMany_0 (x4)) (f8 : GOK (pn_0) (pm_0) (pt_0) (ph_0)) (f9 : EML (pn_0) (pm_0) (pt_0) (ph_0) (alive_0) (rotMany_0) (rot_0)) (f10 : LIV (pm_0) (alive_0) (x1)) (f11 : ND1 (pt_0) (ph_0) (rot_0) (x1) (x4) (x5) (x6)) (kz_0_31 : 0 ≤ pn_0 ∧ pn_0 ≤ 25) (kz_0_32 : 0 ≤ pm_0 ∧ pm_0 ≤ 80) : 1 ≤ x17 ∧ x17 ≤ 80 := by
  have h := nd1_lt ‹GOK _ _ _ _› ‹EML _ _ _ _ _ _ _› ‹LIV _ _ _› ‹ND1 _ _ _ _ _ _ _›
  omega
def o_Mo_nextDart_1 : or_T := (53, 18, [(0, (2, 0, 0, [165])), (1, (0, 0, 159, [])), (2, (2, 0, 0, [165])), (3, (0, 0, 159, [])), (4, (0, 0, 24, [])), (5, (0, 0, 79, [])), (6, (0, 0, 79, [])), (7, (2, 0, 0, [184])), (8, (0, 80, 80, [])), (9, (0, 0, 1920, [])), (10, (0, 0, 1999, [])), (11, (0, 0, 79, [])), (14, (0, 1, 1, [])), (15, (0, 1, 80, [])), (16, (2, 0, 0, [183])), (17, (0, 0, 80, []))], [(10, [17, 16, 4], []), (9, [16, 2], [36]), (1, [15, 6, 14], []), (9, [7, 2], [37]), (7, [11, 5], [0]), (10, [11, 7, 10], []), (1, [10, 9, 6], []), (3, [9, 8, 4], []), (20, [2], [60, 2, 2, 75, 31, 32, 33, 34]), (20, [2], [60, 2, 5, 187, 31, 32, 33, 34, 35, 36, 37]), (20, [2, 3], [60, 1, 1, 190, 32, 35]), (20, [2, 3, 4, 5, 6], [60, 0, 3, 189, 33, 34, 37]), (24, [0, 2], []), (24, [1, 3], [])], [(17, (0, 1, 80, []))], [], [], [], [(15, 6, 1, 1), (11, 5, 0, 0), (10, 6, 0, 1920), (10, 9, 0, 79), (1, 3, -4294967296, 0), (3, 1, -4294967296, 0)])
theorem oo_Mo_nextDart_1 {kA : Nat → ClassId} : or_ok PRD kA GG o_Mo_nextDart_1 := by
  refine or_mk fun A ta ws vs hD hth hl => ?_
  intro t0 r0 t1 k1 t2 r2 t3 k3 t4 k4 t5 k5 t6 k6 t7 r7 t8 k8 t9 k9 t10 k10 t11 k11 t14 k14 t15 k15 t16 r16 t17 k17 d0 d1 d2 d3 d4 d5 f0 f1 f2 f3 f4 f5 f6 f7 f8 f9 f10 f11 f12 f13
  replace f0 := shm_107 f0
  replace f1 := shm_684 f1
  replace f8 := shm_575 f8
  replace f9 := shm_1012 f9
  replace f10 := shm_1013 f10
  replace f11 := shm_1014 f11
  replace f12 := shm_5 f12
  replace f13 := shm_5 f13
  have q2 : n_v vs 2 = n_v vs 0 := f12.symm
  have q3 : n_v vs 3 = n_v vs 1 := f13.symm
  simp only [q2, q3] at f1 f8 f9 f10 f11
  have ad_16 : v_ad (n_v vs 16) = w_ar ws (n_v vs 0) 36 := congrArg v_ad f1
  simp only [ad_16] at f0
  have h0 : v_iv (n_v vs 17) = w_ei ws (w_ar ws (n_v vs 0) 36) (v_iv (n_v vs 4)) := f0
  have kz_0_31 := fdq_145 hD hth r0
  have kz_0_32 := fdq_140 hD hth r0
  have hrf0 : 1 ≤ v_iv (n_v vs 17) ∧ v_iv (n_v vs 17) ≤ 80 := vc_Mo_nextDart_1_r0 (v_iv (n_v vs 1)) (v_iv (n_v vs 4)) (v_iv (n_v vs 5)) (v_iv (n_v vs 6)) (v_iv (n_v vs 15)) (v_iv (n_v vs 17)) (w_ei ws (w_ar ws (n_v vs 0) 36)) (w_ei ws (w_ar ws (n_v vs 0) 37)) (w_ei ws (w_ar ws (n_v vs 0) 33)) (w_ei ws (w_ar ws (n_v vs 0) 34)) (w_fi ws (n_v vs 0) 31) (w_fi ws (n_v vs 0) 32) (w_ei ws (w_ar ws (n_v vs 0) 35)) k1 k4 k5 k6 k15 k17 d0 h0 f8 f9 f10 f11 kz_0_31 kz_0_32
  have rf17 : tv_ok ta (0, 1, 80, []) (n_v vs 17) := tv_in t17 (by first | omega | grind) (by first | omega | grind)
  refine ⟨List.forall_mem_cons.mpr ⟨rf17, (fun _ h => (by cases h))⟩, [], trivial, ?_, (fun _ h => (by cases h))⟩
  rw [List.append_nil]
  exact (fun _ h => (by cases h))
set_option maxHeartbeats 4000000 in
theorem vc_Mo_nextDart_2_0 (x1 : Int) (x4 : Int) (x5 : Int) (x6 : Int) (x9 : Int) (x10 : Int) (x11 : Int) (x13 : Int) (x15 : Int) (x17 : Int) (x18 : Int) (x19 : Int) (x20 : Int) (x22 : Int) (x24 : Int) (x26 : Int) (pt_0 : Int → Int) (rot_0 : Int → Int) (rotMany_0 : Int → Int) (ph_0 : Int → Int) (pn_0 : Int) (pm_0 : Int) (alive_0 : Int → Int) (k1 : 0 ≤ x1 ∧ x1 ≤ 159) (k4 : 0 ≤ x4 ∧ x4 ≤ 24) (k5 : 0 ≤ x5 ∧ x5 ≤ 79) (k6 : 0 ≤ x6 ∧ x6 ≤ 79) (k9 : 0 ≤ x9 ∧ x9 ≤ 1920) (k10 : 0 ≤ x10 ∧ x10 ≤ 1999) (k11 : 0 ≤ x11 ∧ x11 ≤ 79) (k13 : 0 ≤ x13 ∧ x13 ≤ 1920) (k15 : 1 ≤ x15 ∧ x15 ≤ 80) (k17 : 1 ≤ x17 ∧ x17 ≤ 80) (k18 : 0 ≤ x18 ∧ x18 ≤ 79) (k19 : 0 ≤ x19 ∧ x19 ≤ 1999) (k20 : 0 ≤ x20 ∧ x20 ≤ 79) (k22 : 0 ≤ x22 ∧ x22 ≤ 158) (k24 : 0 ≤ x24 ∧ x24 ≤ 24) (k26 : 1 ≤ x26 ∧ x26 ≤ 159) (d0 : x22 + 1 ≤ x26 ∧ x26 ≤ x22 + 1) (d5 : x6 + 1 ≤ x15 ∧ x15 ≤ x6 + 1) (d6 : x5 + 0 ≤ x11 ∧ x11 ≤ x5 + 0) (d8 : x9 + 0 ≤ x10 ∧ x10 ≤ x9 + 79) (f1 : x24 ≠ x4) (h2 : x24 = pt_0 (x20)) (f4 : x22 = 2 * x20) (h5 : x20 = rot_0 (x19)) (f6 : x19 = x13 + x18) (f7 : x18 = Int.tmod (x15) (x17)) (h8 : x17 = rotMany_0 (x4)) (f11 : x13 = 80 * x4) (h14 : x11 = rot_0 (x10)) (f15 : x10 = x9 + x6) (f16 : x9 = 80 * x4) (f17 : GOK (pn_0) (pm_0) (pt_0) (ph_0)) (f18 : EML (pn_0) (pm_0) (pt_0) (ph_0) (alive_0) (rotMany_0) (rot_0)) (f19 : LIV (pm_0) (alive_0) (x1)) (f20 : ND1 (pt_0) (ph_0) (rot_0) (x1) (x4) (x5) (x6)) (kz_0_31 : 0 ≤ pn_0 ∧ pn_0 ≤ 25) (kz_0_32 : 0 ≤ pm_0 ∧ pm_0 ≤ 80) : NDT (pm_0) (pt_0) (ph_0) (rotMany_0) (rot_0) (x1) (x26) := by
  have hl := nd1_lt ‹GOK _ _ _ _› ‹EML _ _ _ _ _ _ _› ‹LIV _ _ _› ‹ND1 _ _ _ _ _ _ _›
  refine ndt_of (k := x6) (f := x20) ‹GOK _ _ _ _› ‹EML _ _ _ _ _ _ _› ‹LIV _ _ _› ‹ND1 _ _ _ _ _ _ _› (by omega) (by unfold rt; rw [show 80 * x4 + x6 = x10 by omega]; omega) ?_ ?_
  · unfold rt
    rw [← nr_m1 (by omega) (by omega), ← Int.tmod_eq_emod_of_nonneg (by omega), ← ‹x17 = rotMany_0 x4›, show x6 + 1 = x15 by omega, ← ‹x18 = Int.tmod x15 x17›, show 80 * x4 + x18 = x19 by omega]; omega
  · first
      | exact Or.inl ⟨by omega, by omega⟩
      | exact Or.inr ⟨by omega, by omega⟩
def o_Mo_nextDart_2 : or_T := (79, 27, [(0, (2, 0, 0, [165])), (1, (0, 0, 159, [])), (2, (2, 0, 0, [165])), (3, (0, 0, 159, [])), (4, (0, 0, 24, [])), (5, (0, 0, 79, [])), (6, (0, 0, 79, [])), (7, (2, 0, 0, [184])), (8, (0, 80, 80, [])), (9, (0, 0, 1920, [])), (10, (0, 0, 1999, [])), (11, (0, 0, 79, [])), (12, (0, 80, 80, [])), (13, (0, 0, 1920, [])), (14, (0, 1, 1, [])), (15, (0, 1, 80, [])), (16, (2, 0, 0, [183])), (17, (0, 1, 80, [])), (18, (0, 0, 79, [])), (19, (0, 0, 1999, [])), (20, (0, 0, 79, [])), (21, (0, 2, 2, [])), (22, (0, 0, 158, [])), (23, (2, 0, 0, [180])), (24, (0, 0, 24, [])), (25, (0, 1, 1, [])), (26, (0, 1, 159, []))], [(1, [26, 22, 25], []), (7, [24, 4], [1]), (10, [24, 23, 20], []), (9, [23, 2], [33]), (3, [22, 21, 20], []), (10, [20, 7, 19], []), (1, [19, 13, 18], []), (5, [18, 15, 17], []), (10, [17, 16, 4], []), (9, [16, 2], [36]), (1, [15, 6, 14], []), (3, [13, 12, 4], []), (9, [7, 2], [37]), (7, [11, 5], [0]), (10, [11, 7, 10], []), (1, [10, 9, 6], []), (3, [9, 8, 4], []), (20, [2], [60, 2, 2, 75, 31, 32, 33, 34]), (20, [2], [60, 2, 5, 187, 31, 32, 33, 34, 35, 36, 37]), (20, [2, 3], [60, 1, 1, 190, 32, 35]), (20, [2, 3, 4, 5, 6], [60, 0, 3, 189, 33, 34, 37]), (24, [0, 2], []), (24, [1, 3], [])], [], [], [(20, [0, 1, 26], [60, 1, 4, 188, 32, 33, 34, 36, 37])], [], [(26, 22, 1, 1), (19, 18, 0, 1920), (19, 17, -4294967295, 1919), (19, 13, 0, 79), (18, 17, -4294967295, -1), (15, 6, 1, 1), (11, 5, 0, 0), (10, 6, 0, 1920), (10, 9, 0, 79), (1, 3, -4294967296, 0), (3, 1, -4294967296, 0)])
theorem oo_Mo_nextDart_2 {kA : Nat → ClassId} : or_ok PRD kA GG o_Mo_nextDart_2 := by
  refine or_mk fun A ta ws vs hD hth hl => ?_
  intro t0 r0 t1 k1 t2 r2 t3 k3 t4 k4 t5 k5 t6 k6 t7 r7 t8 k8 t9 k9 t10 k10 t11 k11 t12 k12 t13 k13 t14 k14 t15 k15 t16 r16 t17 k17 t18 k18 t19 k19 t20 k20 t21 k21 t22 k22 t23 r23 t24 k24 t25 k25 t26 k26 d0 d1 d2 d3 d4 d5 d6 d7 d8 d9 d10 f0 f1 f2 f3 f4 f5 f6 f7 f8 f9 f10 f11 f12 f13 f14 f15 f16 f17 f18 f19 f20 f21 f22
  replace f2 := shm_107 f2
  replace f3 := shm_494 f3
  replace f4 := shm_38 f4
  rw [show v_iv (n_v vs 21) = 2 from by omega] at f4
  replace f5 := shm_107 f5
  replace f8 := shm_107 f8
  replace f9 := shm_684 f9
  replace f11 := shm_38 f11
  rw [show v_iv (n_v vs 12) = 80 from by omega] at f11
  replace f12 := shm_687 f12
  replace f14 := shm_107 f14
  replace f16 := shm_38 f16
  rw [show v_iv (n_v vs 8) = 80 from by omega] at f16
  replace f17 := shm_575 f17
  replace f18 := shm_1012 f18
  replace f19 := shm_1013 f19
  replace f20 := shm_1014 f20
  replace f21 := shm_5 f21
  replace f22 := shm_5 f22
  have q2 : n_v vs 2 = n_v vs 0 := f21.symm
  have q3 : n_v vs 3 = n_v vs 1 := f22.symm
  simp only [q2, q3] at f3 f9 f12 f17 f18 f19 f20
  have ad_23 : v_ad (n_v vs 23) = w_ar ws (n_v vs 0) 33 := congrArg v_ad f3
  have ad_16 : v_ad (n_v vs 16) = w_ar ws (n_v vs 0) 36 := congrArg v_ad f9
  have ad_7 : v_ad (n_v vs 7) = w_ar ws (n_v vs 0) 37 := congrArg v_ad f12
  simp only [ad_23] at f2
  have h2 : v_iv (n_v vs 24) = w_ei ws (w_ar ws (n_v vs 0) 33) (v_iv (n_v vs 20)) := f2
  simp only [ad_7] at f5
  have h5 : v_iv (n_v vs 20) = w_ei ws (w_ar ws (n_v vs 0) 37) (v_iv (n_v vs 19)) := f5
  simp only [ad_16] at f8
  have h8 : v_iv (n_v vs 17) = w_ei ws (w_ar ws (n_v vs 0) 36) (v_iv (n_v vs 4)) := f8
  simp only [ad_7] at f14
  have h14 : v_iv (n_v vs 11) = w_ei ws (w_ar ws (n_v vs 0) 37) (v_iv (n_v vs 10)) := f14
  have kz_0_31 := fdq_145 hD hth r0
  have kz_0_32 := fdq_140 hD hth r0
  have nf0 : fc_1 PRD (20, [0, 1, 26], [60, 1, 4, 188, 32, 33, 34, 36, 37]) ws (vs) := ⟨nf_in hl rfl, sgq_1015 (vc_Mo_nextDart_2_0 (v_iv (n_v vs 1)) (v_iv (n_v vs 4)) (v_iv (n_v vs 5)) (v_iv (n_v vs 6)) (v_iv (n_v vs 9)) (v_iv (n_v vs 10)) (v_iv (n_v vs 11)) (v_iv (n_v vs 13)) (v_iv (n_v vs 15)) (v_iv (n_v vs 17)) (v_iv (n_v vs 18)) (v_iv (n_v vs 19)) (v_iv (n_v vs 20)) (v_iv (n_v vs 22)) (v_iv (n_v vs 24)) (v_iv (n_v vs 26)) (w_ei ws (w_ar ws (n_v vs 0) 33)) (w_ei ws (w_ar ws (n_v vs 0) 37)) (w_ei ws (w_ar ws (n_v vs 0) 36)) (w_ei ws (w_ar ws (n_v vs 0) 34)) (w_fi ws (n_v vs 0) 31) (w_fi ws (n_v vs 0) 32) (w_ei ws (w_ar ws (n_v vs 0) 35)) k1 k4 k5 k6 k9 k10 k11 k13 k15 k17 k18 k19 k20 k22 k24 k26 d0 d5 d6 d8 (shm_40 f1) h2 f4 h5 (shm_12 f6) (shm_468 f7) h8 f11 h14 (shm_12 f15) f16 f17 f18 f19 f20 kz_0_31 kz_0_32)⟩
  refine ⟨(fun _ h => (by cases h)), [], trivial, ?_, (fun _ h => (by cases h))⟩
  rw [List.append_nil]
  exact List.forall_mem_cons.mpr ⟨⟨show (20 : Nat) < 100 from by decide, nf0⟩, (fun _ h => (by cases h))⟩
set_option maxHeartbeats 4000000 in
theorem vc_Mo_nextDart_3_0 (x1 : Int) (x4 : Int) (x5 : Int) (x6 : Int) (x9 : Int) (x10 : Int) (x11 : Int) (x13 : Int) (x15 : Int) (x17 : Int) (x18 : Int) (x19 : Int) (x20 : Int) (x22 : Int) (x24 : Int) (x26 : Int) (pt_0 : Int → Int) (rot_0 : Int → Int) (rotMany_0 : Int → Int) (ph_0 : Int → Int) (pn_0 : Int) (pm_0 : Int) (alive_0 : Int → Int) (k1 : 0 ≤ x1 ∧ x1 ≤ 159) (k4 : 0 ≤ x4 ∧ x4 ≤ 24) (k5 : 0 ≤ x5 ∧ x5 ≤ 79) (k6 : 0 ≤ x6 ∧ x6 ≤ 79) (k9 : 0 ≤ x9 ∧ x9 ≤ 1920) (k10 : 0 ≤ x10 ∧ x10 ≤ 1999) (k11 : 0 ≤ x11 ∧ x11 ≤ 79) (k13 : 0 ≤ x13 ∧ x13 ≤ 1920) (k15 : 1 ≤ x15 ∧ x15 ≤ 80) (k17 : 1 ≤ x17 ∧ x17 ≤ 80) (k18 : 0 ≤ x18 ∧ x18 ≤ 79) (k19 : 0 ≤ x19 ∧ x19 ≤ 1999) (k20 : 0 ≤ x20 ∧ x20 ≤ 79) (k22 : 0 ≤ x22 ∧ x22 ≤ 158) (k24 : 0 ≤ x24 ∧ x24 ≤ 24) (k26 : 0 ≤ x26 ∧ x26 ≤ 158) (d0 : x22 + 0 ≤ x26 ∧ x26 ≤ x22 + 0) (d1 : x4 + 0 ≤ x24 ∧ x24 ≤ x4 + 0) (d6 : x6 + 1 ≤ x15 ∧ x15 ≤ x6 + 1) (d7 : x5 + 0 ≤ x11 ∧ x11 ≤ x5 + 0) (d9 : x9 + 0 ≤ x10 ∧ x10 ≤ x9 + 79) (h2 : x24 = pt_0 (x20)) (f4 : x22 = 2 * x20) (h5 : x20 = rot_0 (x19)) (f6 : x19 = x13 + x18) (f7 : x18 = Int.tmod (x15) (x17)) (h8 : x17 = rotMany_0 (x4)) (f11 : x13 = 80 * x4) (h14 : x11 = rot_0 (x10)) (f15 : x10 = x9 + x6) (f16 : x9 = 80 * x4) (f17 : GOK (pn_0) (pm_0) (pt_0) (ph_0)) (f18 : EML (pn_0) (pm_0) (pt_0) (ph_0) (alive_0) (rotMany_0) (rot_0)) (f19 : LIV (pm_0) (alive_0) (x1)) (f20 : ND1 (pt_0) (ph_0) (rot_0) (x1) (x4) (x5) (x6)) (kz_0_31 : 0 ≤ pn_0 ∧ pn_0 ≤ 25) (kz_0_32 : 0 ≤ pm_0 ∧ pm_0 ≤ 80) : NDT (pm_0) (pt_0) (ph_0) (rotMany_0) (rot_0) (x1) (x26) := by
  have hl := nd1_lt ‹GOK _ _ _ _› ‹EML _ _ _ _ _ _ _› ‹LIV _ _ _› ‹ND1 _ _ _ _ _ _ _›
  refine ndt_of (k := x6) (f := x20) ‹GOK _ _ _ _› ‹EML _ _ _ _ _ _ _› ‹LIV _ _ _› ‹ND1 _ _ _ _ _ _ _› (by omega) (by unfold rt; rw [show 80 * x4 + x6 = x10 by omega]; omega) ?_ ?_
  · unfold rt
    rw [← nr_m1 (by omega) (by omega), ← Int.tmod_eq_emod_of_nonneg (by omega), ← ‹x17 = rotMany_0 x4›, show x6 + 1 = x15 by omega, ← ‹x18 = Int.tmod x15 x17›, show 80 * x4 + x18 = x19 by omega]; omega
  · first
      | exact Or.inl ⟨by omega, by omega⟩
      | exact Or.inr ⟨by omega, by omega⟩
def o_Mo_nextDart_3 : or_T := (79, 27, [(0, (2, 0, 0, [165])), (1, (0, 0, 159, [])), (2, (2, 0, 0, [165])), (3, (0, 0, 159, [])), (4, (0, 0, 24, [])), (5, (0, 0, 79, [])), (6, (0, 0, 79, [])), (7, (2, 0, 0, [184])), (8, (0, 80, 80, [])), (9, (0, 0, 1920, [])), (10, (0, 0, 1999, [])), (11, (0, 0, 79, [])), (12, (0, 80, 80, [])), (13, (0, 0, 1920, [])), (14, (0, 1, 1, [])), (15, (0, 1, 80, [])), (16, (2, 0, 0, [183])), (17, (0, 1, 80, [])), (18, (0, 0, 79, [])), (19, (0, 0, 1999, [])), (20, (0, 0, 79, [])), (21, (0, 2, 2, [])), (22, (0, 0, 158, [])), (23, (2, 0, 0, [180])), (24, (0, 0, 24, [])), (25, (0, 0, 0, [])), (26, (0, 0, 158, []))], [(1, [26, 22, 25], []), (7, [24, 4], [0]), (10, [24, 23, 20], []), (9, [23, 2], [33]), (3, [22, 21, 20], []), (10, [20, 7, 19], []), (1, [19, 13, 18], []), (5, [18, 15, 17], []), (10, [17, 16, 4], []), (9, [16, 2], [36]), (1, [15, 6, 14], []), (3, [13, 12, 4], []), (9, [7, 2], [37]), (7, [11, 5], [0]), (10, [11, 7, 10], []), (1, [10, 9, 6], []), (3, [9, 8, 4], []), (20, [2], [60, 2, 2, 75, 31, 32, 33, 34]), (20, [2], [60, 2, 5, 187, 31, 32, 33, 34, 35, 36, 37]), (20, [2, 3], [60, 1, 1, 190, 32, 35]), (20, [2, 3, 4, 5, 6], [60, 0, 3, 189, 33, 34, 37]), (24, [0, 2], []), (24, [1, 3], [])], [], [], [(20, [0, 1, 26], [60, 1, 4, 188, 32, 33, 34, 36, 37])], [], [(26, 22, 0, 0), (24, 4, 0, 0), (19, 18, 0, 1920), (19, 17, -4294967295, 1919), (19, 13, 0, 79), (18, 17, -4294967295, -1), (15, 6, 1, 1), (11, 5, 0, 0), (10, 6, 0, 1920), (10, 9, 0, 79), (1, 3, -4294967296, 0), (3, 1, -4294967296, 0)])
theorem oo_Mo_nextDart_3 {kA : Nat → ClassId} : or_ok PRD kA GG o_Mo_nextDart_3 := by
  refine or_mk fun A ta ws vs hD hth hl => ?_
  intro t0 r0 t1 k1 t2 r2 t3 k3 t4 k4 t5 k5 t6 k6 t7 r7 t8 k8 t9 k9 t10 k10 t11 k11 t12 k12 t13 k13 t14 k14 t15 k15 t16 r16 t17 k17 t18 k18 t19 k19 t20 k20 t21 k21 t22 k22 t23 r23 t24 k24 t25 k25 t26 k26 d0 d1 d2 d3 d4 d5 d6 d7 d8 d9 d10 d11 f0 f1 f2 f3 f4 f5 f6 f7 f8 f9 f10 f11 f12 f13 f14 f15 f16 f17 f18 f19 f20 f21 f22
  replace f2 := shm_107 f2
  replace f3 := shm_494 f3
  replace f4 := shm_38 f4
  rw [show v_iv (n_v vs 21) = 2 from by omega] at f4
  replace f5 := shm_107 f5
  replace f8 := shm_107 f8
  replace f9 := shm_684 f9
  replace f11 := shm_38 f11
  rw [show v_iv (n_v vs 12) = 80 from by omega] at f11
  replace f12 := shm_687 f12
  replace f14 := shm_107 f14
  replace f16 := shm_38 f16
  rw [show v_iv (n_v vs 8) = 80 from by omega] at f16
  replace f17 := shm_575 f17
  replace f18 := shm_1012 f18
  replace f19 := shm_1013 f19
  replace f20 := shm_1014 f20
  replace f21 := shm_5 f21
  replace f22 := shm_5 f22
  have q2 : n_v vs 2 = n_v vs 0 := f21.symm
  have q3 : n_v vs 3 = n_v vs 1 := f22.symm
  simp only [q2, q3] at f3 f9 f12 f17 f18 f19 f20
  have ad_23 : v_ad (n_v vs 23) = w_ar ws (n_v vs 0) 33 := congrArg v_ad f3
  have ad_16 : v_ad (n_v vs 16) = w_ar ws (n_v vs 0) 36 := congrArg v_ad f9
  have ad_7 : v_ad (n_v vs 7) = w_ar ws (n_v vs 0) 37 := congrArg v_ad f12
  simp only [ad_23] at f2
  have h2 : v_iv (n_v vs 24) = w_ei ws (w_ar ws (n_v vs 0) 33) (v_iv (n_v vs 20)) := f2
  simp only [ad_7] at f5
  have h5 : v_iv (n_v vs 20) = w_ei ws (w_ar ws (n_v vs 0) 37) (v_iv (n_v vs 19)) := f5
  simp only [ad_16] at f8
  have h8 : v_iv (n_v vs 17) = w_ei ws (w_ar ws (n_v vs 0) 36) (v_iv (n_v vs 4)) := f8
  simp only [ad_7] at f14
  have h14 : v_iv (n_v vs 11) = w_ei ws (w_ar ws (n_v vs 0) 37) (v_iv (n_v vs 10)) := f14
  have kz_0_31 := fdq_145 hD hth r0
  have kz_0_32 := fdq_140 hD hth r0
  have nf0 : fc_1 PRD (20, [0, 1, 26], [60, 1, 4, 188, 32, 33, 34, 36, 37]) ws (vs) := ⟨nf_in hl rfl, sgq_1015 (vc_Mo_nextDart_3_0 (v_iv (n_v vs 1)) (v_iv (n_v vs 4)) (v_iv (n_v vs 5)) (v_iv (n_v vs 6)) (v_iv (n_v vs 9)) (v_iv (n_v vs 10)) (v_iv (n_v vs 11)) (v_iv (n_v vs 13)) (v_iv (n_v vs 15)) (v_iv (n_v vs 17)) (v_iv (n_v vs 18)) (v_iv (n_v vs 19)) (v_iv (n_v vs 20)) (v_iv (n_v vs 22)) (v_iv (n_v vs 24)) (v_iv (n_v vs 26)) (w_ei ws (w_ar ws (n_v vs 0) 33)) (w_ei ws (w_ar ws (n_v vs 0) 37)) (w_ei ws (w_ar ws (n_v vs 0) 36)) (w_ei ws (w_ar ws (n_v vs 0) 34)) (w_fi ws (n_v vs 0) 31) (w_fi ws (n_v vs 0) 32) (w_ei ws (w_ar ws (n_v vs 0) 35)) k1 k4 k5 k6 k9 k10 k11 k13 k15 k17 k18 k19 k20 k22 k24 k26 d0 d1 d6 d7 d9 h2 f4 h5 (shm_12 f6) (shm_468 f7) h8 f11 h14 (shm_12 f15) f16 f17 f18 f19 f20 kz_0_31 kz_0_32)⟩
  refine ⟨(fun _ h => (by cases h)), [], trivial, ?_, (fun _ h => (by cases h))⟩
  rw [List.append_nil]
  exact List.forall_mem_cons.mpr ⟨⟨show (20 : Nat) < 100 from by decide, nf0⟩, (fun _ h => (by cases h))⟩
set_option maxHeartbeats 4000000 in
theorem vc_Mo_nextDart_4_r0 (x1 : Int) (x4 : Int) (x5 : Int) (x6 : Int) (x9 : Int) (x10 : Int) (x11 : Int) (x12 : Int) (rot_0 : Int → Int) (pt_0 : Int → Int) (ph_0 : Int → Int) (pn_0 : Int) (pm_0 : Int) (alive_0 : Int → Int) (rotMany_0 : Int → Int) (k1 : 0 ≤ x1 ∧ x1 ≤ 159) (k4 : 0 ≤ x4 ∧ x4 ≤ 24) (k5 : 0 ≤ x5 ∧ x5 ≤ 79) (k6 : 0 ≤ x6 ∧ x6 ≤ 79) (k9 : 0 ≤ x9 ∧ x9 ≤ 1920) (k10 : 0 ≤ x10 ∧ x10 ≤ 1999) (k11 : 0 ≤ x11 ∧ x11 ≤ 79) (k12 : 1 ≤ x12 ∧ x12 ≤ 80) (d0 : x6 + 1 ≤ x12 ∧ x12 ≤ x6 + 1) (f1 : x11 ≠ x5) (h2 : x11 = rot_0 (x10)) (f3 : x10 = x9 + x6) (f4 : x9 = 80 * x4) (f6 : GOK (pn_0) (pm_0) (pt_0) (ph_0)) (f7 : EML (pn_0) (pm_0) (pt_0) (ph_0) (alive_0) (rotMany_0) (rot_0)) (f8 : LIV (pm_0) (alive_0) (x1)) (f9 : ND1 (pt_0) (ph_0) (rot_0) (x1) (x4) (x5) (x6)) (kz_0_31 : 0 ≤ pn_0 ∧ pn_0 ≤ 25) (kz_0_32 : 0 ≤ pm_0 ∧ pm_0 ≤ 80) : 1 ≤ x12 ∧ x12 ≤ 79 := by
  have h := nd1_lt ‹GOK _ _ _ _› ‹EML _ _ _ _ _ _ _› ‹LIV _ _ _› (nd1_next (k := x6) (k_zq := x6 + 1) ‹ND1 _ _ _ _ _ _ _› rfl (by unfold rt; rw [show 80 * x4 + x6 = x10 by omega]; omega))
  omega
def o_Mo_nextDart_4 : or_T := (32, 13, [(0, (2, 0, 0, [165])), (1, (0, 0, 159, [])), (2, (2, 0, 0, [165])), (3, (0, 0, 159, [])), (4, (0, 0, 24, [])), (5, (0, 0, 79, [])), (6, (0, 0, 79, [])), (7, (2, 0, 0, [184])), (8, (0, 80, 80, [])), (9, (0, 0, 1920, [])), (10, (0, 0, 1999, [])), (11, (0, 0, 79, [])), (12, (0, 1, 80, []))], [(6, [12, 6], [1]), (7, [11, 5], [1]), (10, [11, 7, 10], []), (1, [10, 9, 6], []), (3, [9, 8, 4], []), (9, [7, 2], [37]), (20, [2], [60, 2, 2, 75, 31, 32, 33, 34]), (20, [2], [60, 2, 5, 187, 31, 32, 33, 34, 35, 36, 37]), (20, [2, 3], [60, 1, 1, 190, 32, 35]), (20, [2, 3, 4, 5, 6], [60, 0, 3, 189, 33, 34, 37]), (24, [0, 2], []), (24, [1, 3], [])], [(12, (0, 1, 79, []))], [], [], [], [(12, 6, 1, 1), (10, 6, 0, 1920), (10, 9, 0, 79), (1, 3, -4294967296, 0), (3, 1, -4294967296, 0)])
theorem oo_Mo_nextDart_4 {kA : Nat → ClassId} : or_ok PRD kA GG o_Mo_nextDart_4 := by
  refine or_mk fun A ta ws vs hD hth hl => ?_
  intro t0 r0 t1 k1 t2 r2 t3 k3 t4 k4 t5 k5 t6 k6 t7 r7 t8 k8 t9 k9 t10 k10 t11 k11 t12 k12 d0 d1 d2 d3 d4 f0 f1 f2 f3 f4 f5 f6 f7 f8 f9 f10 f11
  replace f2 := shm_107 f2
  replace f4 := shm_38 f4
  rw [show v_iv (n_v vs 8) = 80 from by omega] at f4
  replace f5 := shm_687 f5
  replace f6 := shm_575 f6
  replace f7 := shm_1012 f7
  replace f8 := shm_1013 f8
  replace f9 := shm_1014 f9
  replace f10 := shm_5 f10
  replace f11 := shm_5 f11
  have q2 : n_v vs 2 = n_v vs 0 := f10.symm
  have q3 : n_v vs 3 = n_v vs 1 := f11.symm
  simp only [q2, q3] at f5 f6 f7 f8 f9
  have ad_7 : v_ad (n_v vs 7) = w_ar ws (n_v vs 0) 37 := congrArg v_ad f5
  simp only [ad_7] at f2
  have h2 : v_iv (n_v vs 11) = w_ei ws (w_ar ws (n_v vs 0) 37) (v_iv (n_v vs 10)) := f2
  have kz_0_31 := fdq_145 hD hth r0
  have kz_0_32 := fdq_140 hD hth r0
  have hrf0 : 1 ≤ v_iv (n_v vs 12) ∧ v_iv (n_v vs 12) ≤ 79 := vc_Mo_nextDart_4_r0 (v_iv (n_v vs 1)) (v_iv (n_v vs 4)) (v_iv (n_v vs 5)) (v_iv (n_v vs 6)) (v_iv (n_v vs 9)) (v_iv (n_v vs 10)) (v_iv (n_v vs 11)) (v_iv (n_v vs 12)) (w_ei ws (w_ar ws (n_v vs 0) 37)) (w_ei ws (w_ar ws (n_v vs 0) 33)) (w_ei ws (w_ar ws (n_v vs 0) 34)) (w_fi ws (n_v vs 0) 31) (w_fi ws (n_v vs 0) 32) (w_ei ws (w_ar ws (n_v vs 0) 35)) (w_ei ws (w_ar ws (n_v vs 0) 36)) k1 k4 k5 k6 k9 k10 k11 k12 d0 (shm_40 f1) h2 (shm_12 f3) f4 f6 f7 f8 f9 kz_0_31 kz_0_32
  have rf12 : tv_ok ta (0, 1, 79, []) (n_v vs 12) := tv_in t12 (by first | omega | grind) (by first | omega | grind)
  refine ⟨List.forall_mem_cons.mpr ⟨rf12, (fun _ h => (by cases h))⟩, [], trivial, ?_, (fun _ h => (by cases h))⟩
  rw [List.append_nil]
  exact (fun _ h => (by cases h))
set_option maxHeartbeats 4000000 in
theorem vc_Mo_nextDart_5_0 (x1 : Int) (x4 : Int) (x5 : Int) (x6 : Int) (x9 : Int) (x10 : Int) (x11 : Int) (x12 : Int) (rot_0 : Int → Int) (pt_0 : Int → Int) (ph_0 : Int → Int) (k1 : 0 ≤ x1 ∧ x1 ≤ 159) (k4 : 0 ≤ x4 ∧ x4 ≤ 24) (k5 : 0 ≤ x5 ∧ x5 ≤ 79) (k6 : 0 ≤ x6 ∧ x6 ≤ 79) (k9 : 0 ≤ x9 ∧ x9 ≤ 1920) (k10 : 0 ≤ x10 ∧ x10 ≤ 1999) (k11 : 0 ≤ x11 ∧ x11 ≤ 79) (k12 : 1 ≤ x12 ∧ x12 ≤ 79) (d0 : x6 + 1 ≤ x12 ∧ x12 ≤ x6 + 1) (f0 : x12 = x6 + 1) (f1 : x11 ≠ x5) (h2 : x11 = rot_0 (x10)) (f3 : x10 = x9 + x6) (f4 : x9 = 80 * x4) (f9 : ND1 (pt_0) (ph_0) (rot_0) (x1) (x4) (x5) (x6)) : ND1 (pt_0) (ph_0) (rot_0) (x1) (x4) (x5) (x12) := by
  first
    | exact nd1_next (k := x6) ‹ND1 _ _ _ _ _ _ _› (by omega) (by unfold rt; rw [show 80 * x4 + x6 = x10 by omega]; omega)
def o_Mo_nextDart_5 : or_T := (13, 13, [(1, (0, 0, 159, [])), (4, (0, 0, 24, [])), (5, (0, 0, 79, [])), (6, (0, 0, 79, [])), (8, (0, 80, 80, [])), (9, (0, 0, 1920, [])), (10, (0, 0, 1999, [])), (11, (0, 0, 79, [])), (12, (0, 1, 79, []))], [(6, [12, 6], [1]), (7, [11, 5], [1]), (10, [11, 7, 10], []), (1, [10, 9, 6], []), (3, [9, 8, 4], []), (9, [7, 2], [37]), (20, [2, 3, 4, 5, 6], [60, 0, 3, 189, 33, 34, 37]), (24, [0, 2], []), (24, [1, 3], [])], [], [], [(20, [2, 3, 4, 5, 12], [60, 0, 3, 189, 33, 34, 37])], [], [(12, 6, 1, 1)])
theorem oo_Mo_nextDart_5 {kA : Nat → ClassId} : or_ok PRD kA GG o_Mo_nextDart_5 := by
  refine or_mk fun A ta ws vs hD hth hl => ?_
  intro t1 k1 t4 k4 t5 k5 t6 k6 t8 k8 t9 k9 t10 k10 t11 k11 t12 k12 d0 f0 f1 f2 f3 f4 f5 f9 f10 f11
  replace f0 := shm_4 f0
  replace f1 := shm_40 f1
  replace f2 := shm_107 f2
  replace f3 := shm_12 f3
  replace f4 := shm_38 f4
  rw [show v_iv (n_v vs 8) = 80 from by omega] at f4
  replace f5 := shm_687 f5
  replace f9 := shm_1014 f9
  replace f10 := shm_5 f10
  replace f11 := shm_5 f11
  have q2 : n_v vs 2 = n_v vs 0 := f10.symm
  have q3 : n_v vs 3 = n_v vs 1 := f11.symm
  simp only [q2, q3] at f5 f9
  have ad_7 : v_ad (n_v vs 7) = w_ar ws (n_v vs 0) 37 := congrArg v_ad f5
  simp only [ad_7] at f2
  have h2 : v_iv (n_v vs 11) = w_ei ws (w_ar ws (n_v vs 0) 37) (v_iv (n_v vs 10)) := f2
  have nf0 : fc_1 PRD (20, [2, 3, 4, 5, 12], [60, 0, 3, 189, 33, 34, 37]) ws (vs) := by
    refine ⟨nf_in hl rfl, sgq_1014 ?_⟩
    · show ND1 (w_ei ws (w_ar ws (n_v vs 2) 33)) (w_ei ws (w_ar ws (n_v vs 2) 34)) (w_ei ws (w_ar ws (n_v vs 2) 37)) (v_iv (n_v vs 3)) (v_iv (n_v vs 4)) (v_iv (n_v vs 5)) (v_iv (n_v vs 12))
      simp only [q2, q3]
      exact vc_Mo_nextDart_5_0 (v_iv (n_v vs 1)) (v_iv (n_v vs 4)) (v_iv (n_v vs 5)) (v_iv (n_v vs 6)) (v_iv (n_v vs 9)) (v_iv (n_v vs 10)) (v_iv (n_v vs 11)) (v_iv (n_v vs 12)) (w_ei ws (w_ar ws (n_v vs 0) 37)) (w_ei ws (w_ar ws (n_v vs 0) 33)) (w_ei ws (w_ar ws (n_v vs 0) 34)) k1 k4 k5 k6 k9 k10 k11 k12 d0 f0 f1 h2 f3 f4 f9
  refine ⟨(fun _ h => (by cases h)), [], trivial, ?_, (fun _ h => (by cases h))⟩
  rw [List.append_nil]
  exact List.forall_mem_cons.mpr ⟨⟨show (20 : Nat) < 100 from by decide, nf0⟩, (fun _ h => (by cases h))⟩
def n_Mo_nextDart_an : List an_T := [(13, [(0, (2, 0, 0, [165])), (1, (0, 0, 159, [])), (2, (0, 0, 24, [])), (3, (0, 0, 79, [])), (4, (0, 0, 79, []))], [], (0, 0), [(0, 0, 99987), (1, 6, 79), (0, 0, 100000)], [(1, 3, (Int.negSucc 999999999999), 0), (3, 1, (Int.negSucc 999999999999), 0)], [], [(2, 0, 0, [165]), (0, 0, 159, [])], 0, [], [(20, [2], [60, 2, 2, 75, 31, 32, 33, 34]), (20, [2], [60, 2, 5, 187, 31, 32, 33, 34, 35, 36, 37]), (20, [2, 3], [60, 1, 1, 190, 32, 35]), (20, [2, 3, 4, 5, 6], [60, 0, 3, 189, 33, 34, 37]), (24, [0, 2], []), (24, [1, 3], [])])]
def t_Mo_nextDart_ct : ct_L := [(1, 680, e_Mo_toOf)]
set_option maxRecDepth 100000 in
theorem c_Mo_nextDart {l : Launch} {D : va_G} {kA : Nat → ClassId} (h_Mo_toOf : ct_ok PRD l D kA GG y_Mo_toOf z_Mo_toOf e_Mo_toOf) : ct_ok PRD l D kA GG y_Mo_nextDart z_Mo_nextDart e_Mo_nextDart := chk_all_ok (FT := [(57, 13, 33), (66, 13, 36), (69, 13, 37)]) (PT := []) (CT := t_Mo_nextDart_ct) (KT := []) (NT := []) (AN := n_Mo_nextDart_an) (OT := [o_Mo_nextDart_0, o_Mo_nextDart_1, o_Mo_nextDart_2, o_Mo_nextDart_3, o_Mo_nextDart_4, o_Mo_nextDart_5]) 3 216 (List.forall_mem_cons.mpr ⟨oo_Mo_nextDart_0, List.forall_mem_cons.mpr ⟨oo_Mo_nextDart_1, List.forall_mem_cons.mpr ⟨oo_Mo_nextDart_2, List.forall_mem_cons.mpr ⟨oo_Mo_nextDart_3, List.forall_mem_cons.mpr ⟨oo_Mo_nextDart_4, List.forall_mem_cons.mpr ⟨oo_Mo_nextDart_5, List.forall_mem_nil _⟩⟩⟩⟩⟩⟩) (by decide +kernel) ⟨List.forall_mem_cons.mpr ⟨gf_Mo_57, List.forall_mem_cons.mpr ⟨gf_Mo_66, List.forall_mem_cons.mpr ⟨gf_Mo_69, List.forall_mem_nil _⟩⟩⟩, List.forall_mem_nil _, List.forall_mem_cons.mpr ⟨cl_virtual (y := y_Mo_toOf) (ci := 13) rfl rfl ⟨_, _, rfl⟩ (by decide +kernel) h_Mo_toOf wm_3263 wm_9 wm_3260 wm_3262 wv_16_8 ⟨by decide, by decide, by decide +kernel⟩ (by decide), List.forall_mem_nil _⟩, List.forall_mem_nil _, List.forall_mem_nil _, GG_pl⟩ (by decide +kernel)
set_option maxHeartbeats 4000000 in
theorem vc_Mo_putAhead_0_0 (x1 : Int) (x3 : Int) (x7 : Int) (rot_0 : Int → Int) (k1 : 0 ≤ x1 ∧ x1 ≤ 24) (k3 : 0 ≤ x3 ∧ x3 ≤ 79) (k7 : 0 ≤ x7 ∧ x7 ≤ 0) : SEK (rot_0) (x1) (x3) (x7) := by
  first
    | (intro j a b; exfalso; omega)
    | exact sek_next ‹SEK _ _ _ _› (by omega) (by unfold rt; rw [show 80 * x1 + x11 = x15 by omega]; omega)
def o_Mo_putAhead_0 : or_T := (3, 8, [(1, (0, 0, 24, [])), (3, (0, 0, 79, [])), (7, (0, 0, 0, []))], [], [], [], [(20, [0, 1, 3, 7], [60, 0, 1, 270, 37]), (24, [0, 0], []), (24, [1, 1], []), (24, [2, 2], [])], [], [])
theorem oo_Mo_putAhead_0 {kA : Nat → ClassId} : or_ok PRD kA GG o_Mo_putAhead_0 := by
  refine or_mk fun A ta ws vs hD hth hl => ?_
  intro t1 k1 t3 k3 t7 k7
  have nf0 : fc_1 PRD (20, [0, 1, 3, 7], [60, 0, 1, 270, 37]) ws (vs) := ⟨nf_in hl rfl, sgq_1017 (vc_Mo_putAhead_0_0 (v_iv (n_v vs 1)) (v_iv (n_v vs 3)) (v_iv (n_v vs 7)) (w_ei ws (w_ar ws (n_v vs 0) 37)) k1 k3 k7)⟩
  have nf1 : fc_1 PRD (24, [0, 0], []) ws (vs) := by
    refine ⟨nf_in hl rfl, sgq_1 ?_⟩
    · show n_v vs 0 = n_v vs 0
      first | rfl | simp only [true_and]
  have nf2 : fc_1 PRD (24, [1, 1], []) ws (vs) := by
    refine ⟨nf_in hl rfl, sgq_1 ?_⟩
    · show n_v vs 1 = n_v vs 1
      first | rfl | simp only [true_and]
  have nf3 : fc_1 PRD (24, [2, 2], []) ws (vs) := by
    refine ⟨nf_in hl rfl, sgq_1 ?_⟩
    · show n_v vs 2 = n_v vs 2
      first | rfl | simp only [true_and]
  refine ⟨(fun _ h => (by cases h)), [], trivial, ?_, (fun _ h => (by cases h))⟩
  rw [List.append_nil]
  exact List.forall_mem_cons.mpr ⟨⟨show (20 : Nat) < 100 from by decide, nf0⟩, List.forall_mem_cons.mpr ⟨⟨show (24 : Nat) < 100 from by decide, nf1⟩, List.forall_mem_cons.mpr ⟨⟨show (24 : Nat) < 100 from by decide, nf2⟩, List.forall_mem_cons.mpr ⟨⟨show (24 : Nat) < 100 from by decide, nf3⟩, (fun _ h => (by cases h))⟩⟩⟩⟩
set_option maxHeartbeats 4000000 in
theorem vc_Mo_putAhead_1_r0 (x1 : Int) (x2 : Int) (x4 : Int) (x5 : Int) (x6 : Int) (x8 : Int) (x10 : Int) (x11 : Int) (x14 : Int) (x15 : Int) (rot_0 : Int → Int) (pt_0 : Int → Int) (ph_0 : Int → Int) (alive_0 : Int → Int) (rotMany_0 : Int → Int) (pn_0 : Int) (pm_0 : Int) (gx : Int) (k1 : 0 ≤ x1 ∧ x1 ≤ 24) (k2 : 0 ≤ x2 ∧ x2 ≤ 79) (k4 : 0 ≤ x4 ∧ x4 ≤ 24) (k5 : 0 ≤ x5 ∧ x5 ≤ 159) (k6 : 0 ≤ x6 ∧ x6 ≤ 159) (k8 : 0 ≤ x8 ∧ x8 ≤ 24) (k10 : 0 ≤ x10 ∧ x10 ≤ 79) (k11 : 0 ≤ x11 ∧ x11 ≤ 79) (k14 : 0 ≤ x14 ∧ x14 ≤ 1920) (k15 : 0 ≤ x15 ∧ x15 ≤ 1999) (d2 : x14 + 0 ≤ x15 ∧ x15 ≤ x14 + 79) (d3 : x8 + (-4294967296) ≤ x1 ∧ x1 ≤ x8 + 0) (d5 : x1 + (-4294967296) ≤ x8 ∧ x8 ≤ x1 + 0) (f2 : x15 = x14 + x11) (f3 : x14 = 80 * x1) (f5 : PHA (pn_0) (pm_0) (pt_0) (ph_0) (alive_0) (rotMany_0) (rot_0) (x1) (x2) (x10) (x4) (x5) (x6)) (f6 : SEK (rot_0) (x1) (x10) (x11)) (kz_0_31 : 0 ≤ pn_0 ∧ pn_0 ≤ 25) (kz_0_32 : 0 ≤ pm_0 ∧ pm_0 ≤ 80) (ex2 : gx = x1) : 0 ≤ x11 ∧ x11 ≤ 78 := by
  have h := sek_a ‹PHA _ _ _ _ _ _ _ _ _ _ _ _ _›.1 ‹PHA _ _ _ _ _ _ _ _ _ _ _ _ _›.2 ‹SEK _ _ _ _›
  omega
set_option maxHeartbeats 4000000 in
theorem vc_Mo_putAhead_1_0 (x1 : Int) (x2 : Int) (x4 : Int) (x5 : Int) (x6 : Int) (x8 : Int) (x10 : Int) (x11 : Int) (rot_0 : Int → Int) (pt_0 : Int → Int) (ph_0 : Int → Int) (alive_0 : Int → Int) (rotMany_0 : Int → Int) (pn_0 : Int) (pm_0 : Int) (gx : Int) (k1 : 0 ≤ x1 ∧ x1 ≤ 24) (k2 : 0 ≤ x2 ∧ x2 ≤ 79) (k4 : 0 ≤ x4 ∧ x4 ≤ 24) (k5 : 0 ≤ x5 ∧ x5 ≤ 159) (k6 : 0 ≤ x6 ∧ x6 ≤ 159) (k8 : 0 ≤ x8 ∧ x8 ≤ 24) (k10 : 0 ≤ x10 ∧ x10 ≤ 79) (k11 : 0 ≤ x11 ∧ x11 ≤ 79) (d3 : x8 + (-4294967296) ≤ x1 ∧ x1 ≤ x8 + 0) (d5 : x1 + (-4294967296) ≤ x8 ∧ x8 ≤ x1 + 0) (f5 : PHA (pn_0) (pm_0) (pt_0) (ph_0) (alive_0) (rotMany_0) (rot_0) (x1) (x2) (x10) (x4) (x5) (x6)) (f6 : SEK (rot_0) (x1) (x10) (x11)) (kz_0_31 : 0 ≤ pn_0 ∧ pn_0 ≤ 25) (kz_0_32 : 0 ≤ pm_0 ∧ pm_0 ≤ 80) (ex2 : gx = x1) : 1 * gx + ((-1) * x1 + 0) ≤ 0 := by
  have h := sek_a ‹PHA _ _ _ _ _ _ _ _ _ _ _ _ _›.1 ‹PHA _ _ _ _ _ _ _ _ _ _ _ _ _›.2 ‹SEK _ _ _ _›
  omega
set_option maxHeartbeats 4000000 in
theorem vc_Mo_putAhead_1_1 (x1 : Int) (x2 : Int) (x4 : Int) (x5 : Int) (x6 : Int) (x8 : Int) (x10 : Int) (x11 : Int) (rot_0 : Int → Int) (pt_0 : Int → Int) (ph_0 : Int → Int) (alive_0 : Int → Int) (rotMany_0 : Int → Int) (pn_0 : Int) (pm_0 : Int) (gx : Int) (k1 : 0 ≤ x1 ∧ x1 ≤ 24) (k2 : 0 ≤ x2 ∧ x2 ≤ 79) (k4 : 0 ≤ x4 ∧ x4 ≤ 24) (k5 : 0 ≤ x5 ∧ x5 ≤ 159) (k6 : 0 ≤ x6 ∧ x6 ≤ 159) (k8 : 0 ≤ x8 ∧ x8 ≤ 24) (k10 : 0 ≤ x10 ∧ x10 ≤ 79) (k11 : 0 ≤ x11 ∧ x11 ≤ 79) (d3 : x8 + (-4294967296) ≤ x1 ∧ x1 ≤ x8 + 0) (d5 : x1 + (-4294967296) ≤ x8 ∧ x8 ≤ x1 + 0) (f5 : PHA (pn_0) (pm_0) (pt_0) (ph_0) (alive_0) (rotMany_0) (rot_0) (x1) (x2) (x10) (x4) (x5) (x6)) (f6 : SEK (rot_0) (x1) (x10) (x11)) (kz_0_31 : 0 ≤ pn_0 ∧ pn_0 ≤ 25) (kz_0_32 : 0 ≤ pm_0 ∧ pm_0 ≤ 80) (ex2 : gx = x1) : (-1) * gx + (1 * x1 + 0) ≤ 0 := by
  have h := sek_a ‹PHA _ _ _ _ _ _ _ _ _ _ _ _ _›.1 ‹PHA _ _ _ _ _ _ _ _ _ _ _ _ _›.2 ‹SEK _ _ _ _›
  omega
set_option maxHeartbeats 4000000 in
theorem vc_Mo_putAhead_1_2 (x1 : Int) (x2 : Int) (x4 : Int) (x5 : Int) (x6 : Int) (x10 : Int) (x11 : Int) (rot_0 : Int → Int) (pt_0 : Int → Int) (ph_0 : Int → Int) (alive_0 : Int → Int) (rotMany_0 : Int → Int) (pn_0 : Int) (pm_0 : Int) (gy : Int) (k1 : 0 ≤ x1 ∧ x1 ≤ 24) (k2 : 0 ≤ x2 ∧ x2 ≤ 79) (k4 : 0 ≤ x4 ∧ x4 ≤ 24) (k5 : 0 ≤ x5 ∧ x5 ≤ 159) (k6 : 0 ≤ x6 ∧ x6 ≤ 159) (k10 : 0 ≤ x10 ∧ x10 ≤ 79) (k11 : 0 ≤ x11 ∧ x11 ≤ 79) (f5 : PHA (pn_0) (pm_0) (pt_0) (ph_0) (alive_0) (rotMany_0) (rot_0) (x1) (x2) (x10) (x4) (x5) (x6)) (f6 : SEK (rot_0) (x1) (x10) (x11)) (kz_0_31 : 0 ≤ pn_0 ∧ pn_0 ≤ 25) (kz_0_32 : 0 ≤ pm_0 ∧ pm_0 ≤ 80) (ey2 : gy = x4) : 1 * gy + ((-1) * x4 + 0) ≤ 0 := by
  have h := sek_a ‹PHA _ _ _ _ _ _ _ _ _ _ _ _ _›.1 ‹PHA _ _ _ _ _ _ _ _ _ _ _ _ _›.2 ‹SEK _ _ _ _›
  omega
set_option maxHeartbeats 4000000 in
theorem vc_Mo_putAhead_1_3 (x1 : Int) (x2 : Int) (x4 : Int) (x5 : Int) (x6 : Int) (x10 : Int) (x11 : Int) (rot_0 : Int → Int) (pt_0 : Int → Int) (ph_0 : Int → Int) (alive_0 : Int → Int) (rotMany_0 : Int → Int) (pn_0 : Int) (pm_0 : Int) (gy : Int) (k1 : 0 ≤ x1 ∧ x1 ≤ 24) (k2 : 0 ≤ x2 ∧ x2 ≤ 79) (k4 : 0 ≤ x4 ∧ x4 ≤ 24) (k5 : 0 ≤ x5 ∧ x5 ≤ 159) (k6 : 0 ≤ x6 ∧ x6 ≤ 159) (k10 : 0 ≤ x10 ∧ x10 ≤ 79) (k11 : 0 ≤ x11 ∧ x11 ≤ 79) (f5 : PHA (pn_0) (pm_0) (pt_0) (ph_0) (alive_0) (rotMany_0) (rot_0) (x1) (x2) (x10) (x4) (x5) (x6)) (f6 : SEK (rot_0) (x1) (x10) (x11)) (kz_0_31 : 0 ≤ pn_0 ∧ pn_0 ≤ 25) (kz_0_32 : 0 ≤ pm_0 ∧ pm_0 ≤ 80) (ey2 : gy = x4) : (-1) * gy + (1 * x4 + 0) ≤ 0 := by
  have h := sek_a ‹PHA _ _ _ _ _ _ _ _ _ _ _ _ _›.1 ‹PHA _ _ _ _ _ _ _ _ _ _ _ _ _›.2 ‹SEK _ _ _ _›
  omega
set_option maxHeartbeats 4000000 in
theorem vc_Mo_putAhead_1_4 (x1 : Int) (x2 : Int) (x4 : Int) (x5 : Int) (x6 : Int) (x10 : Int) (x11 : Int) (rot_0 : Int → Int) (pt_0 : Int → Int) (ph_0 : Int → Int) (alive_0 : Int → Int) (rotMany_0 : Int → Int) (pn_0 : Int) (pm_0 : Int) (gu : Int) (k1 : 0 ≤ x1 ∧ x1 ≤ 24) (k2 : 0 ≤ x2 ∧ x2 ≤ 79) (k4 : 0 ≤ x4 ∧ x4 ≤ 24) (k5 : 0 ≤ x5 ∧ x5 ≤ 159) (k6 : 0 ≤ x6 ∧ x6 ≤ 159) (k10 : 0 ≤ x10 ∧ x10 ≤ 79) (k11 : 0 ≤ x11 ∧ x11 ≤ 79) (f5 : PHA (pn_0) (pm_0) (pt_0) (ph_0) (alive_0) (rotMany_0) (rot_0) (x1) (x2) (x10) (x4) (x5) (x6)) (f6 : SEK (rot_0) (x1) (x10) (x11)) (kz_0_31 : 0 ≤ pn_0 ∧ pn_0 ≤ 25) (kz_0_32 : 0 ≤ pm_0 ∧ pm_0 ≤ 80) (eu2 : gu = x5) : 1 * gu + ((-1) * x5 + 0) ≤ 0 := by
  have h := sek_a ‹PHA _ _ _ _ _ _ _ _ _ _ _ _ _›.1 ‹PHA _ _ _ _ _ _ _ _ _ _ _ _ _›.2 ‹SEK _ _ _ _›
  omega
set_option maxHeartbeats 4000000 in
theorem vc_Mo_putAhead_1_5 (x1 : Int) (x2 : Int) (x4 : Int) (x5 : Int) (x6 : Int) (x10 : Int) (x11 : Int) (rot_0 : Int → Int) (pt_0 : Int → Int) (ph_0 : Int → Int) (alive_0 : Int → Int) (rotMany_0 : Int → Int) (pn_0 : Int) (pm_0 : Int) (gu : Int) (k1 : 0 ≤ x1 ∧ x1 ≤ 24) (k2 : 0 ≤ x2 ∧ x2 ≤ 79) (k4 : 0 ≤ x4 ∧ x4 ≤ 24) (k5 : 0 ≤ x5 ∧ x5 ≤ 159) (k6 : 0 ≤ x6 ∧ x6 ≤ 159) (k10 : 0 ≤ x10 ∧ x10 ≤ 79) (k11 : 0 ≤ x11 ∧ x11 ≤ 79) (f5 : PHA (pn_0) (pm_0) (pt_0) (ph_0) (alive_0) (rotMany_0) (rot_0) (x1) (x2) (x10) (x4) (x5) (x6)) (f6 : SEK (rot_0) (x1) (x10) (x11)) (kz_0_31 : 0 ≤ pn_0 ∧ pn_0 ≤ 25) (kz_0_32 : 0 ≤ pm_0 ∧ pm_0 ≤ 80) (eu2 : gu = x5) : (-1) * gu + (1 * x5 + 0) ≤ 0 := by
  have h := sek_a ‹PHA _ _ _ _ _ _ _ _ _ _ _ _ _›.1 ‹PHA _ _ _ _ _ _ _ _ _ _ _ _ _›.2 ‹SEK _ _ _ _›
  omega
set_option maxHeartbeats 4000000 in
theorem vc_Mo_putAhead_1_6 (x1 : Int) (x2 : Int) (x4 : Int) (x5 : Int) (x6 : Int) (x10 : Int) (x11 : Int) (rot_0 : Int → Int) (pt_0 : Int → Int) (ph_0 : Int → Int) (alive_0 : Int → Int) (rotMany_0 : Int → Int) (pn_0 : Int) (pm_0 : Int) (gw : Int) (k1 : 0 ≤ x1 ∧ x1 ≤ 24) (k2 : 0 ≤ x2 ∧ x2 ≤ 79) (k4 : 0 ≤ x4 ∧ x4 ≤ 24) (k5 : 0 ≤ x5 ∧ x5 ≤ 159) (k6 : 0 ≤ x6 ∧ x6 ≤ 159) (k10 : 0 ≤ x10 ∧ x10 ≤ 79) (k11 : 0 ≤ x11 ∧ x11 ≤ 79) (f5 : PHA (pn_0) (pm_0) (pt_0) (ph_0) (alive_0) (rotMany_0) (rot_0) (x1) (x2) (x10) (x4) (x5) (x6)) (f6 : SEK (rot_0) (x1) (x10) (x11)) (kz_0_31 : 0 ≤ pn_0 ∧ pn_0 ≤ 25) (kz_0_32 : 0 ≤ pm_0 ∧ pm_0 ≤ 80) (ew2 : gw = x6) : 1 * gw + ((-1) * x6 + 0) ≤ 0 := by
  have h := sek_a ‹PHA _ _ _ _ _ _ _ _ _ _ _ _ _›.1 ‹PHA _ _ _ _ _ _ _ _ _ _ _ _ _›.2 ‹SEK _ _ _ _›
  omega
set_option maxHeartbeats 4000000 in
theorem vc_Mo_putAhead_1_7 (x1 : Int) (x2 : Int) (x4 : Int) (x5 : Int) (x6 : Int) (x10 : Int) (x11 : Int) (rot_0 : Int → Int) (pt_0 : Int → Int) (ph_0 : Int → Int) (alive_0 : Int → Int) (rotMany_0 : Int → Int) (pn_0 : Int) (pm_0 : Int) (gw : Int) (k1 : 0 ≤ x1 ∧ x1 ≤ 24) (k2 : 0 ≤ x2 ∧ x2 ≤ 79) (k4 : 0 ≤ x4 ∧ x4 ≤ 24) (k5 : 0 ≤ x5 ∧ x5 ≤ 159) (k6 : 0 ≤ x6 ∧ x6 ≤ 159) (k10 : 0 ≤ x10 ∧ x10 ≤ 79) (k11 : 0 ≤ x11 ∧ x11 ≤ 79) (f5 : PHA (pn_0) (pm_0) (pt_0) (ph_0) (alive_0) (rotMany_0) (rot_0) (x1) (x2) (x10) (x4) (x5) (x6)) (f6 : SEK (rot_0) (x1) (x10) (x11)) (kz_0_31 : 0 ≤ pn_0 ∧ pn_0 ≤ 25) (kz_0_32 : 0 ≤ pm_0 ∧ pm_0 ≤ 80) (ew2 : gw = x6) : (-1) * gw + (1 * x6 + 0) ≤ 0 := by
  have h := sek_a ‹PHA _ _ _ _ _ _ _ _ _ _ _ _ _›.1 ‹PHA _ _ _ _ _ _ _ _ _ _ _ _ _›.2 ‹SEK _ _ _ _›
  omega
set_option maxHeartbeats 4000000 in
theorem vc_Mo_putAhead_1_8 (x1 : Int) (x2 : Int) (x4 : Int) (x5 : Int) (x6 : Int) (x10 : Int) (x11 : Int) (x14 : Int) (x15 : Int) (x16 : Int) (rot_0 : Int → Int) (pt_0 : Int → Int) (ph_0 : Int → Int) (alive_0 : Int → Int) (rotMany_0 : Int → Int) (pn_0 : Int) (pm_0 : Int) (gx : Int) (gy : Int) (gu : Int) (gw : Int) (k1 : 0 ≤ x1 ∧ x1 ≤ 24) (k2 : 0 ≤ x2 ∧ x2 ≤ 79) (k4 : 0 ≤ x4 ∧ x4 ≤ 24) (k5 : 0 ≤ x5 ∧ x5 ≤ 159) (k6 : 0 ≤ x6 ∧ x6 ≤ 159) (k10 : 0 ≤ x10 ∧ x10 ≤ 79) (k11 : 0 ≤ x11 ∧ x11 ≤ 79) (k14 : 0 ≤ x14 ∧ x14 ≤ 1920) (k15 : 0 ≤ x15 ∧ x15 ≤ 1999) (k16 : 0 ≤ x16 ∧ x16 ≤ 79) (d0 : x10 + 0 ≤ x16 ∧ x16 ≤ x10 + 0) (h1 : x16 = rot_0 (x15)) (f2 : x15 = x14 + x11) (f3 : x14 = 80 * x1) (f5 : PHA (pn_0) (pm_0) (pt_0) (ph_0) (alive_0) (rotMany_0) (rot_0) (x1) (x2) (x10) (x4) (x5) (x6)) (f6 : SEK (rot_0) (x1) (x10) (x11)) (kz_0_31 : 0 ≤ pn_0 ∧ pn_0 ≤ 25) (kz_0_32 : 0 ≤ pm_0 ∧ pm_0 ≤ 80) (ex2 : gx = x1) (ey2 : gy = x4) (eu2 : gu = x5) (ew2 : gw = x6) : PAc (pn_0) (pm_0) (pt_0) (ph_0) (alive_0) (rotMany_0) (rot_0) (x1) (x2) (x11) (gx) (gy) (gu) (gw) := by
  subst ex2; subst ey2; subst eu2; subst ew2
  have hp := ‹PHA _ _ _ _ _ _ _ _ _ _ _ _ _›
  have h := sek_a hp.1 hp.2 ‹SEK _ _ _ _›
  have e1 : 80 * gx + x11 = x15 := by omega
  exact ⟨Or.inr (Or.inr (Or.inl rfl)), hp.1, fun z => by omega, fun z => by omega, fun _ => ⟨rfl, by omega, h.2.1, by unfold rt; rw [e1, ← hp.2]; omega⟩, fun z => by omega⟩
def o_Mo_putAhead_1 : or_T := (30, 17, [(0, (2, 0, 0, [165])), (1, (0, 0, 24, [])), (2, (0, 0, 79, [])), (4, (0, 0, 24, [])), (5, (0, 0, 159, [])), (6, (0, 0, 159, [])), (7, (2, 0, 0, [165])), (8, (0, 0, 24, [])), (9, (0, 0, 79, [])), (10, (0, 0, 79, [])), (11, (0, 0, 79, [])), (12, (2, 0, 0, [184])), (13, (0, 80, 80, [])), (14, (0, 0, 1920, [])), (15, (0, 0, 1999, [])), (16, (0, 0, 79, []))], [(7, [16, 10], [0]), (10, [16, 12, 15], []), (1, [15, 14, 11], []), (3, [14, 13, 8], []), (9, [12, 7], [37]), (20, [7, 8, 9, 10, 4, 5, 6], [60, 2, 5, 259, 31, 32, 33, 34, 35, 36, 37]), (20, [7, 8, 10, 11], [60, 0, 1, 270, 37]), (24, [0, 7], []), (24, [1, 8], []), (24, [2, 9], [])], [(11, (0, 0, 78, []))], [(0, 0, 24, []), (0, 0, 24, []), (0, 0, 159, []), (0, 0, 159, [])], [(23, [17, 8], [0, 1, -1]), (23, [17, 8], [0, -1, 1]), (23, [18, 4], [0, 1, -1]), (23, [18, 4], [0, -1, 1]), (23, [19, 5], [0, 1, -1]), (23, [19, 5], [0, -1, 1]), (23, [20, 6], [0, 1, -1]), (23, [20, 6], [0, -1, 1]), (20, [7, 8, 9, 11, 17, 18, 19, 20], [60, 2, 5, 253, 31, 32, 33, 34, 35, 36, 37])], [], [(16, 10, 0, 0), (15, 11, 0, 1920), (15, 14, 0, 79), (1, 8, -4294967296, 0), (2, 9, -4294967296, 0), (8, 1, -4294967296, 0), (9, 2, -4294967296, 0)])
theorem oo_Mo_putAhead_1 {kA : Nat → ClassId} : or_ok PRD kA GG o_Mo_putAhead_1 := by
  refine or_mk fun A ta ws vs hD hth hl => ?_
  intro t0 r0 t1 k1 t2 k2 t4 k4 t5 k5 t6 k6 t7 r7 t8 k8 t9 k9 t10 k10 t11 k11 t12 r12 t13 k13 t14 k14 t15 k15 t16 k16 d0 d1 d2 d3 d4 d5 d6 f0 f1 f2 f3 f4 f5 f6 f7 f8 f9
  replace f1 := shm_107 f1
  replace f2 := shm_12 f2
  replace f3 := shm_38 f3
  rw [show v_iv (n_v vs 13) = 80 from by omega] at f3
  replace f4 := shm_687 f4
  replace f5 := shm_1016 f5
  replace f6 := shm_1017 f6
  replace f7 := shm_5 f7
  replace f8 := shm_5 f8
  replace f9 := shm_5 f9
  have q7 : n_v vs 7 = n_v vs 0 := f7.symm
  have q8 : n_v vs 8 = n_v vs 1 := f8.symm
  have q9 : n_v vs 9 = n_v vs 2 := f9.symm
  simp only [q8, q7, q9] at f3 f4 f5 f6
  have ad_12 : v_ad (n_v vs 12) = w_ar ws (n_v vs 0) 37 := congrArg v_ad f4
  simp only [ad_12] at f1
  have h1 : v_iv (n_v vs 16) = w_ei ws (w_ar ws (n_v vs 0) 37) (v_iv (n_v vs 15)) := f1
  have kz_0_31 := fdq_145 hD hth r0
  have kz_0_32 := fdq_140 hD hth r0
  obtain ⟨x, ex, hx⟩ := iv_ex (ta := ta) (lo := 0) (hi := 24) (z := v_iv (n_v vs 1)) (by omega) (by omega) (by omega) (by omega)
  have ex2 : v_iv (Value.int x) = v_iv (n_v vs 1) := ex
  have ex3 : 0 ≤ v_iv (Value.int x) ∧ v_iv (Value.int x) ≤ 24 := tv_rng hx
  obtain ⟨y, ey, hy⟩ := iv_ex (ta := ta) (lo := 0) (hi := 24) (z := v_iv (n_v vs 4)) (by omega) (by omega) (by omega) (by omega)
  have ey2 : v_iv (Value.int y) = v_iv (n_v vs 4) := ey
  have ey3 : 0 ≤ v_iv (Value.int y) ∧ v_iv (Value.int y) ≤ 24 := tv_rng hy
  obtain ⟨u, eu, hu⟩ := iv_ex (ta := ta) (lo := 0) (hi := 159) (z := v_iv (n_v vs 5)) (by omega) (by omega) (by omega) (by omega)
  have eu2 : v_iv (Value.int u) = v_iv (n_v vs 5) := eu
  have eu3 : 0 ≤ v_iv (Value.int u) ∧ v_iv (Value.int u) ≤ 159 := tv_rng hu
  obtain ⟨w, ew, hw⟩ := iv_ex (ta := ta) (lo := 0) (hi := 159) (z := v_iv (n_v vs 6)) (by omega) (by omega) (by omega) (by omega)
  have ew2 : v_iv (Value.int w) = v_iv (n_v vs 6) := ew
  have ew3 : 0 ≤ v_iv (Value.int w) ∧ v_iv (Value.int w) ≤ 159 := tv_rng hw
  have hrf0 : 0 ≤ v_iv (n_v vs 11) ∧ v_iv (n_v vs 11) ≤ 78 := vc_Mo_putAhead_1_r0 (v_iv (n_v vs 1)) (v_iv (n_v vs 2)) (v_iv (n_v vs 4)) (v_iv (n_v vs 5)) (v_iv (n_v vs 6)) (v_iv (n_v vs 8)) (v_iv (n_v vs 10)) (v_iv (n_v vs 11)) (v_iv (n_v vs 14)) (v_iv (n_v vs 15)) (w_ei ws (w_ar ws (n_v vs 0) 37)) (w_ei ws (w_ar ws (n_v vs 0) 33)) (w_ei ws (w_ar ws (n_v vs 0) 34)) (w_ei ws (w_ar ws (n_v vs 0) 35)) (w_ei ws (w_ar ws (n_v vs 0) 36)) (w_fi ws (n_v vs 0) 31) (w_fi ws (n_v vs 0) 32) (v_iv (Value.int x)) k1 k2 k4 k5 k6 k8 k10 k11 k14 k15 d2 d3 d5 f2 f3 f5 f6 kz_0_31 kz_0_32 ex2
  have e_4 : n_v (vs ++ [Value.int x, Value.int y, Value.int u, Value.int w]) 4 = n_v vs 4 := n_v_old (by rw [hl]; decide)
  have e_5 : n_v (vs ++ [Value.int x, Value.int y, Value.int u, Value.int w]) 5 = n_v vs 5 := n_v_old (by rw [hl]; decide)
  have e_6 : n_v (vs ++ [Value.int x, Value.int y, Value.int u, Value.int w]) 6 = n_v vs 6 := n_v_old (by rw [hl]; decide)
  have e_7 : n_v (vs ++ [Value.int x, Value.int y, Value.int u, Value.int w]) 7 = n_v vs 7 := n_v_old (by rw [hl]; decide)
  have e_8 : n_v (vs ++ [Value.int x, Value.int y, Value.int u, Value.int w]) 8 = n_v vs 8 := n_v_old (by rw [hl]; decide)
  have e_9 : n_v (vs ++ [Value.int x, Value.int y, Value.int u, Value.int w]) 9 = n_v vs 9 := n_v_old (by rw [hl]; decide)
  have e_11 : n_v (vs ++ [Value.int x, Value.int y, Value.int u, Value.int w]) 11 = n_v vs 11 := n_v_old (by rw [hl]; decide)
  have e_17 : n_v (vs ++ [Value.int x, Value.int y, Value.int u, Value.int w]) 17 = Value.int x := n_v_newk (k := 0) hl rfl
  have e_18 : n_v (vs ++ [Value.int x, Value.int y, Value.int u, Value.int w]) 18 = Value.int y := n_v_newk (k := 1) hl rfl
  have e_19 : n_v (vs ++ [Value.int x, Value.int y, Value.int u, Value.int w]) 19 = Value.int u := n_v_newk (k := 2) hl rfl
  have e_20 : n_v (vs ++ [Value.int x, Value.int y, Value.int u, Value.int w]) 20 = Value.int w := n_v_newk (k := 3) hl rfl
  have nf0 : fc_1 PRD (23, [17, 8], [0, 1, -1]) ws (vs ++ [Value.int x, Value.int y, Value.int u, Value.int w]) := by
    refine ⟨nf_inA hl rfl, sgq_7 ?_⟩
    · show 1 * v_iv (n_v (vs ++ [Value.int x, Value.int y, Value.int u, Value.int w]) 17) + ((-1) * v_iv (n_v (vs ++ [Value.int x, Value.int y, Value.int u, Value.int w]) 8) + 0) ≤ 0
      simp only [e_8, e_17, q8]
      exact vc_Mo_putAhead_1_0 (v_iv (n_v vs 1)) (v_iv (n_v vs 2)) (v_iv (n_v vs 4)) (v_iv (n_v vs 5)) (v_iv (n_v vs 6)) (v_iv (n_v vs 8)) (v_iv (n_v vs 10)) (v_iv (n_v vs 11)) (w_ei ws (w_ar ws (n_v vs 0) 37)) (w_ei ws (w_ar ws (n_v vs 0) 33)) (w_ei ws (w_ar ws (n_v vs 0) 34)) (w_ei ws (w_ar ws (n_v vs 0) 35)) (w_ei ws (w_ar ws (n_v vs 0) 36)) (w_fi ws (n_v vs 0) 31) (w_fi ws (n_v vs 0) 32) (v_iv (Value.int x)) k1 k2 k4 k5 k6 k8 k10 k11 d3 d5 f5 f6 kz_0_31 kz_0_32 ex2
  have nf1 : fc_1 PRD (23, [17, 8], [0, -1, 1]) ws (vs ++ [Value.int x, Value.int y, Value.int u, Value.int w]) := by
    refine ⟨nf_inA hl rfl, sgq_22 ?_⟩
    · show (-1) * v_iv (n_v (vs ++ [Value.int x, Value.int y, Value.int u, Value.int w]) 17) + (1 * v_iv (n_v (vs ++ [Value.int x, Value.int y, Value.int u, Value.int w]) 8) + 0) ≤ 0
      simp only [e_8, e_17, q8]
      exact vc_Mo_putAhead_1_1 (v_iv (n_v vs 1)) (v_iv (n_v vs 2)) (v_iv (n_v vs 4)) (v_iv (n_v vs 5)) (v_iv (n_v vs 6)) (v_iv (n_v vs 8)) (v_iv (n_v vs 10)) (v_iv (n_v vs 11)) (w_ei ws (w_ar ws (n_v vs 0) 37)) (w_ei ws (w_ar ws (n_v vs 0) 33)) (w_ei ws (w_ar ws (n_v vs 0) 34)) (w_ei ws (w_ar ws (n_v vs 0) 35)) (w_ei ws (w_ar ws (n_v vs 0) 36)) (w_fi ws (n_v vs 0) 31) (w_fi ws (n_v vs 0) 32) (v_iv (Value.int x)) k1 k2 k4 k5 k6 k8 k10 k11 d3 d5 f5 f6 kz_0_31 kz_0_32 ex2
  have nf2 : fc_1 PRD (23, [18, 4], [0, 1, -1]) ws (vs ++ [Value.int x, Value.int y, Value.int u, Value.int w]) := by
    refine ⟨nf_inA hl rfl, sgq_7 ?_⟩
    · show 1 * v_iv (n_v (vs ++ [Value.int x, Value.int y, Value.int u, Value.int w]) 18) + ((-1) * v_iv (n_v (vs ++ [Value.int x, Value.int y, Value.int u, Value.int w]) 4) + 0) ≤ 0
      simp only [e_4, e_18]
      exact vc_Mo_putAhead_1_2 (v_iv (n_v vs 1)) (v_iv (n_v vs 2)) (v_iv (n_v vs 4)) (v_iv (n_v vs 5)) (v_iv (n_v vs 6)) (v_iv (n_v vs 10)) (v_iv (n_v vs 11)) (w_ei ws (w_ar ws (n_v vs 0) 37)) (w_ei ws (w_ar ws (n_v vs 0) 33)) (w_ei ws (w_ar ws (n_v vs 0) 34)) (w_ei ws (w_ar ws (n_v vs 0) 35)) (w_ei ws (w_ar ws (n_v vs 0) 36)) (w_fi ws (n_v vs 0) 31) (w_fi ws (n_v vs 0) 32) (v_iv (Value.int y)) k1 k2 k4 k5 k6 k10 k11 f5 f6 kz_0_31 kz_0_32 ey2
  have nf3 : fc_1 PRD (23, [18, 4], [0, -1, 1]) ws (vs ++ [Value.int x, Value.int y, Value.int u, Value.int w]) := by
    refine ⟨nf_inA hl rfl, sgq_22 ?_⟩
    · show (-1) * v_iv (n_v (vs ++ [Value.int x, Value.int y, Value.int u, Value.int w]) 18) + (1 * v_iv (n_v (vs ++ [Value.int x, Value.int y, Value.int u, Value.int w]) 4) + 0) ≤ 0
      simp only [e_4, e_18]
      exact vc_Mo_putAhead_1_3 (v_iv (n_v vs 1)) (v_iv (n_v vs 2)) (v_iv (n_v vs 4)) (v_iv (n_v vs 5)) (v_iv (n_v vs 6)) (v_iv (n_v vs 10)) (v_iv (n_v vs 11)) (w_ei ws (w_ar ws (n_v vs 0) 37)) (w_ei ws (w_ar ws (n_v vs 0) 33)) (w_ei ws (w_ar ws (n_v vs 0) 34)) (w_ei ws (w_ar ws (n_v vs 0) 35)) (w_ei ws (w_ar ws (n_v vs 0) 36)) (w_fi ws (n_v vs 0) 31) (w_fi ws (n_v vs 0) 32) (v_iv (Value.int y)) k1 k2 k4 k5 k6 k10 k11 f5 f6 kz_0_31 kz_0_32 ey2
  have nf4 : fc_1 PRD (23, [19, 5], [0, 1, -1]) ws (vs ++ [Value.int x, Value.int y, Value.int u, Value.int w]) := by
    refine ⟨nf_inA hl rfl, sgq_7 ?_⟩
    · show 1 * v_iv (n_v (vs ++ [Value.int x, Value.int y, Value.int u, Value.int w]) 19) + ((-1) * v_iv (n_v (vs ++ [Value.int x, Value.int y, Value.int u, Value.int w]) 5) + 0) ≤ 0
      simp only [e_5, e_19]
      exact vc_Mo_putAhead_1_4 (v_iv (n_v vs 1)) (v_iv (n_v vs 2)) (v_iv (n_v vs 4)) (v_iv (n_v vs 5)) (v_iv (n_v vs 6)) (v_iv (n_v vs 10)) (v_iv (n_v vs 11)) (w_ei ws (w_ar ws (n_v vs 0) 37)) (w_ei ws (w_ar ws (n_v vs 0) 33)) (w_ei ws (w_ar ws (n_v vs 0) 34)) (w_ei ws (w_ar ws (n_v vs 0) 35)) (w_ei ws (w_ar ws (n_v vs 0) 36)) (w_fi ws (n_v vs 0) 31) (w_fi ws (n_v vs 0) 32) (v_iv (Value.int u)) k1 k2 k4 k5 k6 k10 k11 f5 f6 kz_0_31 kz_0_32 eu2
  have nf5 : fc_1 PRD (23, [19, 5], [0, -1, 1]) ws (vs ++ [Value.int x, Value.int y, Value.int u, Value.int w]) := by
    refine ⟨nf_inA hl rfl, sgq_22 ?_⟩
    · show (-1) * v_iv (n_v (vs ++ [Value.int x, Value.int y, Value.int u, Value.int w]) 19) + (1 * v_iv (n_v (vs ++ [Value.int x, Value.int y, Value.int u, Value.int w]) 5) + 0) ≤ 0
      simp only [e_5, e_19]
      exact vc_Mo_putAhead_1_5 (v_iv (n_v vs 1)) (v_iv (n_v vs 2)) (v_iv (n_v vs 4)) (v_iv (n_v vs 5)) (v_iv (n_v vs 6)) (v_iv (n_v vs 10)) (v_iv (n_v vs 11)) (w_ei ws (w_ar ws (n_v vs 0) 37)) (w_ei ws (w_ar ws (n_v vs 0) 33)) (w_ei ws (w_ar ws (n_v vs 0) 34)) (w_ei ws (w_ar ws (n_v vs 0) 35)) (w_ei ws (w_ar ws (n_v vs 0) 36)) (w_fi ws (n_v vs 0) 31) (w_fi ws (n_v vs 0) 32) (v_iv (Value.int u)) k1 k2 k4 k5 k6 k10 k11 f5 f6 kz_0_31 kz_0_32 eu2
  have nf6 : fc_1 PRD (23, [20, 6], [0, 1, -1]) ws (vs ++ [Value.int x, Value.int y, Value.int u, Value.int w]) := by
    refine ⟨nf_inA hl rfl, sgq_7 ?_⟩
    · show 1 * v_iv (n_v (vs ++ [Value.int x, Value.int y, Value.int u, Value.int w]) 20) + ((-1) * v_iv (n_v (vs ++ [Value.int x, Value.int y, Value.int u, Value.int w]) 6) + 0) ≤ 0
      simp only [e_6, e_20]
      exact vc_Mo_putAhead_1_6 (v_iv (n_v vs 1)) (v_iv (n_v vs 2)) (v_iv (n_v vs 4)) (v_iv (n_v vs 5)) (v_iv (n_v vs 6)) (v_iv (n_v vs 10)) (v_iv (n_v vs 11)) (w_ei ws (w_ar ws (n_v vs 0) 37)) (w_ei ws (w_ar ws (n_v vs 0) 33)) (w_ei ws (w_ar ws (n_v vs 0) 34)) (w_ei ws (w_ar ws (n_v vs 0) 35)) (w_ei ws (w_ar ws (n_v vs 0) 36)) (w_fi ws (n_v vs 0) 31) (w_fi ws (n_v vs 0) 32) (v_iv (Value.int w)) k1 k2 k4 k5 k6 k10 k11 f5 f6 kz_0_31 kz_0_32 ew2
  have nf7 : fc_1 PRD (23, [20, 6], [0, -1, 1]) ws (vs ++ [Value.int x, Value.int y, Value.int u, Value.int w]) := by
    refine ⟨nf_inA hl rfl, sgq_22 ?_⟩
    · show (-1) * v_iv (n_v (vs ++ [Value.int x, Value.int y, Value.int u, Value.int w]) 20) + (1 * v_iv (n_v (vs ++ [Value.int x, Value.int y, Value.int u, Value.int w]) 6) + 0) ≤ 0
      simp only [e_6, e_20]
      exact vc_Mo_putAhead_1_7 (v_iv (n_v vs 1)) (v_iv (n_v vs 2)) (v_iv (n_v vs 4)) (v_iv (n_v vs 5)) (v_iv (n_v vs 6)) (v_iv (n_v vs 10)) (v_iv (n_v vs 11)) (w_ei ws (w_ar ws (n_v vs 0) 37)) (w_ei ws (w_ar ws (n_v vs 0) 33)) (w_ei ws (w_ar ws (n_v vs 0) 34)) (w_ei ws (w_ar ws (n_v vs 0) 35)) (w_ei ws (w_ar ws (n_v vs 0) 36)) (w_fi ws (n_v vs 0) 31) (w_fi ws (n_v vs 0) 32) (v_iv (Value.int w)) k1 k2 k4 k5 k6 k10 k11 f5 f6 kz_0_31 kz_0_32 ew2
  have nf8 : fc_1 PRD (20, [7, 8, 9, 11, 17, 18, 19, 20], [60, 2, 5, 253, 31, 32, 33, 34, 35, 36, 37]) ws (vs ++ [Value.int x, Value.int y, Value.int u, Value.int w]) := by
    refine ⟨nf_inA hl rfl, sgq_692 ?_⟩
    · show PAc (w_fi ws (n_v (vs ++ [Value.int x, Value.int y, Value.int u, Value.int w]) 7) 31) (w_fi ws (n_v (vs ++ [Value.int x, Value.int y, Value.int u, Value.int w]) 7) 32) (w_ei ws (w_ar ws (n_v (vs ++ [Value.int x, Value.int y, Value.int u, Value.int w]) 7) 33)) (w_ei ws (w_ar ws (n_v (vs ++ [Value.int x, Value.int y, Value.int u, Value.int w]) 7) 34)) (w_ei ws (w_ar ws (n_v (vs ++ [Value.int x, Value.int y, Value.int u, Value.int w]) 7) 35)) (w_ei ws (w_ar ws (n_v (vs ++ [Value.int x, Value.int y, Value.int u, Value.int w]) 7) 36)) (w_ei ws (w_ar ws (n_v (vs ++ [Value.int x, Value.int y, Value.int u, Value.int w]) 7) 37)) (v_iv (n_v (vs ++ [Value.int x, Value.int y, Value.int u, Value.int w]) 8)) (v_iv (n_v (vs ++ [Value.int x, Value.int y, Value.int u, Value.int w]) 9)) (v_iv (n_v (vs ++ [Value.int x, Value.int y, Value.int u, Value.int w]) 11)) (v_iv (n_v (vs ++ [Value.int x, Value.int y, Value.int u, Value.int w]) 17)) (v_iv (n_v (vs ++ [Value.int x, Value.int y, Value.int u, Value.int w]) 18)) (v_iv (n_v (vs ++ [Value.int x, Value.int y, Value.int u, Value.int w]) 19)) (v_iv (n_v (vs ++ [Value.int x, Value.int y, Value.int u, Value.int w]) 20))
      simp only [e_7, e_8, e_9, e_11, e_17, e_18, e_19, e_20, q7, q8, q9]
      exact vc_Mo_putAhead_1_8 (v_iv (n_v vs 1)) (v_iv (n_v vs 2)) (v_iv (n_v vs 4)) (v_iv (n_v vs 5)) (v_iv (n_v vs 6)) (v_iv (n_v vs 10)) (v_iv (n_v vs 11)) (v_iv (n_v vs 14)) (v_iv (n_v vs 15)) (v_iv (n_v vs 16)) (w_ei ws (w_ar ws (n_v vs 0) 37)) (w_ei ws (w_ar ws (n_v vs 0) 33)) (w_ei ws (w_ar ws (n_v vs 0) 34)) (w_ei ws (w_ar ws (n_v vs 0) 35)) (w_ei ws (w_ar ws (n_v vs 0) 36)) (w_fi ws (n_v vs 0) 31) (w_fi ws (n_v vs 0) 32) (v_iv (Value.int x)) (v_iv (Value.int y)) (v_iv (Value.int u)) (v_iv (Value.int w)) k1 k2 k4 k5 k6 k10 k11 k14 k15 k16 d0 h1 f2 f3 f5 f6 kz_0_31 kz_0_32 ex2 ey2 eu2 ew2
  have rf11 : tv_ok ta (0, 0, 78, []) (n_v vs 11) := tv_in t11 (by first | omega | grind) (by first | omega | grind)
  exact ⟨List.forall_mem_cons.mpr ⟨rf11, (fun _ h => (by cases h))⟩, [Value.int x, Value.int y, Value.int u, Value.int w], ag_four hx hy hu hw, List.forall_mem_cons.mpr ⟨⟨show (23 : Nat) < 100 from by decide, nf0⟩, List.forall_mem_cons.mpr ⟨⟨show (23 : Nat) < 100 from by decide, nf1⟩, List.forall_mem_cons.mpr ⟨⟨show (23 : Nat) < 100 from by decide, nf2⟩, List.forall_mem_cons.mpr ⟨⟨show (23 : Nat) < 100 from by decide, nf3⟩, List.forall_mem_cons.mpr ⟨⟨show (23 : Nat) < 100 from by decide, nf4⟩, List.forall_mem_cons.mpr ⟨⟨show (23 : Nat) < 100 from by decide, nf5⟩, List.forall_mem_cons.mpr ⟨⟨show (23 : Nat) < 100 from by decide, nf6⟩, List.forall_mem_cons.mpr ⟨⟨show (23 : Nat) < 100 from by decide, nf7⟩, List.forall_mem_cons.mpr ⟨⟨show (20 : Nat) < 100 from by decide, nf8⟩, (fun _ h => (by cases h))⟩⟩⟩⟩⟩⟩⟩⟩⟩, (fun _ h => (by cases h))⟩
set_option maxHeartbeats 4000000 in
theorem vc_Mo_putAhead_2_0 (x1 : Int) (x2 : Int) (x4 : Int) (x5 : Int) (x6 : Int) (x8 : Int) (x17 : Int) (x18 : Int) (x19 : Int) (x20 : Int) (pt_0 : Int → Int) (ph_0 : Int → Int) (alive_0 : Int → Int) (rotMany_0 : Int → Int) (rot_0 : Int → Int) (pn_0 : Int) (pm_0 : Int) (k1 : 0 ≤ x1 ∧ x1 ≤ 24) (k2 : 0 ≤ x2 ∧ x2 ≤ 79) (k4 : 0 ≤ x4 ∧ x4 ≤ 24) (k5 : 0 ≤ x5 ∧ x5 ≤ 159) (k6 : 0 ≤ x6 ∧ x6 ≤ 159) (k8 : 0 ≤ x8 ∧ x8 ≤ 24) (k17 : 0 ≤ x17 ∧ x17 ≤ 24) (k18 : 0 ≤ x18 ∧ x18 ≤ 24) (k19 : 0 ≤ x19 ∧ x19 ≤ 159) (k20 : 0 ≤ x20 ∧ x20 ≤ 159) (d0 : x8 + (-4294967296) ≤ x1 ∧ x1 ≤ x8 + 0) (d2 : x1 + (-4294967296) ≤ x8 ∧ x8 ≤ x1 + 0) (f0 : 1 * x17 + ((-1) * x1 + 0) ≤ 0) (f1 : (-1) * x17 + (1 * x1 + 0) ≤ 0) (f2 : 1 * x18 + ((-1) * x4 + 0) ≤ 0) (f3 : (-1) * x18 + (1 * x4 + 0) ≤ 0) (f4 : 1 * x19 + ((-1) * x5 + 0) ≤ 0) (f5 : (-1) * x19 + (1 * x5 + 0) ≤ 0) (f6 : 1 * x20 + ((-1) * x6 + 0) ≤ 0) (f7 : (-1) * x20 + (1 * x6 + 0) ≤ 0) (f11 : PUd (pn_0) (pm_0) (pt_0) (ph_0) (alive_0) (rotMany_0) (rot_0) (x17) (x18) (x19) (x20) (x2)) (kz_0_31 : 0 ≤ pn_0 ∧ pn_0 ≤ 25) (kz_0_32 : 0 ≤ pm_0 ∧ pm_0 ≤ 80) : PUd (pn_0) (pm_0) (pt_0) (ph_0) (alive_0) (rotMany_0) (rot_0) (x1) (x4) (x5) (x6) (x2) := by
  rw [show x1 = x17 by omega, show x4 = x18 by omega, show x5 = x19 by omega, show x6 = x20 by omega]; assumption
def o_Mo_putAhead_2 : or_T := (33, 21, [(0, (2, 0, 0, [165])), (1, (0, 0, 24, [])), (2, (0, 0, 79, [])), (4, (0, 0, 24, [])), (5, (0, 0, 159, [])), (6, (0, 0, 159, [])), (8, (0, 0, 24, [])), (17, (0, 0, 24, [])), (18, (0, 0, 24, [])), (19, (0, 0, 159, [])), (20, (0, 0, 159, []))], [(23, [17, 8], [0, 1, -1]), (23, [17, 8], [0, -1, 1]), (23, [18, 4], [0, 1, -1]), (23, [18, 4], [0, -1, 1]), (23, [19, 5], [0, 1, -1]), (23, [19, 5], [0, -1, 1]), (23, [20, 6], [0, 1, -1]), (23, [20, 6], [0, -1, 1]), (24, [0, 7], []), (24, [1, 8], []), (24, [2, 9], []), (20, [7, 17, 18, 19, 20, 9], [60, 2, 5, 250, 31, 32, 33, 34, 35, 36, 37])], [], [], [(20, [0, 1, 4, 5, 6, 2], [60, 2, 5, 250, 31, 32, 33, 34, 35, 36, 37])], [], [(1, 8, -4294967296, 0), (8, 1, -4294967296, 0)])
theorem oo_Mo_putAhead_2 {kA : Nat → ClassId} : or_ok PRD kA GG o_Mo_putAhead_2 := by
  refine or_mk fun A ta ws vs hD hth hl => ?_
  intro t0 r0 t1 k1 t2 k2 t4 k4 t5 k5 t6 k6 t8 k8 t17 k17 t18 k18 t19 k19 t20 k20 d0 d2 f0 f1 f2 f3 f4 f5 f6 f7 f8 f9 f10 f11
  replace f0 := shm_7 f0
  replace f1 := shm_22 f1
  replace f8 := shm_5 f8
  replace f9 := shm_5 f9
  replace f10 := shm_5 f10
  replace f11 := shm_694 f11
  have q7 : n_v vs 7 = n_v vs 0 := f8.symm
  have q8 : n_v vs 8 = n_v vs 1 := f9.symm
  have q9 : n_v vs 9 = n_v vs 2 := f10.symm
  simp only [q8, q7, q9] at f0 f1 f11
  have kz_0_31 := fdq_145 hD hth r0
  have kz_0_32 := fdq_140 hD hth r0
  have nf0 : fc_1 PRD (20, [0, 1, 4, 5, 6, 2], [60, 2, 5, 250, 31, 32, 33, 34, 35, 36, 37]) ws (vs) := ⟨nf_in hl rfl, sgq_694 (vc_Mo_putAhead_2_0 (v_iv (n_v vs 1)) (v_iv (n_v vs 2)) (v_iv (n_v vs 4)) (v_iv (n_v vs 5)) (v_iv (n_v vs 6)) (v_iv (n_v vs 8)) (v_iv (n_v vs 17)) (v_iv (n_v vs 18)) (v_iv (n_v vs 19)) (v_iv (n_v vs 20)) (w_ei ws (w_ar ws (n_v vs 0) 33)) (w_ei ws (w_ar ws (n_v vs 0) 34)) (w_ei ws (w_ar ws (n_v vs 0) 35)) (w_ei ws (w_ar ws (n_v vs 0) 36)) (w_ei ws (w_ar ws (n_v vs 0) 37)) (w_fi ws (n_v vs 0) 31) (w_fi ws (n_v vs 0) 32) k1 k2 k4 k5 k6 k8 k17 k18 k19 k20 d0 d2 f0 f1 (shm_7 f2) (shm_22 f3) (shm_7 f4) (shm_22 f5) (shm_7 f6) (shm_22 f7) f11 kz_0_31 kz_0_32)⟩
  refine ⟨(fun _ h => (by cases h)), [], trivial, ?_, (fun _ h => (by cases h))⟩
  rw [List.append_nil]
  exact List.forall_mem_cons.mpr ⟨⟨show (20 : Nat) < 100 from by decide, nf0⟩, (fun _ h => (by cases h))⟩
set_option maxHeartbeats 4000000 in
theorem vc_Mo_putAhead_3_r0 (x1 : Int) (x2 : Int) (x4 : Int) (x5 : Int) (x6 : Int) (x8 : Int) (x10 : Int) (x11 : Int) (x14 : Int) (x15 : Int) (rot_0 : Int → Int) (pt_0 : Int → Int) (ph_0 : Int → Int) (alive_0 : Int → Int) (rotMany_0 : Int → Int) (pn_0 : Int) (pm_0 : Int) (k1 : 0 ≤ x1 ∧ x1 ≤ 24) (k2 : 0 ≤ x2 ∧ x2 ≤ 79) (k4 : 0 ≤ x4 ∧ x4 ≤ 24) (k5 : 0 ≤ x5 ∧ x5 ≤ 159) (k6 : 0 ≤ x6 ∧ x6 ≤ 159) (k8 : 0 ≤ x8 ∧ x8 ≤ 24) (k10 : 0 ≤ x10 ∧ x10 ≤ 79) (k11 : 0 ≤ x11 ∧ x11 ≤ 79) (k14 : 0 ≤ x14 ∧ x14 ≤ 1920) (k15 : 0 ≤ x15 ∧ x15 ≤ 1999) (d1 : x14 + 0 ≤ x15 ∧ x15 ≤ x14 + 79) (d2 : x8 + (-4294967296) ≤ x1 ∧ x1 ≤ x8 + 0) (d4 : x1 + (-4294967296) ≤ x8 ∧ x8 ≤ x1 + 0) (f2 : x15 = x14 + x11) (f3 : x14 = 80 * x1) (f5 : PHA (pn_0) (pm_0) (pt_0) (ph_0) (alive_0) (rotMany_0) (rot_0) (x1) (x2) (x10) (x4) (x5) (x6)) (f6 : SEK (rot_0) (x1) (x10) (x11)) (kz_0_31 : 0 ≤ pn_0 ∧ pn_0 ≤ 25) (kz_0_32 : 0 ≤ pm_0 ∧ pm_0 ≤ 80) : 0 ≤ x11 ∧ x11 ≤ 78 := by
  have h := sek_a ‹PHA _ _ _ _ _ _ _ _ _ _ _ _ _›.1 ‹PHA _ _ _ _ _ _ _ _ _ _ _ _ _›.2 ‹SEK _ _ _ _›
  omega
def o_Mo_putAhead_3 : or_T := (19, 17, [(0, (2, 0, 0, [165])), (1, (0, 0, 24, [])), (2, (0, 0, 79, [])), (4, (0, 0, 24, [])), (5, (0, 0, 159, [])), (6, (0, 0, 159, [])), (7, (2, 0, 0, [165])), (8, (0, 0, 24, [])), (9, (0, 0, 79, [])), (10, (0, 0, 79, [])), (11, (0, 0, 79, [])), (12, (2, 0, 0, [184])), (13, (0, 80, 80, [])), (14, (0, 0, 1920, [])), (15, (0, 0, 1999, [])), (16, (0, 0, 79, []))], [(7, [16, 10], [1]), (10, [16, 12, 15], []), (1, [15, 14, 11], []), (3, [14, 13, 8], []), (9, [12, 7], [37]), (20, [7, 8, 9, 10, 4, 5, 6], [60, 2, 5, 259, 31, 32, 33, 34, 35, 36, 37]), (20, [7, 8, 10, 11], [60, 0, 1, 270, 37]), (24, [0, 7], []), (24, [1, 8], []), (24, [2, 9], [])], [(11, (0, 0, 78, []))], [], [], [], [(15, 11, 0, 1920), (15, 14, 0, 79), (1, 8, -4294967296, 0), (2, 9, -4294967296, 0), (8, 1, -4294967296, 0), (9, 2, -4294967296, 0)])
theorem oo_Mo_putAhead_3 {kA : Nat → ClassId} : or_ok PRD kA GG o_Mo_putAhead_3 := by
  refine or_mk fun A ta ws vs hD hth hl => ?_
  intro t0 r0 t1 k1 t2 k2 t4 k4 t5 k5 t6 k6 t7 r7 t8 k8 t9 k9 t10 k10 t11 k11 t12 r12 t13 k13 t14 k14 t15 k15 t16 k16 d0 d1 d2 d3 d4 d5 f0 f1 f2 f3 f4 f5 f6 f7 f8 f9
  replace f3 := shm_38 f3
  rw [show v_iv (n_v vs 13) = 80 from by omega] at f3
  replace f5 := shm_1016 f5
  replace f6 := shm_1017 f6
  replace f7 := shm_5 f7
  replace f8 := shm_5 f8
  replace f9 := shm_5 f9
  have q7 : n_v vs 7 = n_v vs 0 := f7.symm
  have q8 : n_v vs 8 = n_v vs 1 := f8.symm
  have q9 : n_v vs 9 = n_v vs 2 := f9.symm
  simp only [q8, q7, q9] at f3 f5 f6
  have kz_0_31 := fdq_145 hD hth r0
  have kz_0_32 := fdq_140 hD hth r0
  have hrf0 : 0 ≤ v_iv (n_v vs 11) ∧ v_iv (n_v vs 11) ≤ 78 := vc_Mo_putAhead_3_r0 (v_iv (n_v vs 1)) (v_iv (n_v vs 2)) (v_iv (n_v vs 4)) (v_iv (n_v vs 5)) (v_iv (n_v vs 6)) (v_iv (n_v vs 8)) (v_iv (n_v vs 10)) (v_iv (n_v vs 11)) (v_iv (n_v vs 14)) (v_iv (n_v vs 15)) (w_ei ws (w_ar ws (n_v vs 0) 37)) (w_ei ws (w_ar ws (n_v vs 0) 33)) (w_ei ws (w_ar ws (n_v vs 0) 34)) (w_ei ws (w_ar ws (n_v vs 0) 35)) (w_ei ws (w_ar ws (n_v vs 0) 36)) (w_fi ws (n_v vs 0) 31) (w_fi ws (n_v vs 0) 32) k1 k2 k4 k5 k6 k8 k10 k11 k14 k15 d1 d2 d4 (shm_12 f2) f3 f5 f6 kz_0_31 kz_0_32
  have rf11 : tv_ok ta (0, 0, 78, []) (n_v vs 11) := tv_in t11 (by first | omega | grind) (by first | omega | grind)
  refine ⟨List.forall_mem_cons.mpr ⟨rf11, (fun _ h => (by cases h))⟩, [], trivial, ?_, (fun _ h => (by cases h))⟩
  rw [List.append_nil]
  exact (fun _ h => (by cases h))
set_option maxHeartbeats 4000000 in
theorem vc_Mo_putAhead_4_0 (x1 : Int) (x8 : Int) (x10 : Int) (x11 : Int) (x14 : Int) (x15 : Int) (x16 : Int) (x17 : Int) (rot_0 : Int → Int) (k1 : 0 ≤ x1 ∧ x1 ≤ 24) (k8 : 0 ≤ x8 ∧ x8 ≤ 24) (k10 : 0 ≤ x10 ∧ x10 ≤ 79) (k11 : 0 ≤ x11 ∧ x11 ≤ 78) (k14 : 0 ≤ x14 ∧ x14 ≤ 1920) (k15 : 0 ≤ x15 ∧ x15 ≤ 1999) (k16 : 0 ≤ x16 ∧ x16 ≤ 79) (k17 : 1 ≤ x17 ∧ x17 ≤ 79) (d0 : x11 + 1 ≤ x17 ∧ x17 ≤ x11 + 1) (d3 : x8 + (-4294967296) ≤ x1 ∧ x1 ≤ x8 + 0) (d5 : x1 + (-4294967296) ≤ x8 ∧ x8 ≤ x1 + 0) (f0 : x17 = x11 + 1) (f1 : x16 ≠ x10) (h2 : x16 = rot_0 (x15)) (f3 : x15 = x14 + x11) (f4 : x14 = 80 * x1) (f7 : SEK (rot_0) (x1) (x10) (x11)) : SEK (rot_0) (x1) (x10) (x17) := by
  first
    | (intro j a b; exfalso; omega)
    | exact sek_next ‹SEK _ _ _ _› (by omega) (by unfold rt; rw [show 80 * x1 + x11 = x15 by omega]; omega)
def o_Mo_putAhead_4 : or_T := (3, 18, [(1, (0, 0, 24, [])), (8, (0, 0, 24, [])), (10, (0, 0, 79, [])), (11, (0, 0, 78, [])), (13, (0, 80, 80, [])), (14, (0, 0, 1920, [])), (15, (0, 0, 1999, [])), (16, (0, 0, 79, [])), (17, (0, 1, 79, []))], [(6, [17, 11], [1]), (7, [16, 10], [1]), (10, [16, 12, 15], []), (1, [15, 14, 11], []), (3, [14, 13, 8], []), (9, [12, 7], [37]), (20, [7, 8, 10, 11], [60, 0, 1, 270, 37]), (24, [0, 7], []), (24, [1, 8], [])], [], [], [(20, [7, 8, 10, 17], [60, 0, 1, 270, 37])], [], [(17, 11, 1, 1), (1, 8, -4294967296, 0), (8, 1, -4294967296, 0)])
theorem oo_Mo_putAhead_4 {kA : Nat → ClassId} : or_ok PRD kA GG o_Mo_putAhead_4 := by
  refine or_mk fun A ta ws vs hD hth hl => ?_
  intro t1 k1 t8 k8 t10 k10 t11 k11 t13 k13 t14 k14 t15 k15 t16 k16 t17 k17 d0 d3 d5 f0 f1 f2 f3 f4 f5 f7 f8 f9
  replace f0 := shm_4 f0
  replace f1 := shm_40 f1
  replace f2 := shm_107 f2
  replace f3 := shm_12 f3
  replace f4 := shm_38 f4
  rw [show v_iv (n_v vs 13) = 80 from by omega] at f4
  replace f5 := shm_687 f5
  replace f7 := shm_1017 f7
  replace f8 := shm_5 f8
  replace f9 := shm_5 f9
  have q7 : n_v vs 7 = n_v vs 0 := f8.symm
  have q8 : n_v vs 8 = n_v vs 1 := f9.symm
  simp only [q8, q7] at f4 f5 f7
  have ad_12 : v_ad (n_v vs 12) = w_ar ws (n_v vs 0) 37 := congrArg v_ad f5
  simp only [ad_12] at f2
  have h2 : v_iv (n_v vs 16) = w_ei ws (w_ar ws (n_v vs 0) 37) (v_iv (n_v vs 15)) := f2
  have nf0 : fc_1 PRD (20, [7, 8, 10, 17], [60, 0, 1, 270, 37]) ws (vs) := by
    refine ⟨nf_in hl rfl, sgq_1017 ?_⟩
    · show SEK (w_ei ws (w_ar ws (n_v vs 7) 37)) (v_iv (n_v vs 8)) (v_iv (n_v vs 10)) (v_iv (n_v vs 17))
      simp only [q7, q8]
      exact vc_Mo_putAhead_4_0 (v_iv (n_v vs 1)) (v_iv (n_v vs 8)) (v_iv (n_v vs 10)) (v_iv (n_v vs 11)) (v_iv (n_v vs 14)) (v_iv (n_v vs 15)) (v_iv (n_v vs 16)) (v_iv (n_v vs 17)) (w_ei ws (w_ar ws (n_v vs 0) 37)) k1 k8 k10 k11 k14 k15 k16 k17 d0 d3 d5 f0 f1 h2 f3 f4 f7
  refine ⟨(fun _ h => (by cases h)), [], trivial, ?_, (fun _ h => (by cases h))⟩
  rw [List.append_nil]
  exact List.forall_mem_cons.mpr ⟨⟨show (20 : Nat) < 100 from by decide, nf0⟩, (fun _ h => (by cases h))⟩
def n_Mo_putAhead_an : List an_T := [(3, [(0, (2, 0, 0, [165])), (1, (0, 0, 24, [])), (2, (0, 0, 79, [])), (3, (0, 0, 79, [])), (4, (0, 0, 79, []))], [], (0, 0), [(0, 0, 99997), (1, 11, 79), (0, 0, 100000)], [(1, 8, (Int.negSucc 999999999999), 0), (2, 9, (Int.negSucc 999999999999), 0), (3, 10, (Int.negSucc 999999999999), 0), (8, 1, (Int.negSucc 999999999999), 0), (9, 2, (Int.negSucc 999999999999), 0), (10, 3, (Int.negSucc 999999999999), 0)], [], [(2, 0, 0, [165]), (0, 0, 24, []), (0, 0, 79, []), (0, 0, 79, []), (0, 0, 24, []), (0, 0, 159, []), (0, 0, 159, [])], 0, [], [(20, [7, 8, 9, 10, 4, 5, 6], [60, 2, 5, 259, 31, 32, 33, 34, 35, 36, 37]), (20, [7, 8, 10, 11], [60, 0, 1, 270, 37]), (24, [0, 7], []), (24, [1, 8], []), (24, [2, 9], [])])]
def t_Mo_putAhead_ct : ct_L := [(94, 880, e_Mo_putAt_at_g3)]
set_option maxRecDepth 100000 in
theorem c_Mo_putAhead {l : Launch} {D : va_G} {kA : Nat → ClassId} (h_Mo_putAt_at_g3 : ct_ok PRD l D kA GG y_Mo_putAt_at_g3 z_Mo_putAt_at_g3 e_Mo_putAt_at_g3) : ct_ok PRD l D kA GG y_Mo_putAhead z_Mo_putAhead e_Mo_putAhead := chk_all_ok (FT := [(69, 13, 37)]) (PT := []) (CT := t_Mo_putAhead_ct) (KT := []) (NT := []) (AN := n_Mo_putAhead_an) (OT := [o_Mo_putAhead_0, o_Mo_putAhead_1, o_Mo_putAhead_2, o_Mo_putAhead_3, o_Mo_putAhead_4]) 3 200 (List.forall_mem_cons.mpr ⟨oo_Mo_putAhead_0, List.forall_mem_cons.mpr ⟨oo_Mo_putAhead_1, List.forall_mem_cons.mpr ⟨oo_Mo_putAhead_2, List.forall_mem_cons.mpr ⟨oo_Mo_putAhead_3, List.forall_mem_cons.mpr ⟨oo_Mo_putAhead_4, List.forall_mem_nil _⟩⟩⟩⟩⟩) (by decide +kernel) ⟨List.forall_mem_cons.mpr ⟨gf_Mo_69, List.forall_mem_nil _⟩, List.forall_mem_nil _, List.forall_mem_cons.mpr ⟨cl_virtual (y := y_Mo_putAt_at_g3) (ci := 13) rfl rfl ⟨_, _, rfl⟩ (by decide +kernel) h_Mo_putAt_at_g3 wm_3490 wm_9 wm_3487 wm_3489 wv_19_8 ⟨by decide, by decide, by decide +kernel⟩ (by decide), List.forall_mem_nil _⟩, List.forall_mem_nil _, List.forall_mem_nil _, GG_pl⟩ (by decide +kernel)
set_option maxHeartbeats 4000000 in
theorem vc_Mo_putBehind_0_0 (x1 : Int) (x3 : Int) (x7 : Int) (rot_0 : Int → Int) (k1 : 0 ≤ x1 ∧ x1 ≤ 24) (k3 : 0 ≤ x3 ∧ x3 ≤ 79) (k7 : 0 ≤ x7 ∧ x7 ≤ 0) : SEK (rot_0) (x1) (x3) (x7) := by
  first
    | (intro j a b; exfalso; omega)
    | exact sek_next ‹SEK _ _ _ _› (by omega) (by unfold rt; rw [show 80 * x1 + x11 = x15 by omega]; omega)
def o_Mo_putBehind_0 : or_T := (3, 8, [(1, (0, 0, 24, [])), (3, (0, 0, 79, [])), (7, (0, 0, 0, []))], [], [], [], [(20, [0, 1, 3, 7], [60, 0, 1, 270, 37]), (24, [0, 0], []), (24, [1, 1], []), (24, [2, 2], [])], [], [])
theorem oo_Mo_putBehind_0 {kA : Nat → ClassId} : or_ok PRD kA GG o_Mo_putBehind_0 := by
  refine or_mk fun A ta ws vs hD hth hl => ?_
  intro t1 k1 t3 k3 t7 k7
  have nf0 : fc_1 PRD (20, [0, 1, 3, 7], [60, 0, 1, 270, 37]) ws (vs) := ⟨nf_in hl rfl, sgq_1017 (vc_Mo_putBehind_0_0 (v_iv (n_v vs 1)) (v_iv (n_v vs 3)) (v_iv (n_v vs 7)) (w_ei ws (w_ar ws (n_v vs 0) 37)) k1 k3 k7)⟩
  have nf1 : fc_1 PRD (24, [0, 0], []) ws (vs) := by
    refine ⟨nf_in hl rfl, sgq_1 ?_⟩
    · show n_v vs 0 = n_v vs 0
      first | rfl | simp only [true_and]
  have nf2 : fc_1 PRD (24, [1, 1], []) ws (vs) := by
    refine ⟨nf_in hl rfl, sgq_1 ?_⟩
    · show n_v vs 1 = n_v vs 1
      first | rfl | simp only [true_and]
  have nf3 : fc_1 PRD (24, [2, 2], []) ws (vs) := by
    refine ⟨nf_in hl rfl, sgq_1 ?_⟩
    · show n_v vs 2 = n_v vs 2
      first | rfl | simp only [true_and]
  refine ⟨(fun _ h => (by cases h)), [], trivial, ?_, (fun _ h => (by cases h))⟩
  rw [List.append_nil]
  exact List.forall_mem_cons.mpr ⟨⟨show (20 : Nat) < 100 from by decide, nf0⟩, List.forall_mem_cons.mpr ⟨⟨show (24 : Nat) < 100 from by decide, nf1⟩, List.forall_mem_cons.mpr ⟨⟨show (24 : Nat) < 100 from by decide, nf2⟩, List.forall_mem_cons.mpr ⟨⟨show (24 : Nat) < 100 from by decide, nf3⟩, (fun _ h => (by cases h))⟩⟩⟩⟩
set_option maxHeartbeats 4000000 in
theorem vc_Mo_putBehind_1_r0 (x1 : Int) (x2 : Int) (x4 : Int) (x5 : Int) (x6 : Int) (x10 : Int) (x11 : Int) (x18 : Int) (rot_0 : Int → Int) (pt_0 : Int → Int) (ph_0 : Int → Int) (alive_0 : Int → Int) (rotMany_0 : Int → Int) (pn_0 : Int) (pm_0 : Int) (k1 : 0 ≤ x1 ∧ x1 ≤ 24) (k2 : 0 ≤ x2 ∧ x2 ≤ 79) (k4 : 0 ≤ x4 ∧ x4 ≤ 24) (k5 : 0 ≤ x5 ∧ x5 ≤ 159) (k6 : 0 ≤ x6 ∧ x6 ≤ 159) (k10 : 0 ≤ x10 ∧ x10 ≤ 79) (k11 : 0 ≤ x11 ∧ x11 ≤ 79) (k18 : 1 ≤ x18 ∧ x18 ≤ 80) (d0 : x11 + 1 ≤ x18 ∧ x18 ≤ x11 + 1) (f6 : PHB (pn_0) (pm_0) (pt_0) (ph_0) (alive_0) (rotMany_0) (rot_0) (x1) (x2) (x10) (x4) (x5) (x6)) (f7 : SEK (rot_0) (x1) (x10) (x11)) (kz_0_31 : 0 ≤ pn_0 ∧ pn_0 ≤ 25) (kz_0_32 : 0 ≤ pm_0 ∧ pm_0 ≤ 80) : 1 ≤ x18 ∧ x18 ≤ 79 := by
  have h := sek_c ‹PHB _ _ _ _ _ _ _ _ _ _ _ _ _›.1 ‹PHB _ _ _ _ _ _ _ _ _ _ _ _ _›.2 ‹SEK _ _ _ _›
  omega
set_option maxHeartbeats 4000000 in
theorem vc_Mo_putBehind_1_0 (x1 : Int) (x2 : Int) (x4 : Int) (x5 : Int) (x6 : Int) (x10 : Int) (x11 : Int) (rot_0 : Int → Int) (pt_0 : Int → Int) (ph_0 : Int → Int) (alive_0 : Int → Int) (rotMany_0 : Int → Int) (pn_0 : Int) (pm_0 : Int) (gx : Int) (k1 : 0 ≤ x1 ∧ x1 ≤ 24) (k2 : 0 ≤ x2 ∧ x2 ≤ 79) (k4 : 0 ≤ x4 ∧ x4 ≤ 24) (k5 : 0 ≤ x5 ∧ x5 ≤ 159) (k6 : 0 ≤ x6 ∧ x6 ≤ 159) (k10 : 0 ≤ x10 ∧ x10 ≤ 79) (k11 : 0 ≤ x11 ∧ x11 ≤ 79) (f6 : PHB (pn_0) (pm_0) (pt_0) (ph_0) (alive_0) (rotMany_0) (rot_0) (x1) (x2) (x10) (x4) (x5) (x6)) (f7 : SEK (rot_0) (x1) (x10) (x11)) (kz_0_31 : 0 ≤ pn_0 ∧ pn_0 ≤ 25) (kz_0_32 : 0 ≤ pm_0 ∧ pm_0 ≤ 80) (ex2 : gx = x4) : 1 * gx + ((-1) * x4 + 0) ≤ 0 := by
  have h := sek_c ‹PHB _ _ _ _ _ _ _ _ _ _ _ _ _›.1 ‹PHB _ _ _ _ _ _ _ _ _ _ _ _ _›.2 ‹SEK _ _ _ _›
  omega
set_option maxHeartbeats 4000000 in
theorem vc_Mo_putBehind_1_1 (x1 : Int) (x2 : Int) (x4 : Int) (x5 : Int) (x6 : Int) (x10 : Int) (x11 : Int) (rot_0 : Int → Int) (pt_0 : Int → Int) (ph_0 : Int → Int) (alive_0 : Int → Int) (rotMany_0 : Int → Int) (pn_0 : Int) (pm_0 : Int) (gx : Int) (k1 : 0 ≤ x1 ∧ x1 ≤ 24) (k2 : 0 ≤ x2 ∧ x2 ≤ 79) (k4 : 0 ≤ x4 ∧ x4 ≤ 24) (k5 : 0 ≤ x5 ∧ x5 ≤ 159) (k6 : 0 ≤ x6 ∧ x6 ≤ 159) (k10 : 0 ≤ x10 ∧ x10 ≤ 79) (k11 : 0 ≤ x11 ∧ x11 ≤ 79) (f6 : PHB (pn_0) (pm_0) (pt_0) (ph_0) (alive_0) (rotMany_0) (rot_0) (x1) (x2) (x10) (x4) (x5) (x6)) (f7 : SEK (rot_0) (x1) (x10) (x11)) (kz_0_31 : 0 ≤ pn_0 ∧ pn_0 ≤ 25) (kz_0_32 : 0 ≤ pm_0 ∧ pm_0 ≤ 80) (ex2 : gx = x4) : (-1) * gx + (1 * x4 + 0) ≤ 0 := by
  have h := sek_c ‹PHB _ _ _ _ _ _ _ _ _ _ _ _ _›.1 ‹PHB _ _ _ _ _ _ _ _ _ _ _ _ _›.2 ‹SEK _ _ _ _›
  omega
set_option maxHeartbeats 4000000 in
theorem vc_Mo_putBehind_1_2 (x1 : Int) (x2 : Int) (x4 : Int) (x5 : Int) (x6 : Int) (x8 : Int) (x10 : Int) (x11 : Int) (rot_0 : Int → Int) (pt_0 : Int → Int) (ph_0 : Int → Int) (alive_0 : Int → Int) (rotMany_0 : Int → Int) (pn_0 : Int) (pm_0 : Int) (gy : Int) (k1 : 0 ≤ x1 ∧ x1 ≤ 24) (k2 : 0 ≤ x2 ∧ x2 ≤ 79) (k4 : 0 ≤ x4 ∧ x4 ≤ 24) (k5 : 0 ≤ x5 ∧ x5 ≤ 159) (k6 : 0 ≤ x6 ∧ x6 ≤ 159) (k8 : 0 ≤ x8 ∧ x8 ≤ 24) (k10 : 0 ≤ x10 ∧ x10 ≤ 79) (k11 : 0 ≤ x11 ∧ x11 ≤ 79) (d4 : x8 + (-4294967296) ≤ x1 ∧ x1 ≤ x8 + 0) (d6 : x1 + (-4294967296) ≤ x8 ∧ x8 ≤ x1 + 0) (f6 : PHB (pn_0) (pm_0) (pt_0) (ph_0) (alive_0) (rotMany_0) (rot_0) (x1) (x2) (x10) (x4) (x5) (x6)) (f7 : SEK (rot_0) (x1) (x10) (x11)) (kz_0_31 : 0 ≤ pn_0 ∧ pn_0 ≤ 25) (kz_0_32 : 0 ≤ pm_0 ∧ pm_0 ≤ 80) (ey2 : gy = x1) : 1 * gy + ((-1) * x1 + 0) ≤ 0 := by
  have h := sek_c ‹PHB _ _ _ _ _ _ _ _ _ _ _ _ _›.1 ‹PHB _ _ _ _ _ _ _ _ _ _ _ _ _›.2 ‹SEK _ _ _ _›
  omega
set_option maxHeartbeats 4000000 in
theorem vc_Mo_putBehind_1_3 (x1 : Int) (x2 : Int) (x4 : Int) (x5 : Int) (x6 : Int) (x8 : Int) (x10 : Int) (x11 : Int) (rot_0 : Int → Int) (pt_0 : Int → Int) (ph_0 : Int → Int) (alive_0 : Int → Int) (rotMany_0 : Int → Int) (pn_0 : Int) (pm_0 : Int) (gy : Int) (k1 : 0 ≤ x1 ∧ x1 ≤ 24) (k2 : 0 ≤ x2 ∧ x2 ≤ 79) (k4 : 0 ≤ x4 ∧ x4 ≤ 24) (k5 : 0 ≤ x5 ∧ x5 ≤ 159) (k6 : 0 ≤ x6 ∧ x6 ≤ 159) (k8 : 0 ≤ x8 ∧ x8 ≤ 24) (k10 : 0 ≤ x10 ∧ x10 ≤ 79) (k11 : 0 ≤ x11 ∧ x11 ≤ 79) (d4 : x8 + (-4294967296) ≤ x1 ∧ x1 ≤ x8 + 0) (d6 : x1 + (-4294967296) ≤ x8 ∧ x8 ≤ x1 + 0) (f6 : PHB (pn_0) (pm_0) (pt_0) (ph_0) (alive_0) (rotMany_0) (rot_0) (x1) (x2) (x10) (x4) (x5) (x6)) (f7 : SEK (rot_0) (x1) (x10) (x11)) (kz_0_31 : 0 ≤ pn_0 ∧ pn_0 ≤ 25) (kz_0_32 : 0 ≤ pm_0 ∧ pm_0 ≤ 80) (ey2 : gy = x1) : (-1) * gy + (1 * x1 + 0) ≤ 0 := by
  have h := sek_c ‹PHB _ _ _ _ _ _ _ _ _ _ _ _ _›.1 ‹PHB _ _ _ _ _ _ _ _ _ _ _ _ _›.2 ‹SEK _ _ _ _›
  omega
set_option maxHeartbeats 4000000 in
theorem vc_Mo_putBehind_1_4 (x1 : Int) (x2 : Int) (x4 : Int) (x5 : Int) (x6 : Int) (x10 : Int) (x11 : Int) (rot_0 : Int → Int) (pt_0 : Int → Int) (ph_0 : Int → Int) (alive_0 : Int → Int) (rotMany_0 : Int → Int) (pn_0 : Int) (pm_0 : Int) (gu : Int) (k1 : 0 ≤ x1 ∧ x1 ≤ 24) (k2 : 0 ≤ x2 ∧ x2 ≤ 79) (k4 : 0 ≤ x4 ∧ x4 ≤ 24) (k5 : 0 ≤ x5 ∧ x5 ≤ 159) (k6 : 0 ≤ x6 ∧ x6 ≤ 159) (k10 : 0 ≤ x10 ∧ x10 ≤ 79) (k11 : 0 ≤ x11 ∧ x11 ≤ 79) (f6 : PHB (pn_0) (pm_0) (pt_0) (ph_0) (alive_0) (rotMany_0) (rot_0) (x1) (x2) (x10) (x4) (x5) (x6)) (f7 : SEK (rot_0) (x1) (x10) (x11)) (kz_0_31 : 0 ≤ pn_0 ∧ pn_0 ≤ 25) (kz_0_32 : 0 ≤ pm_0 ∧ pm_0 ≤ 80) (eu2 : gu = x5) : 1 * gu + ((-1) * x5 + 0) ≤ 0 := by
  have h := sek_c ‹PHB _ _ _ _ _ _ _ _ _ _ _ _ _›.1 ‹PHB _ _ _ _ _ _ _ _ _ _ _ _ _›.2 ‹SEK _ _ _ _›
  omega
set_option maxHeartbeats 4000000 in
theorem vc_Mo_putBehind_1_5 (x1 : Int) (x2 : Int) (x4 : Int) (x5 : Int) (x6 : Int) (x10 : Int) (x11 : Int) (rot_0 : Int → Int) (pt_0 : Int → Int) (ph_0 : Int → Int) (alive_0 : Int → Int) (rotMany_0 : Int → Int) (pn_0 : Int) (pm_0 : Int) (gu : Int) (k1 : 0 ≤ x1 ∧ x1 ≤ 24) (k2 : 0 ≤ x2 ∧ x2 ≤ 79) (k4 : 0 ≤ x4 ∧ x4 ≤ 24) (k5 : 0 ≤ x5 ∧ x5 ≤ 159) (k6 : 0 ≤ x6 ∧ x6 ≤ 159) (k10 : 0 ≤ x10 ∧ x10 ≤ 79) (k11 : 0 ≤ x11 ∧ x11 ≤ 79) (f6 : PHB (pn_0) (pm_0) (pt_0) (ph_0) (alive_0) (rotMany_0) (rot_0) (x1) (x2) (x10) (x4) (x5) (x6)) (f7 : SEK (rot_0) (x1) (x10) (x11)) (kz_0_31 : 0 ≤ pn_0 ∧ pn_0 ≤ 25) (kz_0_32 : 0 ≤ pm_0 ∧ pm_0 ≤ 80) (eu2 : gu = x5) : (-1) * gu + (1 * x5 + 0) ≤ 0 := by
  have h := sek_c ‹PHB _ _ _ _ _ _ _ _ _ _ _ _ _›.1 ‹PHB _ _ _ _ _ _ _ _ _ _ _ _ _›.2 ‹SEK _ _ _ _›
  omega
set_option maxHeartbeats 4000000 in
theorem vc_Mo_putBehind_1_6 (x1 : Int) (x2 : Int) (x4 : Int) (x5 : Int) (x6 : Int) (x10 : Int) (x11 : Int) (rot_0 : Int → Int) (pt_0 : Int → Int) (ph_0 : Int → Int) (alive_0 : Int → Int) (rotMany_0 : Int → Int) (pn_0 : Int) (pm_0 : Int) (gw : Int) (k1 : 0 ≤ x1 ∧ x1 ≤ 24) (k2 : 0 ≤ x2 ∧ x2 ≤ 79) (k4 : 0 ≤ x4 ∧ x4 ≤ 24) (k5 : 0 ≤ x5 ∧ x5 ≤ 159) (k6 : 0 ≤ x6 ∧ x6 ≤ 159) (k10 : 0 ≤ x10 ∧ x10 ≤ 79) (k11 : 0 ≤ x11 ∧ x11 ≤ 79) (f6 : PHB (pn_0) (pm_0) (pt_0) (ph_0) (alive_0) (rotMany_0) (rot_0) (x1) (x2) (x10) (x4) (x5) (x6)) (f7 : SEK (rot_0) (x1) (x10) (x11)) (kz_0_31 : 0 ≤ pn_0 ∧ pn_0 ≤ 25) (kz_0_32 : 0 ≤ pm_0 ∧ pm_0 ≤ 80) (ew2 : gw = x6) : 1 * gw + ((-1) * x6 + 0) ≤ 0 := by
  have h := sek_c ‹PHB _ _ _ _ _ _ _ _ _ _ _ _ _›.1 ‹PHB _ _ _ _ _ _ _ _ _ _ _ _ _›.2 ‹SEK _ _ _ _›
  omega
set_option maxHeartbeats 4000000 in
theorem vc_Mo_putBehind_1_7 (x1 : Int) (x2 : Int) (x4 : Int) (x5 : Int) (x6 : Int) (x10 : Int) (x11 : Int) (rot_0 : Int → Int) (pt_0 : Int → Int) (ph_0 : Int → Int) (alive_0 : Int → Int) (rotMany_0 : Int → Int) (pn_0 : Int) (pm_0 : Int) (gw : Int) (k1 : 0 ≤ x1 ∧ x1 ≤ 24) (k2 : 0 ≤ x2 ∧ x2 ≤ 79) (k4 : 0 ≤ x4 ∧ x4 ≤ 24) (k5 : 0 ≤ x5 ∧ x5 ≤ 159) (k6 : 0 ≤ x6 ∧ x6 ≤ 159) (k10 : 0 ≤ x10 ∧ x10 ≤ 79) (k11 : 0 ≤ x11 ∧ x11 ≤ 79) (f6 : PHB (pn_0) (pm_0) (pt_0) (ph_0) (alive_0) (rotMany_0) (rot_0) (x1) (x2) (x10) (x4) (x5) (x6)) (f7 : SEK (rot_0) (x1) (x10) (x11)) (kz_0_31 : 0 ≤ pn_0 ∧ pn_0 ≤ 25) (kz_0_32 : 0 ≤ pm_0 ∧ pm_0 ≤ 80) (ew2 : gw = x6) : (-1) * gw + (1 * x6 + 0) ≤ 0 := by
  have h := sek_c ‹PHB _ _ _ _ _ _ _ _ _ _ _ _ _›.1 ‹PHB _ _ _ _ _ _ _ _ _ _ _ _ _›.2 ‹SEK _ _ _ _›
  omega
set_option maxHeartbeats 4000000 in
theorem vc_Mo_putBehind_1_8 (x1 : Int) (x2 : Int) (x4 : Int) (x5 : Int) (x6 : Int) (x10 : Int) (x11 : Int) (x14 : Int) (x15 : Int) (x16 : Int) (x18 : Int) (rot_0 : Int → Int) (pt_0 : Int → Int) (ph_0 : Int → Int) (alive_0 : Int → Int) (rotMany_0 : Int → Int) (pn_0 : Int) (pm_0 : Int) (gx : Int) (gy : Int) (gu : Int) (gw : Int) (k1 : 0 ≤ x1 ∧ x1 ≤ 24) (k2 : 0 ≤ x2 ∧ x2 ≤ 79) (k4 : 0 ≤ x4 ∧ x4 ≤ 24) (k5 : 0 ≤ x5 ∧ x5 ≤ 159) (k6 : 0 ≤ x6 ∧ x6 ≤ 159) (k10 : 0 ≤ x10 ∧ x10 ≤ 79) (k11 : 0 ≤ x11 ∧ x11 ≤ 79) (k14 : 0 ≤ x14 ∧ x14 ≤ 1920) (k15 : 0 ≤ x15 ∧ x15 ≤ 1999) (k16 : 0 ≤ x16 ∧ x16 ≤ 79) (k18 : 1 ≤ x18 ∧ x18 ≤ 80) (d0 : x11 + 1 ≤ x18 ∧ x18 ≤ x11 + 1) (d1 : x10 + 0 ≤ x16 ∧ x16 ≤ x10 + 0) (h2 : x16 = rot_0 (x15)) (f3 : x15 = x14 + x11) (f4 : x14 = 80 * x1) (f6 : PHB (pn_0) (pm_0) (pt_0) (ph_0) (alive_0) (rotMany_0) (rot_0) (x1) (x2) (x10) (x4) (x5) (x6)) (f7 : SEK (rot_0) (x1) (x10) (x11)) (kz_0_31 : 0 ≤ pn_0 ∧ pn_0 ≤ 25) (kz_0_32 : 0 ≤ pm_0 ∧ pm_0 ≤ 80) (ex2 : gx = x4) (ey2 : gy = x1) (eu2 : gu = x5) (ew2 : gw = x6) : PAd (pn_0) (pm_0) (pt_0) (ph_0) (alive_0) (rotMany_0) (rot_0) (x1) (x2) (x18) (gx) (gy) (gu) (gw) := by
  subst ex2; subst ey2; subst eu2; subst ew2
  have hp := ‹PHB _ _ _ _ _ _ _ _ _ _ _ _ _›
  have h := sek_c hp.1 hp.2 ‹SEK _ _ _ _›
  have e1 : 80 * gy + (x18 - 1) = x15 := by omega
  exact ⟨Or.inr (Or.inr (Or.inr rfl)), hp.1, fun z => by omega, fun z => by omega, fun z => by omega, fun _ => ⟨rfl, by omega, by omega, by unfold rt; rw [e1, ← hp.2]; omega⟩⟩
def o_Mo_putBehind_1 : or_T := (32, 19, [(0, (2, 0, 0, [165])), (1, (0, 0, 24, [])), (2, (0, 0, 79, [])), (4, (0, 0, 24, [])), (5, (0, 0, 159, [])), (6, (0, 0, 159, [])), (7, (2, 0, 0, [165])), (8, (0, 0, 24, [])), (9, (0, 0, 79, [])), (10, (0, 0, 79, [])), (11, (0, 0, 79, [])), (12, (2, 0, 0, [184])), (13, (0, 80, 80, [])), (14, (0, 0, 1920, [])), (15, (0, 0, 1999, [])), (16, (0, 0, 79, [])), (17, (0, 1, 1, [])), (18, (0, 1, 80, []))], [(1, [18, 11, 17], []), (7, [16, 10], [0]), (10, [16, 12, 15], []), (1, [15, 14, 11], []), (3, [14, 13, 8], []), (9, [12, 7], [37]), (20, [7, 8, 9, 10, 4, 5, 6], [60, 2, 5, 260, 31, 32, 33, 34, 35, 36, 37]), (20, [7, 8, 10, 11], [60, 0, 1, 270, 37]), (24, [0, 7], []), (24, [1, 8], []), (24, [2, 9], [])], [(18, (0, 1, 79, []))], [(0, 0, 24, []), (0, 0, 24, []), (0, 0, 159, []), (0, 0, 159, [])], [(23, [19, 4], [0, 1, -1]), (23, [19, 4], [0, -1, 1]), (23, [20, 8], [0, 1, -1]), (23, [20, 8], [0, -1, 1]), (23, [21, 5], [0, 1, -1]), (23, [21, 5], [0, -1, 1]), (23, [22, 6], [0, 1, -1]), (23, [22, 6], [0, -1, 1]), (20, [7, 8, 9, 18, 19, 20, 21, 22], [60, 2, 5, 254, 31, 32, 33, 34, 35, 36, 37])], [], [(18, 11, 1, 1), (16, 10, 0, 0), (15, 11, 0, 1920), (15, 14, 0, 79), (1, 8, -4294967296, 0), (2, 9, -4294967296, 0), (8, 1, -4294967296, 0), (9, 2, -4294967296, 0)])
theorem oo_Mo_putBehind_1 {kA : Nat → ClassId} : or_ok PRD kA GG o_Mo_putBehind_1 := by
  refine or_mk fun A ta ws vs hD hth hl => ?_
  intro t0 r0 t1 k1 t2 k2 t4 k4 t5 k5 t6 k6 t7 r7 t8 k8 t9 k9 t10 k10 t11 k11 t12 r12 t13 k13 t14 k14 t15 k15 t16 k16 t17 k17 t18 k18 d0 d1 d2 d3 d4 d5 d6 d7 f0 f1 f2 f3 f4 f5 f6 f7 f8 f9 f10
  replace f2 := shm_107 f2
  replace f3 := shm_12 f3
  replace f4 := shm_38 f4
  rw [show v_iv (n_v vs 13) = 80 from by omega] at f4
  replace f5 := shm_687 f5
  replace f6 := shm_1018 f6
  replace f7 := shm_1017 f7
  replace f8 := shm_5 f8
  replace f9 := shm_5 f9
  replace f10 := shm_5 f10
  have q7 : n_v vs 7 = n_v vs 0 := f8.symm
  have q8 : n_v vs 8 = n_v vs 1 := f9.symm
  have q9 : n_v vs 9 = n_v vs 2 := f10.symm
  simp only [q8, q7, q9] at f4 f5 f6 f7
  have ad_12 : v_ad (n_v vs 12) = w_ar ws (n_v vs 0) 37 := congrArg v_ad f5
  simp only [ad_12] at f2
  have h2 : v_iv (n_v vs 16) = w_ei ws (w_ar ws (n_v vs 0) 37) (v_iv (n_v vs 15)) := f2
  have kz_0_31 := fdq_145 hD hth r0
  have kz_0_32 := fdq_140 hD hth r0
  obtain ⟨x, ex, hx⟩ := iv_ex (ta := ta) (lo := 0) (hi := 24) (z := v_iv (n_v vs 4)) (by omega) (by omega) (by omega) (by omega)
  have ex2 : v_iv (Value.int x) = v_iv (n_v vs 4) := ex
  have ex3 : 0 ≤ v_iv (Value.int x) ∧ v_iv (Value.int x) ≤ 24 := tv_rng hx
  obtain ⟨y, ey, hy⟩ := iv_ex (ta := ta) (lo := 0) (hi := 24) (z := v_iv (n_v vs 1)) (by omega) (by omega) (by omega) (by omega)
  have ey2 : v_iv (Value.int y) = v_iv (n_v vs 1) := ey
  have ey3 : 0 ≤ v_iv (Value.int y) ∧ v_iv (Value.int y) ≤ 24 := tv_rng hy
  obtain ⟨u, eu, hu⟩ := iv_ex (ta := ta) (lo := 0) (hi := 159) (z := v_iv (n_v vs 5)) (by omega) (by omega) (by omega) (by omega)
  have eu2 : v_iv (Value.int u) = v_iv (n_v vs 5) := eu
  have eu3 : 0 ≤ v_iv (Value.int u) ∧ v_iv (Value.int u) ≤ 159 := tv_rng hu
  obtain ⟨w, ew, hw⟩ := iv_ex (ta := ta) (lo := 0) (hi := 159) (z := v_iv (n_v vs 6)) (by omega) (by omega) (by omega) (by omega)
  have ew2 : v_iv (Value.int w) = v_iv (n_v vs 6) := ew
  have ew3 : 0 ≤ v_iv (Value.int w) ∧ v_iv (Value.int w) ≤ 159 := tv_rng hw
  have hrf0 : 1 ≤ v_iv (n_v vs 18) ∧ v_iv (n_v vs 18) ≤ 79 := vc_Mo_putBehind_1_r0 (v_iv (n_v vs 1)) (v_iv (n_v vs 2)) (v_iv (n_v vs 4)) (v_iv (n_v vs 5)) (v_iv (n_v vs 6)) (v_iv (n_v vs 10)) (v_iv (n_v vs 11)) (v_iv (n_v vs 18)) (w_ei ws (w_ar ws (n_v vs 0) 37)) (w_ei ws (w_ar ws (n_v vs 0) 33)) (w_ei ws (w_ar ws (n_v vs 0) 34)) (w_ei ws (w_ar ws (n_v vs 0) 35)) (w_ei ws (w_ar ws (n_v vs 0) 36)) (w_fi ws (n_v vs 0) 31) (w_fi ws (n_v vs 0) 32) k1 k2 k4 k5 k6 k10 k11 k18 d0 f6 f7 kz_0_31 kz_0_32
  have e_4 : n_v (vs ++ [Value.int x, Value.int y, Value.int u, Value.int w]) 4 = n_v vs 4 := n_v_old (by rw [hl]; decide)
  have e_5 : n_v (vs ++ [Value.int x, Value.int y, Value.int u, Value.int w]) 5 = n_v vs 5 := n_v_old (by rw [hl]; decide)
  have e_6 : n_v (vs ++ [Value.int x, Value.int y, Value.int u, Value.int w]) 6 = n_v vs 6 := n_v_old (by rw [hl]; decide)
  have e_7 : n_v (vs ++ [Value.int x, Value.int y, Value.int u, Value.int w]) 7 = n_v vs 7 := n_v_old (by rw [hl]; decide)
  have e_8 : n_v (vs ++ [Value.int x, Value.int y, Value.int u, Value.int w]) 8 = n_v vs 8 := n_v_old (by rw [hl]; decide)
  have e_9 : n_v (vs ++ [Value.int x, Value.int y, Value.int u, Value.int w]) 9 = n_v vs 9 := n_v_old (by rw [hl]; decide)
  have e_18 : n_v (vs ++ [Value.int x, Value.int y, Value.int u, Value.int w]) 18 = n_v vs 18 := n_v_old (by rw [hl]; decide)
  have e_19 : n_v (vs ++ [Value.int x, Value.int y, Value.int u, Value.int w]) 19 = Value.int x := n_v_newk (k := 0) hl rfl
  have e_20 : n_v (vs ++ [Value.int x, Value.int y, Value.int u, Value.int w]) 20 = Value.int y := n_v_newk (k := 1) hl rfl
  have e_21 : n_v (vs ++ [Value.int x, Value.int y, Value.int u, Value.int w]) 21 = Value.int u := n_v_newk (k := 2) hl rfl
  have e_22 : n_v (vs ++ [Value.int x, Value.int y, Value.int u, Value.int w]) 22 = Value.int w := n_v_newk (k := 3) hl rfl
  have nf0 : fc_1 PRD (23, [19, 4], [0, 1, -1]) ws (vs ++ [Value.int x, Value.int y, Value.int u, Value.int w]) := by
    refine ⟨nf_inA hl rfl, sgq_7 ?_⟩
    · show 1 * v_iv (n_v (vs ++ [Value.int x, Value.int y, Value.int u, Value.int w]) 19) + ((-1) * v_iv (n_v (vs ++ [Value.int x, Value.int y, Value.int u, Value.int w]) 4) + 0) ≤ 0
      simp only [e_4, e_19]
      exact vc_Mo_putBehind_1_0 (v_iv (n_v vs 1)) (v_iv (n_v vs 2)) (v_iv (n_v vs 4)) (v_iv (n_v vs 5)) (v_iv (n_v vs 6)) (v_iv (n_v vs 10)) (v_iv (n_v vs 11)) (w_ei ws (w_ar ws (n_v vs 0) 37)) (w_ei ws (w_ar ws (n_v vs 0) 33)) (w_ei ws (w_ar ws (n_v vs 0) 34)) (w_ei ws (w_ar ws (n_v vs 0) 35)) (w_ei ws (w_ar ws (n_v vs 0) 36)) (w_fi ws (n_v vs 0) 31) (w_fi ws (n_v vs 0) 32) (v_iv (Value.int x)) k1 k2 k4 k5 k6 k10 k11 f6 f7 kz_0_31 kz_0_32 ex2
  have nf1 : fc_1 PRD (23, [19, 4], [0, -1, 1]) ws (vs ++ [Value.int x, Value.int y, Value.int u, Value.int w]) := by
    refine ⟨nf_inA hl rfl, sgq_22 ?_⟩
    · show (-1) * v_iv (n_v (vs ++ [Value.int x, Value.int y, Value.int u, Value.int w]) 19) + (1 * v_iv (n_v (vs ++ [Value.int x, Value.int y, Value.int u, Value.int w]) 4) + 0) ≤ 0
      simp only [e_4, e_19]
      exact vc_Mo_putBehind_1_1 (v_iv (n_v vs 1)) (v_iv (n_v vs 2)) (v_iv (n_v vs 4)) (v_iv (n_v vs 5)) (v_iv (n_v vs 6)) (v_iv (n_v vs 10)) (v_iv (n_v vs 11)) (w_ei ws (w_ar ws (n_v vs 0) 37)) (w_ei ws (w_ar ws (n_v vs 0) 33)) (w_ei ws (w_ar ws (n_v vs 0) 34)) (w_ei ws (w_ar ws (n_v vs 0) 35)) (w_ei ws (w_ar ws (n_v vs 0) 36)) (w_fi ws (n_v vs 0) 31) (w_fi ws (n_v vs 0) 32) (v_iv (Value.int x)) k1 k2 k4 k5 k6 k10 k11 f6 f7 kz_0_31 kz_0_32 ex2
  have nf2 : fc_1 PRD (23, [20, 8], [0, 1, -1]) ws (vs ++ [Value.int x, Value.int y, Value.int u, Value.int w]) := by
    refine ⟨nf_inA hl rfl, sgq_7 ?_⟩
    · show 1 * v_iv (n_v (vs ++ [Value.int x, Value.int y, Value.int u, Value.int w]) 20) + ((-1) * v_iv (n_v (vs ++ [Value.int x, Value.int y, Value.int u, Value.int w]) 8) + 0) ≤ 0
      simp only [e_8, e_20, q8]
      exact vc_Mo_putBehind_1_2 (v_iv (n_v vs 1)) (v_iv (n_v vs 2)) (v_iv (n_v vs 4)) (v_iv (n_v vs 5)) (v_iv (n_v vs 6)) (v_iv (n_v vs 8)) (v_iv (n_v vs 10)) (v_iv (n_v vs 11)) (w_ei ws (w_ar ws (n_v vs 0) 37)) (w_ei ws (w_ar ws (n_v vs 0) 33)) (w_ei ws (w_ar ws (n_v vs 0) 34)) (w_ei ws (w_ar ws (n_v vs 0) 35)) (w_ei ws (w_ar ws (n_v vs 0) 36)) (w_fi ws (n_v vs 0) 31) (w_fi ws (n_v vs 0) 32) (v_iv (Value.int y)) k1 k2 k4 k5 k6 k8 k10 k11 d4 d6 f6 f7 kz_0_31 kz_0_32 ey2
  have nf3 : fc_1 PRD (23, [20, 8], [0, -1, 1]) ws (vs ++ [Value.int x, Value.int y, Value.int u, Value.int w]) := by
    refine ⟨nf_inA hl rfl, sgq_22 ?_⟩
    · show (-1) * v_iv (n_v (vs ++ [Value.int x, Value.int y, Value.int u, Value.int w]) 20) + (1 * v_iv (n_v (vs ++ [Value.int x, Value.int y, Value.int u, Value.int w]) 8) + 0) ≤ 0
      simp only [e_8, e_20, q8]
      exact vc_Mo_putBehind_1_3 (v_iv (n_v vs 1)) (v_iv (n_v vs 2)) (v_iv (n_v vs 4)) (v_iv (n_v vs 5)) (v_iv (n_v vs 6)) (v_iv (n_v vs 8)) (v_iv (n_v vs 10)) (v_iv (n_v vs 11)) (w_ei ws (w_ar ws (n_v vs 0) 37)) (w_ei ws (w_ar ws (n_v vs 0) 33)) (w_ei ws (w_ar ws (n_v vs 0) 34)) (w_ei ws (w_ar ws (n_v vs 0) 35)) (w_ei ws (w_ar ws (n_v vs 0) 36)) (w_fi ws (n_v vs 0) 31) (w_fi ws (n_v vs 0) 32) (v_iv (Value.int y)) k1 k2 k4 k5 k6 k8 k10 k11 d4 d6 f6 f7 kz_0_31 kz_0_32 ey2
  have nf4 : fc_1 PRD (23, [21, 5], [0, 1, -1]) ws (vs ++ [Value.int x, Value.int y, Value.int u, Value.int w]) := by
    refine ⟨nf_inA hl rfl, sgq_7 ?_⟩
    · show 1 * v_iv (n_v (vs ++ [Value.int x, Value.int y, Value.int u, Value.int w]) 21) + ((-1) * v_iv (n_v (vs ++ [Value.int x, Value.int y, Value.int u, Value.int w]) 5) + 0) ≤ 0
      simp only [e_5, e_21]
      exact vc_Mo_putBehind_1_4 (v_iv (n_v vs 1)) (v_iv (n_v vs 2)) (v_iv (n_v vs 4)) (v_iv (n_v vs 5)) (v_iv (n_v vs 6)) (v_iv (n_v vs 10)) (v_iv (n_v vs 11)) (w_ei ws (w_ar ws (n_v vs 0) 37)) (w_ei ws (w_ar ws (n_v vs 0) 33)) (w_ei ws (w_ar ws (n_v vs 0) 34)) (w_ei ws (w_ar ws (n_v vs 0) 35)) (w_ei ws (w_ar ws (n_v vs 0) 36)) (w_fi ws (n_v vs 0) 31) (w_fi ws (n_v vs 0) 32) (v_iv (Value.int u)) k1 k2 k4 k5 k6 k10 k11 f6 f7 kz_0_31 kz_0_32 eu2
  have nf5 : fc_1 PRD (23, [21, 5], [0, -1, 1]) ws (vs ++ [Value.int x, Value.int y, Value.int u, Value.int w]) := by
    refine ⟨nf_inA hl rfl, sgq_22 ?_⟩
    · show (-1) * v_iv (n_v (vs ++ [Value.int x, Value.int y, Value.int u, Value.int w]) 21) + (1 * v_iv (n_v (vs ++ [Value.int x, Value.int y, Value.int u, Value.int w]) 5) + 0) ≤ 0
      simp only [e_5, e_21]
      exact vc_Mo_putBehind_1_5 (v_iv (n_v vs 1)) (v_iv (n_v vs 2)) (v_iv (n_v vs 4)) (v_iv (n_v vs 5)) (v_iv (n_v vs 6)) (v_iv (n_v vs 10)) (v_iv (n_v vs 11)) (w_ei ws (w_ar ws (n_v vs 0) 37)) (w_ei ws (w_ar ws (n_v vs 0) 33)) (w_ei ws (w_ar ws (n_v vs 0) 34)) (w_ei ws (w_ar ws (n_v vs 0) 35)) (w_ei ws (w_ar ws (n_v vs 0) 36)) (w_fi ws (n_v vs 0) 31) (w_fi ws (n_v vs 0) 32) (v_iv (Value.int u)) k1 k2 k4 k5 k6 k10 k11 f6 f7 kz_0_31 kz_0_32 eu2
  have nf6 : fc_1 PRD (23, [22, 6], [0, 1, -1]) ws (vs ++ [Value.int x, Value.int y, Value.int u, Value.int w]) := by
    refine ⟨nf_inA hl rfl, sgq_7 ?_⟩
    · show 1 * v_iv (n_v (vs ++ [Value.int x, Value.int y, Value.int u, Value.int w]) 22) + ((-1) * v_iv (n_v (vs ++ [Value.int x, Value.int y, Value.int u, Value.int w]) 6) + 0) ≤ 0
      simp only [e_6, e_22]
      exact vc_Mo_putBehind_1_6 (v_iv (n_v vs 1)) (v_iv (n_v vs 2)) (v_iv (n_v vs 4)) (v_iv (n_v vs 5)) (v_iv (n_v vs 6)) (v_iv (n_v vs 10)) (v_iv (n_v vs 11)) (w_ei ws (w_ar ws (n_v vs 0) 37)) (w_ei ws (w_ar ws (n_v vs 0) 33)) (w_ei ws (w_ar ws (n_v vs 0) 34)) (w_ei ws (w_ar ws (n_v vs 0) 35)) (w_ei ws (w_ar ws (n_v vs 0) 36)) (w_fi ws (n_v vs 0) 31) (w_fi ws (n_v vs 0) 32) (v_iv (Value.int w)) k1 k2 k4 k5 k6 k10 k11 f6 f7 kz_0_31 kz_0_32 ew2
  have nf7 : fc_1 PRD (23, [22, 6], [0, -1, 1]) ws (vs ++ [Value.int x, Value.int y, Value.int u, Value.int w]) := by
    refine ⟨nf_inA hl rfl, sgq_22 ?_⟩
    · show (-1) * v_iv (n_v (vs ++ [Value.int x, Value.int y, Value.int u, Value.int w]) 22) + (1 * v_iv (n_v (vs ++ [Value.int x, Value.int y, Value.int u, Value.int w]) 6) + 0) ≤ 0
      simp only [e_6, e_22]
      exact vc_Mo_putBehind_1_7 (v_iv (n_v vs 1)) (v_iv (n_v vs 2)) (v_iv (n_v vs 4)) (v_iv (n_v vs 5)) (v_iv (n_v vs 6)) (v_iv (n_v vs 10)) (v_iv (n_v vs 11)) (w_ei ws (w_ar ws (n_v vs 0) 37)) (w_ei ws (w_ar ws (n_v vs 0) 33)) (w_ei ws (w_ar ws (n_v vs 0) 34)) (w_ei ws (w_ar ws (n_v vs 0) 35)) (w_ei ws (w_ar ws (n_v vs 0) 36)) (w_fi ws (n_v vs 0) 31) (w_fi ws (n_v vs 0) 32) (v_iv (Value.int w)) k1 k2 k4 k5 k6 k10 k11 f6 f7 kz_0_31 kz_0_32 ew2
  have nf8 : fc_1 PRD (20, [7, 8, 9, 18, 19, 20, 21, 22], [60, 2, 5, 254, 31, 32, 33, 34, 35, 36, 37]) ws (vs ++ [Value.int x, Value.int y, Value.int u, Value.int w]) := by
    refine ⟨nf_inA hl rfl, sgq_695 ?_⟩
    · show PAd (w_fi ws (n_v (vs ++ [Value.int x, Value.int y, Value.int u, Value.int w]) 7) 31) (w_fi ws (n_v (vs ++ [Value.int x, Value.int y, Value.int u, Value.int w]) 7) 32) (w_ei ws (w_ar ws (n_v (vs ++ [Value.int x, Value.int y, Value.int u, Value.int w]) 7) 33)) (w_ei ws (w_ar ws (n_v (vs ++ [Value.int x, Value.int y, Value.int u, Value.int w]) 7) 34)) (w_ei ws (w_ar ws (n_v (vs ++ [Value.int x, Value.int y, Value.int u, Value.int w]) 7) 35)) (w_ei ws (w_ar ws (n_v (vs ++ [Value.int x, Value.int y, Value.int u, Value.int w]) 7) 36)) (w_ei ws (w_ar ws (n_v (vs ++ [Value.int x, Value.int y, Value.int u, Value.int w]) 7) 37)) (v_iv (n_v (vs ++ [Value.int x, Value.int y, Value.int u, Value.int w]) 8)) (v_iv (n_v (vs ++ [Value.int x, Value.int y, Value.int u, Value.int w]) 9)) (v_iv (n_v (vs ++ [Value.int x, Value.int y, Value.int u, Value.int w]) 18)) (v_iv (n_v (vs ++ [Value.int x, Value.int y, Value.int u, Value.int w]) 19)) (v_iv (n_v (vs ++ [Value.int x, Value.int y, Value.int u, Value.int w]) 20)) (v_iv (n_v (vs ++ [Value.int x, Value.int y, Value.int u, Value.int w]) 21)) (v_iv (n_v (vs ++ [Value.int x, Value.int y, Value.int u, Value.int w]) 22))
      simp only [e_7, e_8, e_9, e_18, e_19, e_20, e_21, e_22, q7, q8, q9]
      exact vc_Mo_putBehind_1_8 (v_iv (n_v vs 1)) (v_iv (n_v vs 2)) (v_iv (n_v vs 4)) (v_iv (n_v vs 5)) (v_iv (n_v vs 6)) (v_iv (n_v vs 10)) (v_iv (n_v vs 11)) (v_iv (n_v vs 14)) (v_iv (n_v vs 15)) (v_iv (n_v vs 16)) (v_iv (n_v vs 18)) (w_ei ws (w_ar ws (n_v vs 0) 37)) (w_ei ws (w_ar ws (n_v vs 0) 33)) (w_ei ws (w_ar ws (n_v vs 0) 34)) (w_ei ws (w_ar ws (n_v vs 0) 35)) (w_ei ws (w_ar ws (n_v vs 0) 36)) (w_fi ws (n_v vs 0) 31) (w_fi ws (n_v vs 0) 32) (v_iv (Value.int x)) (v_iv (Value.int y)) (v_iv (Value.int u)) (v_iv (Value.int w)) k1 k2 k4 k5 k6 k10 k11 k14 k15 k16 k18 d0 d1 h2 f3 f4 f6 f7 kz_0_31 kz_0_32 ex2 ey2 eu2 ew2
  have rf18 : tv_ok ta (0, 1, 79, []) (n_v vs 18) := tv_in t18 (by first | omega | grind) (by first | omega | grind)
  exact ⟨List.forall_mem_cons.mpr ⟨rf18, (fun _ h => (by cases h))⟩, [Value.int x, Value.int y, Value.int u, Value.int w], ag_four hx hy hu hw, List.forall_mem_cons.mpr ⟨⟨show (23 : Nat) < 100 from by decide, nf0⟩, List.forall_mem_cons.mpr ⟨⟨show (23 : Nat) < 100 from by decide, nf1⟩, List.forall_mem_cons.mpr ⟨⟨show (23 : Nat) < 100 from by decide, nf2⟩, List.forall_mem_cons.mpr ⟨⟨show (23 : Nat) < 100 from by decide, nf3⟩, List.forall_mem_cons.mpr ⟨⟨show (23 : Nat) < 100 from by decide, nf4⟩, List.forall_mem_cons.mpr ⟨⟨show (23 : Nat) < 100 from by decide, nf5⟩, List.forall_mem_cons.mpr ⟨⟨show (23 : Nat) < 100 from by decide, nf6⟩, List.forall_mem_cons.mpr ⟨⟨show (23 : Nat) < 100 from by decide, nf7⟩, List.forall_mem_cons.mpr ⟨⟨show (20 : Nat) < 100 from by decide, nf8⟩, (fun _ h => (by cases h))⟩⟩⟩⟩⟩⟩⟩⟩⟩, (fun _ h => (by cases h))⟩
set_option maxHeartbeats 4000000 in
theorem vc_Mo_putBehind_2_0 (pt_0 : Int → Int) (ph_0 : Int → Int) (alive_0 : Int → Int) (rotMany_0 : Int → Int) (rot_0 : Int → Int) (pn_0 : Int) (pm_0 : Int) (f3 : GRI (pn_0) (pm_0) (pt_0) (ph_0) (alive_0) (rotMany_0) (rot_0)) (kz_0_31 : 0 ≤ pn_0 ∧ pn_0 ≤ 25) (kz_0_32 : 0 ≤ pm_0 ∧ pm_0 ≤ 80) : GRI (pn_0) (pm_0) (pt_0) (ph_0) (alive_0) (rotMany_0) (rot_0) := by
  first | assumption
def o_Mo_putBehind_2 : or_T := (35, 23, [(0, (2, 0, 0, [165]))], [(24, [0, 7], []), (20, [7], [60, 2, 5, 261, 31, 32, 33, 34, 35, 36, 37])], [], [], [(20, [0], [60, 2, 5, 261, 31, 32, 33, 34, 35, 36, 37])], [], [])
theorem oo_Mo_putBehind_2 {kA : Nat → ClassId} : or_ok PRD kA GG o_Mo_putBehind_2 := by
  refine or_mk fun A ta ws vs hD hth hl => ?_
  intro t0 r0 f0 f3
  replace f0 := shm_5 f0
  replace f3 := shm_691 f3
  have q7 : n_v vs 7 = n_v vs 0 := f0.symm
  simp only [q7] at f3
  have kz_0_31 := fdq_145 hD hth r0
  have kz_0_32 := fdq_140 hD hth r0
  have nf0 : fc_1 PRD (20, [0], [60, 2, 5, 261, 31, 32, 33, 34, 35, 36, 37]) ws (vs) := ⟨nf_in hl rfl, sgq_691 (vc_Mo_putBehind_2_0 (w_ei ws (w_ar ws (n_v vs 0) 33)) (w_ei ws (w_ar ws (n_v vs 0) 34)) (w_ei ws (w_ar ws (n_v vs 0) 35)) (w_ei ws (w_ar ws (n_v vs 0) 36)) (w_ei ws (w_ar ws (n_v vs 0) 37)) (w_fi ws (n_v vs 0) 31) (w_fi ws (n_v vs 0) 32) f3 kz_0_31 kz_0_32)⟩
  refine ⟨(fun _ h => (by cases h)), [], trivial, ?_, (fun _ h => (by cases h))⟩
  rw [List.append_nil]
  exact List.forall_mem_cons.mpr ⟨⟨show (20 : Nat) < 100 from by decide, nf0⟩, (fun _ h => (by cases h))⟩
set_option maxHeartbeats 4000000 in
theorem vc_Mo_putBehind_3_r0 (x1 : Int) (x2 : Int) (x4 : Int) (x5 : Int) (x6 : Int) (x8 : Int) (x10 : Int) (x11 : Int) (x14 : Int) (x15 : Int) (rot_0 : Int → Int) (pt_0 : Int → Int) (ph_0 : Int → Int) (alive_0 : Int → Int) (rotMany_0 : Int → Int) (pn_0 : Int) (pm_0 : Int) (k1 : 0 ≤ x1 ∧ x1 ≤ 24) (k2 : 0 ≤ x2 ∧ x2 ≤ 79) (k4 : 0 ≤ x4 ∧ x4 ≤ 24) (k5 : 0 ≤ x5 ∧ x5 ≤ 159) (k6 : 0 ≤ x6 ∧ x6 ≤ 159) (k8 : 0 ≤ x8 ∧ x8 ≤ 24) (k10 : 0 ≤ x10 ∧ x10 ≤ 79) (k11 : 0 ≤ x11 ∧ x11 ≤ 79) (k14 : 0 ≤ x14 ∧ x14 ≤ 1920) (k15 : 0 ≤ x15 ∧ x15 ≤ 1999) (d1 : x14 + 0 ≤ x15 ∧ x15 ≤ x14 + 79) (d2 : x8 + (-4294967296) ≤ x1 ∧ x1 ≤ x8 + 0) (d4 : x1 + (-4294967296) ≤ x8 ∧ x8 ≤ x1 + 0) (f2 : x15 = x14 + x11) (f3 : x14 = 80 * x1) (f5 : PHB (pn_0) (pm_0) (pt_0) (ph_0) (alive_0) (rotMany_0) (rot_0) (x1) (x2) (x10) (x4) (x5) (x6)) (f6 : SEK (rot_0) (x1) (x10) (x11)) (kz_0_31 : 0 ≤ pn_0 ∧ pn_0 ≤ 25) (kz_0_32 : 0 ≤ pm_0 ∧ pm_0 ≤ 80) : 0 ≤ x11 ∧ x11 ≤ 78 := by
  have h := sek_c ‹PHB _ _ _ _ _ _ _ _ _ _ _ _ _›.1 ‹PHB _ _ _ _ _ _ _ _ _ _ _ _ _›.2 ‹SEK _ _ _ _›
  omega
def o_Mo_putBehind_3 : or_T := (19, 17, [(0, (2, 0, 0, [165])), (1, (0, 0, 24, [])), (2, (0, 0, 79, [])), (4, (0, 0, 24, [])), (5, (0, 0, 159, [])), (6, (0, 0, 159, [])), (7, (2, 0, 0, [165])), (8, (0, 0, 24, [])), (9, (0, 0, 79, [])), (10, (0, 0, 79, [])), (11, (0, 0, 79, [])), (12, (2, 0, 0, [184])), (13, (0, 80, 80, [])), (14, (0, 0, 1920, [])), (15, (0, 0, 1999, [])), (16, (0, 0, 79, []))], [(7, [16, 10], [1]), (10, [16, 12, 15], []), (1, [15, 14, 11], []), (3, [14, 13, 8], []), (9, [12, 7], [37]), (20, [7, 8, 9, 10, 4, 5, 6], [60, 2, 5, 260, 31, 32, 33, 34, 35, 36, 37]), (20, [7, 8, 10, 11], [60, 0, 1, 270, 37]), (24, [0, 7], []), (24, [1, 8], []), (24, [2, 9], [])], [(11, (0, 0, 78, []))], [], [], [], [(15, 11, 0, 1920), (15, 14, 0, 79), (1, 8, -4294967296, 0), (2, 9, -4294967296, 0), (8, 1, -4294967296, 0), (9, 2, -4294967296, 0)])
theorem oo_Mo_putBehind_3 {kA : Nat → ClassId} : or_ok PRD kA GG o_Mo_putBehind_3 := by
  refine or_mk fun A ta ws vs hD hth hl => ?_
  intro t0 r0 t1 k1 t2 k2 t4 k4 t5 k5 t6 k6 t7 r7 t8 k8 t9 k9 t10 k10 t11 k11 t12 r12 t13 k13 t14 k14 t15 k15 t16 k16 d0 d1 d2 d3 d4 d5 f0 f1 f2 f3 f4 f5 f6 f7 f8 f9
  replace f3 := shm_38 f3
  rw [show v_iv (n_v vs 13) = 80 from by omega] at f3
  replace f5 := shm_1018 f5
  replace f6 := shm_1017 f6
  replace f7 := shm_5 f7
  replace f8 := shm_5 f8
  replace f9 := shm_5 f9
  have q7 : n_v vs 7 = n_v vs 0 := f7.symm
  have q8 : n_v vs 8 = n_v vs 1 := f8.symm
  have q9 : n_v vs 9 = n_v vs 2 := f9.symm
  simp only [q8, q7, q9] at f3 f5 f6
  have kz_0_31 := fdq_145 hD hth r0
  have kz_0_32 := fdq_140 hD hth r0
  have hrf0 : 0 ≤ v_iv (n_v vs 11) ∧ v_iv (n_v vs 11) ≤ 78 := vc_Mo_putBehind_3_r0 (v_iv (n_v vs 1)) (v_iv (n_v vs 2)) (v_iv (n_v vs 4)) (v_iv (n_v vs 5)) (v_iv (n_v vs 6)) (v_iv (n_v vs 8)) (v_iv (n_v vs 10)) (v_iv (n_v vs 11)) (v_iv (n_v vs 14)) (v_iv (n_v vs 15)) (w_ei ws (w_ar ws (n_v vs 0) 37)) (w_ei ws (w_ar ws (n_v vs 0) 33)) (w_ei ws (w_ar ws (n_v vs 0) 34)) (w_ei ws (w_ar ws (n_v vs 0) 35)) (w_ei ws (w_ar ws (n_v vs 0) 36)) (w_fi ws (n_v vs 0) 31) (w_fi ws (n_v vs 0) 32) k1 k2 k4 k5 k6 k8 k10 k11 k14 k15 d1 d2 d4 (shm_12 f2) f3 f5 f6 kz_0_31 kz_0_32
  have rf11 : tv_ok ta (0, 0, 78, []) (n_v vs 11) := tv_in t11 (by first | omega | grind) (by first | omega | grind)
  refine ⟨List.forall_mem_cons.mpr ⟨rf11, (fun _ h => (by cases h))⟩, [], trivial, ?_, (fun _ h => (by cases h))⟩
  rw [List.append_nil]
  exact (fun _ h => (by cases h))
set_option maxHeartbeats 4000000 in
theorem vc_Mo_putBehind_4_0 (x1 : Int) (x8 : Int) (x10 : Int) (x11 : Int) (x14 : Int) (x15 : Int) (x16 : Int) (x17 : Int) (rot_0 : Int → Int) (k1 : 0 ≤ x1 ∧ x1 ≤ 24) (k8 : 0 ≤ x8 ∧ x8 ≤ 24) (k10 : 0 ≤ x10 ∧ x10 ≤ 79) (k11 : 0 ≤ x11 ∧ x11 ≤ 78) (k14 : 0 ≤ x14 ∧ x14 ≤ 1920) (k15 : 0 ≤ x15 ∧ x15 ≤ 1999) (k16 : 0 ≤ x16 ∧ x16 ≤ 79) (k17 : 1 ≤ x17 ∧ x17 ≤ 79) (d0 : x11 + 1 ≤ x17 ∧ x17 ≤ x11 + 1) (d3 : x8 + (-4294967296) ≤ x1 ∧ x1 ≤ x8 + 0) (d5 : x1 + (-4294967296) ≤ x8 ∧ x8 ≤ x1 + 0) (f0 : x17 = x11 + 1) (f1 : x16 ≠ x10) (h2 : x16 = rot_0 (x15)) (f3 : x15 = x14 + x11) (f4 : x14 = 80 * x1) (f7 : SEK (rot_0) (x1) (x10) (x11)) : SEK (rot_0) (x1) (x10) (x17) := by
  first
    | (intro j a b; exfalso; omega)
    | exact sek_next ‹SEK _ _ _ _› (by omega) (by unfold rt; rw [show 80 * x1 + x11 = x15 by omega]; omega)
def o_Mo_putBehind_4 : or_T := (3, 18, [(1, (0, 0, 24, [])), (8, (0, 0, 24, [])), (10, (0, 0, 79, [])), (11, (0, 0, 78, [])), (13, (0, 80, 80, [])), (14, (0, 0, 1920, [])), (15, (0, 0, 1999, [])), (16, (0, 0, 79, [])), (17, (0, 1, 79, []))], [(6, [17, 11], [1]), (7, [16, 10], [1]), (10, [16, 12, 15], []), (1, [15, 14, 11], []), (3, [14, 13, 8], []), (9, [12, 7], [37]), (20, [7, 8, 10, 11], [60, 0, 1, 270, 37]), (24, [0, 7], []), (24, [1, 8], [])], [], [], [(20, [7, 8, 10, 17], [60, 0, 1, 270, 37])], [], [(17, 11, 1, 1), (1, 8, -4294967296, 0), (8, 1, -4294967296, 0)])
theorem oo_Mo_putBehind_4 {kA : Nat → ClassId} : or_ok PRD kA GG o_Mo_putBehind_4 := by
  refine or_mk fun A ta ws vs hD hth hl => ?_
  intro t1 k1 t8 k8 t10 k10 t11 k11 t13 k13 t14 k14 t15 k15 t16 k16 t17 k17 d0 d3 d5 f0 f1 f2 f3 f4 f5 f7 f8 f9
  replace f0 := shm_4 f0
  replace f1 := shm_40 f1
  replace f2 := shm_107 f2
  replace f3 := shm_12 f3
  replace f4 := shm_38 f4
  rw [show v_iv (n_v vs 13) = 80 from by omega] at f4
  replace f5 := shm_687 f5
  replace f7 := shm_1017 f7
  replace f8 := shm_5 f8
  replace f9 := shm_5 f9
  have q7 : n_v vs 7 = n_v vs 0 := f8.symm
  have q8 : n_v vs 8 = n_v vs 1 := f9.symm
  simp only [q8, q7] at f4 f5 f7
  have ad_12 : v_ad (n_v vs 12) = w_ar ws (n_v vs 0) 37 := congrArg v_ad f5
  simp only [ad_12] at f2
  have h2 : v_iv (n_v vs 16) = w_ei ws (w_ar ws (n_v vs 0) 37) (v_iv (n_v vs 15)) := f2
  have nf0 : fc_1 PRD (20, [7, 8, 10, 17], [60, 0, 1, 270, 37]) ws (vs) := by
    refine ⟨nf_in hl rfl, sgq_1017 ?_⟩
    · show SEK (w_ei ws (w_ar ws (n_v vs 7) 37)) (v_iv (n_v vs 8)) (v_iv (n_v vs 10)) (v_iv (n_v vs 17))
      simp only [q7, q8]
      exact vc_Mo_putBehind_4_0 (v_iv (n_v vs 1)) (v_iv (n_v vs 8)) (v_iv (n_v vs 10)) (v_iv (n_v vs 11)) (v_iv (n_v vs 14)) (v_iv (n_v vs 15)) (v_iv (n_v vs 16)) (v_iv (n_v vs 17)) (w_ei ws (w_ar ws (n_v vs 0) 37)) k1 k8 k10 k11 k14 k15 k16 k17 d0 d3 d5 f0 f1 h2 f3 f4 f7
  refine ⟨(fun _ h => (by cases h)), [], trivial, ?_, (fun _ h => (by cases h))⟩
  rw [List.append_nil]
  exact List.forall_mem_cons.mpr ⟨⟨show (20 : Nat) < 100 from by decide, nf0⟩, (fun _ h => (by cases h))⟩
def n_Mo_putBehind_an : List an_T := [(3, [(0, (2, 0, 0, [165])), (1, (0, 0, 24, [])), (2, (0, 0, 79, [])), (3, (0, 0, 79, [])), (4, (0, 0, 79, []))], [], (0, 0), [(0, 0, 99997), (1, 11, 79), (0, 0, 100000)], [(1, 8, (Int.negSucc 999999999999), 0), (2, 9, (Int.negSucc 999999999999), 0), (3, 10, (Int.negSucc 999999999999), 0), (8, 1, (Int.negSucc 999999999999), 0), (9, 2, (Int.negSucc 999999999999), 0), (10, 3, (Int.negSucc 999999999999), 0)], [], [(2, 0, 0, [165]), (0, 0, 24, []), (0, 0, 79, []), (0, 0, 79, []), (0, 0, 24, []), (0, 0, 159, []), (0, 0, 159, [])], 0, [], [(20, [7, 8, 9, 10, 4, 5, 6], [60, 2, 5, 260, 31, 32, 33, 34, 35, 36, 37]), (20, [7, 8, 10, 11], [60, 0, 1, 270, 37]), (24, [0, 7], []), (24, [1, 8], []), (24, [2, 9], [])])]
def t_Mo_putBehind_ct : ct_L := [(100, 880, e_Mo_putAt_at_g4)]
set_option maxRecDepth 100000 in
theorem c_Mo_putBehind {l : Launch} {D : va_G} {kA : Nat → ClassId} (h_Mo_putAt_at_g4 : ct_ok PRD l D kA GG y_Mo_putAt_at_g4 z_Mo_putAt_at_g4 e_Mo_putAt_at_g4) : ct_ok PRD l D kA GG y_Mo_putBehind z_Mo_putBehind e_Mo_putBehind := chk_all_ok (FT := [(69, 13, 37)]) (PT := []) (CT := t_Mo_putBehind_ct) (KT := []) (NT := []) (AN := n_Mo_putBehind_an) (OT := [o_Mo_putBehind_0, o_Mo_putBehind_1, o_Mo_putBehind_2, o_Mo_putBehind_3, o_Mo_putBehind_4]) 3 200 (List.forall_mem_cons.mpr ⟨oo_Mo_putBehind_0, List.forall_mem_cons.mpr ⟨oo_Mo_putBehind_1, List.forall_mem_cons.mpr ⟨oo_Mo_putBehind_2, List.forall_mem_cons.mpr ⟨oo_Mo_putBehind_3, List.forall_mem_cons.mpr ⟨oo_Mo_putBehind_4, List.forall_mem_nil _⟩⟩⟩⟩⟩) (by decide +kernel) ⟨List.forall_mem_cons.mpr ⟨gf_Mo_69, List.forall_mem_nil _⟩, List.forall_mem_nil _, List.forall_mem_cons.mpr ⟨cl_virtual (y := y_Mo_putAt_at_g4) (ci := 13) rfl rfl ⟨_, _, rfl⟩ (by decide +kernel) h_Mo_putAt_at_g4 wm_3490 wm_9 wm_3487 wm_3489 wv_19_8 ⟨by decide, by decide, by decide +kernel⟩ (by decide), List.forall_mem_nil _⟩, List.forall_mem_nil _, List.forall_mem_nil _, GG_pl⟩ (by decide +kernel)

set_option maxHeartbeats 4000000 in
theorem vc_Mo_reveal_0_r0 (x1 : Int) (x2 : Int) (x3 : Int) (x6 : Int) (pt_0 : Int → Int) (ph_0 : Int → Int) (alive_0 : Int → Int) (rotMany_0 : Int → Int) (rot_0 : Int → Int) (left_0 : Int → Int) (upperNode_0 : Int → Int) (order_0 : Int → Int) (pn_0 : Int) (pm_0 : Int) (upper_0 : Int) (k1 : 1 ≤ x1 ∧ x1 ≤ 28) (k2 : 0 ≤ x2 ∧ x2 ≤ 24) (k3 : 2 ≤ x3 ∧ x3 ≤ 24) (k6 : 0 ≤ x6 ∧ x6 ≤ 27) (d0 : x1 + (-1) ≤ x6 ∧ x6 ≤ x1 + (-1)) (f2 : RVP (pn_0) (pm_0) (upper_0) (pt_0) (ph_0) (alive_0) (rotMany_0) (rot_0) (left_0) (upperNode_0) (order_0) (x1) (x2) (x3)) (kz_0_31 : 0 ≤ pn_0 ∧ pn_0 ≤ 25) (kz_0_32 : 0 ≤ pm_0 ∧ pm_0 ≤ 80) (kz_0_121 : 0 ≤ upper_0 ∧ upper_0 ≤ 30) : 0 ≤ x6 ∧ x6 ≤ 23 := by
  first
    | omega
    | (have h := rvp_len ‹RVP _ _ _ _ _ _ _ _ _ _ _ _ _ _›; omega)
    | (have h := rvp_len ‹RV1 _ _ _ _ _ _ _ _ _ _ _ _ _ _ _ _ _ _ _›.1
       have h2 := rv1_len ‹RV1 _ _ _ _ _ _ _ _ _ _ _ _ _ _ _ _ _ _ _›
       omega)
    | (have h := rvp_len ‹RV1 _ _ _ _ _ _ _ _ _ _ _ _ _ _ _ _ _ _ _›.1
       have h2 := rv1_len ‹RV1 _ _ _ _ _ _ _ _ _ _ _ _ _ _ _ _ _ _ _›
       have h3 := rv_2 ‹RV1 _ _ _ _ _ _ _ _ _ _ _ _ _ _ _ _ _ _ _› (by omega)
       omega)
    | (have h := rs1_len ‹RS1 _ _ _ _ _ _ _ _ _ _ _ _ _ _ _ _ _ _›; omega)
    | (have h := rs2_len ‹RS2 _ _ _ _ _ _ _ _ _ _ _ _ _ _ _ _ _ _›; omega)
    | (have h := rs3_len ‹RS3 _ _ _ _ _ _ _ _ _ _ _ _ _ _ _ _ _ _›; omega)
def o_Mo_reveal_0 : or_T := (7, 7, [(0, (2, 0, 0, [165])), (1, (0, 1, 28, [])), (2, (0, 0, 24, [])), (3, (0, 2, 24, [])), (4, (2, 0, 0, [253])), (5, (0, 1, 1, [])), (6, (0, 0, 27, []))], [(2, [6, 1, 5], []), (9, [4, 0], [122]), (20, [0, 1, 2, 3], [60, 3, 8, 279, 31, 32, 121, 33, 34, 35, 36, 37, 22, 122, 96])], [(6, (0, 0, 23, []))], [], [], [], [(6, 1, -1, -1)])
theorem oo_Mo_reveal_0 {kA : Nat → ClassId} : or_ok PRD kA GG o_Mo_reveal_0 := by
  refine or_mk fun A ta ws vs hD hth hl => ?_
  intro t0 r0 t1 k1 t2 k2 t3 k3 t4 r4 t5 k5 t6 k6 d0 f0 f1 f2
  have kz_0_31 := fdq_145 hD hth r0
  have kz_0_32 := fdq_140 hD hth r0
  have kz_0_121 := fdq_242 hD hth r0
  have hrf0 : 0 ≤ v_iv (n_v vs 6) ∧ v_iv (n_v vs 6) ≤ 23 := vc_Mo_reveal_0_r0 (v_iv (n_v vs 1)) (v_iv (n_v vs 2)) (v_iv (n_v vs 3)) (v_iv (n_v vs 6)) (w_ei ws (w_ar ws (n_v vs 0) 33)) (w_ei ws (w_ar ws (n_v vs 0) 34)) (w_ei ws (w_ar ws (n_v vs 0) 35)) (w_ei ws (w_ar ws (n_v vs 0) 36)) (w_ei ws (w_ar ws (n_v vs 0) 37)) (w_ei ws (w_ar ws (n_v vs 0) 22)) (w_ei ws (w_ar ws (n_v vs 0) 122)) (w_ei ws (w_ar ws (n_v vs 0) 96)) (w_fi ws (n_v vs 0) 31) (w_fi ws (n_v vs 0) 32) (w_fi ws (n_v vs 0) 121) k1 k2 k3 k6 d0 (shm_1020 f2) kz_0_31 kz_0_32 kz_0_121
  have rf6 : tv_ok ta (0, 0, 23, []) (n_v vs 6) := tv_in t6 (by first | omega | grind) (by first | omega | grind)
  refine ⟨List.forall_mem_cons.mpr ⟨rf6, (fun _ h => (by cases h))⟩, [], trivial, ?_, (fun _ h => (by cases h))⟩
  rw [List.append_nil]
  exact (fun _ h => (by cases h))
set_option maxHeartbeats 4000000 in
theorem vc_Mo_reveal_1_r0 (x1 : Int) (x2 : Int) (x3 : Int) (x6 : Int) (x7 : Int) (x9 : Int) (upperNode_0 : Int → Int) (pt_0 : Int → Int) (ph_0 : Int → Int) (alive_0 : Int → Int) (rotMany_0 : Int → Int) (rot_0 : Int → Int) (left_0 : Int → Int) (order_0 : Int → Int) (pn_0 : Int) (pm_0 : Int) (upper_0 : Int) (k1 : 1 ≤ x1 ∧ x1 ≤ 28) (k2 : 0 ≤ x2 ∧ x2 ≤ 24) (k3 : 2 ≤ x3 ∧ x3 ≤ 24) (k6 : 0 ≤ x6 ∧ x6 ≤ 23) (k7 : 0 ≤ x7 ∧ x7 ≤ 24) (k9 : 2 ≤ x9 ∧ x9 ≤ 29) (d0 : x1 + 1 ≤ x9 ∧ x9 ≤ x1 + 1) (d1 : x1 + (-1) ≤ x6 ∧ x6 ≤ x1 + (-1)) (h2 : x7 = upperNode_0 (x6)) (f4 : RVP (pn_0) (pm_0) (upper_0) (pt_0) (ph_0) (alive_0) (rotMany_0) (rot_0) (left_0) (upperNode_0) (order_0) (x1) (x2) (x3)) (kz_0_31 : 0 ≤ pn_0 ∧ pn_0 ≤ 25) (kz_0_32 : 0 ≤ pm_0 ∧ pm_0 ≤ 80) (kz_0_121 : 0 ≤ upper_0 ∧ upper_0 ≤ 30) : 2 ≤ x9 ∧ x9 ≤ 24 := by
  first
    | omega
    | (have h := rvp_len ‹RVP _ _ _ _ _ _ _ _ _ _ _ _ _ _›; omega)
    | (have h := rvp_len ‹RV1 _ _ _ _ _ _ _ _ _ _ _ _ _ _ _ _ _ _ _›.1
       have h2 := rv1_len ‹RV1 _ _ _ _ _ _ _ _ _ _ _ _ _ _ _ _ _ _ _›
       omega)
    | (have h := rvp_len ‹RV1 _ _ _ _ _ _ _ _ _ _ _ _ _ _ _ _ _ _ _›.1
       have h2 := rv1_len ‹RV1 _ _ _ _ _ _ _ _ _ _ _ _ _ _ _ _ _ _ _›
       have h3 := rv_2 ‹RV1 _ _ _ _ _ _ _ _ _ _ _ _ _ _ _ _ _ _ _› (by omega)
       omega)
    | (have h := rs1_len ‹RS1 _ _ _ _ _ _ _ _ _ _ _ _ _ _ _ _ _ _›; omega)
    | (have h := rs2_len ‹RS2 _ _ _ _ _ _ _ _ _ _ _ _ _ _ _ _ _ _›; omega)
    | (have h := rs3_len ‹RS3 _ _ _ _ _ _ _ _ _ _ _ _ _ _ _ _ _ _›; omega)
def o_Mo_reveal_1 : or_T := (16, 10, [(0, (2, 0, 0, [165])), (1, (0, 1, 28, [])), (2, (0, 0, 24, [])), (3, (0, 2, 24, [])), (4, (2, 0, 0, [253])), (5, (0, 1, 1, [])), (6, (0, 0, 23, [])), (7, (0, 0, 24, [])), (8, (0, 1, 1, [])), (9, (0, 2, 29, []))], [(1, [9, 1, 8], []), (9, [4, 0], [122]), (10, [7, 4, 6], []), (2, [6, 1, 5], []), (20, [0, 1, 2, 3], [60, 3, 8, 279, 31, 32, 121, 33, 34, 35, 36, 37, 22, 122, 96])], [(9, (0, 2, 24, []))], [], [], [], [(9, 1, 1, 1), (6, 1, -1, -1)])
theorem oo_Mo_reveal_1 {kA : Nat → ClassId} : or_ok PRD kA GG o_Mo_reveal_1 := by
  refine or_mk fun A ta ws vs hD hth hl => ?_
  intro t0 r0 t1 k1 t2 k2 t3 k3 t4 r4 t5 k5 t6 k6 t7 k7 t8 k8 t9 k9 d0 d1 f0 f1 f2 f3 f4
  replace f1 := shm_1019 f1
  replace f2 := shm_107 f2
  have ad_4 : v_ad (n_v vs 4) = w_ar ws (n_v vs 0) 122 := congrArg v_ad f1
  simp only [ad_4] at f2
  have h2 : v_iv (n_v vs 7) = w_ei ws (w_ar ws (n_v vs 0) 122) (v_iv (n_v vs 6)) := f2
  have kz_0_31 := fdq_145 hD hth r0
  have kz_0_32 := fdq_140 hD hth r0
  have kz_0_121 := fdq_242 hD hth r0
  have hrf0 : 2 ≤ v_iv (n_v vs 9) ∧ v_iv (n_v vs 9) ≤ 24 := vc_Mo_reveal_1_r0 (v_iv (n_v vs 1)) (v_iv (n_v vs 2)) (v_iv (n_v vs 3)) (v_iv (n_v vs 6)) (v_iv (n_v vs 7)) (v_iv (n_v vs 9)) (w_ei ws (w_ar ws (n_v vs 0) 122)) (w_ei ws (w_ar ws (n_v vs 0) 33)) (w_ei ws (w_ar ws (n_v vs 0) 34)) (w_ei ws (w_ar ws (n_v vs 0) 35)) (w_ei ws (w_ar ws (n_v vs 0) 36)) (w_ei ws (w_ar ws (n_v vs 0) 37)) (w_ei ws (w_ar ws (n_v vs 0) 22)) (w_ei ws (w_ar ws (n_v vs 0) 96)) (w_fi ws (n_v vs 0) 31) (w_fi ws (n_v vs 0) 32) (w_fi ws (n_v vs 0) 121) k1 k2 k3 k6 k7 k9 d0 d1 h2 (shm_1020 f4) kz_0_31 kz_0_32 kz_0_121
  have rf9 : tv_ok ta (0, 2, 24, []) (n_v vs 9) := tv_in t9 (by first | omega | grind) (by first | omega | grind)
  refine ⟨List.forall_mem_cons.mpr ⟨rf9, (fun _ h => (by cases h))⟩, [], trivial, ?_, (fun _ h => (by cases h))⟩
  rw [List.append_nil]
  exact (fun _ h => (by cases h))
set_option maxHeartbeats 4000000 in
theorem vc_Mo_reveal_2_0 (x1 : Int) (x2 : Int) (x3 : Int) (x6 : Int) (x7 : Int) (x9 : Int) (x11 : Int) (x12 : Int) (x13 : Int) (upperNode_0 : Int → Int) (pt_0 : Int → Int) (ph_0 : Int → Int) (alive_0 : Int → Int) (rotMany_0 : Int → Int) (rot_0 : Int → Int) (left_0 : Int → Int) (order_0 : Int → Int) (pn_0 : Int) (pm_0 : Int) (upper_0 : Int) (row_0 : Int → Int) (k1 : 1 ≤ x1 ∧ x1 ≤ 28) (k2 : 0 ≤ x2 ∧ x2 ≤ 24) (k3 : 2 ≤ x3 ∧ x3 ≤ 24) (k6 : 0 ≤ x6 ∧ x6 ≤ 23) (k7 : 0 ≤ x7 ∧ x7 ≤ 24) (k9 : 2 ≤ x9 ∧ x9 ≤ 24) (k11 : 0 ≤ x11 ∧ x11 ≤ 0) (k12 : (-1) ≤ x12 ∧ x12 ≤ (-1)) (k13 : 0 ≤ x13 ∧ x13 ≤ 0) (d0 : x1 + 1 ≤ x9 ∧ x9 ≤ x1 + 1) (d1 : x1 + (-1) ≤ x6 ∧ x6 ≤ x1 + (-1)) (h3 : x7 = upperNode_0 (x6)) (f5 : RVP (pn_0) (pm_0) (upper_0) (pt_0) (ph_0) (alive_0) (rotMany_0) (rot_0) (left_0) (upperNode_0) (order_0) (x1) (x2) (x3)) (kz_0_31 : 0 ≤ pn_0 ∧ pn_0 ≤ 25) (kz_0_32 : 0 ≤ pm_0 ∧ pm_0 ≤ 80) (kz_0_121 : 0 ≤ upper_0 ∧ upper_0 ≤ 30) : RV1 (pn_0) (pm_0) (upper_0) (pt_0) (ph_0) (alive_0) (rotMany_0) (rot_0) (left_0) (upperNode_0) (order_0) (row_0) (x1) (x2) (x7) (x11) (x12) (x13) (x3) := by
  first
    | exact rv1_start ‹RVP _ _ _ _ _ _ _ _ _ _ _ _ _ _› (by rw [← (by omega : x6 = x1 - 1)]; assumption) (by omega) (by omega) (by omega)
    | exact rv1_skip (q := x18) (y := x19) ‹RV1 _ _ _ _ _ _ _ _ _ _ _ _ _ _ _ _ _ _ _› (by omega) (by omega) (by unfold rt; rw [← (by omega : x17 = 80 * x6 + x11)]; assumption) ‹ACR _ _ _ _ _› (by omega)
    | exact rv1_take (q := x18) (y := x19) ‹RV1 _ _ _ _ _ _ _ _ _ _ _ _ _ _ _ _ _ _ _› (by omega) (by omega) (by unfold rt; rw [← (by omega : x17 = 80 * x6 + x11)]; assumption) ‹ACR _ _ _ _ _› (by omega) hE_0_117_1 (by omega) (by omega) (by omega) (Or.inl ⟨by omega, by omega⟩)
    | exact rv1_take (q := x18) (y := x19) ‹RV1 _ _ _ _ _ _ _ _ _ _ _ _ _ _ _ _ _ _ _› (by omega) (by omega) (by unfold rt; rw [← (by omega : x17 = 80 * x6 + x11)]; assumption) ‹ACR _ _ _ _ _› (by omega) hE_0_117_1 (by omega) (by omega) (by omega) (Or.inr ⟨by omega, by omega⟩)
set_option maxHeartbeats 4000000 in
theorem vc_Mo_reveal_2_1 (x1 : Int) (x9 : Int) (x10 : Int) (upperNode_0 : Int → Int) (k1 : 1 ≤ x1 ∧ x1 ≤ 28) (k9 : 2 ≤ x9 ∧ x9 ≤ 24) (k10 : 0 ≤ x10 ∧ x10 ≤ 24) (d0 : x1 + 1 ≤ x9 ∧ x9 ≤ x1 + 1) (h0 : x10 = upperNode_0 (x9)) : x10 = upperNode_0 ((x1 + 1)) := by
  first
    | omega
    | (rw [← (by omega : x9 = x1 + 1)]; assumption)
def o_Mo_reveal_2 : or_T := (28, 14, [(0, (2, 0, 0, [165])), (1, (0, 1, 28, [])), (2, (0, 0, 24, [])), (3, (0, 2, 24, [])), (6, (0, 0, 23, [])), (7, (0, 0, 24, [])), (9, (0, 2, 24, [])), (10, (0, 0, 24, [])), (11, (0, 0, 0, [])), (12, (0, -1, -1, [])), (13, (0, 0, 0, []))], [(10, [10, 4, 9], []), (9, [4, 0], [122]), (10, [7, 4, 6], []), (20, [0, 1, 2, 3], [60, 3, 8, 279, 31, 32, 121, 33, 34, 35, 36, 37, 22, 122, 96])], [], [], [(20, [0, 1, 2, 7, 11, 12, 13, 3], [60, 3, 9, 281, 31, 32, 121, 33, 34, 35, 36, 37, 22, 122, 96, 117]), (20, [10, 0, 1], [50, 0, 1, 1122, 1, 2, 1, 0, 3, 1, 122, 4, 2, 1, 2, 0, 1]), (24, [0, 0], [])], [], [(9, 1, 1, 1), (6, 1, -1, -1)])
theorem oo_Mo_reveal_2 {kA : Nat → ClassId} : or_ok PRD kA GG o_Mo_reveal_2 := by
  refine or_mk fun A ta ws vs hD hth hl => ?_
  intro t0 r0 t1 k1 t2 k2 t3 k3 t6 k6 t7 k7 t9 k9 t10 k10 t11 k11 t12 k12 t13 k13 d0 d1 f0 f2 f3 f5
  replace f0 := shm_107 f0
  replace f2 := shm_1019 f2
  replace f3 := shm_107 f3
  have ad_4 : v_ad (n_v vs 4) = w_ar ws (n_v vs 0) 122 := congrArg v_ad f2
  simp only [ad_4] at f0
  have h0 : v_iv (n_v vs 10) = w_ei ws (w_ar ws (n_v vs 0) 122) (v_iv (n_v vs 9)) := f0
  simp only [ad_4] at f3
  have h3 : v_iv (n_v vs 7) = w_ei ws (w_ar ws (n_v vs 0) 122) (v_iv (n_v vs 6)) := f3
  have kz_0_31 := fdq_145 hD hth r0
  have kz_0_32 := fdq_140 hD hth r0
  have kz_0_121 := fdq_242 hD hth r0
  have nf0 : fc_1 PRD (20, [0, 1, 2, 7, 11, 12, 13, 3], [60, 3, 9, 281, 31, 32, 121, 33, 34, 35, 36, 37, 22, 122, 96, 117]) ws (vs) := ⟨nf_in hl rfl, sgq_1021 (vc_Mo_reveal_2_0 (v_iv (n_v vs 1)) (v_iv (n_v vs 2)) (v_iv (n_v vs 3)) (v_iv (n_v vs 6)) (v_iv (n_v vs 7)) (v_iv (n_v vs 9)) (v_iv (n_v vs 11)) (v_iv (n_v vs 12)) (v_iv (n_v vs 13)) (w_ei ws (w_ar ws (n_v vs 0) 122)) (w_ei ws (w_ar ws (n_v vs 0) 33)) (w_ei ws (w_ar ws (n_v vs 0) 34)) (w_ei ws (w_ar ws (n_v vs 0) 35)) (w_ei ws (w_ar ws (n_v vs 0) 36)) (w_ei ws (w_ar ws (n_v vs 0) 37)) (w_ei ws (w_ar ws (n_v vs 0) 22)) (w_ei ws (w_ar ws (n_v vs 0) 96)) (w_fi ws (n_v vs 0) 31) (w_fi ws (n_v vs 0) 32) (w_fi ws (n_v vs 0) 121) (w_ei ws (w_ar ws (n_v vs 0) 117)) k1 k2 k3 k6 k7 k9 k11 k12 k13 d0 d1 h3 (shm_1020 f5) kz_0_31 kz_0_32 kz_0_121)⟩
  have nf1 : fc_1 PRD (20, [10, 0, 1], [50, 0, 1, 1122, 1, 2, 1, 0, 3, 1, 122, 4, 2, 1, 2, 0, 1]) ws (vs) := ⟨nf_in hl rfl, sgq_1022 (vc_Mo_reveal_2_1 (v_iv (n_v vs 1)) (v_iv (n_v vs 9)) (v_iv (n_v vs 10)) (w_ei ws (w_ar ws (n_v vs 0) 122)) k1 k9 k10 d0 h0)⟩
  have nf2 : fc_1 PRD (24, [0, 0], []) ws (vs) := by
    refine ⟨nf_in hl rfl, sgq_1 ?_⟩
    · show n_v vs 0 = n_v vs 0
      first | rfl | simp only [true_and]
  refine ⟨(fun _ h => (by cases h)), [], trivial, ?_, (fun _ h => (by cases h))⟩
  rw [List.append_nil]
  exact List.forall_mem_cons.mpr ⟨⟨show (20 : Nat) < 100 from by decide, nf0⟩, List.forall_mem_cons.mpr ⟨⟨show (20 : Nat) < 100 from by decide, nf1⟩, List.forall_mem_cons.mpr ⟨⟨show (24 : Nat) < 100 from by decide, nf2⟩, (fun _ h => (by cases h))⟩⟩⟩
set_option maxHeartbeats 4000000 in
theorem vc_Mo_reveal_3_0 (x3 : Int) (x5 : Int) (x6 : Int) (x7 : Int) (x9 : Int) (x10 : Int) (x11 : Int) (x13 : Int) (x15 : Int) (x19 : Int) (rotMany_0 : Int → Int) (pt_0 : Int → Int) (ph_0 : Int → Int) (alive_0 : Int → Int) (rot_0 : Int → Int) (left_0 : Int → Int) (upperNode_0 : Int → Int) (order_0 : Int → Int) (row_0 : Int → Int) (pn_0 : Int) (pm_0 : Int) (upper_0 : Int) (k3 : 2 ≤ x3 ∧ x3 ≤ 24) (k5 : 1 ≤ x5 ∧ x5 ≤ 28) (k6 : 0 ≤ x6 ∧ x6 ≤ 24) (k7 : 0 ≤ x7 ∧ x7 ≤ 24) (k9 : 2 ≤ x9 ∧ x9 ≤ 2) (k10 : (-1) ≤ x10 ∧ x10 ≤ 1) (k11 : 2 ≤ x11 ∧ x11 ≤ 80) (k13 : 0 ≤ x13 ∧ x13 ≤ 80) (k15 : 1 ≤ x15 ∧ x15 ≤ 1) (k19 : 2 ≤ x19 ∧ x19 ≤ 29) (d0 : x5 + 1 ≤ x19 ∧ x19 ≤ x5 + 1) (d1 : x13 + 0 ≤ x11 ∧ x11 ≤ x13 + 4294967296) (h5 : x13 = rotMany_0 (x6)) (f7 : RV1 (pn_0) (pm_0) (upper_0) (pt_0) (ph_0) (alive_0) (rotMany_0) (rot_0) (left_0) (upperNode_0) (order_0) (row_0) (x5) (x6) (x7) (x9) (x10) (x11) (x3)) (kz_0_31 : 0 ≤ pn_0 ∧ pn_0 ≤ 25) (kz_0_32 : 0 ≤ pm_0 ∧ pm_0 ≤ 80) (kz_0_121 : 0 ≤ upper_0 ∧ upper_0 ≤ 30) : RS1 (pn_0) (pm_0) (upper_0) (pt_0) (ph_0) (alive_0) (rotMany_0) (rot_0) (left_0) (upperNode_0) (order_0) (row_0) (x5) (x9) (x10) (x15) (x3) (x19) := by
  first
    | exact rs1_step ‹RS1 _ _ _ _ _ _ _ _ _ _ _ _ _ _ _ _ _ _› (by omega) (by omega) (by assumption) (by omega) (by assumption) (by omega)
    | exact rs1_start (rv_main ‹RV1 _ _ _ _ _ _ _ _ _ _ _ _ _ _ _ _ _ _ _› (by omega) ⟨fun _ => Or.inl (by omega), fun _ => by omega⟩) (by omega) (by omega)
    | (exfalso; omega)
set_option maxHeartbeats 4000000 in
theorem vc_Mo_reveal_3_1 (x9 : Int) (x17 : Int) (k9 : 2 ≤ x9 ∧ x9 ≤ 2) (k17 : 0 ≤ x17 ∧ x17 ≤ 0) : x17 = (x9 - 2) := by
  first
    | omega
def o_Mo_reveal_3 : or_T := (145, 20, [(0, (2, 0, 0, [165])), (3, (0, 2, 24, [])), (4, (2, 0, 0, [165])), (5, (0, 1, 28, [])), (6, (0, 0, 24, [])), (7, (0, 0, 24, [])), (8, (0, 0, 24, [])), (9, (0, 2, 2, [])), (10, (0, -1, 1, [])), (11, (0, 2, 80, [])), (12, (2, 0, 0, [183])), (13, (0, 0, 80, [])), (14, (0, 2, 2, [])), (15, (0, 1, 1, [])), (16, (0, 2, 2, [])), (17, (0, 0, 0, [])), (18, (0, 1, 1, [])), (19, (0, 2, 29, []))], [(1, [19, 5, 18], []), (8, [17], [0]), (2, [17, 9, 16], []), (7, [9, 14], [0]), (7, [11, 13], [3]), (10, [13, 12, 6], []), (9, [12, 4], [36]), (20, [4, 5, 6, 7, 9, 10, 11, 3], [60, 3, 9, 281, 31, 32, 121, 33, 34, 35, 36, 37, 22, 122, 96, 117]), (20, [8, 4, 5], [50, 0, 1, 1122, 1, 2, 1, 0, 3, 1, 122, 4, 2, 1, 2, 0, 1]), (24, [0, 4], [])], [], [], [(20, [4, 5, 9, 10, 15, 3, 19], [60, 3, 9, 283, 31, 32, 121, 33, 34, 35, 36, 37, 22, 122, 96, 117]), (20, [17, 9], [50, 0, 0, 1, 2, 1, 0, 5, 2, 1, 1, 0, 2])], [], [(19, 5, 1, 1), (11, 13, 0, 4294967296)])
theorem oo_Mo_reveal_3 {kA : Nat → ClassId} : or_ok PRD kA GG o_Mo_reveal_3 := by
  refine or_mk fun A ta ws vs hD hth hl => ?_
  intro t0 r0 t3 k3 t4 r4 t5 k5 t6 k6 t7 k7 t8 k8 t9 k9 t10 k10 t11 k11 t12 r12 t13 k13 t14 k14 t15 k15 t16 k16 t17 k17 t18 k18 t19 k19 d0 d1 f0 f1 f2 f3 f4 f5 f6 f7 f8 f9
  replace f5 := shm_107 f5
  replace f6 := shm_684 f6
  replace f7 := shm_1021 f7
  replace f9 := shm_5 f9
  have q4 : n_v vs 4 = n_v vs 0 := f9.symm
  simp only [q4] at f6 f7
  have ad_12 : v_ad (n_v vs 12) = w_ar ws (n_v vs 0) 36 := congrArg v_ad f6
  simp only [ad_12] at f5
  have h5 : v_iv (n_v vs 13) = w_ei ws (w_ar ws (n_v vs 0) 36) (v_iv (n_v vs 6)) := f5
  have kz_0_31 := fdq_145 hD hth r0
  have kz_0_32 := fdq_140 hD hth r0
  have kz_0_121 := fdq_242 hD hth r0
  have nf0 : fc_1 PRD (20, [4, 5, 9, 10, 15, 3, 19], [60, 3, 9, 283, 31, 32, 121, 33, 34, 35, 36, 37, 22, 122, 96, 117]) ws (vs) := by
    refine ⟨nf_in hl rfl, sgq_1023 ?_⟩
    · show RS1 (w_fi ws (n_v vs 4) 31) (w_fi ws (n_v vs 4) 32) (w_fi ws (n_v vs 4) 121) (w_ei ws (w_ar ws (n_v vs 4) 33)) (w_ei ws (w_ar ws (n_v vs 4) 34)) (w_ei ws (w_ar ws (n_v vs 4) 35)) (w_ei ws (w_ar ws (n_v vs 4) 36)) (w_ei ws (w_ar ws (n_v vs 4) 37)) (w_ei ws (w_ar ws (n_v vs 4) 22)) (w_ei ws (w_ar ws (n_v vs 4) 122)) (w_ei ws (w_ar ws (n_v vs 4) 96)) (w_ei ws (w_ar ws (n_v vs 4) 117)) (v_iv (n_v vs 5)) (v_iv (n_v vs 9)) (v_iv (n_v vs 10)) (v_iv (n_v vs 15)) (v_iv (n_v vs 3)) (v_iv (n_v vs 19))
      rw [q4]
      exact vc_Mo_reveal_3_0 (v_iv (n_v vs 3)) (v_iv (n_v vs 5)) (v_iv (n_v vs 6)) (v_iv (n_v vs 7)) (v_iv (n_v vs 9)) (v_iv (n_v vs 10)) (v_iv (n_v vs 11)) (v_iv (n_v vs 13)) (v_iv (n_v vs 15)) (v_iv (n_v vs 19)) (w_ei ws (w_ar ws (n_v vs 0) 36)) (w_ei ws (w_ar ws (n_v vs 0) 33)) (w_ei ws (w_ar ws (n_v vs 0) 34)) (w_ei ws (w_ar ws (n_v vs 0) 35)) (w_ei ws (w_ar ws (n_v vs 0) 37)) (w_ei ws (w_ar ws (n_v vs 0) 22)) (w_ei ws (w_ar ws (n_v vs 0) 122)) (w_ei ws (w_ar ws (n_v vs 0) 96)) (w_ei ws (w_ar ws (n_v vs 0) 117)) (w_fi ws (n_v vs 0) 31) (w_fi ws (n_v vs 0) 32) (w_fi ws (n_v vs 0) 121) k3 k5 k6 k7 k9 k10 k11 k13 k15 k19 d0 d1 h5 f7 kz_0_31 kz_0_32 kz_0_121
  have nf1 : fc_1 PRD (20, [17, 9], [50, 0, 0, 1, 2, 1, 0, 5, 2, 1, 1, 0, 2]) ws (vs) := ⟨nf_in hl rfl, sgq_998 (vc_Mo_reveal_3_1 (v_iv (n_v vs 9)) (v_iv (n_v vs 17)) k9 k17)⟩
  refine ⟨(fun _ h => (by cases h)), [], trivial, ?_, (fun _ h => (by cases h))⟩
  rw [List.append_nil]
  exact List.forall_mem_cons.mpr ⟨⟨show (20 : Nat) < 100 from by decide, nf0⟩, List.forall_mem_cons.mpr ⟨⟨show (20 : Nat) < 100 from by decide, nf1⟩, (fun _ h => (by cases h))⟩⟩
set_option maxHeartbeats 4000000 in
theorem vc_Mo_reveal_4_r0 (x3 : Int) (x5 : Int) (x6 : Int) (x7 : Int) (x9 : Int) (x10 : Int) (x11 : Int) (x13 : Int) (rotMany_0 : Int → Int) (pt_0 : Int → Int) (ph_0 : Int → Int) (alive_0 : Int → Int) (rot_0 : Int → Int) (left_0 : Int → Int) (upperNode_0 : Int → Int) (order_0 : Int → Int) (row_0 : Int → Int) (pn_0 : Int) (pm_0 : Int) (upper_0 : Int) (k3 : 2 ≤ x3 ∧ x3 ≤ 24) (k5 : 1 ≤ x5 ∧ x5 ≤ 28) (k6 : 0 ≤ x6 ∧ x6 ≤ 24) (k7 : 0 ≤ x7 ∧ x7 ≤ 24) (k9 : 0 ≤ x9 ∧ x9 ≤ 80) (k10 : (-1) ≤ x10 ∧ x10 ≤ 79) (k11 : 0 ≤ x11 ∧ x11 ≤ 80) (k13 : 0 ≤ x13 ∧ x13 ≤ 80) (d3 : x13 + 0 ≤ x11 ∧ x11 ≤ x13 + 4294967296) (h4 : x13 = rotMany_0 (x6)) (f6 : RV1 (pn_0) (pm_0) (upper_0) (pt_0) (ph_0) (alive_0) (rotMany_0) (rot_0) (left_0) (upperNode_0) (order_0) (row_0) (x5) (x6) (x7) (x9) (x10) (x11) (x3)) (kz_0_31 : 0 ≤ pn_0 ∧ pn_0 ≤ 25) (kz_0_32 : 0 ≤ pm_0 ∧ pm_0 ≤ 80) (kz_0_121 : 0 ≤ upper_0 ∧ upper_0 ≤ 30) : 2 ≤ x9 ∧ x9 ≤ 80 := by
  first
    | omega
    | (have h := rvp_len ‹RVP _ _ _ _ _ _ _ _ _ _ _ _ _ _›; omega)
    | (have h := rvp_len ‹RV1 _ _ _ _ _ _ _ _ _ _ _ _ _ _ _ _ _ _ _›.1
       have h2 := rv1_len ‹RV1 _ _ _ _ _ _ _ _ _ _ _ _ _ _ _ _ _ _ _›
       omega)
    | (have h := rvp_len ‹RV1 _ _ _ _ _ _ _ _ _ _ _ _ _ _ _ _ _ _ _›.1
       have h2 := rv1_len ‹RV1 _ _ _ _ _ _ _ _ _ _ _ _ _ _ _ _ _ _ _›
       have h3 := rv_2 ‹RV1 _ _ _ _ _ _ _ _ _ _ _ _ _ _ _ _ _ _ _› (by omega)
       omega)
    | (have h := rs1_len ‹RS1 _ _ _ _ _ _ _ _ _ _ _ _ _ _ _ _ _ _›; omega)
    | (have h := rs2_len ‹RS2 _ _ _ _ _ _ _ _ _ _ _ _ _ _ _ _ _ _›; omega)
    | (have h := rs3_len ‹RS3 _ _ _ _ _ _ _ _ _ _ _ _ _ _ _ _ _ _›; omega)
def o_Mo_reveal_4 : or_T := (115, 18, [(0, (2, 0, 0, [165])), (3, (0, 2, 24, [])), (4, (2, 0, 0, [165])), (5, (0, 1, 28, [])), (6, (0, 0, 24, [])), (7, (0, 0, 24, [])), (8, (0, 0, 24, [])), (9, (0, 0, 80, [])), (10, (0, -1, 79, [])), (11, (0, 0, 80, [])), (12, (2, 0, 0, [183])), (13, (0, 0, 80, [])), (14, (0, 2, 2, [])), (15, (2, 0, 0, [249])), (16, (0, 1, 1, [])), (17, (0, 0, 80, []))], [(1, [17, 10, 16], []), (9, [15, 4], [117]), (7, [9, 14], [1]), (7, [11, 13], [3]), (10, [13, 12, 6], []), (9, [12, 4], [36]), (20, [4, 5, 6, 7, 9, 10, 11, 3], [60, 3, 9, 281, 31, 32, 121, 33, 34, 35, 36, 37, 22, 122, 96, 117]), (20, [8, 4, 5], [50, 0, 1, 1122, 1, 2, 1, 0, 3, 1, 122, 4, 2, 1, 2, 0, 1]), (24, [0, 4], [])], [(9, (0, 2, 80, []))], [], [], [], [(17, 10, 1, 1), (17, 9, -4294967296, 0), (17, 11, -4294967296, 0), (11, 13, 0, 4294967296), (9, 11, -4294967296, 0), (10, 9, -4294967296, -1), (10, 11, -4294967296, -1)])
theorem oo_Mo_reveal_4 {kA : Nat → ClassId} : or_ok PRD kA GG o_Mo_reveal_4 := by
  refine or_mk fun A ta ws vs hD hth hl => ?_
  intro t0 r0 t3 k3 t4 r4 t5 k5 t6 k6 t7 k7 t8 k8 t9 k9 t10 k10 t11 k11 t12 r12 t13 k13 t14 k14 t15 r15 t16 k16 t17 k17 d0 d1 d2 d3 d4 d5 d6 f0 f1 f2 f3 f4 f5 f6 f7 f8
  replace f4 := shm_107 f4
  replace f5 := shm_684 f5
  replace f6 := shm_1021 f6
  replace f8 := shm_5 f8
  have q4 : n_v vs 4 = n_v vs 0 := f8.symm
  simp only [q4] at f5 f6
  have ad_12 : v_ad (n_v vs 12) = w_ar ws (n_v vs 0) 36 := congrArg v_ad f5
  simp only [ad_12] at f4
  have h4 : v_iv (n_v vs 13) = w_ei ws (w_ar ws (n_v vs 0) 36) (v_iv (n_v vs 6)) := f4
  have kz_0_31 := fdq_145 hD hth r0
  have kz_0_32 := fdq_140 hD hth r0
  have kz_0_121 := fdq_242 hD hth r0
  have hrf0 : 2 ≤ v_iv (n_v vs 9) ∧ v_iv (n_v vs 9) ≤ 80 := vc_Mo_reveal_4_r0 (v_iv (n_v vs 3)) (v_iv (n_v vs 5)) (v_iv (n_v vs 6)) (v_iv (n_v vs 7)) (v_iv (n_v vs 9)) (v_iv (n_v vs 10)) (v_iv (n_v vs 11)) (v_iv (n_v vs 13)) (w_ei ws (w_ar ws (n_v vs 0) 36)) (w_ei ws (w_ar ws (n_v vs 0) 33)) (w_ei ws (w_ar ws (n_v vs 0) 34)) (w_ei ws (w_ar ws (n_v vs 0) 35)) (w_ei ws (w_ar ws (n_v vs 0) 37)) (w_ei ws (w_ar ws (n_v vs 0) 22)) (w_ei ws (w_ar ws (n_v vs 0) 122)) (w_ei ws (w_ar ws (n_v vs 0) 96)) (w_ei ws (w_ar ws (n_v vs 0) 117)) (w_fi ws (n_v vs 0) 31) (w_fi ws (n_v vs 0) 32) (w_fi ws (n_v vs 0) 121) k3 k5 k6 k7 k9 k10 k11 k13 d3 h4 f6 kz_0_31 kz_0_32 kz_0_121
  have rf9 : tv_ok ta (0, 2, 80, []) (n_v vs 9) := tv_in t9 (by first | omega | grind) (by first | omega | grind)
  refine ⟨List.forall_mem_cons.mpr ⟨rf9, (fun _ h => (by cases h))⟩, [], trivial, ?_, (fun _ h => (by cases h))⟩
  rw [List.append_nil]
  exact (fun _ h => (by cases h))
set_option maxHeartbeats 4000000 in
theorem vc_Mo_reveal_5_0 (x3 : Int) (x5 : Int) (x6 : Int) (x7 : Int) (x8 : Int) (x9 : Int) (x10 : Int) (x11 : Int) (x13 : Int) (x17 : Int) (x18 : Int) (x19 : Int) (x20 : Int) (x22 : Int) (x23 : Int) (x25 : Int) (upper_0 : Int) (row_0 : Int → Int) (rotMany_0 : Int → Int) (pt_0 : Int → Int) (ph_0 : Int → Int) (alive_0 : Int → Int) (rot_0 : Int → Int) (left_0 : Int → Int) (upperNode_0 : Int → Int) (order_0 : Int → Int) (pn_0 : Int) (pm_0 : Int) (k3 : 2 ≤ x3 ∧ x3 ≤ 24) (k5 : 1 ≤ x5 ∧ x5 ≤ 28) (k6 : 0 ≤ x6 ∧ x6 ≤ 24) (k7 : 0 ≤ x7 ∧ x7 ≤ 24) (k8 : 0 ≤ x8 ∧ x8 ≤ 24) (k9 : 3 ≤ x9 ∧ x9 ≤ 80) (k10 : (-1) ≤ x10 ∧ x10 ≤ 79) (k11 : 3 ≤ x11 ∧ x11 ≤ 80) (k13 : 0 ≤ x13 ∧ x13 ≤ 80) (k17 : 0 ≤ x17 ∧ x17 ≤ 80) (k18 : 0 ≤ x18 ∧ x18 ≤ 79) (k19 : 0 ≤ x19 ∧ x19 ≤ 24) (k20 : 0 ≤ x20 ∧ x20 ≤ 0) (k22 : 1 ≤ x22 ∧ x22 ≤ 78) (k23 : 0 ≤ x23 ∧ x23 ≤ 30) (k25 : (-1) ≤ x25 ∧ x25 ≤ 29) (d0 : x23 + (-1) ≤ x25 ∧ x25 ≤ x23 + (-1)) (d1 : x9 + (-2) ≤ x22 ∧ x22 ≤ x9 + (-2)) (d3 : x8 + 0 ≤ x19 ∧ x19 ≤ x8 + 0) (d6 : x10 + 1 ≤ x17 ∧ x17 ≤ x10 + 1) (d9 : x13 + 0 ≤ x11 ∧ x11 ≤ x13 + 4294967296) (g1 : x23 = upper_0) (h5 : x19 = row_0 (x18)) (f6 : x18 = Int.tmod (x17) (x9)) (h11 : x13 = rotMany_0 (x6)) (f13 : RV1 (pn_0) (pm_0) (upper_0) (pt_0) (ph_0) (alive_0) (rotMany_0) (rot_0) (left_0) (upperNode_0) (order_0) (row_0) (x5) (x6) (x7) (x9) (x10) (x11) (x3)) (f14 : x8 = upperNode_0 ((x5 + 1))) (kz_0_31 : 0 ≤ pn_0 ∧ pn_0 ≤ 25) (kz_0_32 : 0 ≤ pm_0 ∧ pm_0 ≤ 80) (kz_0_121 : 0 ≤ upper_0 ∧ upper_0 ≤ 30) : RS2 (pn_0) (pm_0) (upper_0) (pt_0) (ph_0) (alive_0) (rotMany_0) (rot_0) (left_0) (upperNode_0) (order_0) (row_0) (x5) (x9) (x10) (x20) (x3) (x25) := by
  first
    | exact rs2_step ‹RS2 _ _ _ _ _ _ _ _ _ _ _ _ _ _ _ _ _ _› (by omega) (by omega) (by assumption) (by omega) (by assumption) (by omega)
    | (exfalso; omega)
    | (have r2 := rv_2 ‹RV1 _ _ _ _ _ _ _ _ _ _ _ _ _ _ _ _ _ _ _› (by omega)
       have e1 : (x10 + 1) % x9 = x18 := by
         rw [‹x18 = Int.tmod x17 x9›, Int.tmod_eq_emod_of_nonneg (by omega), show x17 = x10 + 1 by omega]
       exact rs2_start (rv_main ‹RV1 _ _ _ _ _ _ _ _ _ _ _ _ _ _ _ _ _ _ _› (by omega) ⟨fun _ => Or.inr (by rw [e1]; omega), fun _ => by omega⟩) (by omega) (by omega))
    | (have r2 := rv_2 ‹RV1 _ _ _ _ _ _ _ _ _ _ _ _ _ _ _ _ _ _ _› (by omega)
       have e1 : (x10 + 1) % x9 = x18 := by
         rw [‹x18 = Int.tmod x17 x9›, Int.tmod_eq_emod_of_nonneg (by omega), show x17 = x10 + 1 by omega]
       exact rs2_start (rv_main ‹RV1 _ _ _ _ _ _ _ _ _ _ _ _ _ _ _ _ _ _ _› (by omega) ⟨fun z => absurd (by omega) z, fun z => by
           exfalso
           rcases z with z | z
           · omega
           · rw [e1] at z; omega⟩) (by omega) (by omega))
set_option maxHeartbeats 4000000 in
theorem vc_Mo_reveal_5_1 (x9 : Int) (x22 : Int) (k9 : 3 ≤ x9 ∧ x9 ≤ 80) (k22 : 1 ≤ x22 ∧ x22 ≤ 78) (d1 : x9 + (-2) ≤ x22 ∧ x22 ≤ x9 + (-2)) : x22 = (x9 - 2) := by
  first
    | omega
def o_Mo_reveal_5 : or_T := (187, 26, [(0, (2, 0, 0, [165])), (3, (0, 2, 24, [])), (4, (2, 0, 0, [165])), (5, (0, 1, 28, [])), (6, (0, 0, 24, [])), (7, (0, 0, 24, [])), (8, (0, 0, 24, [])), (9, (0, 3, 80, [])), (10, (0, -1, 79, [])), (11, (0, 3, 80, [])), (12, (2, 0, 0, [183])), (13, (0, 0, 80, [])), (14, (0, 2, 2, [])), (15, (2, 0, 0, [249])), (16, (0, 1, 1, [])), (17, (0, 0, 80, [])), (18, (0, 0, 79, [])), (19, (0, 0, 24, [])), (20, (0, 0, 0, [])), (21, (0, 2, 2, [])), (22, (0, 1, 78, [])), (23, (0, 0, 30, [])), (24, (0, 1, 1, [])), (25, (0, -1, 29, []))], [(2, [25, 23, 24], []), (9, [23, 4], [121]), (8, [22], [1]), (2, [22, 9, 21], []), (7, [19, 8], [0]), (10, [19, 15, 18], []), (5, [18, 17, 9], []), (1, [17, 10, 16], []), (9, [15, 4], [117]), (7, [9, 14], [1]), (7, [11, 13], [3]), (10, [13, 12, 6], []), (9, [12, 4], [36]), (20, [4, 5, 6, 7, 9, 10, 11, 3], [60, 3, 9, 281, 31, 32, 121, 33, 34, 35, 36, 37, 22, 122, 96, 117]), (20, [8, 4, 5], [50, 0, 1, 1122, 1, 2, 1, 0, 3, 1, 122, 4, 2, 1, 2, 0, 1]), (24, [0, 4], [])], [], [], [(20, [4, 5, 9, 10, 20, 3, 25], [60, 3, 9, 284, 31, 32, 121, 33, 34, 35, 36, 37, 22, 122, 96, 117]), (20, [22, 9], [50, 0, 0, 1, 2, 1, 0, 5, 2, 1, 1, 0, 2])], [], [(25, 23, -1, -1), (22, 9, -2, -2), (22, 11, -4294967296, -2), (19, 8, 0, 0), (18, 9, -4294967295, -1), (18, 11, -4294967296, -1), (17, 10, 1, 1), (17, 9, -4294967296, 0), (17, 11, -4294967296, 0), (11, 13, 0, 4294967296), (9, 11, -4294967296, 0), (10, 9, -4294967296, -1), (10, 11, -4294967296, -1)])
theorem oo_Mo_reveal_5 {kA : Nat → ClassId} : or_ok PRD kA GG o_Mo_reveal_5 := by
  refine or_mk fun A ta ws vs hD hth hl => ?_
  intro t0 r0 t3 k3 t4 r4 t5 k5 t6 k6 t7 k7 t8 k8 t9 k9 t10 k10 t11 k11 t12 r12 t13 k13 t14 k14 t15 r15 t16 k16 t17 k17 t18 k18 t19 k19 t20 k20 t21 k21 t22 k22 t23 k23 t24 k24 t25 k25 d0 d1 d2 d3 d4 d5 d6 d7 d8 d9 d10 d11 d12 f0 f1 f2 f3 f4 f5 f6 f7 f8 f9 f10 f11 f12 f13 f14 f15
  replace f1 := shm_1024 f1
  replace f5 := shm_107 f5
  replace f6 := shm_468 f6
  replace f8 := shm_713 f8
  replace f11 := shm_107 f11
  replace f12 := shm_684 f12
  replace f13 := shm_1021 f13
  replace f14 := shm_1022 f14
  replace f15 := shm_5 f15
  have q4 : n_v vs 4 = n_v vs 0 := f15.symm
  simp only [q4] at f1 f8 f12 f13 f14
  have ad_15 : v_ad (n_v vs 15) = w_ar ws (n_v vs 0) 117 := congrArg v_ad f8
  have ad_12 : v_ad (n_v vs 12) = w_ar ws (n_v vs 0) 36 := congrArg v_ad f12
  have g1 : v_iv (n_v vs 23) = w_fi ws (n_v vs 0) 121 := congrArg v_iv f1
  simp only [ad_15] at f5
  have h5 : v_iv (n_v vs 19) = w_ei ws (w_ar ws (n_v vs 0) 117) (v_iv (n_v vs 18)) := f5
  simp only [ad_12] at f11
  have h11 : v_iv (n_v vs 13) = w_ei ws (w_ar ws (n_v vs 0) 36) (v_iv (n_v vs 6)) := f11
  have kz_0_31 := fdq_145 hD hth r0
  have kz_0_32 := fdq_140 hD hth r0
  have kz_0_121 := fdq_242 hD hth r0
  have nf0 : fc_1 PRD (20, [4, 5, 9, 10, 20, 3, 25], [60, 3, 9, 284, 31, 32, 121, 33, 34, 35, 36, 37, 22, 122, 96, 117]) ws (vs) := by
    refine ⟨nf_in hl rfl, sgq_1025 ?_⟩
    · show RS2 (w_fi ws (n_v vs 4) 31) (w_fi ws (n_v vs 4) 32) (w_fi ws (n_v vs 4) 121) (w_ei ws (w_ar ws (n_v vs 4) 33)) (w_ei ws (w_ar ws (n_v vs 4) 34)) (w_ei ws (w_ar ws (n_v vs 4) 35)) (w_ei ws (w_ar ws (n_v vs 4) 36)) (w_ei ws (w_ar ws (n_v vs 4) 37)) (w_ei ws (w_ar ws (n_v vs 4) 22)) (w_ei ws (w_ar ws (n_v vs 4) 122)) (w_ei ws (w_ar ws (n_v vs 4) 96)) (w_ei ws (w_ar ws (n_v vs 4) 117)) (v_iv (n_v vs 5)) (v_iv (n_v vs 9)) (v_iv (n_v vs 10)) (v_iv (n_v vs 20)) (v_iv (n_v vs 3)) (v_iv (n_v vs 25))
      rw [q4]
      exact vc_Mo_reveal_5_0 (v_iv (n_v vs 3)) (v_iv (n_v vs 5)) (v_iv (n_v vs 6)) (v_iv (n_v vs 7)) (v_iv (n_v vs 8)) (v_iv (n_v vs 9)) (v_iv (n_v vs 10)) (v_iv (n_v vs 11)) (v_iv (n_v vs 13)) (v_iv (n_v vs 17)) (v_iv (n_v vs 18)) (v_iv (n_v vs 19)) (v_iv (n_v vs 20)) (v_iv (n_v vs 22)) (v_iv (n_v vs 23)) (v_iv (n_v vs 25)) (w_fi ws (n_v vs 0) 121) (w_ei ws (w_ar ws (n_v vs 0) 117)) (w_ei ws (w_ar ws (n_v vs 0) 36)) (w_ei ws (w_ar ws (n_v vs 0) 33)) (w_ei ws (w_ar ws (n_v vs 0) 34)) (w_ei ws (w_ar ws (n_v vs 0) 35)) (w_ei ws (w_ar ws (n_v vs 0) 37)) (w_ei ws (w_ar ws (n_v vs 0) 22)) (w_ei ws (w_ar ws (n_v vs 0) 122)) (w_ei ws (w_ar ws (n_v vs 0) 96)) (w_fi ws (n_v vs 0) 31) (w_fi ws (n_v vs 0) 32) k3 k5 k6 k7 k8 k9 k10 k11 k13 k17 k18 k19 k20 k22 k23 k25 d0 d1 d3 d6 d9 g1 h5 f6 h11 f13 f14 kz_0_31 kz_0_32 kz_0_121
  have nf1 : fc_1 PRD (20, [22, 9], [50, 0, 0, 1, 2, 1, 0, 5, 2, 1, 1, 0, 2]) ws (vs) := ⟨nf_in hl rfl, sgq_998 (vc_Mo_reveal_5_1 (v_iv (n_v vs 9)) (v_iv (n_v vs 22)) k9 k22 d1)⟩
  refine ⟨(fun _ h => (by cases h)), [], trivial, ?_, (fun _ h => (by cases h))⟩
  rw [List.append_nil]
  exact List.forall_mem_cons.mpr ⟨⟨show (20 : Nat) < 100 from by decide, nf0⟩, List.forall_mem_cons.mpr ⟨⟨show (20 : Nat) < 100 from by decide, nf1⟩, (fun _ h => (by cases h))⟩⟩
set_option maxHeartbeats 4000000 in
theorem vc_Mo_reveal_6_0 (x3 : Int) (x5 : Int) (x6 : Int) (x7 : Int) (x9 : Int) (x10 : Int) (x11 : Int) (x13 : Int) (x14 : Int) (x20 : Int) (x24 : Int) (row_0 : Int → Int) (rotMany_0 : Int → Int) (pt_0 : Int → Int) (ph_0 : Int → Int) (alive_0 : Int → Int) (rot_0 : Int → Int) (left_0 : Int → Int) (upperNode_0 : Int → Int) (order_0 : Int → Int) (pn_0 : Int) (pm_0 : Int) (upper_0 : Int) (k3 : 2 ≤ x3 ∧ x3 ≤ 24) (k5 : 1 ≤ x5 ∧ x5 ≤ 28) (k6 : 0 ≤ x6 ∧ x6 ≤ 24) (k7 : 0 ≤ x7 ∧ x7 ≤ 24) (k9 : 2 ≤ x9 ∧ x9 ≤ 2) (k10 : (-1) ≤ x10 ∧ x10 ≤ 79) (k11 : 2 ≤ x11 ∧ x11 ≤ 80) (k13 : 0 ≤ x13 ∧ x13 ≤ 80) (k14 : 2 ≤ x14 ∧ x14 ≤ 2) (k20 : 0 ≤ x20 ∧ x20 ≤ 0) (k24 : 2 ≤ x24 ∧ x24 ≤ 29) (d0 : x5 + 1 ≤ x24 ∧ x24 ≤ x5 + 1) (d7 : x13 + 0 ≤ x11 ∧ x11 ≤ x13 + 4294967296) (f8 : x9 ≠ x14) (h10 : x13 = rotMany_0 (x6)) (f12 : RV1 (pn_0) (pm_0) (upper_0) (pt_0) (ph_0) (alive_0) (rotMany_0) (rot_0) (left_0) (upperNode_0) (order_0) (row_0) (x5) (x6) (x7) (x9) (x10) (x11) (x3)) (kz_0_31 : 0 ≤ pn_0 ∧ pn_0 ≤ 25) (kz_0_32 : 0 ≤ pm_0 ∧ pm_0 ≤ 80) (kz_0_121 : 0 ≤ upper_0 ∧ upper_0 ≤ 30) : RS1 (pn_0) (pm_0) (upper_0) (pt_0) (ph_0) (alive_0) (rotMany_0) (rot_0) (left_0) (upperNode_0) (order_0) (row_0) (x5) (x9) (x10) (x20) (x3) (x24) := by
  first
    | exact rs1_step ‹RS1 _ _ _ _ _ _ _ _ _ _ _ _ _ _ _ _ _ _› (by omega) (by omega) (by assumption) (by omega) (by assumption) (by omega)
    | exact rs1_start (rv_main ‹RV1 _ _ _ _ _ _ _ _ _ _ _ _ _ _ _ _ _ _ _› (by omega) ⟨fun _ => Or.inl (by omega), fun _ => by omega⟩) (by omega) (by omega)
    | (exfalso; omega)
set_option maxHeartbeats 4000000 in
theorem vc_Mo_reveal_6_1 (x9 : Int) (x22 : Int) (k9 : 2 ≤ x9 ∧ x9 ≤ 2) (k22 : 0 ≤ x22 ∧ x22 ≤ 0) : x22 = (x9 - 2) := by
  first
    | omega
def o_Mo_reveal_6 : or_T := (145, 25, [(0, (2, 0, 0, [165])), (3, (0, 2, 24, [])), (4, (2, 0, 0, [165])), (5, (0, 1, 28, [])), (6, (0, 0, 24, [])), (7, (0, 0, 24, [])), (8, (0, 0, 24, [])), (9, (0, 2, 2, [])), (10, (0, -1, 79, [])), (11, (0, 2, 80, [])), (12, (2, 0, 0, [183])), (13, (0, 0, 80, [])), (14, (0, 2, 2, [])), (15, (2, 0, 0, [249])), (16, (0, 1, 1, [])), (17, (0, 0, 80, [])), (18, (0, 0, 79, [])), (19, (0, 0, 24, [])), (20, (0, 0, 0, [])), (21, (0, 2, 2, [])), (22, (0, 0, 0, [])), (23, (0, 1, 1, [])), (24, (0, 2, 29, []))], [(1, [24, 5, 23], []), (8, [22], [0]), (2, [22, 9, 21], []), (7, [19, 8], [0]), (10, [19, 15, 18], []), (5, [18, 17, 9], []), (1, [17, 10, 16], []), (9, [15, 4], [117]), (7, [9, 14], [1]), (7, [11, 13], [3]), (10, [13, 12, 6], []), (9, [12, 4], [36]), (20, [4, 5, 6, 7, 9, 10, 11, 3], [60, 3, 9, 281, 31, 32, 121, 33, 34, 35, 36, 37, 22, 122, 96, 117]), (20, [8, 4, 5], [50, 0, 1, 1122, 1, 2, 1, 0, 3, 1, 122, 4, 2, 1, 2, 0, 1]), (24, [0, 4], [])], [], [], [(20, [4, 5, 9, 10, 20, 3, 24], [60, 3, 9, 283, 31, 32, 121, 33, 34, 35, 36, 37, 22, 122, 96, 117]), (20, [22, 9], [50, 0, 0, 1, 2, 1, 0, 5, 2, 1, 1, 0, 2])], [], [(24, 5, 1, 1), (19, 8, 0, 0), (18, 9, -4294967295, -1), (18, 11, -4294967296, -1), (17, 10, 1, 1), (17, 9, -4294967296, 0), (17, 11, -4294967296, 0), (11, 13, 0, 4294967296), (10, 9, -4294967296, -1), (10, 11, -4294967296, -1)])
theorem oo_Mo_reveal_6 {kA : Nat → ClassId} : or_ok PRD kA GG o_Mo_reveal_6 := by
  refine or_mk fun A ta ws vs hD hth hl => ?_
  intro t0 r0 t3 k3 t4 r4 t5 k5 t6 k6 t7 k7 t8 k8 t9 k9 t10 k10 t11 k11 t12 r12 t13 k13 t14 k14 t15 r15 t16 k16 t17 k17 t18 k18 t19 k19 t20 k20 t21 k21 t22 k22 t23 k23 t24 k24 d0 d1 d2 d3 d4 d5 d6 d7 d8 d9 f0 f1 f2 f3 f4 f5 f6 f7 f8 f9 f10 f11 f12 f13 f14
  replace f8 := shm_40 f8
  replace f10 := shm_107 f10
  replace f11 := shm_684 f11
  replace f12 := shm_1021 f12
  replace f14 := shm_5 f14
  have q4 : n_v vs 4 = n_v vs 0 := f14.symm
  simp only [q4] at f11 f12
  have ad_12 : v_ad (n_v vs 12) = w_ar ws (n_v vs 0) 36 := congrArg v_ad f11
  simp only [ad_12] at f10
  have h10 : v_iv (n_v vs 13) = w_ei ws (w_ar ws (n_v vs 0) 36) (v_iv (n_v vs 6)) := f10
  have kz_0_31 := fdq_145 hD hth r0
  have kz_0_32 := fdq_140 hD hth r0
  have kz_0_121 := fdq_242 hD hth r0
  have nf0 : fc_1 PRD (20, [4, 5, 9, 10, 20, 3, 24], [60, 3, 9, 283, 31, 32, 121, 33, 34, 35, 36, 37, 22, 122, 96, 117]) ws (vs) := by
    refine ⟨nf_in hl rfl, sgq_1023 ?_⟩
    · show RS1 (w_fi ws (n_v vs 4) 31) (w_fi ws (n_v vs 4) 32) (w_fi ws (n_v vs 4) 121) (w_ei ws (w_ar ws (n_v vs 4) 33)) (w_ei ws (w_ar ws (n_v vs 4) 34)) (w_ei ws (w_ar ws (n_v vs 4) 35)) (w_ei ws (w_ar ws (n_v vs 4) 36)) (w_ei ws (w_ar ws (n_v vs 4) 37)) (w_ei ws (w_ar ws (n_v vs 4) 22)) (w_ei ws (w_ar ws (n_v vs 4) 122)) (w_ei ws (w_ar ws (n_v vs 4) 96)) (w_ei ws (w_ar ws (n_v vs 4) 117)) (v_iv (n_v vs 5)) (v_iv (n_v vs 9)) (v_iv (n_v vs 10)) (v_iv (n_v vs 20)) (v_iv (n_v vs 3)) (v_iv (n_v vs 24))
      rw [q4]
      exact vc_Mo_reveal_6_0 (v_iv (n_v vs 3)) (v_iv (n_v vs 5)) (v_iv (n_v vs 6)) (v_iv (n_v vs 7)) (v_iv (n_v vs 9)) (v_iv (n_v vs 10)) (v_iv (n_v vs 11)) (v_iv (n_v vs 13)) (v_iv (n_v vs 14)) (v_iv (n_v vs 20)) (v_iv (n_v vs 24)) (w_ei ws (w_ar ws (n_v vs 0) 117)) (w_ei ws (w_ar ws (n_v vs 0) 36)) (w_ei ws (w_ar ws (n_v vs 0) 33)) (w_ei ws (w_ar ws (n_v vs 0) 34)) (w_ei ws (w_ar ws (n_v vs 0) 35)) (w_ei ws (w_ar ws (n_v vs 0) 37)) (w_ei ws (w_ar ws (n_v vs 0) 22)) (w_ei ws (w_ar ws (n_v vs 0) 122)) (w_ei ws (w_ar ws (n_v vs 0) 96)) (w_fi ws (n_v vs 0) 31) (w_fi ws (n_v vs 0) 32) (w_fi ws (n_v vs 0) 121) k3 k5 k6 k7 k9 k10 k11 k13 k14 k20 k24 d0 d7 f8 h10 f12 kz_0_31 kz_0_32 kz_0_121
  have nf1 : fc_1 PRD (20, [22, 9], [50, 0, 0, 1, 2, 1, 0, 5, 2, 1, 1, 0, 2]) ws (vs) := ⟨nf_in hl rfl, sgq_998 (vc_Mo_reveal_6_1 (v_iv (n_v vs 9)) (v_iv (n_v vs 22)) k9 k22)⟩
  refine ⟨(fun _ h => (by cases h)), [], trivial, ?_, (fun _ h => (by cases h))⟩
  rw [List.append_nil]
  exact List.forall_mem_cons.mpr ⟨⟨show (20 : Nat) < 100 from by decide, nf0⟩, List.forall_mem_cons.mpr ⟨⟨show (20 : Nat) < 100 from by decide, nf1⟩, (fun _ h => (by cases h))⟩⟩
set_option maxHeartbeats 4000000 in
theorem vc_Mo_reveal_7_0 (x3 : Int) (x5 : Int) (x6 : Int) (x7 : Int) (x8 : Int) (x9 : Int) (x10 : Int) (x11 : Int) (x13 : Int) (x14 : Int) (x17 : Int) (x18 : Int) (x19 : Int) (x20 : Int) (x22 : Int) (x23 : Int) (x25 : Int) (upper_0 : Int) (row_0 : Int → Int) (rotMany_0 : Int → Int) (pt_0 : Int → Int) (ph_0 : Int → Int) (alive_0 : Int → Int) (rot_0 : Int → Int) (left_0 : Int → Int) (upperNode_0 : Int → Int) (order_0 : Int → Int) (pn_0 : Int) (pm_0 : Int) (k3 : 2 ≤ x3 ∧ x3 ≤ 24) (k5 : 1 ≤ x5 ∧ x5 ≤ 28) (k6 : 0 ≤ x6 ∧ x6 ≤ 24) (k7 : 0 ≤ x7 ∧ x7 ≤ 24) (k8 : 0 ≤ x8 ∧ x8 ≤ 24) (k9 : 3 ≤ x9 ∧ x9 ≤ 80) (k10 : (-1) ≤ x10 ∧ x10 ≤ 79) (k11 : 3 ≤ x11 ∧ x11 ≤ 80) (k13 : 0 ≤ x13 ∧ x13 ≤ 80) (k14 : 2 ≤ x14 ∧ x14 ≤ 2) (k17 : 0 ≤ x17 ∧ x17 ≤ 80) (k18 : 0 ≤ x18 ∧ x18 ≤ 79) (k19 : 0 ≤ x19 ∧ x19 ≤ 75) (k20 : 1 ≤ x20 ∧ x20 ≤ 1) (k22 : 1 ≤ x22 ∧ x22 ≤ 78) (k23 : 0 ≤ x23 ∧ x23 ≤ 30) (k25 : (-1) ≤ x25 ∧ x25 ≤ 29) (d0 : x23 + (-1) ≤ x25 ∧ x25 ≤ x23 + (-1)) (d1 : x9 + (-2) ≤ x22 ∧ x22 ≤ x9 + (-2)) (d5 : x10 + 1 ≤ x17 ∧ x17 ≤ x10 + 1) (d8 : x13 + 0 ≤ x11 ∧ x11 ≤ x13 + 4294967296) (g1 : x23 = upper_0) (f4 : x19 ≠ x8) (h5 : x19 = row_0 (x18)) (f6 : x18 = Int.tmod (x17) (x9)) (f9 : x9 ≠ x14) (h11 : x13 = rotMany_0 (x6)) (f13 : RV1 (pn_0) (pm_0) (upper_0) (pt_0) (ph_0) (alive_0) (rotMany_0) (rot_0) (left_0) (upperNode_0) (order_0) (row_0) (x5) (x6) (x7) (x9) (x10) (x11) (x3)) (f14 : x8 = upperNode_0 ((x5 + 1))) (kz_0_31 : 0 ≤ pn_0 ∧ pn_0 ≤ 25) (kz_0_32 : 0 ≤ pm_0 ∧ pm_0 ≤ 80) (kz_0_121 : 0 ≤ upper_0 ∧ upper_0 ≤ 30) : RS2 (pn_0) (pm_0) (upper_0) (pt_0) (ph_0) (alive_0) (rotMany_0) (rot_0) (left_0) (upperNode_0) (order_0) (row_0) (x5) (x9) (x10) (x20) (x3) (x25) := by
  first
    | exact rs2_step ‹RS2 _ _ _ _ _ _ _ _ _ _ _ _ _ _ _ _ _ _› (by omega) (by omega) (by assumption) (by omega) (by assumption) (by omega)
    | (exfalso; omega)
    | (have r2 := rv_2 ‹RV1 _ _ _ _ _ _ _ _ _ _ _ _ _ _ _ _ _ _ _› (by omega)
       have e1 : (x10 + 1) % x9 = x18 := by
         rw [‹x18 = Int.tmod x17 x9›, Int.tmod_eq_emod_of_nonneg (by omega), show x17 = x10 + 1 by omega]
       exact rs2_start (rv_main ‹RV1 _ _ _ _ _ _ _ _ _ _ _ _ _ _ _ _ _ _ _› (by omega) ⟨fun _ => Or.inr (by rw [e1]; omega), fun _ => by omega⟩) (by omega) (by omega))
    | (have r2 := rv_2 ‹RV1 _ _ _ _ _ _ _ _ _ _ _ _ _ _ _ _ _ _ _› (by omega)
       have e1 : (x10 + 1) % x9 = x18 := by
         rw [‹x18 = Int.tmod x17 x9›, Int.tmod_eq_emod_of_nonneg (by omega), show x17 = x10 + 1 by omega]
       exact rs2_start (rv_main ‹RV1 _ _ _ _ _ _ _ _ _ _ _ _ _ _ _ _ _ _ _› (by omega) ⟨fun z => absurd (by omega) z, fun z => by
           exfalso
           rcases z with z | z
           · omega
           · rw [e1] at z; omega⟩) (by omega) (by omega))
set_option maxHeartbeats 4000000 in
theorem vc_Mo_reveal_7_1 (x9 : Int) (x22 : Int) (k9 : 3 ≤ x9 ∧ x9 ≤ 80) (k22 : 1 ≤ x22 ∧ x22 ≤ 78) (d1 : x9 + (-2) ≤ x22 ∧ x22 ≤ x9 + (-2)) : x22 = (x9 - 2) := by
  first
    | omega
def o_Mo_reveal_7 : or_T := (187, 26, [(0, (2, 0, 0, [165])), (3, (0, 2, 24, [])), (4, (2, 0, 0, [165])), (5, (0, 1, 28, [])), (6, (0, 0, 24, [])), (7, (0, 0, 24, [])), (8, (0, 0, 24, [])), (9, (0, 3, 80, [])), (10, (0, -1, 79, [])), (11, (0, 3, 80, [])), (12, (2, 0, 0, [183])), (13, (0, 0, 80, [])), (14, (0, 2, 2, [])), (15, (2, 0, 0, [249])), (16, (0, 1, 1, [])), (17, (0, 0, 80, [])), (18, (0, 0, 79, [])), (19, (0, 0, 75, [])), (20, (0, 1, 1, [])), (21, (0, 2, 2, [])), (22, (0, 1, 78, [])), (23, (0, 0, 30, [])), (24, (0, 1, 1, [])), (25, (0, -1, 29, []))], [(2, [25, 23, 24], []), (9, [23, 4], [121]), (8, [22], [1]), (2, [22, 9, 21], []), (7, [19, 8], [1]), (10, [19, 15, 18], []), (5, [18, 17, 9], []), (1, [17, 10, 16], []), (9, [15, 4], [117]), (7, [9, 14], [1]), (7, [11, 13], [3]), (10, [13, 12, 6], []), (9, [12, 4], [36]), (20, [4, 5, 6, 7, 9, 10, 11, 3], [60, 3, 9, 281, 31, 32, 121, 33, 34, 35, 36, 37, 22, 122, 96, 117]), (20, [8, 4, 5], [50, 0, 1, 1122, 1, 2, 1, 0, 3, 1, 122, 4, 2, 1, 2, 0, 1]), (24, [0, 4], [])], [], [], [(20, [4, 5, 9, 10, 20, 3, 25], [60, 3, 9, 284, 31, 32, 121, 33, 34, 35, 36, 37, 22, 122, 96, 117]), (20, [22, 9], [50, 0, 0, 1, 2, 1, 0, 5, 2, 1, 1, 0, 2])], [], [(25, 23, -1, -1), (22, 9, -2, -2), (22, 11, -4294967296, -2), (18, 9, -4294967295, -1), (18, 11, -4294967296, -1), (17, 10, 1, 1), (17, 9, -4294967296, 0), (17, 11, -4294967296, 0), (11, 13, 0, 4294967296), (9, 11, -4294967296, 0), (10, 9, -4294967296, -1), (10, 11, -4294967296, -1)])
theorem oo_Mo_reveal_7 {kA : Nat → ClassId} : or_ok PRD kA GG o_Mo_reveal_7 := by
  refine or_mk fun A ta ws vs hD hth hl => ?_
  intro t0 r0 t3 k3 t4 r4 t5 k5 t6 k6 t7 k7 t8 k8 t9 k9 t10 k10 t11 k11 t12 r12 t13 k13 t14 k14 t15 r15 t16 k16 t17 k17 t18 k18 t19 k19 t20 k20 t21 k21 t22 k22 t23 k23 t24 k24 t25 k25 d0 d1 d2 d3 d4 d5 d6 d7 d8 d9 d10 d11 f0 f1 f2 f3 f4 f5 f6 f7 f8 f9 f10 f11 f12 f13 f14 f15
  replace f1 := shm_1024 f1
  replace f4 := shm_40 f4
  replace f5 := shm_107 f5
  replace f6 := shm_468 f6
  replace f8 := shm_713 f8
  replace f9 := shm_40 f9
  replace f11 := shm_107 f11
  replace f12 := shm_684 f12
  replace f13 := shm_1021 f13
  replace f14 := shm_1022 f14
  replace f15 := shm_5 f15
  have q4 : n_v vs 4 = n_v vs 0 := f15.symm
  simp only [q4] at f1 f8 f12 f13 f14
  have ad_15 : v_ad (n_v vs 15) = w_ar ws (n_v vs 0) 117 := congrArg v_ad f8
  have ad_12 : v_ad (n_v vs 12) = w_ar ws (n_v vs 0) 36 := congrArg v_ad f12
  have g1 : v_iv (n_v vs 23) = w_fi ws (n_v vs 0) 121 := congrArg v_iv f1
  simp only [ad_15] at f5
  have h5 : v_iv (n_v vs 19) = w_ei ws (w_ar ws (n_v vs 0) 117) (v_iv (n_v vs 18)) := f5
  simp only [ad_12] at f11
  have h11 : v_iv (n_v vs 13) = w_ei ws (w_ar ws (n_v vs 0) 36) (v_iv (n_v vs 6)) := f11
  have kz_0_31 := fdq_145 hD hth r0
  have kz_0_32 := fdq_140 hD hth r0
  have kz_0_121 := fdq_242 hD hth r0
  have nf0 : fc_1 PRD (20, [4, 5, 9, 10, 20, 3, 25], [60, 3, 9, 284, 31, 32, 121, 33, 34, 35, 36, 37, 22, 122, 96, 117]) ws (vs) := by
    refine ⟨nf_in hl rfl, sgq_1025 ?_⟩
    · show RS2 (w_fi ws (n_v vs 4) 31) (w_fi ws (n_v vs 4) 32) (w_fi ws (n_v vs 4) 121) (w_ei ws (w_ar ws (n_v vs 4) 33)) (w_ei ws (w_ar ws (n_v vs 4) 34)) (w_ei ws (w_ar ws (n_v vs 4) 35)) (w_ei ws (w_ar ws (n_v vs 4) 36)) (w_ei ws (w_ar ws (n_v vs 4) 37)) (w_ei ws (w_ar ws (n_v vs 4) 22)) (w_ei ws (w_ar ws (n_v vs 4) 122)) (w_ei ws (w_ar ws (n_v vs 4) 96)) (w_ei ws (w_ar ws (n_v vs 4) 117)) (v_iv (n_v vs 5)) (v_iv (n_v vs 9)) (v_iv (n_v vs 10)) (v_iv (n_v vs 20)) (v_iv (n_v vs 3)) (v_iv (n_v vs 25))
      rw [q4]
      exact vc_Mo_reveal_7_0 (v_iv (n_v vs 3)) (v_iv (n_v vs 5)) (v_iv (n_v vs 6)) (v_iv (n_v vs 7)) (v_iv (n_v vs 8)) (v_iv (n_v vs 9)) (v_iv (n_v vs 10)) (v_iv (n_v vs 11)) (v_iv (n_v vs 13)) (v_iv (n_v vs 14)) (v_iv (n_v vs 17)) (v_iv (n_v vs 18)) (v_iv (n_v vs 19)) (v_iv (n_v vs 20)) (v_iv (n_v vs 22)) (v_iv (n_v vs 23)) (v_iv (n_v vs 25)) (w_fi ws (n_v vs 0) 121) (w_ei ws (w_ar ws (n_v vs 0) 117)) (w_ei ws (w_ar ws (n_v vs 0) 36)) (w_ei ws (w_ar ws (n_v vs 0) 33)) (w_ei ws (w_ar ws (n_v vs 0) 34)) (w_ei ws (w_ar ws (n_v vs 0) 35)) (w_ei ws (w_ar ws (n_v vs 0) 37)) (w_ei ws (w_ar ws (n_v vs 0) 22)) (w_ei ws (w_ar ws (n_v vs 0) 122)) (w_ei ws (w_ar ws (n_v vs 0) 96)) (w_fi ws (n_v vs 0) 31) (w_fi ws (n_v vs 0) 32) k3 k5 k6 k7 k8 k9 k10 k11 k13 k14 k17 k18 k19 k20 k22 k23 k25 d0 d1 d5 d8 g1 f4 h5 f6 f9 h11 f13 f14 kz_0_31 kz_0_32 kz_0_121
  have nf1 : fc_1 PRD (20, [22, 9], [50, 0, 0, 1, 2, 1, 0, 5, 2, 1, 1, 0, 2]) ws (vs) := ⟨nf_in hl rfl, sgq_998 (vc_Mo_reveal_7_1 (v_iv (n_v vs 9)) (v_iv (n_v vs 22)) k9 k22 d1)⟩
  refine ⟨(fun _ h => (by cases h)), [], trivial, ?_, (fun _ h => (by cases h))⟩
  rw [List.append_nil]
  exact List.forall_mem_cons.mpr ⟨⟨show (20 : Nat) < 100 from by decide, nf0⟩, List.forall_mem_cons.mpr ⟨⟨show (20 : Nat) < 100 from by decide, nf1⟩, (fun _ h => (by cases h))⟩⟩
set_option maxHeartbeats 4000000 in
theorem vc_Mo_reveal_8_0 (x3 : Int) (x5 : Int) (x6 : Int) (x7 : Int) (x9 : Int) (x10 : Int) (x11 : Int) (x13 : Int) (x20 : Int) (x24 : Int) (row_0 : Int → Int) (rotMany_0 : Int → Int) (pt_0 : Int → Int) (ph_0 : Int → Int) (alive_0 : Int → Int) (rot_0 : Int → Int) (left_0 : Int → Int) (upperNode_0 : Int → Int) (order_0 : Int → Int) (pn_0 : Int) (pm_0 : Int) (upper_0 : Int) (k3 : 2 ≤ x3 ∧ x3 ≤ 24) (k5 : 1 ≤ x5 ∧ x5 ≤ 28) (k6 : 0 ≤ x6 ∧ x6 ≤ 24) (k7 : 0 ≤ x7 ∧ x7 ≤ 24) (k9 : 2 ≤ x9 ∧ x9 ≤ 2) (k10 : (-1) ≤ x10 ∧ x10 ≤ 79) (k11 : 2 ≤ x11 ∧ x11 ≤ 80) (k13 : 0 ≤ x13 ∧ x13 ≤ 80) (k20 : 1 ≤ x20 ∧ x20 ≤ 1) (k24 : 2 ≤ x24 ∧ x24 ≤ 29) (d0 : x5 + 1 ≤ x24 ∧ x24 ≤ x5 + 1) (d6 : x13 + 0 ≤ x11 ∧ x11 ≤ x13 + 4294967296) (h10 : x13 = rotMany_0 (x6)) (f12 : RV1 (pn_0) (pm_0) (upper_0) (pt_0) (ph_0) (alive_0) (rotMany_0) (rot_0) (left_0) (upperNode_0) (order_0) (row_0) (x5) (x6) (x7) (x9) (x10) (x11) (x3)) (kz_0_31 : 0 ≤ pn_0 ∧ pn_0 ≤ 25) (kz_0_32 : 0 ≤ pm_0 ∧ pm_0 ≤ 80) (kz_0_121 : 0 ≤ upper_0 ∧ upper_0 ≤ 30) : RS1 (pn_0) (pm_0) (upper_0) (pt_0) (ph_0) (alive_0) (rotMany_0) (rot_0) (left_0) (upperNode_0) (order_0) (row_0) (x5) (x9) (x10) (x20) (x3) (x24) := by
  first
    | exact rs1_step ‹RS1 _ _ _ _ _ _ _ _ _ _ _ _ _ _ _ _ _ _› (by omega) (by omega) (by assumption) (by omega) (by assumption) (by omega)
    | exact rs1_start (rv_main ‹RV1 _ _ _ _ _ _ _ _ _ _ _ _ _ _ _ _ _ _ _› (by omega) ⟨fun _ => Or.inl (by omega), fun _ => by omega⟩) (by omega) (by omega)
    | (exfalso; omega)
set_option maxHeartbeats 4000000 in
theorem vc_Mo_reveal_8_1 (x9 : Int) (x22 : Int) (k9 : 2 ≤ x9 ∧ x9 ≤ 2) (k22 : 0 ≤ x22 ∧ x22 ≤ 0) : x22 = (x9 - 2) := by
  first
    | omega
def o_Mo_reveal_8 : or_T := (145, 25, [(0, (2, 0, 0, [165])), (3, (0, 2, 24, [])), (4, (2, 0, 0, [165])), (5, (0, 1, 28, [])), (6, (0, 0, 24, [])), (7, (0, 0, 24, [])), (8, (0, 0, 24, [])), (9, (0, 2, 2, [])), (10, (0, -1, 79, [])), (11, (0, 2, 80, [])), (12, (2, 0, 0, [183])), (13, (0, 0, 80, [])), (14, (0, 2, 2, [])), (15, (2, 0, 0, [249])), (16, (0, 1, 1, [])), (17, (0, 0, 80, [])), (18, (0, 0, 79, [])), (19, (0, 0, 75, [])), (20, (0, 1, 1, [])), (21, (0, 2, 2, [])), (22, (0, 0, 0, [])), (23, (0, 1, 1, [])), (24, (0, 2, 29, []))], [(1, [24, 5, 23], []), (8, [22], [0]), (2, [22, 9, 21], []), (7, [19, 8], [1]), (10, [19, 15, 18], []), (5, [18, 17, 9], []), (1, [17, 10, 16], []), (9, [15, 4], [117]), (7, [9, 14], [1]), (7, [11, 13], [3]), (10, [13, 12, 6], []), (9, [12, 4], [36]), (20, [4, 5, 6, 7, 9, 10, 11, 3], [60, 3, 9, 281, 31, 32, 121, 33, 34, 35, 36, 37, 22, 122, 96, 117]), (20, [8, 4, 5], [50, 0, 1, 1122, 1, 2, 1, 0, 3, 1, 122, 4, 2, 1, 2, 0, 1]), (24, [0, 4], [])], [], [], [(20, [4, 5, 9, 10, 20, 3, 24], [60, 3, 9, 283, 31, 32, 121, 33, 34, 35, 36, 37, 22, 122, 96, 117]), (20, [22, 9], [50, 0, 0, 1, 2, 1, 0, 5, 2, 1, 1, 0, 2])], [], [(24, 5, 1, 1), (18, 9, -4294967295, -1), (18, 11, -4294967296, -1), (17, 10, 1, 1), (17, 9, -4294967296, 0), (17, 11, -4294967296, 0), (11, 13, 0, 4294967296), (10, 9, -4294967296, -1), (10, 11, -4294967296, -1)])
theorem oo_Mo_reveal_8 {kA : Nat → ClassId} : or_ok PRD kA GG o_Mo_reveal_8 := by
  refine or_mk fun A ta ws vs hD hth hl => ?_
  intro t0 r0 t3 k3 t4 r4 t5 k5 t6 k6 t7 k7 t8 k8 t9 k9 t10 k10 t11 k11 t12 r12 t13 k13 t14 k14 t15 r15 t16 k16 t17 k17 t18 k18 t19 k19 t20 k20 t21 k21 t22 k22 t23 k23 t24 k24 d0 d1 d2 d3 d4 d5 d6 d7 d8 f0 f1 f2 f3 f4 f5 f6 f7 f8 f9 f10 f11 f12 f13 f14
  replace f10 := shm_107 f10
  replace f11 := shm_684 f11
  replace f12 := shm_1021 f12
  replace f14 := shm_5 f14
  have q4 : n_v vs 4 = n_v vs 0 := f14.symm
  simp only [q4] at f11 f12
  have ad_12 : v_ad (n_v vs 12) = w_ar ws (n_v vs 0) 36 := congrArg v_ad f11
  simp only [ad_12] at f10
  have h10 : v_iv (n_v vs 13) = w_ei ws (w_ar ws (n_v vs 0) 36) (v_iv (n_v vs 6)) := f10
  have kz_0_31 := fdq_145 hD hth r0
  have kz_0_32 := fdq_140 hD hth r0
  have kz_0_121 := fdq_242 hD hth r0
  have nf0 : fc_1 PRD (20, [4, 5, 9, 10, 20, 3, 24], [60, 3, 9, 283, 31, 32, 121, 33, 34, 35, 36, 37, 22, 122, 96, 117]) ws (vs) := by
    refine ⟨nf_in hl rfl, sgq_1023 ?_⟩
    · show RS1 (w_fi ws (n_v vs 4) 31) (w_fi ws (n_v vs 4) 32) (w_fi ws (n_v vs 4) 121) (w_ei ws (w_ar ws (n_v vs 4) 33)) (w_ei ws (w_ar ws (n_v vs 4) 34)) (w_ei ws (w_ar ws (n_v vs 4) 35)) (w_ei ws (w_ar ws (n_v vs 4) 36)) (w_ei ws (w_ar ws (n_v vs 4) 37)) (w_ei ws (w_ar ws (n_v vs 4) 22)) (w_ei ws (w_ar ws (n_v vs 4) 122)) (w_ei ws (w_ar ws (n_v vs 4) 96)) (w_ei ws (w_ar ws (n_v vs 4) 117)) (v_iv (n_v vs 5)) (v_iv (n_v vs 9)) (v_iv (n_v vs 10)) (v_iv (n_v vs 20)) (v_iv (n_v vs 3)) (v_iv (n_v vs 24))
      rw [q4]
      exact vc_Mo_reveal_8_0 (v_iv (n_v vs 3)) (v_iv (n_v vs 5)) (v_iv (n_v vs 6)) (v_iv (n_v vs 7)) (v_iv (n_v vs 9)) (v_iv (n_v vs 10)) (v_iv (n_v vs 11)) (v_iv (n_v vs 13)) (v_iv (n_v vs 20)) (v_iv (n_v vs 24)) (w_ei ws (w_ar ws (n_v vs 0) 117)) (w_ei ws (w_ar ws (n_v vs 0) 36)) (w_ei ws (w_ar ws (n_v vs 0) 33)) (w_ei ws (w_ar ws (n_v vs 0) 34)) (w_ei ws (w_ar ws (n_v vs 0) 35)) (w_ei ws (w_ar ws (n_v vs 0) 37)) (w_ei ws (w_ar ws (n_v vs 0) 22)) (w_ei ws (w_ar ws (n_v vs 0) 122)) (w_ei ws (w_ar ws (n_v vs 0) 96)) (w_fi ws (n_v vs 0) 31) (w_fi ws (n_v vs 0) 32) (w_fi ws (n_v vs 0) 121) k3 k5 k6 k7 k9 k10 k11 k13 k20 k24 d0 d6 h10 f12 kz_0_31 kz_0_32 kz_0_121
  have nf1 : fc_1 PRD (20, [22, 9], [50, 0, 0, 1, 2, 1, 0, 5, 2, 1, 1, 0, 2]) ws (vs) := ⟨nf_in hl rfl, sgq_998 (vc_Mo_reveal_8_1 (v_iv (n_v vs 9)) (v_iv (n_v vs 22)) k9 k22)⟩
  refine ⟨(fun _ h => (by cases h)), [], trivial, ?_, (fun _ h => (by cases h))⟩
  rw [List.append_nil]
  exact List.forall_mem_cons.mpr ⟨⟨show (20 : Nat) < 100 from by decide, nf0⟩, List.forall_mem_cons.mpr ⟨⟨show (20 : Nat) < 100 from by decide, nf1⟩, (fun _ h => (by cases h))⟩⟩
set_option maxHeartbeats 4000000 in
theorem vc_Mo_reveal_9_0 (x3 : Int) (x5 : Int) (x6 : Int) (x7 : Int) (x9 : Int) (x10 : Int) (x11 : Int) (x13 : Int) (x16 : Int) (x17 : Int) (x18 : Int) (x19 : Int) (x21 : Int) (x23 : Int) (x24 : Int) (pt_0 : Int → Int) (ph_0 : Int → Int) (upperNode_0 : Int → Int) (left_1 : Int → Int) (pt_1 : Int → Int) (ph_1 : Int → Int) (rot_1 : Int → Int) (rotMany_1 : Int → Int) (alive_1 : Int → Int) (upperNode_1 : Int → Int) (order_1 : Int → Int) (row_1 : Int → Int) (pn_1 : Int) (pm_1 : Int) (upper_1 : Int) (pn_0 : Int) (pm_0 : Int) (upper_0 : Int) (left_0 : Int → Int) (alive_0 : Int → Int) (rotMany_0 : Int → Int) (rot_0 : Int → Int) (order_0 : Int → Int) (row_0 : Int → Int) (k3 : 2 ≤ x3 ∧ x3 ≤ 24) (k5 : 1 ≤ x5 ∧ x5 ≤ 28) (k6 : 0 ≤ x6 ∧ x6 ≤ 24) (k7 : 0 ≤ x7 ∧ x7 ≤ 24) (k9 : 0 ≤ x9 ∧ x9 ≤ 79) (k10 : (-1) ≤ x10 ∧ x10 ≤ 78) (k11 : 0 ≤ x11 ∧ x11 ≤ 79) (k13 : 1 ≤ x13 ∧ x13 ≤ 80) (k16 : 0 ≤ x16 ∧ x16 ≤ 1920) (k17 : 0 ≤ x17 ∧ x17 ≤ 1999) (k18 : 0 ≤ x18 ∧ x18 ≤ 79) (k19 : 0 ≤ x19 ∧ x19 ≤ 24) (k21 : 1 ≤ x21 ∧ x21 ≤ 1) (k23 : 1 ≤ x23 ∧ x23 ≤ 80) (k24 : 1 ≤ x24 ∧ x24 ≤ 80) (d0 : x11 + 1 ≤ x24 ∧ x24 ≤ x11 + 1) (d1 : x13 + (-4294967296) ≤ x24 ∧ x24 ≤ x13 + 0) (d7 : x13 + (-4294967296) ≤ x11 ∧ x11 ≤ x13 + (-1)) (f0 : x24 = x11 + 1) (f1 : x23 = x9 + 1) (f7 : x19 ≠ x7) (h9 : x21 = left_1 (x19)) (f11 : ACR (pt_1) (ph_1) (x18) (x6) (x19)) (h12 : x18 = rot_1 (x17)) (f13 : x17 = x16 + x11) (f14 : x16 = 80 * x6) (h17 : x13 = rotMany_1 (x6)) (f19 : RV1 (pn_1) (pm_1) (upper_1) (pt_1) (ph_1) (alive_1) (rotMany_1) (rot_1) (left_1) (upperNode_1) (order_1) (row_1) (x5) (x6) (x7) (x9) (x10) (x11) (x3)) (fe_0_31_1 : pn_0 = pn_1) (fe_0_32_1 : pm_0 = pm_1) (fe_0_121_1 : upper_0 = upper_1) (hE_0_22_1 : ∀ j : Int, left_0 j = left_1 j) (hE_0_33_1 : ∀ j : Int, pt_0 j = pt_1 j) (hE_0_34_1 : ∀ j : Int, ph_0 j = ph_1 j) (hE_0_35_1 : ∀ j : Int, alive_0 j = alive_1 j) (hE_0_36_1 : ∀ j : Int, rotMany_0 j = rotMany_1 j) (hE_0_37_1 : ∀ j : Int, rot_0 j = rot_1 j) (hE_0_96_1 : ∀ j : Int, order_0 j = order_1 j) (hE_0_117_1 : ∀ j : Int, 0 ≤ j → (j = x9 → row_0 j = x19) ∧ (j ≠ x9 → row_0 j = row_1 j)) (hE_0_122_1 : ∀ j : Int, upperNode_0 j = upperNode_1 j) (kz_0_31 : 0 ≤ pn_0 ∧ pn_0 ≤ 25) (kz_0_32 : 0 ≤ pm_0 ∧ pm_0 ≤ 80) (kz_0_121 : 0 ≤ upper_0 ∧ upper_0 ≤ 30) : RV1 (pn_0) (pm_0) (upper_0) (pt_0) (ph_0) (alive_0) (rotMany_0) (rot_0) (left_0) (upperNode_0) (order_0) (row_0) (x5) (x6) (x7) (x23) (x10) (x24) (x3) := by
  subst fe_0_31_1
  subst fe_0_32_1
  subst fe_0_121_1
  have e_hE_0_22_1 := funext hE_0_22_1; subst e_hE_0_22_1
  have e_hE_0_33_1 := funext hE_0_33_1; subst e_hE_0_33_1
  have e_hE_0_34_1 := funext hE_0_34_1; subst e_hE_0_34_1
  have e_hE_0_35_1 := funext hE_0_35_1; subst e_hE_0_35_1
  have e_hE_0_36_1 := funext hE_0_36_1; subst e_hE_0_36_1
  have e_hE_0_37_1 := funext hE_0_37_1; subst e_hE_0_37_1
  have e_hE_0_96_1 := funext hE_0_96_1; subst e_hE_0_96_1
  have e_hE_0_122_1 := funext hE_0_122_1; subst e_hE_0_122_1
  first
    | exact rv1_start ‹RVP _ _ _ _ _ _ _ _ _ _ _ _ _ _› (by rw [← (by omega : x6 = x1 - 1)]; assumption) (by omega) (by omega) (by omega)
    | exact rv1_skip (q := x18) (y := x19) ‹RV1 _ _ _ _ _ _ _ _ _ _ _ _ _ _ _ _ _ _ _› (by omega) (by omega) (by unfold rt; rw [← (by omega : x17 = 80 * x6 + x11)]; assumption) ‹ACR _ _ _ _ _› (by omega)
    | exact rv1_take (q := x18) (y := x19) ‹RV1 _ _ _ _ _ _ _ _ _ _ _ _ _ _ _ _ _ _ _› (by omega) (by omega) (by unfold rt; rw [← (by omega : x17 = 80 * x6 + x11)]; assumption) ‹ACR _ _ _ _ _› (by omega) hE_0_117_1 (by omega) (by omega) (by omega) (Or.inl ⟨by omega, by omega⟩)
    | exact rv1_take (q := x18) (y := x19) ‹RV1 _ _ _ _ _ _ _ _ _ _ _ _ _ _ _ _ _ _ _› (by omega) (by omega) (by unfold rt; rw [← (by omega : x17 = 80 * x6 + x11)]; assumption) ‹ACR _ _ _ _ _› (by omega) hE_0_117_1 (by omega) (by omega) (by omega) (Or.inr ⟨by omega, by omega⟩)
def o_Mo_reveal_9 : or_T := (28, 25, [(0, (2, 0, 0, [165])), (3, (0, 2, 24, [])), (4, (2, 0, 0, [165])), (5, (0, 1, 28, [])), (6, (0, 0, 24, [])), (7, (0, 0, 24, [])), (8, (0, 0, 24, [])), (9, (0, 0, 79, [])), (10, (0, -1, 78, [])), (11, (0, 0, 79, [])), (12, (2, 0, 0, [183])), (13, (0, 1, 80, [])), (14, (2, 0, 0, [184])), (15, (0, 80, 80, [])), (16, (0, 0, 1920, [])), (17, (0, 0, 1999, [])), (18, (0, 0, 79, [])), (19, (0, 0, 24, [])), (20, (2, 0, 0, [177])), (21, (0, 1, 1, [])), (22, (2, 0, 0, [249])), (23, (0, 1, 80, [])), (24, (0, 1, 80, []))], [(6, [24, 11], [1]), (6, [23, 9], [1]), (20, [4, 18, 6, 19], [60, 0, 2, 84, 33, 34]), (20, [8, 4, 5], [50, 0, 1, 1122, 1, 2, 1, 0, 3, 1, 122, 4, 2, 1, 2, 0, 1]), (24, [0, 4], []), (100, [22, 9, 19], []), (9, [22, 4], [117]), (7, [19, 7], [1]), (8, [21], [1]), (10, [21, 20, 19], []), (9, [20, 4], [22]), (20, [4, 18, 6, 19], [60, 0, 2, 84, 33, 34]), (10, [18, 14, 17], []), (1, [17, 16, 11], []), (3, [16, 15, 6], []), (9, [14, 4], [37]), (7, [11, 13], [2]), (10, [13, 12, 6], []), (9, [12, 4], [36]), (20, [4, 5, 6, 7, 9, 10, 11, 3], [60, 3, 9, 281, 31, 32, 121, 33, 34, 35, 36, 37, 22, 122, 96, 117]), (20, [8, 4, 5], [50, 0, 1, 1122, 1, 2, 1, 0, 3, 1, 122, 4, 2, 1, 2, 0, 1])], [], [], [(20, [4, 5, 6, 7, 23, 10, 24, 3], [60, 3, 9, 281, 31, 32, 121, 33, 34, 35, 36, 37, 22, 122, 96, 117])], [], [(24, 11, 1, 1), (24, 13, -4294967296, 0), (23, 9, 1, 1), (23, 11, -4294967296, 1), (17, 11, 0, 1920), (17, 13, -4294967296, 1919), (17, 16, 0, 79), (11, 13, -4294967296, -1), (9, 11, -4294967296, 0), (10, 9, -4294967296, -1), (10, 11, -4294967296, -1)])
theorem oo_Mo_reveal_9 {kA : Nat → ClassId} : or_ok PRD kA GG o_Mo_reveal_9 := by
  refine or_mk fun A ta ws vs hD hth hl => ?_
  intro t0 r0 t3 k3 t4 r4 t5 k5 t6 k6 t7 k7 t8 k8 t9 k9 t10 k10 t11 k11 t12 r12 t13 k13 t14 r14 t15 k15 t16 k16 t17 k17 t18 k18 t19 k19 t20 r20 t21 k21 t22 r22 t23 k23 t24 k24 d0 d1 d2 d3 d4 d5 d6 d7 d8 d9 d10 f0 f1 f2 f3 f4 ta1 w1 le1 s1 f6 f7 f8 f9 f10 f11 f12 f13 f14 f15 f16 f17 f18 f19 f20
  replace f0 := shm_4 f0
  replace f1 := shm_4 f1
  replace f4 := shm_5 f4
  have s1 : (∀ b j, w_el ws b j = if b = v_ad (n_v vs 22) ∧ j = (v_iv (n_v vs 9)).toNat then v_iv (n_v vs 19) else w_el w1 b j) ∧ ∀ b k, w_fd ws b k = w_fd w1 b k := s1.2
  replace f6 := shm_713 f6
  replace f7 := shm_40 f7
  replace f9 := shm_107 f9
  replace f10 := shm_1026 f10
  replace f11 := shm_495 f11
  replace f12 := shm_107 f12
  replace f13 := shm_12 f13
  replace f14 := shm_38 f14
  rw [show v_iv (n_v vs 15) = 80 from by omega] at f14
  replace f15 := shm_687 f15
  replace f17 := shm_107 f17
  replace f18 := shm_684 f18
  replace f19 := shm_1021 f19
  have q4 : n_v vs 4 = n_v vs 0 := f4.symm
  simp only [q4] at f6 f10 f11 f15 f18 f19
  have ar_0_22_1 : w_ar w1 (n_v vs 0) 22 = w_ar ws (n_v vs 0) 22 := congrArg v_ad (s1.2 _ _).symm
  have cr_0_22 := fdq_240 hD hth r0
  have ar_0_33_1 : w_ar w1 (n_v vs 0) 33 = w_ar ws (n_v vs 0) 33 := congrArg v_ad (s1.2 _ _).symm
  have cr_0_33 := fdq_117 hD hth r0
  have ar_0_34_1 : w_ar w1 (n_v vs 0) 34 = w_ar ws (n_v vs 0) 34 := congrArg v_ad (s1.2 _ _).symm
  have cr_0_34 := fdq_118 hD hth r0
  have ar_0_35_1 : w_ar w1 (n_v vs 0) 35 = w_ar ws (n_v vs 0) 35 := congrArg v_ad (s1.2 _ _).symm
  have cr_0_35 := fdq_132 hD hth r0
  have ar_0_36_1 : w_ar w1 (n_v vs 0) 36 = w_ar ws (n_v vs 0) 36 := congrArg v_ad (s1.2 _ _).symm
  have cr_0_36 := fdq_167 hD hth r0
  have ar_0_37_1 : w_ar w1 (n_v vs 0) 37 = w_ar ws (n_v vs 0) 37 := congrArg v_ad (s1.2 _ _).symm
  have cr_0_37 := fdq_168 hD hth r0
  have ar_0_96_1 : w_ar w1 (n_v vs 0) 96 = w_ar ws (n_v vs 0) 96 := congrArg v_ad (s1.2 _ _).symm
  have cr_0_96 := fdq_166 hD hth r0
  have ar_0_117_1 : w_ar w1 (n_v vs 0) 117 = w_ar ws (n_v vs 0) 117 := congrArg v_ad (s1.2 _ _).symm
  have ar_0_122_1 : w_ar w1 (n_v vs 0) 122 = w_ar ws (n_v vs 0) 122 := congrArg v_ad (s1.2 _ _).symm
  have cr_0_122 := fdq_241 hD hth r0
  have ad_22 : v_ad (n_v vs 22) = w_ar ws (n_v vs 0) 117 := (congrArg v_ad f6).trans ar_0_117_1
  have ad_20 : v_ad (n_v vs 20) = w_ar ws (n_v vs 0) 22 := (congrArg v_ad f10).trans ar_0_22_1
  have ad_14 : v_ad (n_v vs 14) = w_ar ws (n_v vs 0) 37 := (congrArg v_ad f15).trans ar_0_37_1
  have ad_12 : v_ad (n_v vs 12) = w_ar ws (n_v vs 0) 36 := (congrArg v_ad f18).trans ar_0_36_1
  simp only [ad_20] at f9
  have h9 : v_iv (n_v vs 21) = w_ei w1 (w_ar ws (n_v vs 0) 22) (v_iv (n_v vs 19)) := f9
  simp only [ar_0_33_1, ar_0_34_1, ad_14] at f11 f12
  have h12 : v_iv (n_v vs 18) = w_ei w1 (w_ar ws (n_v vs 0) 37) (v_iv (n_v vs 17)) := f12
  simp only [ad_12] at f17
  have h17 : v_iv (n_v vs 13) = w_ei w1 (w_ar ws (n_v vs 0) 36) (v_iv (n_v vs 6)) := f17
  simp only [ar_0_22_1, ar_0_33_1, ar_0_34_1, ar_0_35_1, ar_0_36_1, ar_0_37_1, ar_0_96_1, ar_0_117_1, ar_0_122_1] at f19
  have fe_0_31_1 : w_fi ws (n_v vs 0) 31 = w_fi w1 (n_v vs 0) 31 := congrArg v_iv (s1.2 _ _)
  have fe_0_32_1 : w_fi ws (n_v vs 0) 32 = w_fi w1 (n_v vs 0) 32 := congrArg v_iv (s1.2 _ _)
  have fe_0_121_1 : w_fi ws (n_v vs 0) 121 = w_fi w1 (n_v vs 0) 121 := congrArg v_iv (s1.2 _ _)
  have hE_0_22_1 : ∀ j : Int, w_ei ws (w_ar ws (n_v vs 0) 22) j = w_ei w1 (w_ar ws (n_v vs 0) 22) j := el_kp s1.1 r22 cr_0_22 (by decide)
  have hE_0_33_1 : ∀ j : Int, w_ei ws (w_ar ws (n_v vs 0) 33) j = w_ei w1 (w_ar ws (n_v vs 0) 33) j := el_kp s1.1 r22 cr_0_33 (by decide)
  have hE_0_34_1 : ∀ j : Int, w_ei ws (w_ar ws (n_v vs 0) 34) j = w_ei w1 (w_ar ws (n_v vs 0) 34) j := el_kp s1.1 r22 cr_0_34 (by decide)
  have hE_0_35_1 : ∀ j : Int, w_ei ws (w_ar ws (n_v vs 0) 35) j = w_ei w1 (w_ar ws (n_v vs 0) 35) j := el_kp s1.1 r22 cr_0_35 (by decide)
  have hE_0_36_1 : ∀ j : Int, w_ei ws (w_ar ws (n_v vs 0) 36) j = w_ei w1 (w_ar ws (n_v vs 0) 36) j := el_kp s1.1 r22 cr_0_36 (by decide)
  have hE_0_37_1 : ∀ j : Int, w_ei ws (w_ar ws (n_v vs 0) 37) j = w_ei w1 (w_ar ws (n_v vs 0) 37) j := el_kp s1.1 r22 cr_0_37 (by decide)
  have hE_0_96_1 : ∀ j : Int, w_ei ws (w_ar ws (n_v vs 0) 96) j = w_ei w1 (w_ar ws (n_v vs 0) 96) j := el_kp s1.1 r22 cr_0_96 (by decide)
  have hE_0_117_1 : ∀ j : Int, 0 ≤ j → (j = v_iv (n_v vs 9) → w_ei ws (w_ar ws (n_v vs 0) 117) j = v_iv (n_v vs 19)) ∧ (j ≠ v_iv (n_v vs 9) → w_ei ws (w_ar ws (n_v vs 0) 117) j = w_ei w1 (w_ar ws (n_v vs 0) 117) j) := fun j hj => ⟨fun h => by unfold w_ei; rw [s1.1, if_pos ⟨ad_22.symm, by rw [h]⟩], fun h => by unfold w_ei; rw [s1.1, if_neg (fun e => h (by have := e.2; omega))]⟩
  have hE_0_122_1 : ∀ j : Int, w_ei ws (w_ar ws (n_v vs 0) 122) j = w_ei w1 (w_ar ws (n_v vs 0) 122) j := el_kp s1.1 r22 cr_0_122 (by decide)
  have kz_0_31 := fdq_145 hD hth r0
  have kz_0_32 := fdq_140 hD hth r0
  have kz_0_121 := fdq_242 hD hth r0
  have nf0 : fc_1 PRD (20, [4, 5, 6, 7, 23, 10, 24, 3], [60, 3, 9, 281, 31, 32, 121, 33, 34, 35, 36, 37, 22, 122, 96, 117]) ws (vs) := by
    refine ⟨nf_in hl rfl, sgq_1021 ?_⟩
    · show RV1 (w_fi ws (n_v vs 4) 31) (w_fi ws (n_v vs 4) 32) (w_fi ws (n_v vs 4) 121) (w_ei ws (w_ar ws (n_v vs 4) 33)) (w_ei ws (w_ar ws (n_v vs 4) 34)) (w_ei ws (w_ar ws (n_v vs 4) 35)) (w_ei ws (w_ar ws (n_v vs 4) 36)) (w_ei ws (w_ar ws (n_v vs 4) 37)) (w_ei ws (w_ar ws (n_v vs 4) 22)) (w_ei ws (w_ar ws (n_v vs 4) 122)) (w_ei ws (w_ar ws (n_v vs 4) 96)) (w_ei ws (w_ar ws (n_v vs 4) 117)) (v_iv (n_v vs 5)) (v_iv (n_v vs 6)) (v_iv (n_v vs 7)) (v_iv (n_v vs 23)) (v_iv (n_v vs 10)) (v_iv (n_v vs 24)) (v_iv (n_v vs 3))
      rw [q4]
      exact vc_Mo_reveal_9_0 (v_iv (n_v vs 3)) (v_iv (n_v vs 5)) (v_iv (n_v vs 6)) (v_iv (n_v vs 7)) (v_iv (n_v vs 9)) (v_iv (n_v vs 10)) (v_iv (n_v vs 11)) (v_iv (n_v vs 13)) (v_iv (n_v vs 16)) (v_iv (n_v vs 17)) (v_iv (n_v vs 18)) (v_iv (n_v vs 19)) (v_iv (n_v vs 21)) (v_iv (n_v vs 23)) (v_iv (n_v vs 24)) (w_ei ws (w_ar ws (n_v vs 0) 33)) (w_ei ws (w_ar ws (n_v vs 0) 34)) (w_ei ws (w_ar ws (n_v vs 0) 122)) (w_ei w1 (w_ar ws (n_v vs 0) 22)) (w_ei w1 (w_ar ws (n_v vs 0) 33)) (w_ei w1 (w_ar ws (n_v vs 0) 34)) (w_ei w1 (w_ar ws (n_v vs 0) 37)) (w_ei w1 (w_ar ws (n_v vs 0) 36)) (w_ei w1 (w_ar ws (n_v vs 0) 35)) (w_ei w1 (w_ar ws (n_v vs 0) 122)) (w_ei w1 (w_ar ws (n_v vs 0) 96)) (w_ei w1 (w_ar ws (n_v vs 0) 117)) (w_fi w1 (n_v vs 0) 31) (w_fi w1 (n_v vs 0) 32) (w_fi w1 (n_v vs 0) 121) (w_fi ws (n_v vs 0) 31) (w_fi ws (n_v vs 0) 32) (w_fi ws (n_v vs 0) 121) (w_ei ws (w_ar ws (n_v vs 0) 22)) (w_ei ws (w_ar ws (n_v vs 0) 35)) (w_ei ws (w_ar ws (n_v vs 0) 36)) (w_ei ws (w_ar ws (n_v vs 0) 37)) (w_ei ws (w_ar ws (n_v vs 0) 96)) (w_ei ws (w_ar ws (n_v vs 0) 117)) k3 k5 k6 k7 k9 k10 k11 k13 k16 k17 k18 k19 k21 k23 k24 d0 d1 d7 f0 f1 f7 h9 f11 h12 f13 f14 h17 f19 fe_0_31_1 fe_0_32_1 fe_0_121_1 hE_0_22_1 hE_0_33_1 hE_0_34_1 hE_0_35_1 hE_0_36_1 hE_0_37_1 hE_0_96_1 hE_0_117_1 hE_0_122_1 kz_0_31 kz_0_32 kz_0_121
  refine ⟨(fun _ h => (by cases h)), [], trivial, ?_, (fun _ h => (by cases h))⟩
  rw [List.append_nil]
  exact List.forall_mem_cons.mpr ⟨⟨show (20 : Nat) < 100 from by decide, nf0⟩, (fun _ h => (by cases h))⟩
set_option maxHeartbeats 4000000 in
theorem vc_Mo_reveal_10_0 (x3 : Int) (x5 : Int) (x6 : Int) (x7 : Int) (x9 : Int) (x10 : Int) (x11 : Int) (x13 : Int) (x16 : Int) (x17 : Int) (x18 : Int) (x19 : Int) (x21 : Int) (x23 : Int) (x24 : Int) (pt_0 : Int → Int) (ph_0 : Int → Int) (upperNode_0 : Int → Int) (left_1 : Int → Int) (pt_1 : Int → Int) (ph_1 : Int → Int) (rot_1 : Int → Int) (rotMany_1 : Int → Int) (alive_1 : Int → Int) (upperNode_1 : Int → Int) (order_1 : Int → Int) (row_1 : Int → Int) (pn_1 : Int) (pm_1 : Int) (upper_1 : Int) (pn_0 : Int) (pm_0 : Int) (upper_0 : Int) (left_0 : Int → Int) (alive_0 : Int → Int) (rotMany_0 : Int → Int) (rot_0 : Int → Int) (order_0 : Int → Int) (row_0 : Int → Int) (k3 : 2 ≤ x3 ∧ x3 ≤ 24) (k5 : 1 ≤ x5 ∧ x5 ≤ 28) (k6 : 0 ≤ x6 ∧ x6 ≤ 24) (k7 : 0 ≤ x7 ∧ x7 ≤ 24) (k9 : 0 ≤ x9 ∧ x9 ≤ 79) (k10 : (-1) ≤ x10 ∧ x10 ≤ 78) (k11 : 0 ≤ x11 ∧ x11 ≤ 79) (k13 : 1 ≤ x13 ∧ x13 ≤ 80) (k16 : 0 ≤ x16 ∧ x16 ≤ 1920) (k17 : 0 ≤ x17 ∧ x17 ≤ 1999) (k18 : 0 ≤ x18 ∧ x18 ≤ 79) (k19 : 0 ≤ x19 ∧ x19 ≤ 24) (k21 : 1 ≤ x21 ∧ x21 ≤ 1) (k23 : 1 ≤ x23 ∧ x23 ≤ 80) (k24 : 1 ≤ x24 ∧ x24 ≤ 80) (d0 : x11 + 1 ≤ x24 ∧ x24 ≤ x11 + 1) (d1 : x13 + (-4294967296) ≤ x24 ∧ x24 ≤ x13 + 0) (d8 : x13 + (-4294967296) ≤ x11 ∧ x11 ≤ x13 + (-1)) (f0 : x24 = x11 + 1) (f1 : x23 = x9 + 1) (f7 : x19 = x7) (h9 : x21 = left_1 (x19)) (f11 : ACR (pt_1) (ph_1) (x18) (x6) (x19)) (h12 : x18 = rot_1 (x17)) (f13 : x17 = x16 + x11) (f14 : x16 = 80 * x6) (h17 : x13 = rotMany_1 (x6)) (f19 : RV1 (pn_1) (pm_1) (upper_1) (pt_1) (ph_1) (alive_1) (rotMany_1) (rot_1) (left_1) (upperNode_1) (order_1) (row_1) (x5) (x6) (x7) (x9) (x10) (x11) (x3)) (fe_0_31_1 : pn_0 = pn_1) (fe_0_32_1 : pm_0 = pm_1) (fe_0_121_1 : upper_0 = upper_1) (hE_0_22_1 : ∀ j : Int, left_0 j = left_1 j) (hE_0_33_1 : ∀ j : Int, pt_0 j = pt_1 j) (hE_0_34_1 : ∀ j : Int, ph_0 j = ph_1 j) (hE_0_35_1 : ∀ j : Int, alive_0 j = alive_1 j) (hE_0_36_1 : ∀ j : Int, rotMany_0 j = rotMany_1 j) (hE_0_37_1 : ∀ j : Int, rot_0 j = rot_1 j) (hE_0_96_1 : ∀ j : Int, order_0 j = order_1 j) (hE_0_117_1 : ∀ j : Int, 0 ≤ j → (j = x9 → row_0 j = x19) ∧ (j ≠ x9 → row_0 j = row_1 j)) (hE_0_122_1 : ∀ j : Int, upperNode_0 j = upperNode_1 j) (kz_0_31 : 0 ≤ pn_0 ∧ pn_0 ≤ 25) (kz_0_32 : 0 ≤ pm_0 ∧ pm_0 ≤ 80) (kz_0_121 : 0 ≤ upper_0 ∧ upper_0 ≤ 30) : RV1 (pn_0) (pm_0) (upper_0) (pt_0) (ph_0) (alive_0) (rotMany_0) (rot_0) (left_0) (upperNode_0) (order_0) (row_0) (x5) (x6) (x7) (x23) (x9) (x24) (x3) := by
  subst fe_0_31_1
  subst fe_0_32_1
  subst fe_0_121_1
  have e_hE_0_22_1 := funext hE_0_22_1; subst e_hE_0_22_1
  have e_hE_0_33_1 := funext hE_0_33_1; subst e_hE_0_33_1
  have e_hE_0_34_1 := funext hE_0_34_1; subst e_hE_0_34_1
  have e_hE_0_35_1 := funext hE_0_35_1; subst e_hE_0_35_1
  have e_hE_0_36_1 := funext hE_0_36_1; subst e_hE_0_36_1
  have e_hE_0_37_1 := funext hE_0_37_1; subst e_hE_0_37_1
  have e_hE_0_96_1 := funext hE_0_96_1; subst e_hE_0_96_1
  have e_hE_0_122_1 := funext hE_0_122_1; subst e_hE_0_122_1
  first
    | exact rv1_start ‹RVP _ _ _ _ _ _ _ _ _ _ _ _ _ _› (by rw [← (by omega : x6 = x1 - 1)]; assumption) (by omega) (by omega) (by omega)
    | exact rv1_skip (q := x18) (y := x19) ‹RV1 _ _ _ _ _ _ _ _ _ _ _ _ _ _ _ _ _ _ _› (by omega) (by omega) (by unfold rt; rw [← (by omega : x17 = 80 * x6 + x11)]; assumption) ‹ACR _ _ _ _ _› (by omega)
    | exact rv1_take (q := x18) (y := x19) ‹RV1 _ _ _ _ _ _ _ _ _ _ _ _ _ _ _ _ _ _ _› (by omega) (by omega) (by unfold rt; rw [← (by omega : x17 = 80 * x6 + x11)]; assumption) ‹ACR _ _ _ _ _› (by omega) hE_0_117_1 (by omega) (by omega) (by omega) (Or.inl ⟨by omega, by omega⟩)
    | exact rv1_take (q := x18) (y := x19) ‹RV1 _ _ _ _ _ _ _ _ _ _ _ _ _ _ _ _ _ _ _› (by omega) (by omega) (by unfold rt; rw [← (by omega : x17 = 80 * x6 + x11)]; assumption) ‹ACR _ _ _ _ _› (by omega) hE_0_117_1 (by omega) (by omega) (by omega) (Or.inr ⟨by omega, by omega⟩)
def o_Mo_reveal_10 : or_T := (28, 25, [(0, (2, 0, 0, [165])), (3, (0, 2, 24, [])), (4, (2, 0, 0, [165])), (5, (0, 1, 28, [])), (6, (0, 0, 24, [])), (7, (0, 0, 24, [])), (8, (0, 0, 24, [])), (9, (0, 0, 79, [])), (10, (0, -1, 78, [])), (11, (0, 0, 79, [])), (12, (2, 0, 0, [183])), (13, (0, 1, 80, [])), (14, (2, 0, 0, [184])), (15, (0, 80, 80, [])), (16, (0, 0, 1920, [])), (17, (0, 0, 1999, [])), (18, (0, 0, 79, [])), (19, (0, 0, 24, [])), (20, (2, 0, 0, [177])), (21, (0, 1, 1, [])), (22, (2, 0, 0, [249])), (23, (0, 1, 80, [])), (24, (0, 1, 80, []))], [(6, [24, 11], [1]), (6, [23, 9], [1]), (20, [4, 18, 6, 19], [60, 0, 2, 84, 33, 34]), (20, [8, 4, 5], [50, 0, 1, 1122, 1, 2, 1, 0, 3, 1, 122, 4, 2, 1, 2, 0, 1]), (24, [0, 4], []), (100, [22, 9, 19], []), (9, [22, 4], [117]), (7, [19, 7], [0]), (8, [21], [1]), (10, [21, 20, 19], []), (9, [20, 4], [22]), (20, [4, 18, 6, 19], [60, 0, 2, 84, 33, 34]), (10, [18, 14, 17], []), (1, [17, 16, 11], []), (3, [16, 15, 6], []), (9, [14, 4], [37]), (7, [11, 13], [2]), (10, [13, 12, 6], []), (9, [12, 4], [36]), (20, [4, 5, 6, 7, 9, 10, 11, 3], [60, 3, 9, 281, 31, 32, 121, 33, 34, 35, 36, 37, 22, 122, 96, 117]), (20, [8, 4, 5], [50, 0, 1, 1122, 1, 2, 1, 0, 3, 1, 122, 4, 2, 1, 2, 0, 1])], [], [], [(20, [4, 5, 6, 7, 23, 9, 24, 3], [60, 3, 9, 281, 31, 32, 121, 33, 34, 35, 36, 37, 22, 122, 96, 117])], [], [(24, 11, 1, 1), (24, 13, -4294967296, 0), (23, 9, 1, 1), (23, 11, -4294967296, 1), (19, 7, 0, 0), (17, 11, 0, 1920), (17, 13, -4294967296, 1919), (17, 16, 0, 79), (11, 13, -4294967296, -1), (9, 11, -4294967296, 0), (10, 9, -4294967296, -1), (10, 11, -4294967296, -1)])
theorem oo_Mo_reveal_10 {kA : Nat → ClassId} : or_ok PRD kA GG o_Mo_reveal_10 := by
  refine or_mk fun A ta ws vs hD hth hl => ?_
  intro t0 r0 t3 k3 t4 r4 t5 k5 t6 k6 t7 k7 t8 k8 t9 k9 t10 k10 t11 k11 t12 r12 t13 k13 t14 r14 t15 k15 t16 k16 t17 k17 t18 k18 t19 k19 t20 r20 t21 k21 t22 r22 t23 k23 t24 k24 d0 d1 d2 d3 d4 d5 d6 d7 d8 d9 d10 d11 f0 f1 f2 f3 f4 ta1 w1 le1 s1 f6 f7 f8 f9 f10 f11 f12 f13 f14 f15 f16 f17 f18 f19 f20
  replace f0 := shm_4 f0
  replace f1 := shm_4 f1
  replace f4 := shm_5 f4
  have s1 : (∀ b j, w_el ws b j = if b = v_ad (n_v vs 22) ∧ j = (v_iv (n_v vs 9)).toNat then v_iv (n_v vs 19) else w_el w1 b j) ∧ ∀ b k, w_fd ws b k = w_fd w1 b k := s1.2
  replace f6 := shm_713 f6
  replace f7 := shm_37 f7
  replace f9 := shm_107 f9
  replace f10 := shm_1026 f10
  replace f11 := shm_495 f11
  replace f12 := shm_107 f12
  replace f13 := shm_12 f13
  replace f14 := shm_38 f14
  rw [show v_iv (n_v vs 15) = 80 from by omega] at f14
  replace f15 := shm_687 f15
  replace f17 := shm_107 f17
  replace f18 := shm_684 f18
  replace f19 := shm_1021 f19
  have q4 : n_v vs 4 = n_v vs 0 := f4.symm
  simp only [q4] at f6 f10 f11 f15 f18 f19
  have ar_0_22_1 : w_ar w1 (n_v vs 0) 22 = w_ar ws (n_v vs 0) 22 := congrArg v_ad (s1.2 _ _).symm
  have cr_0_22 := fdq_240 hD hth r0
  have ar_0_33_1 : w_ar w1 (n_v vs 0) 33 = w_ar ws (n_v vs 0) 33 := congrArg v_ad (s1.2 _ _).symm
  have cr_0_33 := fdq_117 hD hth r0
  have ar_0_34_1 : w_ar w1 (n_v vs 0) 34 = w_ar ws (n_v vs 0) 34 := congrArg v_ad (s1.2 _ _).symm
  have cr_0_34 := fdq_118 hD hth r0
  have ar_0_35_1 : w_ar w1 (n_v vs 0) 35 = w_ar ws (n_v vs 0) 35 := congrArg v_ad (s1.2 _ _).symm
  have cr_0_35 := fdq_132 hD hth r0
  have ar_0_36_1 : w_ar w1 (n_v vs 0) 36 = w_ar ws (n_v vs 0) 36 := congrArg v_ad (s1.2 _ _).symm
  have cr_0_36 := fdq_167 hD hth r0
  have ar_0_37_1 : w_ar w1 (n_v vs 0) 37 = w_ar ws (n_v vs 0) 37 := congrArg v_ad (s1.2 _ _).symm
  have cr_0_37 := fdq_168 hD hth r0
  have ar_0_96_1 : w_ar w1 (n_v vs 0) 96 = w_ar ws (n_v vs 0) 96 := congrArg v_ad (s1.2 _ _).symm
  have cr_0_96 := fdq_166 hD hth r0
  have ar_0_117_1 : w_ar w1 (n_v vs 0) 117 = w_ar ws (n_v vs 0) 117 := congrArg v_ad (s1.2 _ _).symm
  have ar_0_122_1 : w_ar w1 (n_v vs 0) 122 = w_ar ws (n_v vs 0) 122 := congrArg v_ad (s1.2 _ _).symm
  have cr_0_122 := fdq_241 hD hth r0
  have ad_22 : v_ad (n_v vs 22) = w_ar ws (n_v vs 0) 117 := (congrArg v_ad f6).trans ar_0_117_1
  have ad_20 : v_ad (n_v vs 20) = w_ar ws (n_v vs 0) 22 := (congrArg v_ad f10).trans ar_0_22_1
  have ad_14 : v_ad (n_v vs 14) = w_ar ws (n_v vs 0) 37 := (congrArg v_ad f15).trans ar_0_37_1
  have ad_12 : v_ad (n_v vs 12) = w_ar ws (n_v vs 0) 36 := (congrArg v_ad f18).trans ar_0_36_1
  simp only [ad_20] at f9
  have h9 : v_iv (n_v vs 21) = w_ei w1 (w_ar ws (n_v vs 0) 22) (v_iv (n_v vs 19)) := f9
  simp only [ar_0_33_1, ar_0_34_1, ad_14] at f11 f12
  have h12 : v_iv (n_v vs 18) = w_ei w1 (w_ar ws (n_v vs 0) 37) (v_iv (n_v vs 17)) := f12
  simp only [ad_12] at f17
  have h17 : v_iv (n_v vs 13) = w_ei w1 (w_ar ws (n_v vs 0) 36) (v_iv (n_v vs 6)) := f17
  simp only [ar_0_22_1, ar_0_33_1, ar_0_34_1, ar_0_35_1, ar_0_36_1, ar_0_37_1, ar_0_96_1, ar_0_117_1, ar_0_122_1] at f19
  have fe_0_31_1 : w_fi ws (n_v vs 0) 31 = w_fi w1 (n_v vs 0) 31 := congrArg v_iv (s1.2 _ _)
  have fe_0_32_1 : w_fi ws (n_v vs 0) 32 = w_fi w1 (n_v vs 0) 32 := congrArg v_iv (s1.2 _ _)
  have fe_0_121_1 : w_fi ws (n_v vs 0) 121 = w_fi w1 (n_v vs 0) 121 := congrArg v_iv (s1.2 _ _)
  have hE_0_22_1 : ∀ j : Int, w_ei ws (w_ar ws (n_v vs 0) 22) j = w_ei w1 (w_ar ws (n_v vs 0) 22) j := el_kp s1.1 r22 cr_0_22 (by decide)
  have hE_0_33_1 : ∀ j : Int, w_ei ws (w_ar ws (n_v vs 0) 33) j = w_ei w1 (w_ar ws (n_v vs 0) 33) j := el_kp s1.1 r22 cr_0_33 (by decide)
  have hE_0_34_1 : ∀ j : Int, w_ei ws (w_ar ws (n_v vs 0) 34) j = w_ei w1 (w_ar ws (n_v vs 0) 34) j := el_kp s1.1 r22 cr_0_34 (by decide)
  have hE_0_35_1 : ∀ j : Int, w_ei ws (w_ar ws (n_v vs 0) 35) j = w_ei w1 (w_ar ws (n_v vs 0) 35) j := el_kp s1.1 r22 cr_0_35 (by decide)
  have hE_0_36_1 : ∀ j : Int, w_ei ws (w_ar ws (n_v vs 0) 36) j = w_ei w1 (w_ar ws (n_v vs 0) 36) j := el_kp s1.1 r22 cr_0_36 (by decide)
  have hE_0_37_1 : ∀ j : Int, w_ei ws (w_ar ws (n_v vs 0) 37) j = w_ei w1 (w_ar ws (n_v vs 0) 37) j := el_kp s1.1 r22 cr_0_37 (by decide)
  have hE_0_96_1 : ∀ j : Int, w_ei ws (w_ar ws (n_v vs 0) 96) j = w_ei w1 (w_ar ws (n_v vs 0) 96) j := el_kp s1.1 r22 cr_0_96 (by decide)
  have hE_0_117_1 : ∀ j : Int, 0 ≤ j → (j = v_iv (n_v vs 9) → w_ei ws (w_ar ws (n_v vs 0) 117) j = v_iv (n_v vs 19)) ∧ (j ≠ v_iv (n_v vs 9) → w_ei ws (w_ar ws (n_v vs 0) 117) j = w_ei w1 (w_ar ws (n_v vs 0) 117) j) := fun j hj => ⟨fun h => by unfold w_ei; rw [s1.1, if_pos ⟨ad_22.symm, by rw [h]⟩], fun h => by unfold w_ei; rw [s1.1, if_neg (fun e => h (by have := e.2; omega))]⟩
  have hE_0_122_1 : ∀ j : Int, w_ei ws (w_ar ws (n_v vs 0) 122) j = w_ei w1 (w_ar ws (n_v vs 0) 122) j := el_kp s1.1 r22 cr_0_122 (by decide)
  have kz_0_31 := fdq_145 hD hth r0
  have kz_0_32 := fdq_140 hD hth r0
  have kz_0_121 := fdq_242 hD hth r0
  have nf0 : fc_1 PRD (20, [4, 5, 6, 7, 23, 9, 24, 3], [60, 3, 9, 281, 31, 32, 121, 33, 34, 35, 36, 37, 22, 122, 96, 117]) ws (vs) := by
    refine ⟨nf_in hl rfl, sgq_1021 ?_⟩
    · show RV1 (w_fi ws (n_v vs 4) 31) (w_fi ws (n_v vs 4) 32) (w_fi ws (n_v vs 4) 121) (w_ei ws (w_ar ws (n_v vs 4) 33)) (w_ei ws (w_ar ws (n_v vs 4) 34)) (w_ei ws (w_ar ws (n_v vs 4) 35)) (w_ei ws (w_ar ws (n_v vs 4) 36)) (w_ei ws (w_ar ws (n_v vs 4) 37)) (w_ei ws (w_ar ws (n_v vs 4) 22)) (w_ei ws (w_ar ws (n_v vs 4) 122)) (w_ei ws (w_ar ws (n_v vs 4) 96)) (w_ei ws (w_ar ws (n_v vs 4) 117)) (v_iv (n_v vs 5)) (v_iv (n_v vs 6)) (v_iv (n_v vs 7)) (v_iv (n_v vs 23)) (v_iv (n_v vs 9)) (v_iv (n_v vs 24)) (v_iv (n_v vs 3))
      rw [q4]
      exact vc_Mo_reveal_10_0 (v_iv (n_v vs 3)) (v_iv (n_v vs 5)) (v_iv (n_v vs 6)) (v_iv (n_v vs 7)) (v_iv (n_v vs 9)) (v_iv (n_v vs 10)) (v_iv (n_v vs 11)) (v_iv (n_v vs 13)) (v_iv (n_v vs 16)) (v_iv (n_v vs 17)) (v_iv (n_v vs 18)) (v_iv (n_v vs 19)) (v_iv (n_v vs 21)) (v_iv (n_v vs 23)) (v_iv (n_v vs 24)) (w_ei ws (w_ar ws (n_v vs 0) 33)) (w_ei ws (w_ar ws (n_v vs 0) 34)) (w_ei ws (w_ar ws (n_v vs 0) 122)) (w_ei w1 (w_ar ws (n_v vs 0) 22)) (w_ei w1 (w_ar ws (n_v vs 0) 33)) (w_ei w1 (w_ar ws (n_v vs 0) 34)) (w_ei w1 (w_ar ws (n_v vs 0) 37)) (w_ei w1 (w_ar ws (n_v vs 0) 36)) (w_ei w1 (w_ar ws (n_v vs 0) 35)) (w_ei w1 (w_ar ws (n_v vs 0) 122)) (w_ei w1 (w_ar ws (n_v vs 0) 96)) (w_ei w1 (w_ar ws (n_v vs 0) 117)) (w_fi w1 (n_v vs 0) 31) (w_fi w1 (n_v vs 0) 32) (w_fi w1 (n_v vs 0) 121) (w_fi ws (n_v vs 0) 31) (w_fi ws (n_v vs 0) 32) (w_fi ws (n_v vs 0) 121) (w_ei ws (w_ar ws (n_v vs 0) 22)) (w_ei ws (w_ar ws (n_v vs 0) 35)) (w_ei ws (w_ar ws (n_v vs 0) 36)) (w_ei ws (w_ar ws (n_v vs 0) 37)) (w_ei ws (w_ar ws (n_v vs 0) 96)) (w_ei ws (w_ar ws (n_v vs 0) 117)) k3 k5 k6 k7 k9 k10 k11 k13 k16 k17 k18 k19 k21 k23 k24 d0 d1 d8 f0 f1 f7 h9 f11 h12 f13 f14 h17 f19 fe_0_31_1 fe_0_32_1 fe_0_121_1 hE_0_22_1 hE_0_33_1 hE_0_34_1 hE_0_35_1 hE_0_36_1 hE_0_37_1 hE_0_96_1 hE_0_117_1 hE_0_122_1 kz_0_31 kz_0_32 kz_0_121
  refine ⟨(fun _ h => (by cases h)), [], trivial, ?_, (fun _ h => (by cases h))⟩
  rw [List.append_nil]
  exact List.forall_mem_cons.mpr ⟨⟨show (20 : Nat) < 100 from by decide, nf0⟩, (fun _ h => (by cases h))⟩
set_option maxHeartbeats 4000000 in
theorem vc_Mo_reveal_11_0 (x3 : Int) (x5 : Int) (x6 : Int) (x7 : Int) (x9 : Int) (x10 : Int) (x11 : Int) (x13 : Int) (x16 : Int) (x17 : Int) (x18 : Int) (x19 : Int) (x21 : Int) (x22 : Int) (left_0 : Int → Int) (pt_0 : Int → Int) (ph_0 : Int → Int) (rot_0 : Int → Int) (rotMany_0 : Int → Int) (alive_0 : Int → Int) (upperNode_0 : Int → Int) (order_0 : Int → Int) (row_0 : Int → Int) (pn_0 : Int) (pm_0 : Int) (upper_0 : Int) (k3 : 2 ≤ x3 ∧ x3 ≤ 24) (k5 : 1 ≤ x5 ∧ x5 ≤ 28) (k6 : 0 ≤ x6 ∧ x6 ≤ 24) (k7 : 0 ≤ x7 ∧ x7 ≤ 24) (k9 : 0 ≤ x9 ∧ x9 ≤ 79) (k10 : (-1) ≤ x10 ∧ x10 ≤ 78) (k11 : 0 ≤ x11 ∧ x11 ≤ 79) (k13 : 1 ≤ x13 ∧ x13 ≤ 80) (k16 : 0 ≤ x16 ∧ x16 ≤ 1920) (k17 : 0 ≤ x17 ∧ x17 ≤ 1999) (k18 : 0 ≤ x18 ∧ x18 ≤ 79) (k19 : 0 ≤ x19 ∧ x19 ≤ 24) (k21 : 0 ≤ x21 ∧ x21 ≤ 0) (k22 : 1 ≤ x22 ∧ x22 ≤ 80) (d0 : x11 + 1 ≤ x22 ∧ x22 ≤ x11 + 1) (d1 : x13 + (-4294967296) ≤ x22 ∧ x22 ≤ x13 + 0) (d5 : x13 + (-4294967296) ≤ x11 ∧ x11 ≤ x13 + (-1)) (f0 : x22 = x11 + 1) (h2 : x21 = left_0 (x19)) (f4 : ACR (pt_0) (ph_0) (x18) (x6) (x19)) (h5 : x18 = rot_0 (x17)) (f6 : x17 = x16 + x11) (f7 : x16 = 80 * x6) (h10 : x13 = rotMany_0 (x6)) (f12 : RV1 (pn_0) (pm_0) (upper_0) (pt_0) (ph_0) (alive_0) (rotMany_0) (rot_0) (left_0) (upperNode_0) (order_0) (row_0) (x5) (x6) (x7) (x9) (x10) (x11) (x3)) (kz_0_31 : 0 ≤ pn_0 ∧ pn_0 ≤ 25) (kz_0_32 : 0 ≤ pm_0 ∧ pm_0 ≤ 80) (kz_0_121 : 0 ≤ upper_0 ∧ upper_0 ≤ 30) : RV1 (pn_0) (pm_0) (upper_0) (pt_0) (ph_0) (alive_0) (rotMany_0) (rot_0) (left_0) (upperNode_0) (order_0) (row_0) (x5) (x6) (x7) (x9) (x10) (x22) (x3) := by
  first
    | exact rv1_start ‹RVP _ _ _ _ _ _ _ _ _ _ _ _ _ _› (by rw [← (by omega : x6 = x1 - 1)]; assumption) (by omega) (by omega) (by omega)
    | exact rv1_skip (q := x18) (y := x19) ‹RV1 _ _ _ _ _ _ _ _ _ _ _ _ _ _ _ _ _ _ _› (by omega) (by omega) (by unfold rt; rw [← (by omega : x17 = 80 * x6 + x11)]; assumption) ‹ACR _ _ _ _ _› (by omega)
    | exact rv1_take (q := x18) (y := x19) ‹RV1 _ _ _ _ _ _ _ _ _ _ _ _ _ _ _ _ _ _ _› (by omega) (by omega) (by unfold rt; rw [← (by omega : x17 = 80 * x6 + x11)]; assumption) ‹ACR _ _ _ _ _› (by omega) hE_0_117_1 (by omega) (by omega) (by omega) (Or.inl ⟨by omega, by omega⟩)
    | exact rv1_take (q := x18) (y := x19) ‹RV1 _ _ _ _ _ _ _ _ _ _ _ _ _ _ _ _ _ _ _› (by omega) (by omega) (by unfold rt; rw [← (by omega : x17 = 80 * x6 + x11)]; assumption) ‹ACR _ _ _ _ _› (by omega) hE_0_117_1 (by omega) (by omega) (by omega) (Or.inr ⟨by omega, by omega⟩)
def o_Mo_reveal_11 : or_T := (28, 23, [(0, (2, 0, 0, [165])), (3, (0, 2, 24, [])), (5, (0, 1, 28, [])), (6, (0, 0, 24, [])), (7, (0, 0, 24, [])), (9, (0, 0, 79, [])), (10, (0, -1, 78, [])), (11, (0, 0, 79, [])), (13, (0, 1, 80, [])), (15, (0, 80, 80, [])), (16, (0, 0, 1920, [])), (17, (0, 0, 1999, [])), (18, (0, 0, 79, [])), (19, (0, 0, 24, [])), (21, (0, 0, 0, [])), (22, (0, 1, 80, []))], [(6, [22, 11], [1]), (10, [21, 20, 19], []), (9, [20, 4], [22]), (20, [4, 18, 6, 19], [60, 0, 2, 84, 33, 34]), (10, [18, 14, 17], []), (1, [17, 16, 11], []), (3, [16, 15, 6], []), (9, [14, 4], [37]), (10, [13, 12, 6], []), (9, [12, 4], [36]), (20, [4, 5, 6, 7, 9, 10, 11, 3], [60, 3, 9, 281, 31, 32, 121, 33, 34, 35, 36, 37, 22, 122, 96, 117]), (24, [0, 4], [])], [], [], [(20, [4, 5, 6, 7, 9, 10, 22, 3], [60, 3, 9, 281, 31, 32, 121, 33, 34, 35, 36, 37, 22, 122, 96, 117])], [], [(22, 11, 1, 1), (22, 13, -4294967296, 0), (11, 13, -4294967296, -1)])
theorem oo_Mo_reveal_11 {kA : Nat → ClassId} : or_ok PRD kA GG o_Mo_reveal_11 := by
  refine or_mk fun A ta ws vs hD hth hl => ?_
  intro t0 r0 t3 k3 t5 k5 t6 k6 t7 k7 t9 k9 t10 k10 t11 k11 t13 k13 t15 k15 t16 k16 t17 k17 t18 k18 t19 k19 t21 k21 t22 k22 d0 d1 d5 f0 f2 f3 f4 f5 f6 f7 f8 f10 f11 f12 f14
  replace f0 := shm_4 f0
  replace f2 := shm_107 f2
  replace f3 := shm_1026 f3
  replace f4 := shm_495 f4
  replace f5 := shm_107 f5
  replace f6 := shm_12 f6
  replace f7 := shm_38 f7
  rw [show v_iv (n_v vs 15) = 80 from by omega] at f7
  replace f8 := shm_687 f8
  replace f10 := shm_107 f10
  replace f11 := shm_684 f11
  replace f12 := shm_1021 f12
  replace f14 := shm_5 f14
  have q4 : n_v vs 4 = n_v vs 0 := f14.symm
  simp only [q4] at f3 f4 f8 f11 f12
  have ad_20 : v_ad (n_v vs 20) = w_ar ws (n_v vs 0) 22 := congrArg v_ad f3
  have ad_14 : v_ad (n_v vs 14) = w_ar ws (n_v vs 0) 37 := congrArg v_ad f8
  have ad_12 : v_ad (n_v vs 12) = w_ar ws (n_v vs 0) 36 := congrArg v_ad f11
  simp only [ad_20] at f2
  have h2 : v_iv (n_v vs 21) = w_ei ws (w_ar ws (n_v vs 0) 22) (v_iv (n_v vs 19)) := f2
  simp only [ad_14] at f5
  have h5 : v_iv (n_v vs 18) = w_ei ws (w_ar ws (n_v vs 0) 37) (v_iv (n_v vs 17)) := f5
  simp only [ad_12] at f10
  have h10 : v_iv (n_v vs 13) = w_ei ws (w_ar ws (n_v vs 0) 36) (v_iv (n_v vs 6)) := f10
  have kz_0_31 := fdq_145 hD hth r0
  have kz_0_32 := fdq_140 hD hth r0
  have kz_0_121 := fdq_242 hD hth r0
  have nf0 : fc_1 PRD (20, [4, 5, 6, 7, 9, 10, 22, 3], [60, 3, 9, 281, 31, 32, 121, 33, 34, 35, 36, 37, 22, 122, 96, 117]) ws (vs) := by
    refine ⟨nf_in hl rfl, sgq_1021 ?_⟩
    · show RV1 (w_fi ws (n_v vs 4) 31) (w_fi ws (n_v vs 4) 32) (w_fi ws (n_v vs 4) 121) (w_ei ws (w_ar ws (n_v vs 4) 33)) (w_ei ws (w_ar ws (n_v vs 4) 34)) (w_ei ws (w_ar ws (n_v vs 4) 35)) (w_ei ws (w_ar ws (n_v vs 4) 36)) (w_ei ws (w_ar ws (n_v vs 4) 37)) (w_ei ws (w_ar ws (n_v vs 4) 22)) (w_ei ws (w_ar ws (n_v vs 4) 122)) (w_ei ws (w_ar ws (n_v vs 4) 96)) (w_ei ws (w_ar ws (n_v vs 4) 117)) (v_iv (n_v vs 5)) (v_iv (n_v vs 6)) (v_iv (n_v vs 7)) (v_iv (n_v vs 9)) (v_iv (n_v vs 10)) (v_iv (n_v vs 22)) (v_iv (n_v vs 3))
      rw [q4]
      exact vc_Mo_reveal_11_0 (v_iv (n_v vs 3)) (v_iv (n_v vs 5)) (v_iv (n_v vs 6)) (v_iv (n_v vs 7)) (v_iv (n_v vs 9)) (v_iv (n_v vs 10)) (v_iv (n_v vs 11)) (v_iv (n_v vs 13)) (v_iv (n_v vs 16)) (v_iv (n_v vs 17)) (v_iv (n_v vs 18)) (v_iv (n_v vs 19)) (v_iv (n_v vs 21)) (v_iv (n_v vs 22)) (w_ei ws (w_ar ws (n_v vs 0) 22)) (w_ei ws (w_ar ws (n_v vs 0) 33)) (w_ei ws (w_ar ws (n_v vs 0) 34)) (w_ei ws (w_ar ws (n_v vs 0) 37)) (w_ei ws (w_ar ws (n_v vs 0) 36)) (w_ei ws (w_ar ws (n_v vs 0) 35)) (w_ei ws (w_ar ws (n_v vs 0) 122)) (w_ei ws (w_ar ws (n_v vs 0) 96)) (w_ei ws (w_ar ws (n_v vs 0) 117)) (w_fi ws (n_v vs 0) 31) (w_fi ws (n_v vs 0) 32) (w_fi ws (n_v vs 0) 121) k3 k5 k6 k7 k9 k10 k11 k13 k16 k17 k18 k19 k21 k22 d0 d1 d5 f0 h2 f4 h5 f6 f7 h10 f12 kz_0_31 kz_0_32 kz_0_121
  refine ⟨(fun _ h => (by cases h)), [], trivial, ?_, (fun _ h => (by cases h))⟩
  rw [List.append_nil]
  exact List.forall_mem_cons.mpr ⟨⟨show (20 : Nat) < 100 from by decide, nf0⟩, (fun _ h => (by cases h))⟩
set_option maxHeartbeats 4000000 in
theorem vc_Mo_reveal_12_r0 (x3 : Int) (x5 : Int) (x9 : Int) (x10 : Int) (x11 : Int) (x13 : Int) (x14 : Int) (x17 : Int) (upper_0 : Int) (pt_0 : Int → Int) (ph_0 : Int → Int) (alive_0 : Int → Int) (rotMany_0 : Int → Int) (rot_0 : Int → Int) (left_0 : Int → Int) (upperNode_0 : Int → Int) (order_0 : Int → Int) (row_0 : Int → Int) (pn_0 : Int) (pm_0 : Int) (k3 : 2 ≤ x3 ∧ x3 ≤ 24) (k5 : 1 ≤ x5 ∧ x5 ≤ 28) (k9 : 2 ≤ x9 ∧ x9 ≤ 2) (k10 : (-1) ≤ x10 ∧ x10 ≤ 29) (k11 : 0 ≤ x11 ∧ x11 ≤ 1) (k13 : 2 ≤ x13 ∧ x13 ≤ 30) (k14 : 0 ≤ x14 ∧ x14 ≤ 30) (k17 : (-1) ≤ x17 ∧ x17 ≤ 29) (d0 : x14 + (-1) ≤ x17 ∧ x17 ≤ x14 + (-1)) (d1 : x14 + 0 ≤ x13 ∧ x13 ≤ x14 + 4294967296) (g2 : x14 = upper_0) (f4 : RS1 (pn_0) (pm_0) (upper_0) (pt_0) (ph_0) (alive_0) (rotMany_0) (rot_0) (left_0) (upperNode_0) (order_0) (row_0) (x5) (x9) (x10) (x11) (x3) (x13)) (kz_0_31 : 0 ≤ pn_0 ∧ pn_0 ≤ 25) (kz_0_32 : 0 ≤ pm_0 ∧ pm_0 ≤ 80) (kz_0_121 : 0 ≤ upper_0 ∧ upper_0 ≤ 30) : 0 ≤ x17 ∧ x17 ≤ 29 := by
  first
    | omega
    | (have h := rvp_len ‹RVP _ _ _ _ _ _ _ _ _ _ _ _ _ _›; omega)
    | (have h := rvp_len ‹RV1 _ _ _ _ _ _ _ _ _ _ _ _ _ _ _ _ _ _ _›.1
       have h2 := rv1_len ‹RV1 _ _ _ _ _ _ _ _ _ _ _ _ _ _ _ _ _ _ _›
       omega)
    | (have h := rvp_len ‹RV1 _ _ _ _ _ _ _ _ _ _ _ _ _ _ _ _ _ _ _›.1
       have h2 := rv1_len ‹RV1 _ _ _ _ _ _ _ _ _ _ _ _ _ _ _ _ _ _ _›
       have h3 := rv_2 ‹RV1 _ _ _ _ _ _ _ _ _ _ _ _ _ _ _ _ _ _ _› (by omega)
       omega)
    | (have h := rs1_len ‹RS1 _ _ _ _ _ _ _ _ _ _ _ _ _ _ _ _ _ _›; omega)
    | (have h := rs2_len ‹RS2 _ _ _ _ _ _ _ _ _ _ _ _ _ _ _ _ _ _›; omega)
    | (have h := rs3_len ‹RS3 _ _ _ _ _ _ _ _ _ _ _ _ _ _ _ _ _ _›; omega)
def o_Mo_reveal_12 : or_T := (228, 18, [(0, (2, 0, 0, [165])), (3, (0, 2, 24, [])), (4, (2, 0, 0, [165])), (5, (0, 1, 28, [])), (9, (0, 2, 2, [])), (10, (0, -1, 29, [])), (11, (0, 0, 1, [])), (12, (0, 0, 0, [])), (13, (0, 2, 30, [])), (14, (0, 0, 30, [])), (15, (0, 1, 1, [])), (16, (0, -1, -1, [])), (17, (0, -1, 29, []))], [(1, [17, 14, 16], []), (2, [16, 12, 15], []), (9, [14, 4], [121]), (7, [13, 14], [3]), (20, [4, 5, 9, 10, 11, 3, 13], [60, 3, 9, 283, 31, 32, 121, 33, 34, 35, 36, 37, 22, 122, 96, 117]), (20, [12, 9], [50, 0, 0, 1, 2, 1, 0, 5, 2, 1, 1, 0, 2]), (24, [0, 4], [])], [(17, (0, 0, 29, []))], [], [], [], [(17, 14, -1, -1), (13, 14, 0, 4294967296), (5, 13, -4294967296, -1), (10, 3, -4294967296, -1), (10, 5, -4294967296, 0), (10, 9, -4294967296, -1), (10, 11, -4294967296, 1), (10, 12, -4294967296, 1), (10, 13, -4294967296, -1)])
theorem oo_Mo_reveal_12 {kA : Nat → ClassId} : or_ok PRD kA GG o_Mo_reveal_12 := by
  refine or_mk fun A ta ws vs hD hth hl => ?_
  intro t0 r0 t3 k3 t4 r4 t5 k5 t9 k9 t10 k10 t11 k11 t12 k12 t13 k13 t14 k14 t15 k15 t16 k16 t17 k17 d0 d1 d2 d3 d4 d5 d6 d7 d8 f0 f1 f2 f3 f4 f5 f6
  replace f2 := shm_1024 f2
  replace f4 := shm_1023 f4
  replace f6 := shm_5 f6
  have q4 : n_v vs 4 = n_v vs 0 := f6.symm
  simp only [q4] at f2 f4
  have g2 : v_iv (n_v vs 14) = w_fi ws (n_v vs 0) 121 := congrArg v_iv f2
  have kz_0_31 := fdq_145 hD hth r0
  have kz_0_32 := fdq_140 hD hth r0
  have kz_0_121 := fdq_242 hD hth r0
  have hrf0 : 0 ≤ v_iv (n_v vs 17) ∧ v_iv (n_v vs 17) ≤ 29 := vc_Mo_reveal_12_r0 (v_iv (n_v vs 3)) (v_iv (n_v vs 5)) (v_iv (n_v vs 9)) (v_iv (n_v vs 10)) (v_iv (n_v vs 11)) (v_iv (n_v vs 13)) (v_iv (n_v vs 14)) (v_iv (n_v vs 17)) (w_fi ws (n_v vs 0) 121) (w_ei ws (w_ar ws (n_v vs 0) 33)) (w_ei ws (w_ar ws (n_v vs 0) 34)) (w_ei ws (w_ar ws (n_v vs 0) 35)) (w_ei ws (w_ar ws (n_v vs 0) 36)) (w_ei ws (w_ar ws (n_v vs 0) 37)) (w_ei ws (w_ar ws (n_v vs 0) 22)) (w_ei ws (w_ar ws (n_v vs 0) 122)) (w_ei ws (w_ar ws (n_v vs 0) 96)) (w_ei ws (w_ar ws (n_v vs 0) 117)) (w_fi ws (n_v vs 0) 31) (w_fi ws (n_v vs 0) 32) k3 k5 k9 k10 k11 k13 k14 k17 d0 d1 g2 f4 kz_0_31 kz_0_32 kz_0_121
  have rf17 : tv_ok ta (0, 0, 29, []) (n_v vs 17) := tv_in t17 (by first | omega | grind) (by first | omega | grind)
  refine ⟨List.forall_mem_cons.mpr ⟨rf17, (fun _ h => (by cases h))⟩, [], trivial, ?_, (fun _ h => (by cases h))⟩
  rw [List.append_nil]
  exact (fun _ h => (by cases h))
set_option maxHeartbeats 4000000 in
theorem vc_Mo_reveal_13_0 (x3 : Int) (x5 : Int) (x9 : Int) (x10 : Int) (x11 : Int) (x13 : Int) (x14 : Int) (x17 : Int) (x18 : Int) (upper_1 : Int) (pt_1 : Int → Int) (ph_1 : Int → Int) (alive_1 : Int → Int) (rotMany_1 : Int → Int) (rot_1 : Int → Int) (left_1 : Int → Int) (upperNode_1 : Int → Int) (order_1 : Int → Int) (row_1 : Int → Int) (pn_1 : Int) (pm_1 : Int) (pn_0 : Int) (pm_0 : Int) (upper_0 : Int) (left_0 : Int → Int) (pt_0 : Int → Int) (ph_0 : Int → Int) (alive_0 : Int → Int) (rotMany_0 : Int → Int) (rot_0 : Int → Int) (order_0 : Int → Int) (row_0 : Int → Int) (upperNode_0 : Int → Int) (k3 : 2 ≤ x3 ∧ x3 ≤ 24) (k5 : 1 ≤ x5 ∧ x5 ≤ 28) (k9 : 2 ≤ x9 ∧ x9 ≤ 2) (k10 : (-1) ≤ x10 ∧ x10 ≤ 29) (k11 : 0 ≤ x11 ∧ x11 ≤ 1) (k13 : 2 ≤ x13 ∧ x13 ≤ 30) (k14 : 0 ≤ x14 ∧ x14 ≤ 30) (k17 : 0 ≤ x17 ∧ x17 ≤ 29) (k18 : 1 ≤ x18 ∧ x18 ≤ 1) (d0 : x14 + (-1) ≤ x17 ∧ x17 ≤ x14 + (-1)) (d1 : x14 + 0 ≤ x13 ∧ x13 ≤ x14 + 4294967296) (g5 : x14 = upper_1) (f7 : RS1 (pn_1) (pm_1) (upper_1) (pt_1) (ph_1) (alive_1) (rotMany_1) (rot_1) (left_1) (upperNode_1) (order_1) (row_1) (x5) (x9) (x10) (x11) (x3) (x13)) (fe_0_31_1 : pn_0 = pn_1) (fe_0_32_1 : pm_0 = pm_1) (fe_0_121_1 : upper_0 = x17) (hE_0_22_1 : ∀ j : Int, left_0 j = left_1 j) (hE_0_33_1 : ∀ j : Int, pt_0 j = pt_1 j) (hE_0_34_1 : ∀ j : Int, ph_0 j = ph_1 j) (hE_0_35_1 : ∀ j : Int, alive_0 j = alive_1 j) (hE_0_36_1 : ∀ j : Int, rotMany_0 j = rotMany_1 j) (hE_0_37_1 : ∀ j : Int, rot_0 j = rot_1 j) (hE_0_96_1 : ∀ j : Int, order_0 j = order_1 j) (hE_0_117_1 : ∀ j : Int, row_0 j = row_1 j) (hE_0_122_1 : ∀ j : Int, upperNode_0 j = upperNode_1 j) (kz_0_31 : 0 ≤ pn_0 ∧ pn_0 ≤ 25) (kz_0_32 : 0 ≤ pm_0 ∧ pm_0 ≤ 80) (kz_0_121 : 0 ≤ upper_0 ∧ upper_0 ≤ 30) : RS3 (pn_0) (pm_0) (upper_0) (pt_0) (ph_0) (alive_0) (rotMany_0) (rot_0) (left_0) (upperNode_0) (order_0) (row_0) (x5) (x9) (x10) (x11) (x3) (x18) := by
  subst fe_0_31_1
  subst fe_0_32_1
  have e_hE_0_22_1 := funext hE_0_22_1; subst e_hE_0_22_1
  have e_hE_0_33_1 := funext hE_0_33_1; subst e_hE_0_33_1
  have e_hE_0_34_1 := funext hE_0_34_1; subst e_hE_0_34_1
  have e_hE_0_35_1 := funext hE_0_35_1; subst e_hE_0_35_1
  have e_hE_0_36_1 := funext hE_0_36_1; subst e_hE_0_36_1
  have e_hE_0_37_1 := funext hE_0_37_1; subst e_hE_0_37_1
  have e_hE_0_96_1 := funext hE_0_96_1; subst e_hE_0_96_1
  have e_hE_0_117_1 := funext hE_0_117_1; subst e_hE_0_117_1
  have e_hE_0_122_1 := funext hE_0_122_1; subst e_hE_0_122_1
  first
    | exact rs3_1 ‹RS1 _ _ _ _ _ _ _ _ _ _ _ _ _ _ _ _ _ _› (by omega) (by omega) (by omega)
    | exact rs3_2 ‹RS2 _ _ _ _ _ _ _ _ _ _ _ _ _ _ _ _ _ _› (by omega) (by omega) (by omega)
    | (have h := rs3_len ‹RS3 _ _ _ _ _ _ _ _ _ _ _ _ _ _ _ _ _ _›
       have e := tm_wr (many := x9) (a := x20) (c := x23) (by omega) (by omega) (by omega) (by rw [‹x23 = Int.tmod x22 x9›, ‹x22 = x21 + x9›, ‹x21 = Int.tmod x20 x9›])
       have r := wr_rng (many := x9) (a := x20) (by omega) (by omega) (by omega)
       exact rs3_step ‹RS3 _ _ _ _ _ _ _ _ _ _ _ _ _ _ _ _ _ _› (by omega) (by omega) (by assumption) (by omega) (by assumption) (by rw [e, if_neg (by omega), show x10 - x13 = x20 by omega]))
    | (have h := rs3_len ‹RS3 _ _ _ _ _ _ _ _ _ _ _ _ _ _ _ _ _ _›
       have e := tm_wr (many := x9) (a := x19) (c := x22) (by omega) (by omega) (by omega) (by rw [‹x22 = Int.tmod x21 x9›, ‹x21 = x20 + x9›, ‹x20 = Int.tmod x19 x9›])
       have r := wr_rng (many := x9) (a := x19) (by omega) (by omega) (by omega)
       exact rs3_step ‹RS3 _ _ _ _ _ _ _ _ _ _ _ _ _ _ _ _ _ _› (by omega) (by omega) (by assumption) (by omega) (by assumption) (by rw [e, if_pos (by omega), show x10 + x13 = x19 by omega]))
def o_Mo_reveal_13 : or_T := (234, 19, [(0, (2, 0, 0, [165])), (3, (0, 2, 24, [])), (4, (2, 0, 0, [165])), (5, (0, 1, 28, [])), (9, (0, 2, 2, [])), (10, (0, -1, 29, [])), (11, (0, 0, 1, [])), (12, (0, 0, 0, [])), (13, (0, 2, 30, [])), (14, (0, 0, 30, [])), (15, (0, 1, 1, [])), (16, (0, -1, -1, [])), (17, (0, 0, 29, [])), (18, (0, 1, 1, []))], [(20, [12, 9], [50, 0, 0, 1, 2, 1, 0, 5, 2, 1, 1, 0, 2]), (24, [0, 4], []), (101, [4, 17], [121]), (1, [17, 14, 16], []), (2, [16, 12, 15], []), (9, [14, 4], [121]), (7, [13, 14], [3]), (20, [4, 5, 9, 10, 11, 3, 13], [60, 3, 9, 283, 31, 32, 121, 33, 34, 35, 36, 37, 22, 122, 96, 117]), (20, [12, 9], [50, 0, 0, 1, 2, 1, 0, 5, 2, 1, 1, 0, 2])], [], [], [(20, [4, 5, 9, 10, 11, 3, 18], [60, 3, 9, 285, 31, 32, 121, 33, 34, 35, 36, 37, 22, 122, 96, 117])], [], [(17, 14, -1, -1), (13, 14, 0, 4294967296), (5, 13, -4294967296, -1), (10, 3, -4294967296, -1), (10, 5, -4294967296, 0), (10, 9, -4294967296, -1), (10, 11, -4294967296, 1), (10, 12, -4294967296, 1), (10, 13, -4294967296, -1)])
theorem oo_Mo_reveal_13 {kA : Nat → ClassId} : or_ok PRD kA GG o_Mo_reveal_13 := by
  refine or_mk fun A ta ws vs hD hth hl => ?_
  intro t0 r0 t3 k3 t4 r4 t5 k5 t9 k9 t10 k10 t11 k11 t12 k12 t13 k13 t14 k14 t15 k15 t16 k16 t17 k17 t18 k18 d0 d1 d2 d3 d4 d5 d6 d7 d8 f0 f1 ta1 w1 le1 s1 f3 f4 f5 f6 f7 f8
  replace f1 := shm_5 f1
  have s1 : (∀ b j, w_el ws b j = w_el w1 b j) ∧ ∀ b j, w_fd ws b j = if b = v_ad (n_v vs 4) ∧ j = 121 then n_v vs 17 else w_fd w1 b j := s1.2
  replace f5 := shm_1024 f5
  replace f7 := shm_1023 f7
  have q4 : n_v vs 4 = n_v vs 0 := f1.symm
  rw [q4] at s1
  simp only [q4] at f5 f7
  have ar_0_22_1 : w_ar w1 (n_v vs 0) 22 = w_ar ws (n_v vs 0) 22 := by show v_ad (w_fd w1 _ _) = v_ad (w_fd ws _ _); rw [s1.2, if_neg (fun e => absurd e.2 (by decide))]
  have ar_0_33_1 : w_ar w1 (n_v vs 0) 33 = w_ar ws (n_v vs 0) 33 := by show v_ad (w_fd w1 _ _) = v_ad (w_fd ws _ _); rw [s1.2, if_neg (fun e => absurd e.2 (by decide))]
  have ar_0_34_1 : w_ar w1 (n_v vs 0) 34 = w_ar ws (n_v vs 0) 34 := by show v_ad (w_fd w1 _ _) = v_ad (w_fd ws _ _); rw [s1.2, if_neg (fun e => absurd e.2 (by decide))]
  have ar_0_35_1 : w_ar w1 (n_v vs 0) 35 = w_ar ws (n_v vs 0) 35 := by show v_ad (w_fd w1 _ _) = v_ad (w_fd ws _ _); rw [s1.2, if_neg (fun e => absurd e.2 (by decide))]
  have ar_0_36_1 : w_ar w1 (n_v vs 0) 36 = w_ar ws (n_v vs 0) 36 := by show v_ad (w_fd w1 _ _) = v_ad (w_fd ws _ _); rw [s1.2, if_neg (fun e => absurd e.2 (by decide))]
  have ar_0_37_1 : w_ar w1 (n_v vs 0) 37 = w_ar ws (n_v vs 0) 37 := by show v_ad (w_fd w1 _ _) = v_ad (w_fd ws _ _); rw [s1.2, if_neg (fun e => absurd e.2 (by decide))]
  have ar_0_96_1 : w_ar w1 (n_v vs 0) 96 = w_ar ws (n_v vs 0) 96 := by show v_ad (w_fd w1 _ _) = v_ad (w_fd ws _ _); rw [s1.2, if_neg (fun e => absurd e.2 (by decide))]
  have ar_0_117_1 : w_ar w1 (n_v vs 0) 117 = w_ar ws (n_v vs 0) 117 := by show v_ad (w_fd w1 _ _) = v_ad (w_fd ws _ _); rw [s1.2, if_neg (fun e => absurd e.2 (by decide))]
  have ar_0_122_1 : w_ar w1 (n_v vs 0) 122 = w_ar ws (n_v vs 0) 122 := by show v_ad (w_fd w1 _ _) = v_ad (w_fd ws _ _); rw [s1.2, if_neg (fun e => absurd e.2 (by decide))]
  have g5 : v_iv (n_v vs 14) = w_fi w1 (n_v vs 0) 121 := congrArg v_iv f5
  simp only [ar_0_22_1, ar_0_33_1, ar_0_34_1, ar_0_35_1, ar_0_36_1, ar_0_37_1, ar_0_96_1, ar_0_117_1, ar_0_122_1] at f7
  have fe_0_31_1 : w_fi ws (n_v vs 0) 31 = w_fi w1 (n_v vs 0) 31 := by show v_iv (w_fd _ _ _) = v_iv (w_fd _ _ _); rw [s1.2, if_neg (fun e => absurd e.2 (by decide))]
  have fe_0_32_1 : w_fi ws (n_v vs 0) 32 = w_fi w1 (n_v vs 0) 32 := by show v_iv (w_fd _ _ _) = v_iv (w_fd _ _ _); rw [s1.2, if_neg (fun e => absurd e.2 (by decide))]
  have fe_0_121_1 : w_fi ws (n_v vs 0) 121 = v_iv (n_v vs 17) := by show v_iv (w_fd _ _ _) = _; rw [s1.2, if_pos ⟨rfl, rfl⟩]
  have hE_0_22_1 : ∀ j : Int, w_ei ws (w_ar ws (n_v vs 0) 22) j = w_ei w1 (w_ar ws (n_v vs 0) 22) j := fun j => s1.1 _ _
  have hE_0_33_1 : ∀ j : Int, w_ei ws (w_ar ws (n_v vs 0) 33) j = w_ei w1 (w_ar ws (n_v vs 0) 33) j := fun j => s1.1 _ _
  have hE_0_34_1 : ∀ j : Int, w_ei ws (w_ar ws (n_v vs 0) 34) j = w_ei w1 (w_ar ws (n_v vs 0) 34) j := fun j => s1.1 _ _
  have hE_0_35_1 : ∀ j : Int, w_ei ws (w_ar ws (n_v vs 0) 35) j = w_ei w1 (w_ar ws (n_v vs 0) 35) j := fun j => s1.1 _ _
  have hE_0_36_1 : ∀ j : Int, w_ei ws (w_ar ws (n_v vs 0) 36) j = w_ei w1 (w_ar ws (n_v vs 0) 36) j := fun j => s1.1 _ _
  have hE_0_37_1 : ∀ j : Int, w_ei ws (w_ar ws (n_v vs 0) 37) j = w_ei w1 (w_ar ws (n_v vs 0) 37) j := fun j => s1.1 _ _
  have hE_0_96_1 : ∀ j : Int, w_ei ws (w_ar ws (n_v vs 0) 96) j = w_ei w1 (w_ar ws (n_v vs 0) 96) j := fun j => s1.1 _ _
  have hE_0_117_1 : ∀ j : Int, w_ei ws (w_ar ws (n_v vs 0) 117) j = w_ei w1 (w_ar ws (n_v vs 0) 117) j := fun j => s1.1 _ _
  have hE_0_122_1 : ∀ j : Int, w_ei ws (w_ar ws (n_v vs 0) 122) j = w_ei w1 (w_ar ws (n_v vs 0) 122) j := fun j => s1.1 _ _
  have kz_0_31 := fdq_145 hD hth r0
  have kz_0_32 := fdq_140 hD hth r0
  have kz_0_121 := fdq_242 hD hth r0
  have nf0 : fc_1 PRD (20, [4, 5, 9, 10, 11, 3, 18], [60, 3, 9, 285, 31, 32, 121, 33, 34, 35, 36, 37, 22, 122, 96, 117]) ws (vs) := by
    refine ⟨nf_in hl rfl, sgq_1027 ?_⟩
    · show RS3 (w_fi ws (n_v vs 4) 31) (w_fi ws (n_v vs 4) 32) (w_fi ws (n_v vs 4) 121) (w_ei ws (w_ar ws (n_v vs 4) 33)) (w_ei ws (w_ar ws (n_v vs 4) 34)) (w_ei ws (w_ar ws (n_v vs 4) 35)) (w_ei ws (w_ar ws (n_v vs 4) 36)) (w_ei ws (w_ar ws (n_v vs 4) 37)) (w_ei ws (w_ar ws (n_v vs 4) 22)) (w_ei ws (w_ar ws (n_v vs 4) 122)) (w_ei ws (w_ar ws (n_v vs 4) 96)) (w_ei ws (w_ar ws (n_v vs 4) 117)) (v_iv (n_v vs 5)) (v_iv (n_v vs 9)) (v_iv (n_v vs 10)) (v_iv (n_v vs 11)) (v_iv (n_v vs 3)) (v_iv (n_v vs 18))
      rw [q4]
      exact vc_Mo_reveal_13_0 (v_iv (n_v vs 3)) (v_iv (n_v vs 5)) (v_iv (n_v vs 9)) (v_iv (n_v vs 10)) (v_iv (n_v vs 11)) (v_iv (n_v vs 13)) (v_iv (n_v vs 14)) (v_iv (n_v vs 17)) (v_iv (n_v vs 18)) (w_fi w1 (n_v vs 0) 121) (w_ei w1 (w_ar ws (n_v vs 0) 33)) (w_ei w1 (w_ar ws (n_v vs 0) 34)) (w_ei w1 (w_ar ws (n_v vs 0) 35)) (w_ei w1 (w_ar ws (n_v vs 0) 36)) (w_ei w1 (w_ar ws (n_v vs 0) 37)) (w_ei w1 (w_ar ws (n_v vs 0) 22)) (w_ei w1 (w_ar ws (n_v vs 0) 122)) (w_ei w1 (w_ar ws (n_v vs 0) 96)) (w_ei w1 (w_ar ws (n_v vs 0) 117)) (w_fi w1 (n_v vs 0) 31) (w_fi w1 (n_v vs 0) 32) (w_fi ws (n_v vs 0) 31) (w_fi ws (n_v vs 0) 32) (w_fi ws (n_v vs 0) 121) (w_ei ws (w_ar ws (n_v vs 0) 22)) (w_ei ws (w_ar ws (n_v vs 0) 33)) (w_ei ws (w_ar ws (n_v vs 0) 34)) (w_ei ws (w_ar ws (n_v vs 0) 35)) (w_ei ws (w_ar ws (n_v vs 0) 36)) (w_ei ws (w_ar ws (n_v vs 0) 37)) (w_ei ws (w_ar ws (n_v vs 0) 96)) (w_ei ws (w_ar ws (n_v vs 0) 117)) (w_ei ws (w_ar ws (n_v vs 0) 122)) k3 k5 k9 k10 k11 k13 k14 k17 k18 d0 d1 g5 f7 fe_0_31_1 fe_0_32_1 fe_0_121_1 hE_0_22_1 hE_0_33_1 hE_0_34_1 hE_0_35_1 hE_0_36_1 hE_0_37_1 hE_0_96_1 hE_0_117_1 hE_0_122_1 kz_0_31 kz_0_32 kz_0_121
  refine ⟨(fun _ h => (by cases h)), [], trivial, ?_, (fun _ h => (by cases h))⟩
  rw [List.append_nil]
  exact List.forall_mem_cons.mpr ⟨⟨show (20 : Nat) < 100 from by decide, nf0⟩, (fun _ h => (by cases h))⟩
set_option maxHeartbeats 4000000 in
theorem vc_Mo_reveal_14_0 (x3 : Int) (x5 : Int) (x9 : Int) (x10 : Int) (x11 : Int) (x13 : Int) (x14 : Int) (x17 : Int) (x18 : Int) (x19 : Int) (upperNode_1 : Int → Int) (upper_1 : Int) (pt_1 : Int → Int) (ph_1 : Int → Int) (alive_1 : Int → Int) (rotMany_1 : Int → Int) (rot_1 : Int → Int) (left_1 : Int → Int) (order_1 : Int → Int) (row_1 : Int → Int) (pn_1 : Int) (pm_1 : Int) (pn_0 : Int) (pm_0 : Int) (upper_0 : Int) (left_0 : Int → Int) (pt_0 : Int → Int) (ph_0 : Int → Int) (alive_0 : Int → Int) (rotMany_0 : Int → Int) (rot_0 : Int → Int) (order_0 : Int → Int) (row_0 : Int → Int) (upperNode_0 : Int → Int) (k3 : 2 ≤ x3 ∧ x3 ≤ 24) (k5 : 1 ≤ x5 ∧ x5 ≤ 28) (k9 : 2 ≤ x9 ∧ x9 ≤ 2) (k10 : (-1) ≤ x10 ∧ x10 ≤ 28) (k11 : 0 ≤ x11 ∧ x11 ≤ 1) (k13 : 2 ≤ x13 ∧ x13 ≤ 29) (k14 : 3 ≤ x14 ∧ x14 ≤ 30) (k17 : 1 ≤ x17 ∧ x17 ≤ 28) (k18 : 0 ≤ x18 ∧ x18 ≤ 24) (k19 : 3 ≤ x19 ∧ x19 ≤ 30) (d0 : x13 + 1 ≤ x19 ∧ x19 ≤ x13 + 1) (d1 : x14 + (-4294967296) ≤ x19 ∧ x19 ≤ x14 + 0) (d2 : x13 + (-1) ≤ x17 ∧ x17 ≤ x13 + (-1)) (d3 : x14 + (-4294967296) ≤ x17 ∧ x17 ≤ x14 + (-2)) (f0 : x19 = x13 + 1) (h4 : x18 = upperNode_1 (x13)) (g8 : x14 = upper_1) (f9 : RS1 (pn_1) (pm_1) (upper_1) (pt_1) (ph_1) (alive_1) (rotMany_1) (rot_1) (left_1) (upperNode_1) (order_1) (row_1) (x5) (x9) (x10) (x11) (x3) (x13)) (fe_0_31_1 : pn_0 = pn_1) (fe_0_32_1 : pm_0 = pm_1) (fe_0_121_1 : upper_0 = upper_1) (hE_0_22_1 : ∀ j : Int, left_0 j = left_1 j) (hE_0_33_1 : ∀ j : Int, pt_0 j = pt_1 j) (hE_0_34_1 : ∀ j : Int, ph_0 j = ph_1 j) (hE_0_35_1 : ∀ j : Int, alive_0 j = alive_1 j) (hE_0_36_1 : ∀ j : Int, rotMany_0 j = rotMany_1 j) (hE_0_37_1 : ∀ j : Int, rot_0 j = rot_1 j) (hE_0_96_1 : ∀ j : Int, order_0 j = order_1 j) (hE_0_117_1 : ∀ j : Int, row_0 j = row_1 j) (hE_0_122_1 : ∀ j : Int, 0 ≤ j → (j = x17 → upperNode_0 j = x18) ∧ (j ≠ x17 → upperNode_0 j = upperNode_1 j)) (kz_0_31 : 0 ≤ pn_0 ∧ pn_0 ≤ 25) (kz_0_32 : 0 ≤ pm_0 ∧ pm_0 ≤ 80) (kz_0_121 : 0 ≤ upper_0 ∧ upper_0 ≤ 30) : RS1 (pn_0) (pm_0) (upper_0) (pt_0) (ph_0) (alive_0) (rotMany_0) (rot_0) (left_0) (upperNode_0) (order_0) (row_0) (x5) (x9) (x10) (x11) (x3) (x19) := by
  subst fe_0_31_1
  subst fe_0_32_1
  subst fe_0_121_1
  have e_hE_0_22_1 := funext hE_0_22_1; subst e_hE_0_22_1
  have e_hE_0_33_1 := funext hE_0_33_1; subst e_hE_0_33_1
  have e_hE_0_34_1 := funext hE_0_34_1; subst e_hE_0_34_1
  have e_hE_0_35_1 := funext hE_0_35_1; subst e_hE_0_35_1
  have e_hE_0_36_1 := funext hE_0_36_1; subst e_hE_0_36_1
  have e_hE_0_37_1 := funext hE_0_37_1; subst e_hE_0_37_1
  have e_hE_0_96_1 := funext hE_0_96_1; subst e_hE_0_96_1
  have e_hE_0_117_1 := funext hE_0_117_1; subst e_hE_0_117_1
  first
    | exact rs1_step ‹RS1 _ _ _ _ _ _ _ _ _ _ _ _ _ _ _ _ _ _› (by omega) (by omega) (by assumption) (by omega) (by assumption) (by omega)
    | exact rs1_start (rv_main ‹RV1 _ _ _ _ _ _ _ _ _ _ _ _ _ _ _ _ _ _ _› (by omega) ⟨fun _ => Or.inl (by omega), fun _ => by omega⟩) (by omega) (by omega)
    | (exfalso; omega)
def o_Mo_reveal_14 : or_T := (145, 20, [(0, (2, 0, 0, [165])), (3, (0, 2, 24, [])), (4, (2, 0, 0, [165])), (5, (0, 1, 28, [])), (9, (0, 2, 2, [])), (10, (0, -1, 28, [])), (11, (0, 0, 1, [])), (12, (0, 0, 0, [])), (13, (0, 2, 29, [])), (14, (0, 3, 30, [])), (15, (2, 0, 0, [253])), (16, (0, 1, 1, [])), (17, (0, 1, 28, [])), (18, (0, 0, 24, [])), (19, (0, 3, 30, []))], [(6, [19, 13], [1]), (20, [12, 9], [50, 0, 0, 1, 2, 1, 0, 5, 2, 1, 1, 0, 2]), (24, [0, 4], []), (100, [15, 17, 18], []), (10, [18, 15, 13], []), (9, [15, 4], [122]), (2, [17, 13, 16], []), (7, [13, 14], [2]), (9, [14, 4], [121]), (20, [4, 5, 9, 10, 11, 3, 13], [60, 3, 9, 283, 31, 32, 121, 33, 34, 35, 36, 37, 22, 122, 96, 117]), (20, [12, 9], [50, 0, 0, 1, 2, 1, 0, 5, 2, 1, 1, 0, 2])], [], [], [(20, [4, 5, 9, 10, 11, 3, 19], [60, 3, 9, 283, 31, 32, 121, 33, 34, 35, 36, 37, 22, 122, 96, 117])], [], [(19, 13, 1, 1), (19, 14, -4294967296, 0), (17, 13, -1, -1), (17, 14, -4294967296, -2), (13, 14, -4294967296, -1), (5, 13, -4294967296, -1), (10, 3, -4294967296, -1), (10, 5, -4294967296, 0), (10, 9, -4294967296, -1), (10, 11, -4294967296, 1), (10, 12, -4294967296, 1), (10, 13, -4294967296, -1)])
theorem oo_Mo_reveal_14 {kA : Nat → ClassId} : or_ok PRD kA GG o_Mo_reveal_14 := by
  refine or_mk fun A ta ws vs hD hth hl => ?_
  intro t0 r0 t3 k3 t4 r4 t5 k5 t9 k9 t10 k10 t11 k11 t12 k12 t13 k13 t14 k14 t15 r15 t16 k16 t17 k17 t18 k18 t19 k19 d0 d1 d2 d3 d4 d5 d6 d7 d8 d9 d10 d11 f0 f1 f2 ta1 w1 le1 s1 f4 f5 f6 f7 f8 f9 f10
  replace f0 := shm_4 f0
  replace f2 := shm_5 f2
  have s1 : (∀ b j, w_el ws b j = if b = v_ad (n_v vs 15) ∧ j = (v_iv (n_v vs 17)).toNat then v_iv (n_v vs 18) else w_el w1 b j) ∧ ∀ b k, w_fd ws b k = w_fd w1 b k := s1.2
  replace f4 := shm_107 f4
  replace f5 := shm_1019 f5
  replace f8 := shm_1024 f8
  replace f9 := shm_1023 f9
  have q4 : n_v vs 4 = n_v vs 0 := f2.symm
  simp only [q4] at f5 f8 f9
  have ar_0_22_1 : w_ar w1 (n_v vs 0) 22 = w_ar ws (n_v vs 0) 22 := congrArg v_ad (s1.2 _ _).symm
  have cr_0_22 := fdq_240 hD hth r0
  have ar_0_33_1 : w_ar w1 (n_v vs 0) 33 = w_ar ws (n_v vs 0) 33 := congrArg v_ad (s1.2 _ _).symm
  have cr_0_33 := fdq_117 hD hth r0
  have ar_0_34_1 : w_ar w1 (n_v vs 0) 34 = w_ar ws (n_v vs 0) 34 := congrArg v_ad (s1.2 _ _).symm
  have cr_0_34 := fdq_118 hD hth r0
  have ar_0_35_1 : w_ar w1 (n_v vs 0) 35 = w_ar ws (n_v vs 0) 35 := congrArg v_ad (s1.2 _ _).symm
  have cr_0_35 := fdq_132 hD hth r0
  have ar_0_36_1 : w_ar w1 (n_v vs 0) 36 = w_ar ws (n_v vs 0) 36 := congrArg v_ad (s1.2 _ _).symm
  have cr_0_36 := fdq_167 hD hth r0
  have ar_0_37_1 : w_ar w1 (n_v vs 0) 37 = w_ar ws (n_v vs 0) 37 := congrArg v_ad (s1.2 _ _).symm
  have cr_0_37 := fdq_168 hD hth r0
  have ar_0_96_1 : w_ar w1 (n_v vs 0) 96 = w_ar ws (n_v vs 0) 96 := congrArg v_ad (s1.2 _ _).symm
  have cr_0_96 := fdq_166 hD hth r0
  have ar_0_117_1 : w_ar w1 (n_v vs 0) 117 = w_ar ws (n_v vs 0) 117 := congrArg v_ad (s1.2 _ _).symm
  have cr_0_117 := fdq_181 hD hth r0
  have ar_0_122_1 : w_ar w1 (n_v vs 0) 122 = w_ar ws (n_v vs 0) 122 := congrArg v_ad (s1.2 _ _).symm
  have ad_15 : v_ad (n_v vs 15) = w_ar ws (n_v vs 0) 122 := (congrArg v_ad f5).trans ar_0_122_1
  simp only [ad_15] at f4
  have h4 : v_iv (n_v vs 18) = w_ei w1 (w_ar ws (n_v vs 0) 122) (v_iv (n_v vs 13)) := f4
  have g8 : v_iv (n_v vs 14) = w_fi w1 (n_v vs 0) 121 := congrArg v_iv f8
  simp only [ar_0_22_1, ar_0_33_1, ar_0_34_1, ar_0_35_1, ar_0_36_1, ar_0_37_1, ar_0_96_1, ar_0_117_1, ar_0_122_1] at f9
  have fe_0_31_1 : w_fi ws (n_v vs 0) 31 = w_fi w1 (n_v vs 0) 31 := congrArg v_iv (s1.2 _ _)
  have fe_0_32_1 : w_fi ws (n_v vs 0) 32 = w_fi w1 (n_v vs 0) 32 := congrArg v_iv (s1.2 _ _)
  have fe_0_121_1 : w_fi ws (n_v vs 0) 121 = w_fi w1 (n_v vs 0) 121 := congrArg v_iv (s1.2 _ _)
  have hE_0_22_1 : ∀ j : Int, w_ei ws (w_ar ws (n_v vs 0) 22) j = w_ei w1 (w_ar ws (n_v vs 0) 22) j := el_kp s1.1 r15 cr_0_22 (by decide)
  have hE_0_33_1 : ∀ j : Int, w_ei ws (w_ar ws (n_v vs 0) 33) j = w_ei w1 (w_ar ws (n_v vs 0) 33) j := el_kp s1.1 r15 cr_0_33 (by decide)
  have hE_0_34_1 : ∀ j : Int, w_ei ws (w_ar ws (n_v vs 0) 34) j = w_ei w1 (w_ar ws (n_v vs 0) 34) j := el_kp s1.1 r15 cr_0_34 (by decide)
  have hE_0_35_1 : ∀ j : Int, w_ei ws (w_ar ws (n_v vs 0) 35) j = w_ei w1 (w_ar ws (n_v vs 0) 35) j := el_kp s1.1 r15 cr_0_35 (by decide)
  have hE_0_36_1 : ∀ j : Int, w_ei ws (w_ar ws (n_v vs 0) 36) j = w_ei w1 (w_ar ws (n_v vs 0) 36) j := el_kp s1.1 r15 cr_0_36 (by decide)
  have hE_0_37_1 : ∀ j : Int, w_ei ws (w_ar ws (n_v vs 0) 37) j = w_ei w1 (w_ar ws (n_v vs 0) 37) j := el_kp s1.1 r15 cr_0_37 (by decide)
  have hE_0_96_1 : ∀ j : Int, w_ei ws (w_ar ws (n_v vs 0) 96) j = w_ei w1 (w_ar ws (n_v vs 0) 96) j := el_kp s1.1 r15 cr_0_96 (by decide)
  have hE_0_117_1 : ∀ j : Int, w_ei ws (w_ar ws (n_v vs 0) 117) j = w_ei w1 (w_ar ws (n_v vs 0) 117) j := el_kp s1.1 r15 cr_0_117 (by decide)
  have hE_0_122_1 : ∀ j : Int, 0 ≤ j → (j = v_iv (n_v vs 17) → w_ei ws (w_ar ws (n_v vs 0) 122) j = v_iv (n_v vs 18)) ∧ (j ≠ v_iv (n_v vs 17) → w_ei ws (w_ar ws (n_v vs 0) 122) j = w_ei w1 (w_ar ws (n_v vs 0) 122) j) := fun j hj => ⟨fun h => by unfold w_ei; rw [s1.1, if_pos ⟨ad_15.symm, by rw [h]⟩], fun h => by unfold w_ei; rw [s1.1, if_neg (fun e => h (by have := e.2; omega))]⟩
  have kz_0_31 := fdq_145 hD hth r0
  have kz_0_32 := fdq_140 hD hth r0
  have kz_0_121 := fdq_242 hD hth r0
  have nf0 : fc_1 PRD (20, [4, 5, 9, 10, 11, 3, 19], [60, 3, 9, 283, 31, 32, 121, 33, 34, 35, 36, 37, 22, 122, 96, 117]) ws (vs) := by
    refine ⟨nf_in hl rfl, sgq_1023 ?_⟩
    · show RS1 (w_fi ws (n_v vs 4) 31) (w_fi ws (n_v vs 4) 32) (w_fi ws (n_v vs 4) 121) (w_ei ws (w_ar ws (n_v vs 4) 33)) (w_ei ws (w_ar ws (n_v vs 4) 34)) (w_ei ws (w_ar ws (n_v vs 4) 35)) (w_ei ws (w_ar ws (n_v vs 4) 36)) (w_ei ws (w_ar ws (n_v vs 4) 37)) (w_ei ws (w_ar ws (n_v vs 4) 22)) (w_ei ws (w_ar ws (n_v vs 4) 122)) (w_ei ws (w_ar ws (n_v vs 4) 96)) (w_ei ws (w_ar ws (n_v vs 4) 117)) (v_iv (n_v vs 5)) (v_iv (n_v vs 9)) (v_iv (n_v vs 10)) (v_iv (n_v vs 11)) (v_iv (n_v vs 3)) (v_iv (n_v vs 19))
      rw [q4]
      exact vc_Mo_reveal_14_0 (v_iv (n_v vs 3)) (v_iv (n_v vs 5)) (v_iv (n_v vs 9)) (v_iv (n_v vs 10)) (v_iv (n_v vs 11)) (v_iv (n_v vs 13)) (v_iv (n_v vs 14)) (v_iv (n_v vs 17)) (v_iv (n_v vs 18)) (v_iv (n_v vs 19)) (w_ei w1 (w_ar ws (n_v vs 0) 122)) (w_fi w1 (n_v vs 0) 121) (w_ei w1 (w_ar ws (n_v vs 0) 33)) (w_ei w1 (w_ar ws (n_v vs 0) 34)) (w_ei w1 (w_ar ws (n_v vs 0) 35)) (w_ei w1 (w_ar ws (n_v vs 0) 36)) (w_ei w1 (w_ar ws (n_v vs 0) 37)) (w_ei w1 (w_ar ws (n_v vs 0) 22)) (w_ei w1 (w_ar ws (n_v vs 0) 96)) (w_ei w1 (w_ar ws (n_v vs 0) 117)) (w_fi w1 (n_v vs 0) 31) (w_fi w1 (n_v vs 0) 32) (w_fi ws (n_v vs 0) 31) (w_fi ws (n_v vs 0) 32) (w_fi ws (n_v vs 0) 121) (w_ei ws (w_ar ws (n_v vs 0) 22)) (w_ei ws (w_ar ws (n_v vs 0) 33)) (w_ei ws (w_ar ws (n_v vs 0) 34)) (w_ei ws (w_ar ws (n_v vs 0) 35)) (w_ei ws (w_ar ws (n_v vs 0) 36)) (w_ei ws (w_ar ws (n_v vs 0) 37)) (w_ei ws (w_ar ws (n_v vs 0) 96)) (w_ei ws (w_ar ws (n_v vs 0) 117)) (w_ei ws (w_ar ws (n_v vs 0) 122)) k3 k5 k9 k10 k11 k13 k14 k17 k18 k19 d0 d1 d2 d3 f0 h4 g8 f9 fe_0_31_1 fe_0_32_1 fe_0_121_1 hE_0_22_1 hE_0_33_1 hE_0_34_1 hE_0_35_1 hE_0_36_1 hE_0_37_1 hE_0_96_1 hE_0_117_1 hE_0_122_1 kz_0_31 kz_0_32 kz_0_121
  refine ⟨(fun _ h => (by cases h)), [], trivial, ?_, (fun _ h => (by cases h))⟩
  rw [List.append_nil]
  exact List.forall_mem_cons.mpr ⟨⟨show (20 : Nat) < 100 from by decide, nf0⟩, (fun _ h => (by cases h))⟩
set_option maxHeartbeats 4000000 in
theorem vc_Mo_reveal_15_r0 (x3 : Int) (x5 : Int) (x9 : Int) (x10 : Int) (x11 : Int) (x12 : Int) (x13 : Int) (x14 : Int) (x16 : Int) (x17 : Int) (upper_0 : Int) (pt_0 : Int → Int) (ph_0 : Int → Int) (alive_0 : Int → Int) (rotMany_0 : Int → Int) (rot_0 : Int → Int) (left_0 : Int → Int) (upperNode_0 : Int → Int) (order_0 : Int → Int) (row_0 : Int → Int) (pn_0 : Int) (pm_0 : Int) (k3 : 2 ≤ x3 ∧ x3 ≤ 24) (k5 : 1 ≤ x5 ∧ x5 ≤ 28) (k9 : 3 ≤ x9 ∧ x9 ≤ 80) (k10 : (-1) ≤ x10 ∧ x10 ≤ 79) (k11 : 0 ≤ x11 ∧ x11 ≤ 1) (k12 : 1 ≤ x12 ∧ x12 ≤ 78) (k13 : (-1) ≤ x13 ∧ x13 ≤ 28) (k14 : 0 ≤ x14 ∧ x14 ≤ 30) (k16 : 0 ≤ x16 ∧ x16 ≤ 77) (k17 : 0 ≤ x17 ∧ x17 ≤ 107) (d4 : x12 + (-1) ≤ x16 ∧ x16 ≤ x12 + (-1)) (d5 : x9 + (-4294967296) ≤ x16 ∧ x16 ≤ x9 + (-3)) (d6 : x5 + (-4294967296) ≤ x13 ∧ x13 ≤ x5 + 0) (d7 : x12 + (-4294967296) ≤ x9 ∧ x9 ≤ x12 + 2) (f0 : x17 = x14 + x16) (g2 : x14 = upper_0) (f4 : RS2 (pn_0) (pm_0) (upper_0) (pt_0) (ph_0) (alive_0) (rotMany_0) (rot_0) (left_0) (upperNode_0) (order_0) (row_0) (x5) (x9) (x10) (x11) (x3) (x13)) (kz_0_31 : 0 ≤ pn_0 ∧ pn_0 ≤ 25) (kz_0_32 : 0 ≤ pm_0 ∧ pm_0 ≤ 80) (kz_0_121 : 0 ≤ upper_0 ∧ upper_0 ≤ 30) : 0 ≤ x17 ∧ x17 ≤ 30 := by
  first
    | omega
    | (have h := rvp_len ‹RVP _ _ _ _ _ _ _ _ _ _ _ _ _ _›; omega)
    | (have h := rvp_len ‹RV1 _ _ _ _ _ _ _ _ _ _ _ _ _ _ _ _ _ _ _›.1
       have h2 := rv1_len ‹RV1 _ _ _ _ _ _ _ _ _ _ _ _ _ _ _ _ _ _ _›
       omega)
    | (have h := rvp_len ‹RV1 _ _ _ _ _ _ _ _ _ _ _ _ _ _ _ _ _ _ _›.1
       have h2 := rv1_len ‹RV1 _ _ _ _ _ _ _ _ _ _ _ _ _ _ _ _ _ _ _›
       have h3 := rv_2 ‹RV1 _ _ _ _ _ _ _ _ _ _ _ _ _ _ _ _ _ _ _› (by omega)
       omega)
    | (have h := rs1_len ‹RS1 _ _ _ _ _ _ _ _ _ _ _ _ _ _ _ _ _ _›; omega)
    | (have h := rs2_len ‹RS2 _ _ _ _ _ _ _ _ _ _ _ _ _ _ _ _ _ _›; omega)
    | (have h := rs3_len ‹RS3 _ _ _ _ _ _ _ _ _ _ _ _ _ _ _ _ _ _›; omega)
def o_Mo_reveal_15 : or_T := (228, 18, [(0, (2, 0, 0, [165])), (3, (0, 2, 24, [])), (4, (2, 0, 0, [165])), (5, (0, 1, 28, [])), (9, (0, 3, 80, [])), (10, (0, -1, 79, [])), (11, (0, 0, 1, [])), (12, (0, 1, 78, [])), (13, (0, -1, 28, [])), (14, (0, 0, 30, [])), (15, (0, 1, 1, [])), (16, (0, 0, 77, [])), (17, (0, 0, 107, []))], [(1, [17, 14, 16], []), (2, [16, 12, 15], []), (9, [14, 4], [121]), (7, [13, 5], [5]), (20, [4, 5, 9, 10, 11, 3, 13], [60, 3, 9, 284, 31, 32, 121, 33, 34, 35, 36, 37, 22, 122, 96, 117]), (20, [12, 9], [50, 0, 0, 1, 2, 1, 0, 5, 2, 1, 1, 0, 2]), (24, [0, 4], [])], [(17, (0, 0, 30, []))], [], [], [], [(17, 16, 0, 30), (17, 12, -1, 29), (17, 9, -4294967296, 27), (17, 14, 0, 77), (16, 12, -1, -1), (16, 9, -4294967296, -3), (13, 5, -4294967296, 0), (9, 12, -4294967296, 2), (10, 9, -4294967296, -1), (10, 12, -4294967296, 1), (12, 9, -4294967296, -2)])
theorem oo_Mo_reveal_15 {kA : Nat → ClassId} : or_ok PRD kA GG o_Mo_reveal_15 := by
  refine or_mk fun A ta ws vs hD hth hl => ?_
  intro t0 r0 t3 k3 t4 r4 t5 k5 t9 k9 t10 k10 t11 k11 t12 k12 t13 k13 t14 k14 t15 k15 t16 k16 t17 k17 d0 d1 d2 d3 d4 d5 d6 d7 d8 d9 d10 f0 f1 f2 f3 f4 f5 f6
  replace f2 := shm_1024 f2
  replace f4 := shm_1025 f4
  replace f6 := shm_5 f6
  have q4 : n_v vs 4 = n_v vs 0 := f6.symm
  simp only [q4] at f2 f4
  have g2 : v_iv (n_v vs 14) = w_fi ws (n_v vs 0) 121 := congrArg v_iv f2
  have kz_0_31 := fdq_145 hD hth r0
  have kz_0_32 := fdq_140 hD hth r0
  have kz_0_121 := fdq_242 hD hth r0
  have hrf0 : 0 ≤ v_iv (n_v vs 17) ∧ v_iv (n_v vs 17) ≤ 30 := vc_Mo_reveal_15_r0 (v_iv (n_v vs 3)) (v_iv (n_v vs 5)) (v_iv (n_v vs 9)) (v_iv (n_v vs 10)) (v_iv (n_v vs 11)) (v_iv (n_v vs 12)) (v_iv (n_v vs 13)) (v_iv (n_v vs 14)) (v_iv (n_v vs 16)) (v_iv (n_v vs 17)) (w_fi ws (n_v vs 0) 121) (w_ei ws (w_ar ws (n_v vs 0) 33)) (w_ei ws (w_ar ws (n_v vs 0) 34)) (w_ei ws (w_ar ws (n_v vs 0) 35)) (w_ei ws (w_ar ws (n_v vs 0) 36)) (w_ei ws (w_ar ws (n_v vs 0) 37)) (w_ei ws (w_ar ws (n_v vs 0) 22)) (w_ei ws (w_ar ws (n_v vs 0) 122)) (w_ei ws (w_ar ws (n_v vs 0) 96)) (w_ei ws (w_ar ws (n_v vs 0) 117)) (w_fi ws (n_v vs 0) 31) (w_fi ws (n_v vs 0) 32) k3 k5 k9 k10 k11 k12 k13 k14 k16 k17 d4 d5 d6 d7 (shm_12 f0) g2 f4 kz_0_31 kz_0_32 kz_0_121
  have rf17 : tv_ok ta (0, 0, 30, []) (n_v vs 17) := tv_in t17 (by first | omega | grind) (by first | omega | grind)
  refine ⟨List.forall_mem_cons.mpr ⟨rf17, (fun _ h => (by cases h))⟩, [], trivial, ?_, (fun _ h => (by cases h))⟩
  rw [List.append_nil]
  exact (fun _ h => (by cases h))
set_option maxHeartbeats 4000000 in
theorem vc_Mo_reveal_16_0 (x3 : Int) (x5 : Int) (x9 : Int) (x10 : Int) (x11 : Int) (x12 : Int) (x13 : Int) (x14 : Int) (x16 : Int) (x17 : Int) (x18 : Int) (upper_1 : Int) (pt_1 : Int → Int) (ph_1 : Int → Int) (alive_1 : Int → Int) (rotMany_1 : Int → Int) (rot_1 : Int → Int) (left_1 : Int → Int) (upperNode_1 : Int → Int) (order_1 : Int → Int) (row_1 : Int → Int) (pn_1 : Int) (pm_1 : Int) (pn_0 : Int) (pm_0 : Int) (upper_0 : Int) (left_0 : Int → Int) (pt_0 : Int → Int) (ph_0 : Int → Int) (alive_0 : Int → Int) (rotMany_0 : Int → Int) (rot_0 : Int → Int) (order_0 : Int → Int) (row_0 : Int → Int) (upperNode_0 : Int → Int) (k3 : 2 ≤ x3 ∧ x3 ≤ 24) (k5 : 1 ≤ x5 ∧ x5 ≤ 28) (k9 : 3 ≤ x9 ∧ x9 ≤ 80) (k10 : (-1) ≤ x10 ∧ x10 ≤ 79) (k11 : 0 ≤ x11 ∧ x11 ≤ 1) (k12 : 1 ≤ x12 ∧ x12 ≤ 78) (k13 : (-1) ≤ x13 ∧ x13 ≤ 28) (k14 : 0 ≤ x14 ∧ x14 ≤ 30) (k16 : 0 ≤ x16 ∧ x16 ≤ 77) (k17 : 0 ≤ x17 ∧ x17 ≤ 30) (k18 : 1 ≤ x18 ∧ x18 ≤ 1) (d3 : x12 + (-1) ≤ x16 ∧ x16 ≤ x12 + (-1)) (d4 : x9 + (-4294967296) ≤ x16 ∧ x16 ≤ x9 + (-3)) (d6 : x12 + (-4294967296) ≤ x9 ∧ x9 ≤ x12 + 2) (f3 : x17 = x14 + x16) (g5 : x14 = upper_1) (f6 : x13 ≤ x5) (f7 : RS2 (pn_1) (pm_1) (upper_1) (pt_1) (ph_1) (alive_1) (rotMany_1) (rot_1) (left_1) (upperNode_1) (order_1) (row_1) (x5) (x9) (x10) (x11) (x3) (x13)) (fe_0_31_1 : pn_0 = pn_1) (fe_0_32_1 : pm_0 = pm_1) (fe_0_121_1 : upper_0 = x17) (hE_0_22_1 : ∀ j : Int, left_0 j = left_1 j) (hE_0_33_1 : ∀ j : Int, pt_0 j = pt_1 j) (hE_0_34_1 : ∀ j : Int, ph_0 j = ph_1 j) (hE_0_35_1 : ∀ j : Int, alive_0 j = alive_1 j) (hE_0_36_1 : ∀ j : Int, rotMany_0 j = rotMany_1 j) (hE_0_37_1 : ∀ j : Int, rot_0 j = rot_1 j) (hE_0_96_1 : ∀ j : Int, order_0 j = order_1 j) (hE_0_117_1 : ∀ j : Int, row_0 j = row_1 j) (hE_0_122_1 : ∀ j : Int, upperNode_0 j = upperNode_1 j) (kz_0_31 : 0 ≤ pn_0 ∧ pn_0 ≤ 25) (kz_0_32 : 0 ≤ pm_0 ∧ pm_0 ≤ 80) (kz_0_121 : 0 ≤ upper_0 ∧ upper_0 ≤ 30) : RS3 (pn_0) (pm_0) (upper_0) (pt_0) (ph_0) (alive_0) (rotMany_0) (rot_0) (left_0) (upperNode_0) (order_0) (row_0) (x5) (x9) (x10) (x11) (x3) (x18) := by
  subst fe_0_31_1
  subst fe_0_32_1
  have e_hE_0_22_1 := funext hE_0_22_1; subst e_hE_0_22_1
  have e_hE_0_33_1 := funext hE_0_33_1; subst e_hE_0_33_1
  have e_hE_0_34_1 := funext hE_0_34_1; subst e_hE_0_34_1
  have e_hE_0_35_1 := funext hE_0_35_1; subst e_hE_0_35_1
  have e_hE_0_36_1 := funext hE_0_36_1; subst e_hE_0_36_1
  have e_hE_0_37_1 := funext hE_0_37_1; subst e_hE_0_37_1
  have e_hE_0_96_1 := funext hE_0_96_1; subst e_hE_0_96_1
  have e_hE_0_117_1 := funext hE_0_117_1; subst e_hE_0_117_1
  have e_hE_0_122_1 := funext hE_0_122_1; subst e_hE_0_122_1
  first
    | exact rs3_1 ‹RS1 _ _ _ _ _ _ _ _ _ _ _ _ _ _ _ _ _ _› (by omega) (by omega) (by omega)
    | exact rs3_2 ‹RS2 _ _ _ _ _ _ _ _ _ _ _ _ _ _ _ _ _ _› (by omega) (by omega) (by omega)
    | (have h := rs3_len ‹RS3 _ _ _ _ _ _ _ _ _ _ _ _ _ _ _ _ _ _›
       have e := tm_wr (many := x9) (a := x20) (c := x23) (by omega) (by omega) (by omega) (by rw [‹x23 = Int.tmod x22 x9›, ‹x22 = x21 + x9›, ‹x21 = Int.tmod x20 x9›])
       have r := wr_rng (many := x9) (a := x20) (by omega) (by omega) (by omega)
       exact rs3_step ‹RS3 _ _ _ _ _ _ _ _ _ _ _ _ _ _ _ _ _ _› (by omega) (by omega) (by assumption) (by omega) (by assumption) (by rw [e, if_neg (by omega), show x10 - x13 = x20 by omega]))
    | (have h := rs3_len ‹RS3 _ _ _ _ _ _ _ _ _ _ _ _ _ _ _ _ _ _›
       have e := tm_wr (many := x9) (a := x19) (c := x22) (by omega) (by omega) (by omega) (by rw [‹x22 = Int.tmod x21 x9›, ‹x21 = x20 + x9›, ‹x20 = Int.tmod x19 x9›])
       have r := wr_rng (many := x9) (a := x19) (by omega) (by omega) (by omega)
       exact rs3_step ‹RS3 _ _ _ _ _ _ _ _ _ _ _ _ _ _ _ _ _ _› (by omega) (by omega) (by assumption) (by omega) (by assumption) (by rw [e, if_pos (by omega), show x10 + x13 = x19 by omega]))
def o_Mo_reveal_16 : or_T := (234, 19, [(0, (2, 0, 0, [165])), (3, (0, 2, 24, [])), (4, (2, 0, 0, [165])), (5, (0, 1, 28, [])), (9, (0, 3, 80, [])), (10, (0, -1, 79, [])), (11, (0, 0, 1, [])), (12, (0, 1, 78, [])), (13, (0, -1, 28, [])), (14, (0, 0, 30, [])), (15, (0, 1, 1, [])), (16, (0, 0, 77, [])), (17, (0, 0, 30, [])), (18, (0, 1, 1, []))], [(20, [12, 9], [50, 0, 0, 1, 2, 1, 0, 5, 2, 1, 1, 0, 2]), (24, [0, 4], []), (101, [4, 17], [121]), (1, [17, 14, 16], []), (2, [16, 12, 15], []), (9, [14, 4], [121]), (7, [13, 5], [5]), (20, [4, 5, 9, 10, 11, 3, 13], [60, 3, 9, 284, 31, 32, 121, 33, 34, 35, 36, 37, 22, 122, 96, 117]), (20, [12, 9], [50, 0, 0, 1, 2, 1, 0, 5, 2, 1, 1, 0, 2])], [], [], [(20, [4, 5, 9, 10, 11, 3, 18], [60, 3, 9, 285, 31, 32, 121, 33, 34, 35, 36, 37, 22, 122, 96, 117])], [], [(17, 16, 0, 30), (17, 12, -1, 29), (17, 14, 0, 77), (16, 12, -1, -1), (16, 9, -4294967296, -3), (13, 5, -4294967296, 0), (9, 12, -4294967296, 2), (10, 9, -4294967296, -1), (10, 12, -4294967296, 1), (12, 9, -4294967296, -2)])
theorem oo_Mo_reveal_16 {kA : Nat → ClassId} : or_ok PRD kA GG o_Mo_reveal_16 := by
  refine or_mk fun A ta ws vs hD hth hl => ?_
  intro t0 r0 t3 k3 t4 r4 t5 k5 t9 k9 t10 k10 t11 k11 t12 k12 t13 k13 t14 k14 t15 k15 t16 k16 t17 k17 t18 k18 d0 d1 d2 d3 d4 d5 d6 d7 d8 d9 f0 f1 ta1 w1 le1 s1 f3 f4 f5 f6 f7 f8
  replace f1 := shm_5 f1
  have s1 : (∀ b j, w_el ws b j = w_el w1 b j) ∧ ∀ b j, w_fd ws b j = if b = v_ad (n_v vs 4) ∧ j = 121 then n_v vs 17 else w_fd w1 b j := s1.2
  replace f3 := shm_12 f3
  replace f5 := shm_1024 f5
  replace f6 := shm_24 f6
  replace f7 := shm_1025 f7
  have q4 : n_v vs 4 = n_v vs 0 := f1.symm
  rw [q4] at s1
  simp only [q4] at f5 f7
  have ar_0_22_1 : w_ar w1 (n_v vs 0) 22 = w_ar ws (n_v vs 0) 22 := by show v_ad (w_fd w1 _ _) = v_ad (w_fd ws _ _); rw [s1.2, if_neg (fun e => absurd e.2 (by decide))]
  have ar_0_33_1 : w_ar w1 (n_v vs 0) 33 = w_ar ws (n_v vs 0) 33 := by show v_ad (w_fd w1 _ _) = v_ad (w_fd ws _ _); rw [s1.2, if_neg (fun e => absurd e.2 (by decide))]
  have ar_0_34_1 : w_ar w1 (n_v vs 0) 34 = w_ar ws (n_v vs 0) 34 := by show v_ad (w_fd w1 _ _) = v_ad (w_fd ws _ _); rw [s1.2, if_neg (fun e => absurd e.2 (by decide))]
  have ar_0_35_1 : w_ar w1 (n_v vs 0) 35 = w_ar ws (n_v vs 0) 35 := by show v_ad (w_fd w1 _ _) = v_ad (w_fd ws _ _); rw [s1.2, if_neg (fun e => absurd e.2 (by decide))]
  have ar_0_36_1 : w_ar w1 (n_v vs 0) 36 = w_ar ws (n_v vs 0) 36 := by show v_ad (w_fd w1 _ _) = v_ad (w_fd ws _ _); rw [s1.2, if_neg (fun e => absurd e.2 (by decide))]
  have ar_0_37_1 : w_ar w1 (n_v vs 0) 37 = w_ar ws (n_v vs 0) 37 := by show v_ad (w_fd w1 _ _) = v_ad (w_fd ws _ _); rw [s1.2, if_neg (fun e => absurd e.2 (by decide))]
  have ar_0_96_1 : w_ar w1 (n_v vs 0) 96 = w_ar ws (n_v vs 0) 96 := by show v_ad (w_fd w1 _ _) = v_ad (w_fd ws _ _); rw [s1.2, if_neg (fun e => absurd e.2 (by decide))]
  have ar_0_117_1 : w_ar w1 (n_v vs 0) 117 = w_ar ws (n_v vs 0) 117 := by show v_ad (w_fd w1 _ _) = v_ad (w_fd ws _ _); rw [s1.2, if_neg (fun e => absurd e.2 (by decide))]
  have ar_0_122_1 : w_ar w1 (n_v vs 0) 122 = w_ar ws (n_v vs 0) 122 := by show v_ad (w_fd w1 _ _) = v_ad (w_fd ws _ _); rw [s1.2, if_neg (fun e => absurd e.2 (by decide))]
  have g5 : v_iv (n_v vs 14) = w_fi w1 (n_v vs 0) 121 := congrArg v_iv f5
  simp only [ar_0_22_1, ar_0_33_1, ar_0_34_1, ar_0_35_1, ar_0_36_1, ar_0_37_1, ar_0_96_1, ar_0_117_1, ar_0_122_1] at f7
  have fe_0_31_1 : w_fi ws (n_v vs 0) 31 = w_fi w1 (n_v vs 0) 31 := by show v_iv (w_fd _ _ _) = v_iv (w_fd _ _ _); rw [s1.2, if_neg (fun e => absurd e.2 (by decide))]
  have fe_0_32_1 : w_fi ws (n_v vs 0) 32 = w_fi w1 (n_v vs 0) 32 := by show v_iv (w_fd _ _ _) = v_iv (w_fd _ _ _); rw [s1.2, if_neg (fun e => absurd e.2 (by decide))]
  have fe_0_121_1 : w_fi ws (n_v vs 0) 121 = v_iv (n_v vs 17) := by show v_iv (w_fd _ _ _) = _; rw [s1.2, if_pos ⟨rfl, rfl⟩]
  have hE_0_22_1 : ∀ j : Int, w_ei ws (w_ar ws (n_v vs 0) 22) j = w_ei w1 (w_ar ws (n_v vs 0) 22) j := fun j => s1.1 _ _
  have hE_0_33_1 : ∀ j : Int, w_ei ws (w_ar ws (n_v vs 0) 33) j = w_ei w1 (w_ar ws (n_v vs 0) 33) j := fun j => s1.1 _ _
  have hE_0_34_1 : ∀ j : Int, w_ei ws (w_ar ws (n_v vs 0) 34) j = w_ei w1 (w_ar ws (n_v vs 0) 34) j := fun j => s1.1 _ _
  have hE_0_35_1 : ∀ j : Int, w_ei ws (w_ar ws (n_v vs 0) 35) j = w_ei w1 (w_ar ws (n_v vs 0) 35) j := fun j => s1.1 _ _
  have hE_0_36_1 : ∀ j : Int, w_ei ws (w_ar ws (n_v vs 0) 36) j = w_ei w1 (w_ar ws (n_v vs 0) 36) j := fun j => s1.1 _ _
  have hE_0_37_1 : ∀ j : Int, w_ei ws (w_ar ws (n_v vs 0) 37) j = w_ei w1 (w_ar ws (n_v vs 0) 37) j := fun j => s1.1 _ _
  have hE_0_96_1 : ∀ j : Int, w_ei ws (w_ar ws (n_v vs 0) 96) j = w_ei w1 (w_ar ws (n_v vs 0) 96) j := fun j => s1.1 _ _
  have hE_0_117_1 : ∀ j : Int, w_ei ws (w_ar ws (n_v vs 0) 117) j = w_ei w1 (w_ar ws (n_v vs 0) 117) j := fun j => s1.1 _ _
  have hE_0_122_1 : ∀ j : Int, w_ei ws (w_ar ws (n_v vs 0) 122) j = w_ei w1 (w_ar ws (n_v vs 0) 122) j := fun j => s1.1 _ _
  have kz_0_31 := fdq_145 hD hth r0
  have kz_0_32 := fdq_140 hD hth r0
  have kz_0_121 := fdq_242 hD hth r0
  have nf0 : fc_1 PRD (20, [4, 5, 9, 10, 11, 3, 18], [60, 3, 9, 285, 31, 32, 121, 33, 34, 35, 36, 37, 22, 122, 96, 117]) ws (vs) := by
    refine ⟨nf_in hl rfl, sgq_1027 ?_⟩
    · show RS3 (w_fi ws (n_v vs 4) 31) (w_fi ws (n_v vs 4) 32) (w_fi ws (n_v vs 4) 121) (w_ei ws (w_ar ws (n_v vs 4) 33)) (w_ei ws (w_ar ws (n_v vs 4) 34)) (w_ei ws (w_ar ws (n_v vs 4) 35)) (w_ei ws (w_ar ws (n_v vs 4) 36)) (w_ei ws (w_ar ws (n_v vs 4) 37)) (w_ei ws (w_ar ws (n_v vs 4) 22)) (w_ei ws (w_ar ws (n_v vs 4) 122)) (w_ei ws (w_ar ws (n_v vs 4) 96)) (w_ei ws (w_ar ws (n_v vs 4) 117)) (v_iv (n_v vs 5)) (v_iv (n_v vs 9)) (v_iv (n_v vs 10)) (v_iv (n_v vs 11)) (v_iv (n_v vs 3)) (v_iv (n_v vs 18))
      rw [q4]
      exact vc_Mo_reveal_16_0 (v_iv (n_v vs 3)) (v_iv (n_v vs 5)) (v_iv (n_v vs 9)) (v_iv (n_v vs 10)) (v_iv (n_v vs 11)) (v_iv (n_v vs 12)) (v_iv (n_v vs 13)) (v_iv (n_v vs 14)) (v_iv (n_v vs 16)) (v_iv (n_v vs 17)) (v_iv (n_v vs 18)) (w_fi w1 (n_v vs 0) 121) (w_ei w1 (w_ar ws (n_v vs 0) 33)) (w_ei w1 (w_ar ws (n_v vs 0) 34)) (w_ei w1 (w_ar ws (n_v vs 0) 35)) (w_ei w1 (w_ar ws (n_v vs 0) 36)) (w_ei w1 (w_ar ws (n_v vs 0) 37)) (w_ei w1 (w_ar ws (n_v vs 0) 22)) (w_ei w1 (w_ar ws (n_v vs 0) 122)) (w_ei w1 (w_ar ws (n_v vs 0) 96)) (w_ei w1 (w_ar ws (n_v vs 0) 117)) (w_fi w1 (n_v vs 0) 31) (w_fi w1 (n_v vs 0) 32) (w_fi ws (n_v vs 0) 31) (w_fi ws (n_v vs 0) 32) (w_fi ws (n_v vs 0) 121) (w_ei ws (w_ar ws (n_v vs 0) 22)) (w_ei ws (w_ar ws (n_v vs 0) 33)) (w_ei ws (w_ar ws (n_v vs 0) 34)) (w_ei ws (w_ar ws (n_v vs 0) 35)) (w_ei ws (w_ar ws (n_v vs 0) 36)) (w_ei ws (w_ar ws (n_v vs 0) 37)) (w_ei ws (w_ar ws (n_v vs 0) 96)) (w_ei ws (w_ar ws (n_v vs 0) 117)) (w_ei ws (w_ar ws (n_v vs 0) 122)) k3 k5 k9 k10 k11 k12 k13 k14 k16 k17 k18 d3 d4 d6 f3 g5 f6 f7 fe_0_31_1 fe_0_32_1 fe_0_121_1 hE_0_22_1 hE_0_33_1 hE_0_34_1 hE_0_35_1 hE_0_36_1 hE_0_37_1 hE_0_96_1 hE_0_117_1 hE_0_122_1 kz_0_31 kz_0_32 kz_0_121
  refine ⟨(fun _ h => (by cases h)), [], trivial, ?_, (fun _ h => (by cases h))⟩
  rw [List.append_nil]
  exact List.forall_mem_cons.mpr ⟨⟨show (20 : Nat) < 100 from by decide, nf0⟩, (fun _ h => (by cases h))⟩
set_option maxHeartbeats 4000000 in
theorem vc_Mo_reveal_17_r0 (x3 : Int) (x5 : Int) (x9 : Int) (x10 : Int) (x11 : Int) (x12 : Int) (x13 : Int) (x15 : Int) (x17 : Int) (upperNode_0 : Int → Int) (pt_0 : Int → Int) (ph_0 : Int → Int) (alive_0 : Int → Int) (rotMany_0 : Int → Int) (rot_0 : Int → Int) (left_0 : Int → Int) (order_0 : Int → Int) (row_0 : Int → Int) (pn_0 : Int) (pm_0 : Int) (upper_0 : Int) (k3 : 2 ≤ x3 ∧ x3 ≤ 24) (k5 : 1 ≤ x5 ∧ x5 ≤ 28) (k9 : 3 ≤ x9 ∧ x9 ≤ 80) (k10 : (-1) ≤ x10 ∧ x10 ≤ 79) (k11 : 0 ≤ x11 ∧ x11 ≤ 1) (k12 : 1 ≤ x12 ∧ x12 ≤ 78) (k13 : 2 ≤ x13 ∧ x13 ≤ 29) (k15 : 3 ≤ x15 ∧ x15 ≤ 107) (k17 : 2 ≤ x17 ∧ x17 ≤ 106) (d0 : x15 + (-1) ≤ x17 ∧ x17 ≤ x15 + (-1)) (d10 : x12 + (-4294967296) ≤ x9 ∧ x9 ≤ x12 + 2) (d13 : x9 + (-4294967296) ≤ x12 ∧ x12 ≤ x9 + (-2)) (f3 : x15 = x13 + x12) (f5 : RS2 (pn_0) (pm_0) (upper_0) (pt_0) (ph_0) (alive_0) (rotMany_0) (rot_0) (left_0) (upperNode_0) (order_0) (row_0) (x5) (x9) (x10) (x11) (x3) (x13)) (kz_0_31 : 0 ≤ pn_0 ∧ pn_0 ≤ 25) (kz_0_32 : 0 ≤ pm_0 ∧ pm_0 ≤ 80) (kz_0_121 : 0 ≤ upper_0 ∧ upper_0 ≤ 30) : 2 ≤ x17 ∧ x17 ≤ 29 := by
  first
    | omega
    | (have h := rvp_len ‹RVP _ _ _ _ _ _ _ _ _ _ _ _ _ _›; omega)
    | (have h := rvp_len ‹RV1 _ _ _ _ _ _ _ _ _ _ _ _ _ _ _ _ _ _ _›.1
       have h2 := rv1_len ‹RV1 _ _ _ _ _ _ _ _ _ _ _ _ _ _ _ _ _ _ _›
       omega)
    | (have h := rvp_len ‹RV1 _ _ _ _ _ _ _ _ _ _ _ _ _ _ _ _ _ _ _›.1
       have h2 := rv1_len ‹RV1 _ _ _ _ _ _ _ _ _ _ _ _ _ _ _ _ _ _ _›
       have h3 := rv_2 ‹RV1 _ _ _ _ _ _ _ _ _ _ _ _ _ _ _ _ _ _ _› (by omega)
       omega)
    | (have h := rs1_len ‹RS1 _ _ _ _ _ _ _ _ _ _ _ _ _ _ _ _ _ _›; omega)
    | (have h := rs2_len ‹RS2 _ _ _ _ _ _ _ _ _ _ _ _ _ _ _ _ _ _›; omega)
    | (have h := rs3_len ‹RS3 _ _ _ _ _ _ _ _ _ _ _ _ _ _ _ _ _ _›; omega)
def o_Mo_reveal_17 : or_T := (211, 19, [(0, (2, 0, 0, [165])), (3, (0, 2, 24, [])), (4, (2, 0, 0, [165])), (5, (0, 1, 28, [])), (9, (0, 3, 80, [])), (10, (0, -1, 79, [])), (11, (0, 0, 1, [])), (12, (0, 1, 78, [])), (13, (0, 2, 29, [])), (14, (2, 0, 0, [253])), (15, (0, 3, 107, [])), (16, (0, 1, 1, [])), (17, (0, 2, 106, [])), (18, (0, 0, 24, []))], [(10, [18, 14, 13], []), (9, [14, 4], [122]), (2, [17, 15, 16], []), (1, [15, 13, 12], []), (7, [13, 5], [4]), (20, [4, 5, 9, 10, 11, 3, 13], [60, 3, 9, 284, 31, 32, 121, 33, 34, 35, 36, 37, 22, 122, 96, 117]), (20, [12, 9], [50, 0, 0, 1, 2, 1, 0, 5, 2, 1, 1, 0, 2]), (24, [0, 4], [])], [(17, (0, 2, 29, []))], [], [], [], [(17, 15, -1, -1), (17, 12, 1, 28), (17, 9, -4294967296, 26), (17, 13, 0, 77), (17, 5, 1, 4294967296), (15, 12, 2, 29), (15, 9, -4294967296, 27), (15, 13, 1, 78), (15, 5, 2, 4294967296), (13, 5, 1, 4294967296), (9, 12, -4294967296, 2), (10, 9, -4294967296, -1), (10, 12, -4294967296, 1), (12, 9, -4294967296, -2)])
theorem oo_Mo_reveal_17 {kA : Nat → ClassId} : or_ok PRD kA GG o_Mo_reveal_17 := by
  refine or_mk fun A ta ws vs hD hth hl => ?_
  intro t0 r0 t3 k3 t4 r4 t5 k5 t9 k9 t10 k10 t11 k11 t12 k12 t13 k13 t14 r14 t15 k15 t16 k16 t17 k17 t18 k18 d0 d1 d2 d3 d4 d5 d6 d7 d8 d9 d10 d11 d12 d13 f0 f1 f2 f3 f4 f5 f6 f7
  replace f5 := shm_1025 f5
  replace f7 := shm_5 f7
  have q4 : n_v vs 4 = n_v vs 0 := f7.symm
  simp only [q4] at f5
  have kz_0_31 := fdq_145 hD hth r0
  have kz_0_32 := fdq_140 hD hth r0
  have kz_0_121 := fdq_242 hD hth r0
  have hrf0 : 2 ≤ v_iv (n_v vs 17) ∧ v_iv (n_v vs 17) ≤ 29 := vc_Mo_reveal_17_r0 (v_iv (n_v vs 3)) (v_iv (n_v vs 5)) (v_iv (n_v vs 9)) (v_iv (n_v vs 10)) (v_iv (n_v vs 11)) (v_iv (n_v vs 12)) (v_iv (n_v vs 13)) (v_iv (n_v vs 15)) (v_iv (n_v vs 17)) (w_ei ws (w_ar ws (n_v vs 0) 122)) (w_ei ws (w_ar ws (n_v vs 0) 33)) (w_ei ws (w_ar ws (n_v vs 0) 34)) (w_ei ws (w_ar ws (n_v vs 0) 35)) (w_ei ws (w_ar ws (n_v vs 0) 36)) (w_ei ws (w_ar ws (n_v vs 0) 37)) (w_ei ws (w_ar ws (n_v vs 0) 22)) (w_ei ws (w_ar ws (n_v vs 0) 96)) (w_ei ws (w_ar ws (n_v vs 0) 117)) (w_fi ws (n_v vs 0) 31) (w_fi ws (n_v vs 0) 32) (w_fi ws (n_v vs 0) 121) k3 k5 k9 k10 k11 k12 k13 k15 k17 d0 d10 d13 (shm_12 f3) f5 kz_0_31 kz_0_32 kz_0_121
  have rf17 : tv_ok ta (0, 2, 29, []) (n_v vs 17) := tv_in t17 (by first | omega | grind) (by first | omega | grind)
  refine ⟨List.forall_mem_cons.mpr ⟨rf17, (fun _ h => (by cases h))⟩, [], trivial, ?_, (fun _ h => (by cases h))⟩
  rw [List.append_nil]
  exact (fun _ h => (by cases h))
set_option maxHeartbeats 4000000 in
theorem vc_Mo_reveal_18_0 (x3 : Int) (x5 : Int) (x9 : Int) (x10 : Int) (x11 : Int) (x12 : Int) (x13 : Int) (x15 : Int) (x17 : Int) (x18 : Int) (x19 : Int) (upperNode_1 : Int → Int) (pt_1 : Int → Int) (ph_1 : Int → Int) (alive_1 : Int → Int) (rotMany_1 : Int → Int) (rot_1 : Int → Int) (left_1 : Int → Int) (order_1 : Int → Int) (row_1 : Int → Int) (pn_1 : Int) (pm_1 : Int) (upper_1 : Int) (pn_0 : Int) (pm_0 : Int) (upper_0 : Int) (left_0 : Int → Int) (pt_0 : Int → Int) (ph_0 : Int → Int) (alive_0 : Int → Int) (rotMany_0 : Int → Int) (rot_0 : Int → Int) (order_0 : Int → Int) (row_0 : Int → Int) (upperNode_0 : Int → Int) (k3 : 2 ≤ x3 ∧ x3 ≤ 24) (k5 : 1 ≤ x5 ∧ x5 ≤ 28) (k9 : 3 ≤ x9 ∧ x9 ≤ 80) (k10 : (-1) ≤ x10 ∧ x10 ≤ 79) (k11 : 0 ≤ x11 ∧ x11 ≤ 1) (k12 : 1 ≤ x12 ∧ x12 ≤ 78) (k13 : 2 ≤ x13 ∧ x13 ≤ 29) (k15 : 3 ≤ x15 ∧ x15 ≤ 107) (k17 : 2 ≤ x17 ∧ x17 ≤ 29) (k18 : 0 ≤ x18 ∧ x18 ≤ 24) (k19 : 1 ≤ x19 ∧ x19 ≤ 28) (d0 : x13 + (-1) ≤ x19 ∧ x19 ≤ x13 + (-1)) (d2 : x15 + (-1) ≤ x17 ∧ x17 ≤ x15 + (-1)) (d11 : x12 + (-4294967296) ≤ x9 ∧ x9 ≤ x12 + 2) (d14 : x9 + (-4294967296) ≤ x12 ∧ x12 ≤ x9 + (-2)) (h4 : x18 = upperNode_1 (x13)) (f7 : x15 = x13 + x12) (f8 : x5 < x13) (f9 : RS2 (pn_1) (pm_1) (upper_1) (pt_1) (ph_1) (alive_1) (rotMany_1) (rot_1) (left_1) (upperNode_1) (order_1) (row_1) (x5) (x9) (x10) (x11) (x3) (x13)) (fe_0_31_1 : pn_0 = pn_1) (fe_0_32_1 : pm_0 = pm_1) (fe_0_121_1 : upper_0 = upper_1) (hE_0_22_1 : ∀ j : Int, left_0 j = left_1 j) (hE_0_33_1 : ∀ j : Int, pt_0 j = pt_1 j) (hE_0_34_1 : ∀ j : Int, ph_0 j = ph_1 j) (hE_0_35_1 : ∀ j : Int, alive_0 j = alive_1 j) (hE_0_36_1 : ∀ j : Int, rotMany_0 j = rotMany_1 j) (hE_0_37_1 : ∀ j : Int, rot_0 j = rot_1 j) (hE_0_96_1 : ∀ j : Int, order_0 j = order_1 j) (hE_0_117_1 : ∀ j : Int, row_0 j = row_1 j) (hE_0_122_1 : ∀ j : Int, 0 ≤ j → (j = x17 → upperNode_0 j = x18) ∧ (j ≠ x17 → upperNode_0 j = upperNode_1 j)) (kz_0_31 : 0 ≤ pn_0 ∧ pn_0 ≤ 25) (kz_0_32 : 0 ≤ pm_0 ∧ pm_0 ≤ 80) (kz_0_121 : 0 ≤ upper_0 ∧ upper_0 ≤ 30) : RS2 (pn_0) (pm_0) (upper_0) (pt_0) (ph_0) (alive_0) (rotMany_0) (rot_0) (left_0) (upperNode_0) (order_0) (row_0) (x5) (x9) (x10) (x11) (x3) (x19) := by
  subst fe_0_31_1
  subst fe_0_32_1
  subst fe_0_121_1
  have e_hE_0_22_1 := funext hE_0_22_1; subst e_hE_0_22_1
  have e_hE_0_33_1 := funext hE_0_33_1; subst e_hE_0_33_1
  have e_hE_0_34_1 := funext hE_0_34_1; subst e_hE_0_34_1
  have e_hE_0_35_1 := funext hE_0_35_1; subst e_hE_0_35_1
  have e_hE_0_36_1 := funext hE_0_36_1; subst e_hE_0_36_1
  have e_hE_0_37_1 := funext hE_0_37_1; subst e_hE_0_37_1
  have e_hE_0_96_1 := funext hE_0_96_1; subst e_hE_0_96_1
  have e_hE_0_117_1 := funext hE_0_117_1; subst e_hE_0_117_1
  first
    | exact rs2_step ‹RS2 _ _ _ _ _ _ _ _ _ _ _ _ _ _ _ _ _ _› (by omega) (by omega) (by assumption) (by omega) (by assumption) (by omega)
    | (exfalso; omega)
    | (have r2 := rv_2 ‹RV1 _ _ _ _ _ _ _ _ _ _ _ _ _ _ _ _ _ _ _› (by omega)
       have e1 : (x10 + 1) % x9 = x18 := by
         rw [‹x18 = Int.tmod x17 x9›, Int.tmod_eq_emod_of_nonneg (by omega), show x17 = x10 + 1 by omega]
       exact rs2_start (rv_main ‹RV1 _ _ _ _ _ _ _ _ _ _ _ _ _ _ _ _ _ _ _› (by omega) ⟨fun _ => Or.inr (by rw [e1]; omega), fun _ => by omega⟩) (by omega) (by omega))
    | (have r2 := rv_2 ‹RV1 _ _ _ _ _ _ _ _ _ _ _ _ _ _ _ _ _ _ _› (by omega)
       have e1 : (x10 + 1) % x9 = x18 := by
         rw [‹x18 = Int.tmod x17 x9›, Int.tmod_eq_emod_of_nonneg (by omega), show x17 = x10 + 1 by omega]
       exact rs2_start (rv_main ‹RV1 _ _ _ _ _ _ _ _ _ _ _ _ _ _ _ _ _ _ _› (by omega) ⟨fun z => absurd (by omega) z, fun z => by
           exfalso
           rcases z with z | z
           · omega
           · rw [e1] at z; omega⟩) (by omega) (by omega))
def o_Mo_reveal_18 : or_T := (187, 20, [(0, (2, 0, 0, [165])), (3, (0, 2, 24, [])), (5, (0, 1, 28, [])), (9, (0, 3, 80, [])), (10, (0, -1, 79, [])), (11, (0, 0, 1, [])), (12, (0, 1, 78, [])), (13, (0, 2, 29, [])), (14, (2, 0, 0, [253])), (15, (0, 3, 107, [])), (17, (0, 2, 29, [])), (18, (0, 0, 24, [])), (19, (0, 1, 28, []))], [(24, [0, 4], []), (100, [14, 17, 18], []), (10, [18, 14, 13], []), (9, [14, 4], [122]), (1, [15, 13, 12], []), (7, [13, 5], [4]), (20, [4, 5, 9, 10, 11, 3, 13], [60, 3, 9, 284, 31, 32, 121, 33, 34, 35, 36, 37, 22, 122, 96, 117])], [], [], [(20, [4, 5, 9, 10, 11, 3, 19], [60, 3, 9, 284, 31, 32, 121, 33, 34, 35, 36, 37, 22, 122, 96, 117])], [], [(19, 13, -1, -1), (17, 15, -1, -1), (17, 12, 1, 28), (17, 13, 0, 77), (17, 5, 1, 4294967296), (9, 12, -4294967296, 2), (12, 9, -4294967296, -2)])
theorem oo_Mo_reveal_18 {kA : Nat → ClassId} : or_ok PRD kA GG o_Mo_reveal_18 := by
  refine or_mk fun A ta ws vs hD hth hl => ?_
  intro t0 r0 t3 k3 t5 k5 t9 k9 t10 k10 t11 k11 t12 k12 t13 k13 t14 r14 t15 k15 t17 k17 t18 k18 t19 k19 d0 d2 d3 d4 d5 d11 d14 f2 ta1 w1 le1 s1 f4 f5 f7 f8 f9
  replace f2 := shm_5 f2
  have s1 : (∀ b j, w_el ws b j = if b = v_ad (n_v vs 14) ∧ j = (v_iv (n_v vs 17)).toNat then v_iv (n_v vs 18) else w_el w1 b j) ∧ ∀ b k, w_fd ws b k = w_fd w1 b k := s1.2
  replace f4 := shm_107 f4
  replace f5 := shm_1019 f5
  replace f7 := shm_12 f7
  replace f8 := shm_21 f8
  replace f9 := shm_1025 f9
  have q4 : n_v vs 4 = n_v vs 0 := f2.symm
  simp only [q4] at f5 f9
  have ar_0_22_1 : w_ar w1 (n_v vs 0) 22 = w_ar ws (n_v vs 0) 22 := congrArg v_ad (s1.2 _ _).symm
  have cr_0_22 := fdq_240 hD hth r0
  have ar_0_33_1 : w_ar w1 (n_v vs 0) 33 = w_ar ws (n_v vs 0) 33 := congrArg v_ad (s1.2 _ _).symm
  have cr_0_33 := fdq_117 hD hth r0
  have ar_0_34_1 : w_ar w1 (n_v vs 0) 34 = w_ar ws (n_v vs 0) 34 := congrArg v_ad (s1.2 _ _).symm
  have cr_0_34 := fdq_118 hD hth r0
  have ar_0_35_1 : w_ar w1 (n_v vs 0) 35 = w_ar ws (n_v vs 0) 35 := congrArg v_ad (s1.2 _ _).symm
  have cr_0_35 := fdq_132 hD hth r0
  have ar_0_36_1 : w_ar w1 (n_v vs 0) 36 = w_ar ws (n_v vs 0) 36 := congrArg v_ad (s1.2 _ _).symm
  have cr_0_36 := fdq_167 hD hth r0
  have ar_0_37_1 : w_ar w1 (n_v vs 0) 37 = w_ar ws (n_v vs 0) 37 := congrArg v_ad (s1.2 _ _).symm
  have cr_0_37 := fdq_168 hD hth r0
  have ar_0_96_1 : w_ar w1 (n_v vs 0) 96 = w_ar ws (n_v vs 0) 96 := congrArg v_ad (s1.2 _ _).symm
  have cr_0_96 := fdq_166 hD hth r0
  have ar_0_117_1 : w_ar w1 (n_v vs 0) 117 = w_ar ws (n_v vs 0) 117 := congrArg v_ad (s1.2 _ _).symm
  have cr_0_117 := fdq_181 hD hth r0
  have ar_0_122_1 : w_ar w1 (n_v vs 0) 122 = w_ar ws (n_v vs 0) 122 := congrArg v_ad (s1.2 _ _).symm
  have ad_14 : v_ad (n_v vs 14) = w_ar ws (n_v vs 0) 122 := (congrArg v_ad f5).trans ar_0_122_1
  simp only [ad_14] at f4
  have h4 : v_iv (n_v vs 18) = w_ei w1 (w_ar ws (n_v vs 0) 122) (v_iv (n_v vs 13)) := f4
  simp only [ar_0_22_1, ar_0_33_1, ar_0_34_1, ar_0_35_1, ar_0_36_1, ar_0_37_1, ar_0_96_1, ar_0_117_1, ar_0_122_1] at f9
  have fe_0_31_1 : w_fi ws (n_v vs 0) 31 = w_fi w1 (n_v vs 0) 31 := congrArg v_iv (s1.2 _ _)
  have fe_0_32_1 : w_fi ws (n_v vs 0) 32 = w_fi w1 (n_v vs 0) 32 := congrArg v_iv (s1.2 _ _)
  have fe_0_121_1 : w_fi ws (n_v vs 0) 121 = w_fi w1 (n_v vs 0) 121 := congrArg v_iv (s1.2 _ _)
  have hE_0_22_1 : ∀ j : Int, w_ei ws (w_ar ws (n_v vs 0) 22) j = w_ei w1 (w_ar ws (n_v vs 0) 22) j := el_kp s1.1 r14 cr_0_22 (by decide)
  have hE_0_33_1 : ∀ j : Int, w_ei ws (w_ar ws (n_v vs 0) 33) j = w_ei w1 (w_ar ws (n_v vs 0) 33) j := el_kp s1.1 r14 cr_0_33 (by decide)
  have hE_0_34_1 : ∀ j : Int, w_ei ws (w_ar ws (n_v vs 0) 34) j = w_ei w1 (w_ar ws (n_v vs 0) 34) j := el_kp s1.1 r14 cr_0_34 (by decide)
  have hE_0_35_1 : ∀ j : Int, w_ei ws (w_ar ws (n_v vs 0) 35) j = w_ei w1 (w_ar ws (n_v vs 0) 35) j := el_kp s1.1 r14 cr_0_35 (by decide)
  have hE_0_36_1 : ∀ j : Int, w_ei ws (w_ar ws (n_v vs 0) 36) j = w_ei w1 (w_ar ws (n_v vs 0) 36) j := el_kp s1.1 r14 cr_0_36 (by decide)
  have hE_0_37_1 : ∀ j : Int, w_ei ws (w_ar ws (n_v vs 0) 37) j = w_ei w1 (w_ar ws (n_v vs 0) 37) j := el_kp s1.1 r14 cr_0_37 (by decide)
  have hE_0_96_1 : ∀ j : Int, w_ei ws (w_ar ws (n_v vs 0) 96) j = w_ei w1 (w_ar ws (n_v vs 0) 96) j := el_kp s1.1 r14 cr_0_96 (by decide)
  have hE_0_117_1 : ∀ j : Int, w_ei ws (w_ar ws (n_v vs 0) 117) j = w_ei w1 (w_ar ws (n_v vs 0) 117) j := el_kp s1.1 r14 cr_0_117 (by decide)
  have hE_0_122_1 : ∀ j : Int, 0 ≤ j → (j = v_iv (n_v vs 17) → w_ei ws (w_ar ws (n_v vs 0) 122) j = v_iv (n_v vs 18)) ∧ (j ≠ v_iv (n_v vs 17) → w_ei ws (w_ar ws (n_v vs 0) 122) j = w_ei w1 (w_ar ws (n_v vs 0) 122) j) := fun j hj => ⟨fun h => by unfold w_ei; rw [s1.1, if_pos ⟨ad_14.symm, by rw [h]⟩], fun h => by unfold w_ei; rw [s1.1, if_neg (fun e => h (by have := e.2; omega))]⟩
  have kz_0_31 := fdq_145 hD hth r0
  have kz_0_32 := fdq_140 hD hth r0
  have kz_0_121 := fdq_242 hD hth r0
  have nf0 : fc_1 PRD (20, [4, 5, 9, 10, 11, 3, 19], [60, 3, 9, 284, 31, 32, 121, 33, 34, 35, 36, 37, 22, 122, 96, 117]) ws (vs) := by
    refine ⟨nf_in hl rfl, sgq_1025 ?_⟩
    · show RS2 (w_fi ws (n_v vs 4) 31) (w_fi ws (n_v vs 4) 32) (w_fi ws (n_v vs 4) 121) (w_ei ws (w_ar ws (n_v vs 4) 33)) (w_ei ws (w_ar ws (n_v vs 4) 34)) (w_ei ws (w_ar ws (n_v vs 4) 35)) (w_ei ws (w_ar ws (n_v vs 4) 36)) (w_ei ws (w_ar ws (n_v vs 4) 37)) (w_ei ws (w_ar ws (n_v vs 4) 22)) (w_ei ws (w_ar ws (n_v vs 4) 122)) (w_ei ws (w_ar ws (n_v vs 4) 96)) (w_ei ws (w_ar ws (n_v vs 4) 117)) (v_iv (n_v vs 5)) (v_iv (n_v vs 9)) (v_iv (n_v vs 10)) (v_iv (n_v vs 11)) (v_iv (n_v vs 3)) (v_iv (n_v vs 19))
      rw [q4]
      exact vc_Mo_reveal_18_0 (v_iv (n_v vs 3)) (v_iv (n_v vs 5)) (v_iv (n_v vs 9)) (v_iv (n_v vs 10)) (v_iv (n_v vs 11)) (v_iv (n_v vs 12)) (v_iv (n_v vs 13)) (v_iv (n_v vs 15)) (v_iv (n_v vs 17)) (v_iv (n_v vs 18)) (v_iv (n_v vs 19)) (w_ei w1 (w_ar ws (n_v vs 0) 122)) (w_ei w1 (w_ar ws (n_v vs 0) 33)) (w_ei w1 (w_ar ws (n_v vs 0) 34)) (w_ei w1 (w_ar ws (n_v vs 0) 35)) (w_ei w1 (w_ar ws (n_v vs 0) 36)) (w_ei w1 (w_ar ws (n_v vs 0) 37)) (w_ei w1 (w_ar ws (n_v vs 0) 22)) (w_ei w1 (w_ar ws (n_v vs 0) 96)) (w_ei w1 (w_ar ws (n_v vs 0) 117)) (w_fi w1 (n_v vs 0) 31) (w_fi w1 (n_v vs 0) 32) (w_fi w1 (n_v vs 0) 121) (w_fi ws (n_v vs 0) 31) (w_fi ws (n_v vs 0) 32) (w_fi ws (n_v vs 0) 121) (w_ei ws (w_ar ws (n_v vs 0) 22)) (w_ei ws (w_ar ws (n_v vs 0) 33)) (w_ei ws (w_ar ws (n_v vs 0) 34)) (w_ei ws (w_ar ws (n_v vs 0) 35)) (w_ei ws (w_ar ws (n_v vs 0) 36)) (w_ei ws (w_ar ws (n_v vs 0) 37)) (w_ei ws (w_ar ws (n_v vs 0) 96)) (w_ei ws (w_ar ws (n_v vs 0) 117)) (w_ei ws (w_ar ws (n_v vs 0) 122)) k3 k5 k9 k10 k11 k12 k13 k15 k17 k18 k19 d0 d2 d11 d14 h4 f7 f8 f9 fe_0_31_1 fe_0_32_1 fe_0_121_1 hE_0_22_1 hE_0_33_1 hE_0_34_1 hE_0_35_1 hE_0_36_1 hE_0_37_1 hE_0_96_1 hE_0_117_1 hE_0_122_1 kz_0_31 kz_0_32 kz_0_121
  refine ⟨(fun _ h => (by cases h)), [], trivial, ?_, (fun _ h => (by cases h))⟩
  rw [List.append_nil]
  exact List.forall_mem_cons.mpr ⟨⟨show (20 : Nat) < 100 from by decide, nf0⟩, (fun _ h => (by cases h))⟩
set_option maxHeartbeats 4000000 in
theorem vc_Mo_reveal_19_0 (x3 : Int) (x5 : Int) (x9 : Int) (x10 : Int) (x11 : Int) (x12 : Int) (x13 : Int) (pt_0 : Int → Int) (ph_0 : Int → Int) (alive_0 : Int → Int) (rotMany_0 : Int → Int) (rot_0 : Int → Int) (left_0 : Int → Int) (upperNode_0 : Int → Int) (order_0 : Int → Int) (row_0 : Int → Int) (pn_0 : Int) (pm_0 : Int) (upper_0 : Int) (k3 : 2 ≤ x3 ∧ x3 ≤ 24) (k5 : 1 ≤ x5 ∧ x5 ≤ 28) (k9 : 2 ≤ x9 ∧ x9 ≤ 80) (k10 : (-1) ≤ x10 ∧ x10 ≤ 79) (k11 : 0 ≤ x11 ∧ x11 ≤ 1) (k12 : 0 ≤ x12 ∧ x12 ≤ 78) (k13 : 1 ≤ x13 ∧ x13 ≤ 79) (d0 : x12 + 1 ≤ x13 ∧ x13 ≤ x12 + 4294967296) (d1 : x12 + (-4294967296) ≤ x9 ∧ x9 ≤ x12 + 2) (d4 : x9 + (-4294967296) ≤ x12 ∧ x12 ≤ x9 + (-2)) (d5 : x9 + (-4294967296) ≤ x13 ∧ x13 ≤ x9 + 1) (f1 : RS3 (pn_0) (pm_0) (upper_0) (pt_0) (ph_0) (alive_0) (rotMany_0) (rot_0) (left_0) (upperNode_0) (order_0) (row_0) (x5) (x9) (x10) (x11) (x3) (x13)) (kz_0_31 : 0 ≤ pn_0 ∧ pn_0 ≤ 25) (kz_0_32 : 0 ≤ pm_0 ∧ pm_0 ≤ 80) (kz_0_121 : 0 ≤ upper_0 ∧ upper_0 ≤ 30) : CNZ (pn_0) (pm_0) (upper_0) (pt_0) (ph_0) (alive_0) (rotMany_0) (rot_0) (left_0) (upperNode_0) (order_0) (x3) := by
  exact rs3_end ‹RS3 _ _ _ _ _ _ _ _ _ _ _ _ _ _ _ _ _ _› (by omega)
def o_Mo_reveal_19 : or_T := (288, 14, [(0, (2, 0, 0, [165])), (3, (0, 2, 24, [])), (5, (0, 1, 28, [])), (9, (0, 2, 80, [])), (10, (0, -1, 79, [])), (11, (0, 0, 1, [])), (12, (0, 0, 78, [])), (13, (0, 1, 79, []))], [(20, [4, 5, 9, 10, 11, 3, 13], [60, 3, 9, 285, 31, 32, 121, 33, 34, 35, 36, 37, 22, 122, 96, 117]), (24, [0, 4], [])], [], [], [(20, [0, 3], [60, 3, 8, 277, 31, 32, 121, 33, 34, 35, 36, 37, 22, 122, 96])], [], [(13, 12, 1, 4294967296), (9, 12, -4294967296, 2), (12, 9, -4294967296, -2), (13, 9, -4294967296, 1)])
theorem oo_Mo_reveal_19 {kA : Nat → ClassId} : or_ok PRD kA GG o_Mo_reveal_19 := by
  refine or_mk fun A ta ws vs hD hth hl => ?_
  intro t0 r0 t3 k3 t5 k5 t9 k9 t10 k10 t11 k11 t12 k12 t13 k13 d0 d1 d4 d5 f1 f3
  replace f1 := shm_1027 f1
  replace f3 := shm_5 f3
  have q4 : n_v vs 4 = n_v vs 0 := f3.symm
  simp only [q4] at f1
  have kz_0_31 := fdq_145 hD hth r0
  have kz_0_32 := fdq_140 hD hth r0
  have kz_0_121 := fdq_242 hD hth r0
  have nf0 : fc_1 PRD (20, [0, 3], [60, 3, 8, 277, 31, 32, 121, 33, 34, 35, 36, 37, 22, 122, 96]) ws (vs) := ⟨nf_in hl rfl, sgq_1028 (vc_Mo_reveal_19_0 (v_iv (n_v vs 3)) (v_iv (n_v vs 5)) (v_iv (n_v vs 9)) (v_iv (n_v vs 10)) (v_iv (n_v vs 11)) (v_iv (n_v vs 12)) (v_iv (n_v vs 13)) (w_ei ws (w_ar ws (n_v vs 0) 33)) (w_ei ws (w_ar ws (n_v vs 0) 34)) (w_ei ws (w_ar ws (n_v vs 0) 35)) (w_ei ws (w_ar ws (n_v vs 0) 36)) (w_ei ws (w_ar ws (n_v vs 0) 37)) (w_ei ws (w_ar ws (n_v vs 0) 22)) (w_ei ws (w_ar ws (n_v vs 0) 122)) (w_ei ws (w_ar ws (n_v vs 0) 96)) (w_ei ws (w_ar ws (n_v vs 0) 117)) (w_fi ws (n_v vs 0) 31) (w_fi ws (n_v vs 0) 32) (w_fi ws (n_v vs 0) 121) k3 k5 k9 k10 k11 k12 k13 d0 d1 d4 d5 f1 kz_0_31 kz_0_32 kz_0_121)⟩
  refine ⟨(fun _ h => (by cases h)), [], trivial, ?_, (fun _ h => (by cases h))⟩
  rw [List.append_nil]
  exact List.forall_mem_cons.mpr ⟨⟨show (20 : Nat) < 100 from by decide, nf0⟩, (fun _ h => (by cases h))⟩
set_option maxHeartbeats 4000000 in
theorem vc_Mo_reveal_20_r0 (x3 : Int) (x5 : Int) (x9 : Int) (x10 : Int) (x11 : Int) (x12 : Int) (x13 : Int) (x19 : Int) (x20 : Int) (x21 : Int) (x22 : Int) (x23 : Int) (pt_0 : Int → Int) (ph_0 : Int → Int) (alive_0 : Int → Int) (rotMany_0 : Int → Int) (rot_0 : Int → Int) (left_0 : Int → Int) (upperNode_0 : Int → Int) (order_0 : Int → Int) (row_0 : Int → Int) (pn_0 : Int) (pm_0 : Int) (upper_0 : Int) (k3 : 2 ≤ x3 ∧ x3 ≤ 24) (k5 : 1 ≤ x5 ∧ x5 ≤ 28) (k9 : 3 ≤ x9 ∧ x9 ≤ 80) (k10 : (-1) ≤ x10 ∧ x10 ≤ 79) (k11 : 0 ≤ x11 ∧ x11 ≤ 0) (k12 : 1 ≤ x12 ∧ x12 ≤ 78) (k13 : 1 ≤ x13 ∧ x13 ≤ 78) (k19 : (-78) ≤ x19 ∧ x19 ≤ (-1)) (k20 : (-79) ≤ x20 ∧ x20 ≤ 78) (k21 : (-79) ≤ x21 ∧ x21 ≤ 79) (k22 : (-76) ≤ x22 ∧ x22 ≤ 159) (k23 : (-79) ≤ x23 ∧ x23 ≤ 79) (d4 : x21 + 3 ≤ x22 ∧ x22 ≤ x21 + 80) (d10 : x9 + (-4294967296) ≤ x20 ∧ x20 ≤ x9 + (-2)) (d19 : x12 + (-4294967296) ≤ x13 ∧ x13 ≤ x12 + 0) (d20 : x12 + (-4294967296) ≤ x9 ∧ x9 ≤ x12 + 2) (d23 : x9 + (-4294967296) ≤ x12 ∧ x12 ≤ x9 + (-2)) (d24 : x9 + (-4294967296) ≤ x13 ∧ x13 ≤ x9 + 1) (f0 : x23 = Int.tmod (x22) (x9)) (f1 : x22 = x21 + x9) (f2 : x21 = Int.tmod (x20) (x9)) (f3 : x20 = x10 + x19) (f4 : x19 = x13 * (-1)) (f11 : RS3 (pn_0) (pm_0) (upper_0) (pt_0) (ph_0) (alive_0) (rotMany_0) (rot_0) (left_0) (upperNode_0) (order_0) (row_0) (x5) (x9) (x10) (x11) (x3) (x13)) (kz_0_31 : 0 ≤ pn_0 ∧ pn_0 ≤ 25) (kz_0_32 : 0 ≤ pm_0 ∧ pm_0 ≤ 80) (kz_0_121 : 0 ≤ upper_0 ∧ upper_0 ≤ 30) : 0 ≤ x23 ∧ x23 ≤ 79 := by
  first
    | (have h := rs3_len ‹RS3 _ _ _ _ _ _ _ _ _ _ _ _ _ _ _ _ _ _›
       have e := tm_wr (many := x9) (a := x20) (c := x23) (by omega) (by omega) (by omega) (by rw [‹x23 = Int.tmod x22 x9›, ‹x22 = x21 + x9›, ‹x21 = Int.tmod x20 x9›])
       have r := wr_rng (many := x9) (a := x20) (by omega) (by omega) (by omega)
       omega)
    | (have h := rs3_len ‹RS3 _ _ _ _ _ _ _ _ _ _ _ _ _ _ _ _ _ _›
       have e := tm_wr (many := x9) (a := x19) (c := x22) (by omega) (by omega) (by omega) (by rw [‹x22 = Int.tmod x21 x9›, ‹x21 = x20 + x9›, ‹x20 = Int.tmod x19 x9›])
       have r := wr_rng (many := x9) (a := x19) (by omega) (by omega) (by omega)
       omega)
def o_Mo_reveal_20 : or_T := (280, 24, [(0, (2, 0, 0, [165])), (3, (0, 2, 24, [])), (4, (2, 0, 0, [165])), (5, (0, 1, 28, [])), (9, (0, 3, 80, [])), (10, (0, -1, 79, [])), (11, (0, 0, 0, [])), (12, (0, 1, 78, [])), (13, (0, 1, 78, [])), (14, (2, 0, 0, [253])), (15, (0, 1, 1, [])), (16, (0, 0, 27, [])), (17, (0, 1, 105, [])), (18, (2, 0, 0, [249])), (19, (0, -78, -1, [])), (20, (0, -79, 78, [])), (21, (0, -79, 79, [])), (22, (0, -76, 159, [])), (23, (0, -79, 79, []))], [(5, [23, 22, 9], []), (1, [22, 21, 9], []), (5, [21, 20, 9], []), (1, [20, 10, 19], []), (15, [19, 13], [-1]), (8, [11], [0]), (9, [18, 4], [117]), (1, [17, 16, 13], []), (2, [16, 5, 15], []), (9, [14, 4], [122]), (7, [13, 12], [5]), (20, [4, 5, 9, 10, 11, 3, 13], [60, 3, 9, 285, 31, 32, 121, 33, 34, 35, 36, 37, 22, 122, 96, 117]), (20, [12, 9], [50, 0, 0, 1, 2, 1, 0, 5, 2, 1, 1, 0, 2]), (24, [0, 4], [])], [(23, (0, 0, 79, []))], [], [], [], [(23, 9, -4294967295, -1), (23, 12, -4294967296, 1), (22, 9, -79, 79), (22, 12, -4294967296, 81), (22, 21, 3, 80), (22, 9, -4294967292, 79), (21, 9, -4294967295, -1), (21, 12, -4294967296, 1), (20, 19, -1, 79), (20, 10, -78, -1), (20, 9, -4294967296, -2), (20, 12, -4294967296, 0), (17, 13, 0, 27), (17, 12, -4294967296, 27), (17, 9, -4294967296, 28), (17, 12, -4294967296, 30), (17, 16, 1, 78), (17, 5, 0, 77), (16, 5, -1, -1), (13, 12, -4294967296, 0), (9, 12, -4294967296, 2), (10, 9, -4294967296, -1), (10, 12, -4294967296, 1), (12, 9, -4294967296, -2), (13, 9, -4294967296, 1), (13, 12, -4294967296, 3)])
theorem oo_Mo_reveal_20 {kA : Nat → ClassId} : or_ok PRD kA GG o_Mo_reveal_20 := by
  refine or_mk fun A ta ws vs hD hth hl => ?_
  intro t0 r0 t3 k3 t4 r4 t5 k5 t9 k9 t10 k10 t11 k11 t12 k12 t13 k13 t14 r14 t15 k15 t16 k16 t17 k17 t18 r18 t19 k19 t20 k20 t21 k21 t22 k22 t23 k23 d0 d1 d2 d3 d4 d5 d6 d7 d8 d9 d10 d11 d12 d13 d14 d15 d16 d17 d18 d19 d20 d21 d22 d23 d24 d25 f0 f1 f2 f3 f4 f5 f6 f7 f8 f9 f10 f11 f12 f13
  replace f11 := shm_1027 f11
  replace f13 := shm_5 f13
  have q4 : n_v vs 4 = n_v vs 0 := f13.symm
  simp only [q4] at f11
  have kz_0_31 := fdq_145 hD hth r0
  have kz_0_32 := fdq_140 hD hth r0
  have kz_0_121 := fdq_242 hD hth r0
  have hrf0 : 0 ≤ v_iv (n_v vs 23) ∧ v_iv (n_v vs 23) ≤ 79 := vc_Mo_reveal_20_r0 (v_iv (n_v vs 3)) (v_iv (n_v vs 5)) (v_iv (n_v vs 9)) (v_iv (n_v vs 10)) (v_iv (n_v vs 11)) (v_iv (n_v vs 12)) (v_iv (n_v vs 13)) (v_iv (n_v vs 19)) (v_iv (n_v vs 20)) (v_iv (n_v vs 21)) (v_iv (n_v vs 22)) (v_iv (n_v vs 23)) (w_ei ws (w_ar ws (n_v vs 0) 33)) (w_ei ws (w_ar ws (n_v vs 0) 34)) (w_ei ws (w_ar ws (n_v vs 0) 35)) (w_ei ws (w_ar ws (n_v vs 0) 36)) (w_ei ws (w_ar ws (n_v vs 0) 37)) (w_ei ws (w_ar ws (n_v vs 0) 22)) (w_ei ws (w_ar ws (n_v vs 0) 122)) (w_ei ws (w_ar ws (n_v vs 0) 96)) (w_ei ws (w_ar ws (n_v vs 0) 117)) (w_fi ws (n_v vs 0) 31) (w_fi ws (n_v vs 0) 32) (w_fi ws (n_v vs 0) 121) k3 k5 k9 k10 k11 k12 k13 k19 k20 k21 k22 k23 d4 d10 d19 d20 d23 d24 (shm_468 f0) (shm_12 f1) (shm_468 f2) (shm_12 f3) (shm_538 f4) f11 kz_0_31 kz_0_32 kz_0_121
  have rf23 : tv_ok ta (0, 0, 79, []) (n_v vs 23) := tv_in t23 (by first | omega | grind) (by first | omega | grind)
  refine ⟨List.forall_mem_cons.mpr ⟨rf23, (fun _ h => (by cases h))⟩, [], trivial, ?_, (fun _ h => (by cases h))⟩
  rw [List.append_nil]
  exact (fun _ h => (by cases h))
set_option maxHeartbeats 4000000 in
theorem vc_Mo_reveal_21_r0 (x3 : Int) (x5 : Int) (x9 : Int) (x10 : Int) (x11 : Int) (x12 : Int) (x13 : Int) (x16 : Int) (x17 : Int) (x19 : Int) (x20 : Int) (x21 : Int) (x22 : Int) (x23 : Int) (row_0 : Int → Int) (pt_0 : Int → Int) (ph_0 : Int → Int) (alive_0 : Int → Int) (rotMany_0 : Int → Int) (rot_0 : Int → Int) (left_0 : Int → Int) (upperNode_0 : Int → Int) (order_0 : Int → Int) (pn_0 : Int) (pm_0 : Int) (upper_0 : Int) (k3 : 2 ≤ x3 ∧ x3 ≤ 24) (k5 : 1 ≤ x5 ∧ x5 ≤ 28) (k9 : 3 ≤ x9 ∧ x9 ≤ 80) (k10 : (-1) ≤ x10 ∧ x10 ≤ 79) (k11 : 0 ≤ x11 ∧ x11 ≤ 0) (k12 : 1 ≤ x12 ∧ x12 ≤ 78) (k13 : 1 ≤ x13 ∧ x13 ≤ 78) (k16 : 0 ≤ x16 ∧ x16 ≤ 27) (k17 : 1 ≤ x17 ∧ x17 ≤ 105) (k19 : (-78) ≤ x19 ∧ x19 ≤ (-1)) (k20 : (-79) ≤ x20 ∧ x20 ≤ 78) (k21 : (-79) ≤ x21 ∧ x21 ≤ 79) (k22 : (-76) ≤ x22 ∧ x22 ≤ 159) (d18 : x5 + (-1) ≤ x16 ∧ x16 ≤ x5 + (-1)) (d19 : x12 + (-4294967296) ≤ x13 ∧ x13 ≤ x12 + 0) (d20 : x12 + (-4294967296) ≤ x9 ∧ x9 ≤ x12 + 2) (d23 : x9 + (-4294967296) ≤ x12 ∧ x12 ≤ x9 + (-2)) (d24 : x9 + (-4294967296) ≤ x13 ∧ x13 ≤ x9 + 1) (f2 : x22 = x21 + x9) (f3 : x21 = Int.tmod (x20) (x9)) (f5 : x19 = x13 * (-1)) (f8 : x17 = x16 + x13) (f12 : RS3 (pn_0) (pm_0) (upper_0) (pt_0) (ph_0) (alive_0) (rotMany_0) (rot_0) (left_0) (upperNode_0) (order_0) (row_0) (x5) (x9) (x10) (x11) (x3) (x13)) (kz_0_31 : 0 ≤ pn_0 ∧ pn_0 ≤ 25) (kz_0_32 : 0 ≤ pm_0 ∧ pm_0 ≤ 80) (kz_0_121 : 0 ≤ upper_0 ∧ upper_0 ≤ 30) : 1 ≤ x17 ∧ x17 ≤ 29 := by
  first
    | (have h := rs3_len ‹RS3 _ _ _ _ _ _ _ _ _ _ _ _ _ _ _ _ _ _›; omega)
    | (have h := rs3_len ‹RS3 _ _ _ _ _ _ _ _ _ _ _ _ _ _ _ _ _ _›
       have e := tm_wr (many := x9) (a := x20) (c := x23) (by omega) (by omega) (by omega) (by rw [‹x23 = Int.tmod x22 x9›, ‹x22 = x21 + x9›, ‹x21 = Int.tmod x20 x9›])
       have r := wr_rng (many := x9) (a := x20) (by omega) (by omega) (by omega)
       have w := rs3_row ‹RS3 _ _ _ _ _ _ _ _ _ _ _ _ _ _ _ _ _ _› (t := x23) (by omega) (by omega)
       omega)
    | (have h := rs3_len ‹RS3 _ _ _ _ _ _ _ _ _ _ _ _ _ _ _ _ _ _›
       have e := tm_wr (many := x9) (a := x19) (c := x22) (by omega) (by omega) (by omega) (by rw [‹x22 = Int.tmod x21 x9›, ‹x21 = x20 + x9›, ‹x20 = Int.tmod x19 x9›])
       have r := wr_rng (many := x9) (a := x19) (by omega) (by omega) (by omega)
       have w := rs3_row ‹RS3 _ _ _ _ _ _ _ _ _ _ _ _ _ _ _ _ _ _› (t := x22) (by omega) (by omega)
       omega)
set_option maxHeartbeats 4000000 in
theorem vc_Mo_reveal_21_r1 (x3 : Int) (x5 : Int) (x9 : Int) (x10 : Int) (x11 : Int) (x12 : Int) (x13 : Int) (x19 : Int) (x20 : Int) (x21 : Int) (x22 : Int) (x23 : Int) (x24 : Int) (row_0 : Int → Int) (pt_0 : Int → Int) (ph_0 : Int → Int) (alive_0 : Int → Int) (rotMany_0 : Int → Int) (rot_0 : Int → Int) (left_0 : Int → Int) (upperNode_0 : Int → Int) (order_0 : Int → Int) (pn_0 : Int) (pm_0 : Int) (upper_0 : Int) (k3 : 2 ≤ x3 ∧ x3 ≤ 24) (k5 : 1 ≤ x5 ∧ x5 ≤ 28) (k9 : 3 ≤ x9 ∧ x9 ≤ 80) (k10 : (-1) ≤ x10 ∧ x10 ≤ 79) (k11 : 0 ≤ x11 ∧ x11 ≤ 0) (k12 : 1 ≤ x12 ∧ x12 ≤ 78) (k13 : 1 ≤ x13 ∧ x13 ≤ 78) (k19 : (-78) ≤ x19 ∧ x19 ≤ (-1)) (k20 : (-79) ≤ x20 ∧ x20 ≤ 78) (k21 : (-79) ≤ x21 ∧ x21 ≤ 79) (k22 : (-76) ≤ x22 ∧ x22 ≤ 159) (k23 : 0 ≤ x23 ∧ x23 ≤ 79) (k24 : 0 ≤ x24 ∧ x24 ≤ 75) (d0 : x9 + (-4294967295) ≤ x23 ∧ x23 ≤ x9 + (-1)) (d4 : x21 + 3 ≤ x22 ∧ x22 ≤ x21 + 80) (d10 : x9 + (-4294967296) ≤ x20 ∧ x20 ≤ x9 + (-2)) (d19 : x12 + (-4294967296) ≤ x13 ∧ x13 ≤ x12 + 0) (d20 : x12 + (-4294967296) ≤ x9 ∧ x9 ≤ x12 + 2) (d23 : x9 + (-4294967296) ≤ x12 ∧ x12 ≤ x9 + (-2)) (d24 : x9 + (-4294967296) ≤ x13 ∧ x13 ≤ x9 + 1) (h0 : x24 = row_0 (x23)) (f1 : x23 = Int.tmod (x22) (x9)) (f2 : x22 = x21 + x9) (f3 : x21 = Int.tmod (x20) (x9)) (f4 : x20 = x10 + x19) (f5 : x19 = x13 * (-1)) (f12 : RS3 (pn_0) (pm_0) (upper_0) (pt_0) (ph_0) (alive_0) (rotMany_0) (rot_0) (left_0) (upperNode_0) (order_0) (row_0) (x5) (x9) (x10) (x11) (x3) (x13)) (kz_0_31 : 0 ≤ pn_0 ∧ pn_0 ≤ 25) (kz_0_32 : 0 ≤ pm_0 ∧ pm_0 ≤ 80) (kz_0_121 : 0 ≤ upper_0 ∧ upper_0 ≤ 30) : 0 ≤ x24 ∧ x24 ≤ 24 := by
  first
    | (have h := rs3_len ‹RS3 _ _ _ _ _ _ _ _ _ _ _ _ _ _ _ _ _ _›; omega)
    | (have h := rs3_len ‹RS3 _ _ _ _ _ _ _ _ _ _ _ _ _ _ _ _ _ _›
       have e := tm_wr (many := x9) (a := x20) (c := x23) (by omega) (by omega) (by omega) (by rw [‹x23 = Int.tmod x22 x9›, ‹x22 = x21 + x9›, ‹x21 = Int.tmod x20 x9›])
       have r := wr_rng (many := x9) (a := x20) (by omega) (by omega) (by omega)
       have w := rs3_row ‹RS3 _ _ _ _ _ _ _ _ _ _ _ _ _ _ _ _ _ _› (t := x23) (by omega) (by omega)
       omega)
    | (have h := rs3_len ‹RS3 _ _ _ _ _ _ _ _ _ _ _ _ _ _ _ _ _ _›
       have e := tm_wr (many := x9) (a := x19) (c := x22) (by omega) (by omega) (by omega) (by rw [‹x22 = Int.tmod x21 x9›, ‹x21 = x20 + x9›, ‹x20 = Int.tmod x19 x9›])
       have r := wr_rng (many := x9) (a := x19) (by omega) (by omega) (by omega)
       have w := rs3_row ‹RS3 _ _ _ _ _ _ _ _ _ _ _ _ _ _ _ _ _ _› (t := x22) (by omega) (by omega)
       omega)
def o_Mo_reveal_21 : or_T := (281, 25, [(0, (2, 0, 0, [165])), (3, (0, 2, 24, [])), (4, (2, 0, 0, [165])), (5, (0, 1, 28, [])), (9, (0, 3, 80, [])), (10, (0, -1, 79, [])), (11, (0, 0, 0, [])), (12, (0, 1, 78, [])), (13, (0, 1, 78, [])), (14, (2, 0, 0, [253])), (15, (0, 1, 1, [])), (16, (0, 0, 27, [])), (17, (0, 1, 105, [])), (18, (2, 0, 0, [249])), (19, (0, -78, -1, [])), (20, (0, -79, 78, [])), (21, (0, -79, 79, [])), (22, (0, -76, 159, [])), (23, (0, 0, 79, [])), (24, (0, 0, 75, []))], [(10, [24, 18, 23], []), (5, [23, 22, 9], []), (1, [22, 21, 9], []), (5, [21, 20, 9], []), (1, [20, 10, 19], []), (15, [19, 13], [-1]), (8, [11], [0]), (9, [18, 4], [117]), (1, [17, 16, 13], []), (2, [16, 5, 15], []), (9, [14, 4], [122]), (7, [13, 12], [5]), (20, [4, 5, 9, 10, 11, 3, 13], [60, 3, 9, 285, 31, 32, 121, 33, 34, 35, 36, 37, 22, 122, 96, 117]), (20, [12, 9], [50, 0, 0, 1, 2, 1, 0, 5, 2, 1, 1, 0, 2]), (24, [0, 4], [])], [(17, (0, 1, 29, [])), (24, (0, 0, 24, []))], [], [], [], [(23, 9, -4294967295, -1), (23, 12, -4294967296, 1), (22, 9, -79, 79), (22, 12, -4294967296, 81), (22, 21, 3, 80), (22, 9, -4294967292, 79), (21, 9, -4294967295, -1), (21, 12, -4294967296, 1), (20, 19, -1, 79), (20, 10, -78, -1), (20, 9, -4294967296, -2), (20, 12, -4294967296, 0), (17, 13, 0, 27), (17, 12, -4294967296, 27), (17, 9, -4294967296, 28), (17, 12, -4294967296, 30), (17, 16, 1, 78), (17, 5, 0, 77), (16, 5, -1, -1), (13, 12, -4294967296, 0), (9, 12, -4294967296, 2), (10, 9, -4294967296, -1), (10, 12, -4294967296, 1), (12, 9, -4294967296, -2), (13, 9, -4294967296, 1), (13, 12, -4294967296, 3)])
theorem oo_Mo_reveal_21 {kA : Nat → ClassId} : or_ok PRD kA GG o_Mo_reveal_21 := by
  refine or_mk fun A ta ws vs hD hth hl => ?_
  intro t0 r0 t3 k3 t4 r4 t5 k5 t9 k9 t10 k10 t11 k11 t12 k12 t13 k13 t14 r14 t15 k15 t16 k16 t17 k17 t18 r18 t19 k19 t20 k20 t21 k21 t22 k22 t23 k23 t24 k24 d0 d1 d2 d3 d4 d5 d6 d7 d8 d9 d10 d11 d12 d13 d14 d15 d16 d17 d18 d19 d20 d21 d22 d23 d24 d25 f0 f1 f2 f3 f4 f5 f6 f7 f8 f9 f10 f11 f12 f13 f14
  replace f0 := shm_107 f0
  replace f7 := shm_713 f7
  replace f12 := shm_1027 f12
  replace f14 := shm_5 f14
  have q4 : n_v vs 4 = n_v vs 0 := f14.symm
  simp only [q4] at f7 f12
  have ad_18 : v_ad (n_v vs 18) = w_ar ws (n_v vs 0) 117 := congrArg v_ad f7
  simp only [ad_18] at f0
  have h0 : v_iv (n_v vs 24) = w_ei ws (w_ar ws (n_v vs 0) 117) (v_iv (n_v vs 23)) := f0
  have kz_0_31 := fdq_145 hD hth r0
  have kz_0_32 := fdq_140 hD hth r0
  have kz_0_121 := fdq_242 hD hth r0
  have hrf0 : 1 ≤ v_iv (n_v vs 17) ∧ v_iv (n_v vs 17) ≤ 29 := vc_Mo_reveal_21_r0 (v_iv (n_v vs 3)) (v_iv (n_v vs 5)) (v_iv (n_v vs 9)) (v_iv (n_v vs 10)) (v_iv (n_v vs 11)) (v_iv (n_v vs 12)) (v_iv (n_v vs 13)) (v_iv (n_v vs 16)) (v_iv (n_v vs 17)) (v_iv (n_v vs 19)) (v_iv (n_v vs 20)) (v_iv (n_v vs 21)) (v_iv (n_v vs 22)) (v_iv (n_v vs 23)) (w_ei ws (w_ar ws (n_v vs 0) 117)) (w_ei ws (w_ar ws (n_v vs 0) 33)) (w_ei ws (w_ar ws (n_v vs 0) 34)) (w_ei ws (w_ar ws (n_v vs 0) 35)) (w_ei ws (w_ar ws (n_v vs 0) 36)) (w_ei ws (w_ar ws (n_v vs 0) 37)) (w_ei ws (w_ar ws (n_v vs 0) 22)) (w_ei ws (w_ar ws (n_v vs 0) 122)) (w_ei ws (w_ar ws (n_v vs 0) 96)) (w_fi ws (n_v vs 0) 31) (w_fi ws (n_v vs 0) 32) (w_fi ws (n_v vs 0) 121) k3 k5 k9 k10 k11 k12 k13 k16 k17 k19 k20 k21 k22 d18 d19 d20 d23 d24 (shm_12 f2) (shm_468 f3) (shm_538 f5) (shm_12 f8) f12 kz_0_31 kz_0_32 kz_0_121
  have hrf1 : 0 ≤ v_iv (n_v vs 24) ∧ v_iv (n_v vs 24) ≤ 24 := vc_Mo_reveal_21_r1 (v_iv (n_v vs 3)) (v_iv (n_v vs 5)) (v_iv (n_v vs 9)) (v_iv (n_v vs 10)) (v_iv (n_v vs 11)) (v_iv (n_v vs 12)) (v_iv (n_v vs 13)) (v_iv (n_v vs 19)) (v_iv (n_v vs 20)) (v_iv (n_v vs 21)) (v_iv (n_v vs 22)) (v_iv (n_v vs 23)) (v_iv (n_v vs 24)) (w_ei ws (w_ar ws (n_v vs 0) 117)) (w_ei ws (w_ar ws (n_v vs 0) 33)) (w_ei ws (w_ar ws (n_v vs 0) 34)) (w_ei ws (w_ar ws (n_v vs 0) 35)) (w_ei ws (w_ar ws (n_v vs 0) 36)) (w_ei ws (w_ar ws (n_v vs 0) 37)) (w_ei ws (w_ar ws (n_v vs 0) 22)) (w_ei ws (w_ar ws (n_v vs 0) 122)) (w_ei ws (w_ar ws (n_v vs 0) 96)) (w_fi ws (n_v vs 0) 31) (w_fi ws (n_v vs 0) 32) (w_fi ws (n_v vs 0) 121) k3 k5 k9 k10 k11 k12 k13 k19 k20 k21 k22 k23 k24 d0 d4 d10 d19 d20 d23 d24 h0 (shm_468 f1) (shm_12 f2) (shm_468 f3) (shm_12 f4) (shm_538 f5) f12 kz_0_31 kz_0_32 kz_0_121
  have rf17 : tv_ok ta (0, 1, 29, []) (n_v vs 17) := tv_in t17 (by first | omega | grind) (by first | omega | grind)
  have rf24 : tv_ok ta (0, 0, 24, []) (n_v vs 24) := tv_in t24 (by first | omega | grind) (by first | omega | grind)
  refine ⟨List.forall_mem_cons.mpr ⟨rf17, List.forall_mem_cons.mpr ⟨rf24, (fun _ h => (by cases h))⟩⟩, [], trivial, ?_, (fun _ h => (by cases h))⟩
  rw [List.append_nil]
  exact (fun _ h => (by cases h))
set_option maxHeartbeats 4000000 in
theorem vc_Mo_reveal_22_0 (x3 : Int) (x5 : Int) (x9 : Int) (x10 : Int) (x11 : Int) (x12 : Int) (x13 : Int) (x16 : Int) (x17 : Int) (x19 : Int) (x20 : Int) (x21 : Int) (x22 : Int) (x23 : Int) (x24 : Int) (x25 : Int) (row_1 : Int → Int) (pt_1 : Int → Int) (ph_1 : Int → Int) (alive_1 : Int → Int) (rotMany_1 : Int → Int) (rot_1 : Int → Int) (left_1 : Int → Int) (upperNode_1 : Int → Int) (order_1 : Int → Int) (pn_1 : Int) (pm_1 : Int) (upper_1 : Int) (pn_0 : Int) (pm_0 : Int) (upper_0 : Int) (left_0 : Int → Int) (pt_0 : Int → Int) (ph_0 : Int → Int) (alive_0 : Int → Int) (rotMany_0 : Int → Int) (rot_0 : Int → Int) (order_0 : Int → Int) (row_0 : Int → Int) (upperNode_0 : Int → Int) (k3 : 2 ≤ x3 ∧ x3 ≤ 24) (k5 : 1 ≤ x5 ∧ x5 ≤ 28) (k9 : 3 ≤ x9 ∧ x9 ≤ 80) (k10 : (-1) ≤ x10 ∧ x10 ≤ 79) (k11 : 0 ≤ x11 ∧ x11 ≤ 0) (k12 : 1 ≤ x12 ∧ x12 ≤ 78) (k13 : 1 ≤ x13 ∧ x13 ≤ 78) (k16 : 0 ≤ x16 ∧ x16 ≤ 27) (k17 : 1 ≤ x17 ∧ x17 ≤ 29) (k19 : (-78) ≤ x19 ∧ x19 ≤ (-1)) (k20 : (-79) ≤ x20 ∧ x20 ≤ 78) (k21 : (-79) ≤ x21 ∧ x21 ≤ 79) (k22 : (-76) ≤ x22 ∧ x22 ≤ 159) (k23 : 0 ≤ x23 ∧ x23 ≤ 79) (k24 : 0 ≤ x24 ∧ x24 ≤ 24) (k25 : 2 ≤ x25 ∧ x25 ≤ 79) (d0 : x13 + 1 ≤ x25 ∧ x25 ≤ x13 + 1) (d1 : x12 + (-4294967296) ≤ x25 ∧ x25 ≤ x12 + 1) (d2 : x9 + (-4294967296) ≤ x25 ∧ x25 ≤ x9 + 2) (d8 : x21 + 3 ≤ x22 ∧ x22 ≤ x21 + 80) (d14 : x9 + (-4294967296) ≤ x20 ∧ x20 ≤ x9 + (-2)) (d20 : x5 + (-1) ≤ x16 ∧ x16 ≤ x5 + (-1)) (d21 : x12 + (-4294967296) ≤ x13 ∧ x13 ≤ x12 + 0) (d22 : x12 + (-4294967296) ≤ x9 ∧ x9 ≤ x12 + 2) (d25 : x9 + (-4294967296) ≤ x12 ∧ x12 ≤ x9 + (-2)) (d26 : x9 + (-4294967296) ≤ x13 ∧ x13 ≤ x9 + 1) (f0 : x25 = x13 + 1) (h4 : x24 = row_1 (x23)) (f5 : x23 = Int.tmod (x22) (x9)) (f6 : x22 = x21 + x9) (f7 : x21 = Int.tmod (x20) (x9)) (f8 : x20 = x10 + x19) (f9 : x19 = x13 * (-1)) (f12 : x17 = x16 + x13) (f16 : RS3 (pn_1) (pm_1) (upper_1) (pt_1) (ph_1) (alive_1) (rotMany_1) (rot_1) (left_1) (upperNode_1) (order_1) (row_1) (x5) (x9) (x10) (x11) (x3) (x13)) (fe_0_31_1 : pn_0 = pn_1) (fe_0_32_1 : pm_0 = pm_1) (fe_0_121_1 : upper_0 = upper_1) (hE_0_22_1 : ∀ j : Int, left_0 j = left_1 j) (hE_0_33_1 : ∀ j : Int, pt_0 j = pt_1 j) (hE_0_34_1 : ∀ j : Int, ph_0 j = ph_1 j) (hE_0_35_1 : ∀ j : Int, alive_0 j = alive_1 j) (hE_0_36_1 : ∀ j : Int, rotMany_0 j = rotMany_1 j) (hE_0_37_1 : ∀ j : Int, rot_0 j = rot_1 j) (hE_0_96_1 : ∀ j : Int, order_0 j = order_1 j) (hE_0_117_1 : ∀ j : Int, row_0 j = row_1 j) (hE_0_122_1 : ∀ j : Int, 0 ≤ j → (j = x17 → upperNode_0 j = x24) ∧ (j ≠ x17 → upperNode_0 j = upperNode_1 j)) (kz_0_31 : 0 ≤ pn_0 ∧ pn_0 ≤ 25) (kz_0_32 : 0 ≤ pm_0 ∧ pm_0 ≤ 80) (kz_0_121 : 0 ≤ upper_0 ∧ upper_0 ≤ 30) : RS3 (pn_0) (pm_0) (upper_0) (pt_0) (ph_0) (alive_0) (rotMany_0) (rot_0) (left_0) (upperNode_0) (order_0) (row_0) (x5) (x9) (x10) (x11) (x3) (x25) := by
  subst fe_0_31_1
  subst fe_0_32_1
  subst fe_0_121_1
  have e_hE_0_22_1 := funext hE_0_22_1; subst e_hE_0_22_1
  have e_hE_0_33_1 := funext hE_0_33_1; subst e_hE_0_33_1
  have e_hE_0_34_1 := funext hE_0_34_1; subst e_hE_0_34_1
  have e_hE_0_35_1 := funext hE_0_35_1; subst e_hE_0_35_1
  have e_hE_0_36_1 := funext hE_0_36_1; subst e_hE_0_36_1
  have e_hE_0_37_1 := funext hE_0_37_1; subst e_hE_0_37_1
  have e_hE_0_96_1 := funext hE_0_96_1; subst e_hE_0_96_1
  have e_hE_0_117_1 := funext hE_0_117_1; subst e_hE_0_117_1
  first
    | exact rs3_1 ‹RS1 _ _ _ _ _ _ _ _ _ _ _ _ _ _ _ _ _ _› (by omega) (by omega) (by omega)
    | exact rs3_2 ‹RS2 _ _ _ _ _ _ _ _ _ _ _ _ _ _ _ _ _ _› (by omega) (by omega) (by omega)
    | (have h := rs3_len ‹RS3 _ _ _ _ _ _ _ _ _ _ _ _ _ _ _ _ _ _›
       have e := tm_wr (many := x9) (a := x20) (c := x23) (by omega) (by omega) (by omega) (by rw [‹x23 = Int.tmod x22 x9›, ‹x22 = x21 + x9›, ‹x21 = Int.tmod x20 x9›])
       have r := wr_rng (many := x9) (a := x20) (by omega) (by omega) (by omega)
       exact rs3_step ‹RS3 _ _ _ _ _ _ _ _ _ _ _ _ _ _ _ _ _ _› (by omega) (by omega) (by assumption) (by omega) (by assumption) (by rw [e, if_neg (by omega), show x10 - x13 = x20 by omega]))
    | (have h := rs3_len ‹RS3 _ _ _ _ _ _ _ _ _ _ _ _ _ _ _ _ _ _›
       have e := tm_wr (many := x9) (a := x19) (c := x22) (by omega) (by omega) (by omega) (by rw [‹x22 = Int.tmod x21 x9›, ‹x21 = x20 + x9›, ‹x20 = Int.tmod x19 x9›])
       have r := wr_rng (many := x9) (a := x19) (by omega) (by omega) (by omega)
       exact rs3_step ‹RS3 _ _ _ _ _ _ _ _ _ _ _ _ _ _ _ _ _ _› (by omega) (by omega) (by assumption) (by omega) (by assumption) (by rw [e, if_pos (by omega), show x10 + x13 = x19 by omega]))
def o_Mo_reveal_22 : or_T := (234, 26, [(0, (2, 0, 0, [165])), (3, (0, 2, 24, [])), (5, (0, 1, 28, [])), (9, (0, 3, 80, [])), (10, (0, -1, 79, [])), (11, (0, 0, 0, [])), (12, (0, 1, 78, [])), (13, (0, 1, 78, [])), (14, (2, 0, 0, [253])), (16, (0, 0, 27, [])), (17, (0, 1, 29, [])), (19, (0, -78, -1, [])), (20, (0, -79, 78, [])), (21, (0, -79, 79, [])), (22, (0, -76, 159, [])), (23, (0, 0, 79, [])), (24, (0, 0, 24, [])), (25, (0, 2, 79, []))], [(6, [25, 13], [1]), (24, [0, 4], []), (100, [14, 17, 24], []), (10, [24, 18, 23], []), (5, [23, 22, 9], []), (1, [22, 21, 9], []), (5, [21, 20, 9], []), (1, [20, 10, 19], []), (15, [19, 13], [-1]), (9, [18, 4], [117]), (1, [17, 16, 13], []), (9, [14, 4], [122]), (20, [4, 5, 9, 10, 11, 3, 13], [60, 3, 9, 285, 31, 32, 121, 33, 34, 35, 36, 37, 22, 122, 96, 117])], [], [], [(20, [4, 5, 9, 10, 11, 3, 25], [60, 3, 9, 285, 31, 32, 121, 33, 34, 35, 36, 37, 22, 122, 96, 117])], [], [(25, 13, 1, 1), (25, 12, -4294967296, 1), (25, 9, -4294967296, 2), (22, 21, 3, 80), (20, 9, -4294967296, -2), (17, 13, 0, 27), (17, 12, -4294967296, 27), (17, 16, 1, 78), (17, 5, 0, 77), (16, 5, -1, -1), (13, 12, -4294967296, 0), (9, 12, -4294967296, 2), (12, 9, -4294967296, -2), (13, 9, -4294967296, 1)])
theorem oo_Mo_reveal_22 {kA : Nat → ClassId} : or_ok PRD kA GG o_Mo_reveal_22 := by
  refine or_mk fun A ta ws vs hD hth hl => ?_
  intro t0 r0 t3 k3 t5 k5 t9 k9 t10 k10 t11 k11 t12 k12 t13 k13 t14 r14 t16 k16 t17 k17 t19 k19 t20 k20 t21 k21 t22 k22 t23 k23 t24 k24 t25 k25 d0 d1 d2 d8 d14 d16 d17 d18 d19 d20 d21 d22 d25 d26 f0 f2 ta1 w1 le1 s1 f4 f5 f6 f7 f8 f9 f11 f12 f14 f16
  replace f0 := shm_4 f0
  replace f2 := shm_5 f2
  have s1 : (∀ b j, w_el ws b j = if b = v_ad (n_v vs 14) ∧ j = (v_iv (n_v vs 17)).toNat then v_iv (n_v vs 24) else w_el w1 b j) ∧ ∀ b k, w_fd ws b k = w_fd w1 b k := s1.2
  replace f4 := shm_107 f4
  replace f5 := shm_468 f5
  replace f6 := shm_12 f6
  replace f7 := shm_468 f7
  replace f8 := shm_12 f8
  replace f9 := shm_538 f9
  replace f11 := shm_713 f11
  replace f12 := shm_12 f12
  replace f14 := shm_1019 f14
  replace f16 := shm_1027 f16
  have q4 : n_v vs 4 = n_v vs 0 := f2.symm
  simp only [q4] at f11 f14 f16
  have ar_0_22_1 : w_ar w1 (n_v vs 0) 22 = w_ar ws (n_v vs 0) 22 := congrArg v_ad (s1.2 _ _).symm
  have cr_0_22 := fdq_240 hD hth r0
  have ar_0_33_1 : w_ar w1 (n_v vs 0) 33 = w_ar ws (n_v vs 0) 33 := congrArg v_ad (s1.2 _ _).symm
  have cr_0_33 := fdq_117 hD hth r0
  have ar_0_34_1 : w_ar w1 (n_v vs 0) 34 = w_ar ws (n_v vs 0) 34 := congrArg v_ad (s1.2 _ _).symm
  have cr_0_34 := fdq_118 hD hth r0
  have ar_0_35_1 : w_ar w1 (n_v vs 0) 35 = w_ar ws (n_v vs 0) 35 := congrArg v_ad (s1.2 _ _).symm
  have cr_0_35 := fdq_132 hD hth r0
  have ar_0_36_1 : w_ar w1 (n_v vs 0) 36 = w_ar ws (n_v vs 0) 36 := congrArg v_ad (s1.2 _ _).symm
  have cr_0_36 := fdq_167 hD hth r0
  have ar_0_37_1 : w_ar w1 (n_v vs 0) 37 = w_ar ws (n_v vs 0) 37 := congrArg v_ad (s1.2 _ _).symm
  have cr_0_37 := fdq_168 hD hth r0
  have ar_0_96_1 : w_ar w1 (n_v vs 0) 96 = w_ar ws (n_v vs 0) 96 := congrArg v_ad (s1.2 _ _).symm
  have cr_0_96 := fdq_166 hD hth r0
  have ar_0_117_1 : w_ar w1 (n_v vs 0) 117 = w_ar ws (n_v vs 0) 117 := congrArg v_ad (s1.2 _ _).symm
  have cr_0_117 := fdq_181 hD hth r0
  have ar_0_122_1 : w_ar w1 (n_v vs 0) 122 = w_ar ws (n_v vs 0) 122 := congrArg v_ad (s1.2 _ _).symm
  have ad_18 : v_ad (n_v vs 18) = w_ar ws (n_v vs 0) 117 := (congrArg v_ad f11).trans ar_0_117_1
  have ad_14 : v_ad (n_v vs 14) = w_ar ws (n_v vs 0) 122 := (congrArg v_ad f14).trans ar_0_122_1
  simp only [ad_18] at f4
  have h4 : v_iv (n_v vs 24) = w_ei w1 (w_ar ws (n_v vs 0) 117) (v_iv (n_v vs 23)) := f4
  simp only [ar_0_22_1, ar_0_33_1, ar_0_34_1, ar_0_35_1, ar_0_36_1, ar_0_37_1, ar_0_96_1, ar_0_117_1, ar_0_122_1] at f16
  have fe_0_31_1 : w_fi ws (n_v vs 0) 31 = w_fi w1 (n_v vs 0) 31 := congrArg v_iv (s1.2 _ _)
  have fe_0_32_1 : w_fi ws (n_v vs 0) 32 = w_fi w1 (n_v vs 0) 32 := congrArg v_iv (s1.2 _ _)
  have fe_0_121_1 : w_fi ws (n_v vs 0) 121 = w_fi w1 (n_v vs 0) 121 := congrArg v_iv (s1.2 _ _)
  have hE_0_22_1 : ∀ j : Int, w_ei ws (w_ar ws (n_v vs 0) 22) j = w_ei w1 (w_ar ws (n_v vs 0) 22) j := el_kp s1.1 r14 cr_0_22 (by decide)
  have hE_0_33_1 : ∀ j : Int, w_ei ws (w_ar ws (n_v vs 0) 33) j = w_ei w1 (w_ar ws (n_v vs 0) 33) j := el_kp s1.1 r14 cr_0_33 (by decide)
  have hE_0_34_1 : ∀ j : Int, w_ei ws (w_ar ws (n_v vs 0) 34) j = w_ei w1 (w_ar ws (n_v vs 0) 34) j := el_kp s1.1 r14 cr_0_34 (by decide)
  have hE_0_35_1 : ∀ j : Int, w_ei ws (w_ar ws (n_v vs 0) 35) j = w_ei w1 (w_ar ws (n_v vs 0) 35) j := el_kp s1.1 r14 cr_0_35 (by decide)
  have hE_0_36_1 : ∀ j : Int, w_ei ws (w_ar ws (n_v vs 0) 36) j = w_ei w1 (w_ar ws (n_v vs 0) 36) j := el_kp s1.1 r14 cr_0_36 (by decide)
  have hE_0_37_1 : ∀ j : Int, w_ei ws (w_ar ws (n_v vs 0) 37) j = w_ei w1 (w_ar ws (n_v vs 0) 37) j := el_kp s1.1 r14 cr_0_37 (by decide)
  have hE_0_96_1 : ∀ j : Int, w_ei ws (w_ar ws (n_v vs 0) 96) j = w_ei w1 (w_ar ws (n_v vs 0) 96) j := el_kp s1.1 r14 cr_0_96 (by decide)
  have hE_0_117_1 : ∀ j : Int, w_ei ws (w_ar ws (n_v vs 0) 117) j = w_ei w1 (w_ar ws (n_v vs 0) 117) j := el_kp s1.1 r14 cr_0_117 (by decide)
  have hE_0_122_1 : ∀ j : Int, 0 ≤ j → (j = v_iv (n_v vs 17) → w_ei ws (w_ar ws (n_v vs 0) 122) j = v_iv (n_v vs 24)) ∧ (j ≠ v_iv (n_v vs 17) → w_ei ws (w_ar ws (n_v vs 0) 122) j = w_ei w1 (w_ar ws (n_v vs 0) 122) j) := fun j hj => ⟨fun h => by unfold w_ei; rw [s1.1, if_pos ⟨ad_14.symm, by rw [h]⟩], fun h => by unfold w_ei; rw [s1.1, if_neg (fun e => h (by have := e.2; omega))]⟩
  have kz_0_31 := fdq_145 hD hth r0
  have kz_0_32 := fdq_140 hD hth r0
  have kz_0_121 := fdq_242 hD hth r0
  have nf0 : fc_1 PRD (20, [4, 5, 9, 10, 11, 3, 25], [60, 3, 9, 285, 31, 32, 121, 33, 34, 35, 36, 37, 22, 122, 96, 117]) ws (vs) := by
    refine ⟨nf_in hl rfl, sgq_1027 ?_⟩
    · show RS3 (w_fi ws (n_v vs 4) 31) (w_fi ws (n_v vs 4) 32) (w_fi ws (n_v vs 4) 121) (w_ei ws (w_ar ws (n_v vs 4) 33)) (w_ei ws (w_ar ws (n_v vs 4) 34)) (w_ei ws (w_ar ws (n_v vs 4) 35)) (w_ei ws (w_ar ws (n_v vs 4) 36)) (w_ei ws (w_ar ws (n_v vs 4) 37)) (w_ei ws (w_ar ws (n_v vs 4) 22)) (w_ei ws (w_ar ws (n_v vs 4) 122)) (w_ei ws (w_ar ws (n_v vs 4) 96)) (w_ei ws (w_ar ws (n_v vs 4) 117)) (v_iv (n_v vs 5)) (v_iv (n_v vs 9)) (v_iv (n_v vs 10)) (v_iv (n_v vs 11)) (v_iv (n_v vs 3)) (v_iv (n_v vs 25))
      rw [q4]
      exact vc_Mo_reveal_22_0 (v_iv (n_v vs 3)) (v_iv (n_v vs 5)) (v_iv (n_v vs 9)) (v_iv (n_v vs 10)) (v_iv (n_v vs 11)) (v_iv (n_v vs 12)) (v_iv (n_v vs 13)) (v_iv (n_v vs 16)) (v_iv (n_v vs 17)) (v_iv (n_v vs 19)) (v_iv (n_v vs 20)) (v_iv (n_v vs 21)) (v_iv (n_v vs 22)) (v_iv (n_v vs 23)) (v_iv (n_v vs 24)) (v_iv (n_v vs 25)) (w_ei w1 (w_ar ws (n_v vs 0) 117)) (w_ei w1 (w_ar ws (n_v vs 0) 33)) (w_ei w1 (w_ar ws (n_v vs 0) 34)) (w_ei w1 (w_ar ws (n_v vs 0) 35)) (w_ei w1 (w_ar ws (n_v vs 0) 36)) (w_ei w1 (w_ar ws (n_v vs 0) 37)) (w_ei w1 (w_ar ws (n_v vs 0) 22)) (w_ei w1 (w_ar ws (n_v vs 0) 122)) (w_ei w1 (w_ar ws (n_v vs 0) 96)) (w_fi w1 (n_v vs 0) 31) (w_fi w1 (n_v vs 0) 32) (w_fi w1 (n_v vs 0) 121) (w_fi ws (n_v vs 0) 31) (w_fi ws (n_v vs 0) 32) (w_fi ws (n_v vs 0) 121) (w_ei ws (w_ar ws (n_v vs 0) 22)) (w_ei ws (w_ar ws (n_v vs 0) 33)) (w_ei ws (w_ar ws (n_v vs 0) 34)) (w_ei ws (w_ar ws (n_v vs 0) 35)) (w_ei ws (w_ar ws (n_v vs 0) 36)) (w_ei ws (w_ar ws (n_v vs 0) 37)) (w_ei ws (w_ar ws (n_v vs 0) 96)) (w_ei ws (w_ar ws (n_v vs 0) 117)) (w_ei ws (w_ar ws (n_v vs 0) 122)) k3 k5 k9 k10 k11 k12 k13 k16 k17 k19 k20 k21 k22 k23 k24 k25 d0 d1 d2 d8 d14 d20 d21 d22 d25 d26 f0 h4 f5 f6 f7 f8 f9 f12 f16 fe_0_31_1 fe_0_32_1 fe_0_121_1 hE_0_22_1 hE_0_33_1 hE_0_34_1 hE_0_35_1 hE_0_36_1 hE_0_37_1 hE_0_96_1 hE_0_117_1 hE_0_122_1 kz_0_31 kz_0_32 kz_0_121
  refine ⟨(fun _ h => (by cases h)), [], trivial, ?_, (fun _ h => (by cases h))⟩
  rw [List.append_nil]
  exact List.forall_mem_cons.mpr ⟨⟨show (20 : Nat) < 100 from by decide, nf0⟩, (fun _ h => (by cases h))⟩
set_option maxHeartbeats 4000000 in
theorem vc_Mo_reveal_23_r0 (x3 : Int) (x5 : Int) (x9 : Int) (x10 : Int) (x11 : Int) (x12 : Int) (x13 : Int) (x16 : Int) (x17 : Int) (x19 : Int) (x20 : Int) (x21 : Int) (x22 : Int) (x23 : Int) (row_0 : Int → Int) (pt_0 : Int → Int) (ph_0 : Int → Int) (alive_0 : Int → Int) (rotMany_0 : Int → Int) (rot_0 : Int → Int) (left_0 : Int → Int) (upperNode_0 : Int → Int) (order_0 : Int → Int) (pn_0 : Int) (pm_0 : Int) (upper_0 : Int) (k3 : 2 ≤ x3 ∧ x3 ≤ 24) (k5 : 1 ≤ x5 ∧ x5 ≤ 28) (k9 : 3 ≤ x9 ∧ x9 ≤ 80) (k10 : (-1) ≤ x10 ∧ x10 ≤ 79) (k11 : 1 ≤ x11 ∧ x11 ≤ 1) (k12 : 1 ≤ x12 ∧ x12 ≤ 78) (k13 : 1 ≤ x13 ∧ x13 ≤ 78) (k16 : 0 ≤ x16 ∧ x16 ≤ 27) (k17 : 1 ≤ x17 ∧ x17 ≤ 105) (k19 : 0 ≤ x19 ∧ x19 ≤ 157) (k20 : 0 ≤ x20 ∧ x20 ≤ 79) (k21 : 3 ≤ x21 ∧ x21 ≤ 159) (d6 : x9 + (-4294967295) ≤ x20 ∧ x20 ≤ x9 + (-1)) (d15 : x12 + (-4294967296) ≤ x17 ∧ x17 ≤ x12 + 27) (d16 : x9 + (-4294967296) ≤ x17 ∧ x17 ≤ x9 + 28) (d20 : x5 + (-1) ≤ x16 ∧ x16 ≤ x5 + (-1)) (d21 : x12 + (-4294967296) ≤ x13 ∧ x13 ≤ x12 + 0) (d22 : x12 + (-4294967296) ≤ x9 ∧ x9 ≤ x12 + 2) (d23 : x9 + (-4294967296) ≤ x10 ∧ x10 ≤ x9 + (-1)) (d25 : x9 + (-4294967296) ≤ x12 ∧ x12 ≤ x9 + (-2)) (d26 : x9 + (-4294967296) ≤ x13 ∧ x13 ≤ x9 + 1) (f2 : x21 = x20 + x9) (f3 : x20 = Int.tmod (x19) (x9)) (f4 : x19 = x10 + x13) (f7 : x17 = x16 + x13) (f11 : RS3 (pn_0) (pm_0) (upper_0) (pt_0) (ph_0) (alive_0) (rotMany_0) (rot_0) (left_0) (upperNode_0) (order_0) (row_0) (x5) (x9) (x10) (x11) (x3) (x13)) (kz_0_31 : 0 ≤ pn_0 ∧ pn_0 ≤ 25) (kz_0_32 : 0 ≤ pm_0 ∧ pm_0 ≤ 80) (kz_0_121 : 0 ≤ upper_0 ∧ upper_0 ≤ 30) : 1 ≤ x17 ∧ x17 ≤ 29 := by
  first
    | (have h := rs3_len ‹RS3 _ _ _ _ _ _ _ _ _ _ _ _ _ _ _ _ _ _›; omega)
    | (have h := rs3_len ‹RS3 _ _ _ _ _ _ _ _ _ _ _ _ _ _ _ _ _ _›
       have e := tm_wr (many := x9) (a := x20) (c := x23) (by omega) (by omega) (by omega) (by rw [‹x23 = Int.tmod x22 x9›, ‹x22 = x21 + x9›, ‹x21 = Int.tmod x20 x9›])
       have r := wr_rng (many := x9) (a := x20) (by omega) (by omega) (by omega)
       have w := rs3_row ‹RS3 _ _ _ _ _ _ _ _ _ _ _ _ _ _ _ _ _ _› (t := x23) (by omega) (by omega)
       omega)
    | (have h := rs3_len ‹RS3 _ _ _ _ _ _ _ _ _ _ _ _ _ _ _ _ _ _›
       have e := tm_wr (many := x9) (a := x19) (c := x22) (by omega) (by omega) (by omega) (by rw [‹x22 = Int.tmod x21 x9›, ‹x21 = x20 + x9›, ‹x20 = Int.tmod x19 x9›])
       have r := wr_rng (many := x9) (a := x19) (by omega) (by omega) (by omega)
       have w := rs3_row ‹RS3 _ _ _ _ _ _ _ _ _ _ _ _ _ _ _ _ _ _› (t := x22) (by omega) (by omega)
       omega)
set_option maxHeartbeats 4000000 in
theorem vc_Mo_reveal_23_r1 (x3 : Int) (x5 : Int) (x9 : Int) (x10 : Int) (x11 : Int) (x12 : Int) (x13 : Int) (x16 : Int) (x17 : Int) (x19 : Int) (x20 : Int) (x21 : Int) (x22 : Int) (x23 : Int) (row_0 : Int → Int) (pt_0 : Int → Int) (ph_0 : Int → Int) (alive_0 : Int → Int) (rotMany_0 : Int → Int) (rot_0 : Int → Int) (left_0 : Int → Int) (upperNode_0 : Int → Int) (order_0 : Int → Int) (pn_0 : Int) (pm_0 : Int) (upper_0 : Int) (k3 : 2 ≤ x3 ∧ x3 ≤ 24) (k5 : 1 ≤ x5 ∧ x5 ≤ 28) (k9 : 3 ≤ x9 ∧ x9 ≤ 80) (k10 : (-1) ≤ x10 ∧ x10 ≤ 79) (k11 : 1 ≤ x11 ∧ x11 ≤ 1) (k12 : 1 ≤ x12 ∧ x12 ≤ 78) (k13 : 1 ≤ x13 ∧ x13 ≤ 78) (k16 : 0 ≤ x16 ∧ x16 ≤ 27) (k17 : 1 ≤ x17 ∧ x17 ≤ 105) (k19 : 0 ≤ x19 ∧ x19 ≤ 157) (k20 : 0 ≤ x20 ∧ x20 ≤ 79) (k21 : 3 ≤ x21 ∧ x21 ≤ 159) (k22 : 0 ≤ x22 ∧ x22 ≤ 79) (k23 : 0 ≤ x23 ∧ x23 ≤ 75) (d0 : x9 + (-4294967295) ≤ x22 ∧ x22 ≤ x9 + (-1)) (d4 : x20 + 3 ≤ x21 ∧ x21 ≤ x20 + 80) (d21 : x12 + (-4294967296) ≤ x13 ∧ x13 ≤ x12 + 0) (d22 : x12 + (-4294967296) ≤ x9 ∧ x9 ≤ x12 + 2) (d23 : x9 + (-4294967296) ≤ x10 ∧ x10 ≤ x9 + (-1)) (d25 : x9 + (-4294967296) ≤ x12 ∧ x12 ≤ x9 + (-2)) (d26 : x9 + (-4294967296) ≤ x13 ∧ x13 ≤ x9 + 1) (h0 : x23 = row_0 (x22)) (f1 : x22 = Int.tmod (x21) (x9)) (f2 : x21 = x20 + x9) (f3 : x20 = Int.tmod (x19) (x9)) (f4 : x19 = x10 + x13) (f7 : x17 = x16 + x13) (f11 : RS3 (pn_0) (pm_0) (upper_0) (pt_0) (ph_0) (alive_0) (rotMany_0) (rot_0) (left_0) (upperNode_0) (order_0) (row_0) (x5) (x9) (x10) (x11) (x3) (x13)) (kz_0_31 : 0 ≤ pn_0 ∧ pn_0 ≤ 25) (kz_0_32 : 0 ≤ pm_0 ∧ pm_0 ≤ 80) (kz_0_121 : 0 ≤ upper_0 ∧ upper_0 ≤ 30) : 0 ≤ x23 ∧ x23 ≤ 24 := by
  first
    | (have h := rs3_len ‹RS3 _ _ _ _ _ _ _ _ _ _ _ _ _ _ _ _ _ _›; omega)
    | (have h := rs3_len ‹RS3 _ _ _ _ _ _ _ _ _ _ _ _ _ _ _ _ _ _›
       have e := tm_wr (many := x9) (a := x20) (c := x23) (by omega) (by omega) (by omega) (by rw [‹x23 = Int.tmod x22 x9›, ‹x22 = x21 + x9›, ‹x21 = Int.tmod x20 x9›])
       have r := wr_rng (many := x9) (a := x20) (by omega) (by omega) (by omega)
       have w := rs3_row ‹RS3 _ _ _ _ _ _ _ _ _ _ _ _ _ _ _ _ _ _› (t := x23) (by omega) (by omega)
       omega)
    | (have h := rs3_len ‹RS3 _ _ _ _ _ _ _ _ _ _ _ _ _ _ _ _ _ _›
       have e := tm_wr (many := x9) (a := x19) (c := x22) (by omega) (by omega) (by omega) (by rw [‹x22 = Int.tmod x21 x9›, ‹x21 = x20 + x9›, ‹x20 = Int.tmod x19 x9›])
       have r := wr_rng (many := x9) (a := x19) (by omega) (by omega) (by omega)
       have w := rs3_row ‹RS3 _ _ _ _ _ _ _ _ _ _ _ _ _ _ _ _ _ _› (t := x22) (by omega) (by omega)
       omega)
def o_Mo_reveal_23 : or_T := (281, 24, [(0, (2, 0, 0, [165])), (3, (0, 2, 24, [])), (4, (2, 0, 0, [165])), (5, (0, 1, 28, [])), (9, (0, 3, 80, [])), (10, (0, -1, 79, [])), (11, (0, 1, 1, [])), (12, (0, 1, 78, [])), (13, (0, 1, 78, [])), (14, (2, 0, 0, [253])), (15, (0, 1, 1, [])), (16, (0, 0, 27, [])), (17, (0, 1, 105, [])), (18, (2, 0, 0, [249])), (19, (0, 0, 157, [])), (20, (0, 0, 79, [])), (21, (0, 3, 159, [])), (22, (0, 0, 79, [])), (23, (0, 0, 75, []))], [(10, [23, 18, 22], []), (5, [22, 21, 9], []), (1, [21, 20, 9], []), (5, [20, 19, 9], []), (1, [19, 10, 13], []), (8, [11], [1]), (9, [18, 4], [117]), (1, [17, 16, 13], []), (2, [16, 5, 15], []), (9, [14, 4], [122]), (7, [13, 12], [5]), (20, [4, 5, 9, 10, 11, 3, 13], [60, 3, 9, 285, 31, 32, 121, 33, 34, 35, 36, 37, 22, 122, 96, 117]), (20, [12, 9], [50, 0, 0, 1, 2, 1, 0, 5, 2, 1, 1, 0, 2]), (24, [0, 4], [])], [(17, (0, 1, 29, [])), (23, (0, 0, 24, []))], [], [], [], [(22, 9, -4294967295, -1), (22, 12, -4294967296, 1), (21, 9, 0, 79), (21, 12, -4294967296, 81), (21, 20, 3, 80), (21, 9, -4294967292, 79), (20, 9, -4294967295, -1), (20, 12, -4294967296, 1), (19, 13, -1, 79), (19, 12, -4294967296, 79), (19, 9, -4294967296, 80), (19, 12, -4294967296, 82), (19, 10, 1, 78), (19, 9, -4294967296, 77), (17, 13, 0, 27), (17, 12, -4294967296, 27), (17, 9, -4294967296, 28), (17, 12, -4294967296, 30), (17, 16, 1, 78), (17, 5, 0, 77), (16, 5, -1, -1), (13, 12, -4294967296, 0), (9, 12, -4294967296, 2), (10, 9, -4294967296, -1), (10, 12, -4294967296, 1), (12, 9, -4294967296, -2), (13, 9, -4294967296, 1), (13, 12, -4294967296, 3)])
theorem oo_Mo_reveal_23 {kA : Nat → ClassId} : or_ok PRD kA GG o_Mo_reveal_23 := by
  refine or_mk fun A ta ws vs hD hth hl => ?_
  intro t0 r0 t3 k3 t4 r4 t5 k5 t9 k9 t10 k10 t11 k11 t12 k12 t13 k13 t14 r14 t15 k15 t16 k16 t17 k17 t18 r18 t19 k19 t20 k20 t21 k21 t22 k22 t23 k23 d0 d1 d2 d3 d4 d5 d6 d7 d8 d9 d10 d11 d12 d13 d14 d15 d16 d17 d18 d19 d20 d21 d22 d23 d24 d25 d26 d27 f0 f1 f2 f3 f4 f5 f6 f7 f8 f9 f10 f11 f12 f13
  replace f0 := shm_107 f0
  replace f6 := shm_713 f6
  replace f11 := shm_1027 f11
  replace f13 := shm_5 f13
  have q4 : n_v vs 4 = n_v vs 0 := f13.symm
  simp only [q4] at f6 f11
  have ad_18 : v_ad (n_v vs 18) = w_ar ws (n_v vs 0) 117 := congrArg v_ad f6
  simp only [ad_18] at f0
  have h0 : v_iv (n_v vs 23) = w_ei ws (w_ar ws (n_v vs 0) 117) (v_iv (n_v vs 22)) := f0
  have kz_0_31 := fdq_145 hD hth r0
  have kz_0_32 := fdq_140 hD hth r0
  have kz_0_121 := fdq_242 hD hth r0
  have hrf0 : 1 ≤ v_iv (n_v vs 17) ∧ v_iv (n_v vs 17) ≤ 29 := vc_Mo_reveal_23_r0 (v_iv (n_v vs 3)) (v_iv (n_v vs 5)) (v_iv (n_v vs 9)) (v_iv (n_v vs 10)) (v_iv (n_v vs 11)) (v_iv (n_v vs 12)) (v_iv (n_v vs 13)) (v_iv (n_v vs 16)) (v_iv (n_v vs 17)) (v_iv (n_v vs 19)) (v_iv (n_v vs 20)) (v_iv (n_v vs 21)) (v_iv (n_v vs 22)) (v_iv (n_v vs 23)) (w_ei ws (w_ar ws (n_v vs 0) 117)) (w_ei ws (w_ar ws (n_v vs 0) 33)) (w_ei ws (w_ar ws (n_v vs 0) 34)) (w_ei ws (w_ar ws (n_v vs 0) 35)) (w_ei ws (w_ar ws (n_v vs 0) 36)) (w_ei ws (w_ar ws (n_v vs 0) 37)) (w_ei ws (w_ar ws (n_v vs 0) 22)) (w_ei ws (w_ar ws (n_v vs 0) 122)) (w_ei ws (w_ar ws (n_v vs 0) 96)) (w_fi ws (n_v vs 0) 31) (w_fi ws (n_v vs 0) 32) (w_fi ws (n_v vs 0) 121) k3 k5 k9 k10 k11 k12 k13 k16 k17 k19 k20 k21 d6 d15 d16 d20 d21 d22 d23 d25 d26 (shm_12 f2) (shm_468 f3) (shm_12 f4) (shm_12 f7) f11 kz_0_31 kz_0_32 kz_0_121
  have hrf1 : 0 ≤ v_iv (n_v vs 23) ∧ v_iv (n_v vs 23) ≤ 24 := vc_Mo_reveal_23_r1 (v_iv (n_v vs 3)) (v_iv (n_v vs 5)) (v_iv (n_v vs 9)) (v_iv (n_v vs 10)) (v_iv (n_v vs 11)) (v_iv (n_v vs 12)) (v_iv (n_v vs 13)) (v_iv (n_v vs 16)) (v_iv (n_v vs 17)) (v_iv (n_v vs 19)) (v_iv (n_v vs 20)) (v_iv (n_v vs 21)) (v_iv (n_v vs 22)) (v_iv (n_v vs 23)) (w_ei ws (w_ar ws (n_v vs 0) 117)) (w_ei ws (w_ar ws (n_v vs 0) 33)) (w_ei ws (w_ar ws (n_v vs 0) 34)) (w_ei ws (w_ar ws (n_v vs 0) 35)) (w_ei ws (w_ar ws (n_v vs 0) 36)) (w_ei ws (w_ar ws (n_v vs 0) 37)) (w_ei ws (w_ar ws (n_v vs 0) 22)) (w_ei ws (w_ar ws (n_v vs 0) 122)) (w_ei ws (w_ar ws (n_v vs 0) 96)) (w_fi ws (n_v vs 0) 31) (w_fi ws (n_v vs 0) 32) (w_fi ws (n_v vs 0) 121) k3 k5 k9 k10 k11 k12 k13 k16 k17 k19 k20 k21 k22 k23 d0 d4 d21 d22 d23 d25 d26 h0 (shm_468 f1) (shm_12 f2) (shm_468 f3) (shm_12 f4) (shm_12 f7) f11 kz_0_31 kz_0_32 kz_0_121
  have rf17 : tv_ok ta (0, 1, 29, []) (n_v vs 17) := tv_in t17 (by first | omega | grind) (by first | omega | grind)
  have rf23 : tv_ok ta (0, 0, 24, []) (n_v vs 23) := tv_in t23 (by first | omega | grind) (by first | omega | grind)
  refine ⟨List.forall_mem_cons.mpr ⟨rf17, List.forall_mem_cons.mpr ⟨rf23, (fun _ h => (by cases h))⟩⟩, [], trivial, ?_, (fun _ h => (by cases h))⟩
  rw [List.append_nil]
  exact (fun _ h => (by cases h))

set_option maxHeartbeats 4000000 in
theorem vc_Mo_reveal_24_0 (x3 : Int) (x5 : Int) (x9 : Int) (x10 : Int) (x11 : Int) (x12 : Int) (x13 : Int) (x16 : Int) (x17 : Int) (x19 : Int) (x20 : Int) (x21 : Int) (x22 : Int) (x23 : Int) (x24 : Int) (row_1 : Int → Int) (pt_1 : Int → Int) (ph_1 : Int → Int) (alive_1 : Int → Int) (rotMany_1 : Int → Int) (rot_1 : Int → Int) (left_1 : Int → Int) (upperNode_1 : Int → Int) (order_1 : Int → Int) (pn_1 : Int) (pm_1 : Int) (upper_1 : Int) (pn_0 : Int) (pm_0 : Int) (upper_0 : Int) (left_0 : Int → Int) (pt_0 : Int → Int) (ph_0 : Int → Int) (alive_0 : Int → Int) (rotMany_0 : Int → Int) (rot_0 : Int → Int) (order_0 : Int → Int) (row_0 : Int → Int) (upperNode_0 : Int → Int) (k3 : 2 ≤ x3 ∧ x3 ≤ 24) (k5 : 1 ≤ x5 ∧ x5 ≤ 28) (k9 : 3 ≤ x9 ∧ x9 ≤ 80) (k10 : (-1) ≤ x10 ∧ x10 ≤ 79) (k11 : 1 ≤ x11 ∧ x11 ≤ 1) (k12 : 1 ≤ x12 ∧ x12 ≤ 78) (k13 : 1 ≤ x13 ∧ x13 ≤ 78) (k16 : 0 ≤ x16 ∧ x16 ≤ 27) (k17 : 1 ≤ x17 ∧ x17 ≤ 29) (k19 : 0 ≤ x19 ∧ x19 ≤ 157) (k20 : 0 ≤ x20 ∧ x20 ≤ 79) (k21 : 3 ≤ x21 ∧ x21 ≤ 159) (k22 : 0 ≤ x22 ∧ x22 ≤ 79) (k23 : 0 ≤ x23 ∧ x23 ≤ 24) (k24 : 2 ≤ x24 ∧ x24 ≤ 79) (d0 : x13 + 1 ≤ x24 ∧ x24 ≤ x13 + 1) (d1 : x12 + (-4294967296) ≤ x24 ∧ x24 ≤ x12 + 1) (d2 : x9 + (-4294967296) ≤ x24 ∧ x24 ≤ x9 + 2) (d8 : x20 + 3 ≤ x21 ∧ x21 ≤ x20 + 80) (d22 : x5 + (-1) ≤ x16 ∧ x16 ≤ x5 + (-1)) (d23 : x12 + (-4294967296) ≤ x13 ∧ x13 ≤ x12 + 0) (d24 : x12 + (-4294967296) ≤ x9 ∧ x9 ≤ x12 + 2) (d25 : x9 + (-4294967296) ≤ x10 ∧ x10 ≤ x9 + (-1)) (d27 : x9 + (-4294967296) ≤ x12 ∧ x12 ≤ x9 + (-2)) (d28 : x9 + (-4294967296) ≤ x13 ∧ x13 ≤ x9 + 1) (f0 : x24 = x13 + 1) (h4 : x23 = row_1 (x22)) (f5 : x22 = Int.tmod (x21) (x9)) (f6 : x21 = x20 + x9) (f7 : x20 = Int.tmod (x19) (x9)) (f8 : x19 = x10 + x13) (f9 : x11 ≠ 0) (f11 : x17 = x16 + x13) (f15 : RS3 (pn_1) (pm_1) (upper_1) (pt_1) (ph_1) (alive_1) (rotMany_1) (rot_1) (left_1) (upperNode_1) (order_1) (row_1) (x5) (x9) (x10) (x11) (x3) (x13)) (fe_0_31_1 : pn_0 = pn_1) (fe_0_32_1 : pm_0 = pm_1) (fe_0_121_1 : upper_0 = upper_1) (hE_0_22_1 : ∀ j : Int, left_0 j = left_1 j) (hE_0_33_1 : ∀ j : Int, pt_0 j = pt_1 j) (hE_0_34_1 : ∀ j : Int, ph_0 j = ph_1 j) (hE_0_35_1 : ∀ j : Int, alive_0 j = alive_1 j) (hE_0_36_1 : ∀ j : Int, rotMany_0 j = rotMany_1 j) (hE_0_37_1 : ∀ j : Int, rot_0 j = rot_1 j) (hE_0_96_1 : ∀ j : Int, order_0 j = order_1 j) (hE_0_117_1 : ∀ j : Int, row_0 j = row_1 j) (hE_0_122_1 : ∀ j : Int, 0 ≤ j → (j = x17 → upperNode_0 j = x23) ∧ (j ≠ x17 → upperNode_0 j = upperNode_1 j)) (kz_0_31 : 0 ≤ pn_0 ∧ pn_0 ≤ 25) (kz_0_32 : 0 ≤ pm_0 ∧ pm_0 ≤ 80) (kz_0_121 : 0 ≤ upper_0 ∧ upper_0 ≤ 30) : RS3 (pn_0) (pm_0) (upper_0) (pt_0) (ph_0) (alive_0) (rotMany_0) (rot_0) (left_0) (upperNode_0) (order_0) (row_0) (x5) (x9) (x10) (x11) (x3) (x24) := by
  subst fe_0_31_1
  subst fe_0_32_1
  subst fe_0_121_1
  have e_hE_0_22_1 := funext hE_0_22_1; subst e_hE_0_22_1
  have e_hE_0_33_1 := funext hE_0_33_1; subst e_hE_0_33_1
  have e_hE_0_34_1 := funext hE_0_34_1; subst e_hE_0_34_1
  have e_hE_0_35_1 := funext hE_0_35_1; subst e_hE_0_35_1
  have e_hE_0_36_1 := funext hE_0_36_1; subst e_hE_0_36_1
  have e_hE_0_37_1 := funext hE_0_37_1; subst e_hE_0_37_1
  have e_hE_0_96_1 := funext hE_0_96_1; subst e_hE_0_96_1
  have e_hE_0_117_1 := funext hE_0_117_1; subst e_hE_0_117_1
  first
    | exact rs3_1 ‹RS1 _ _ _ _ _ _ _ _ _ _ _ _ _ _ _ _ _ _› (by omega) (by omega) (by omega)
    | exact rs3_2 ‹RS2 _ _ _ _ _ _ _ _ _ _ _ _ _ _ _ _ _ _› (by omega) (by omega) (by omega)
    | (have h := rs3_len ‹RS3 _ _ _ _ _ _ _ _ _ _ _ _ _ _ _ _ _ _›
       have e := tm_wr (many := x9) (a := x20) (c := x23) (by omega) (by omega) (by omega) (by rw [‹x23 = Int.tmod x22 x9›, ‹x22 = x21 + x9›, ‹x21 = Int.tmod x20 x9›])
       have r := wr_rng (many := x9) (a := x20) (by omega) (by omega) (by omega)
       exact rs3_step ‹RS3 _ _ _ _ _ _ _ _ _ _ _ _ _ _ _ _ _ _› (by omega) (by omega) (by assumption) (by omega) (by assumption) (by rw [e, if_neg (by omega), show x10 - x13 = x20 by omega]))
    | (have h := rs3_len ‹RS3 _ _ _ _ _ _ _ _ _ _ _ _ _ _ _ _ _ _›
       have e := tm_wr (many := x9) (a := x19) (c := x22) (by omega) (by omega) (by omega) (by rw [‹x22 = Int.tmod x21 x9›, ‹x21 = x20 + x9›, ‹x20 = Int.tmod x19 x9›])
       have r := wr_rng (many := x9) (a := x19) (by omega) (by omega) (by omega)
       exact rs3_step ‹RS3 _ _ _ _ _ _ _ _ _ _ _ _ _ _ _ _ _ _› (by omega) (by omega) (by assumption) (by omega) (by assumption) (by rw [e, if_pos (by omega), show x10 + x13 = x19 by omega]))
def o_Mo_reveal_24 : or_T := (234, 25, [(0, (2, 0, 0, [165])), (3, (0, 2, 24, [])), (5, (0, 1, 28, [])), (9, (0, 3, 80, [])), (10, (0, -1, 79, [])), (11, (0, 1, 1, [])), (12, (0, 1, 78, [])), (13, (0, 1, 78, [])), (14, (2, 0, 0, [253])), (16, (0, 0, 27, [])), (17, (0, 1, 29, [])), (19, (0, 0, 157, [])), (20, (0, 0, 79, [])), (21, (0, 3, 159, [])), (22, (0, 0, 79, [])), (23, (0, 0, 24, [])), (24, (0, 2, 79, []))], [(6, [24, 13], [1]), (24, [0, 4], []), (100, [14, 17, 23], []), (10, [23, 18, 22], []), (5, [22, 21, 9], []), (1, [21, 20, 9], []), (5, [20, 19, 9], []), (1, [19, 10, 13], []), (8, [11], [1]), (9, [18, 4], [117]), (1, [17, 16, 13], []), (9, [14, 4], [122]), (20, [4, 5, 9, 10, 11, 3, 13], [60, 3, 9, 285, 31, 32, 121, 33, 34, 35, 36, 37, 22, 122, 96, 117])], [], [], [(20, [4, 5, 9, 10, 11, 3, 24], [60, 3, 9, 285, 31, 32, 121, 33, 34, 35, 36, 37, 22, 122, 96, 117])], [], [(24, 13, 1, 1), (24, 12, -4294967296, 1), (24, 9, -4294967296, 2), (21, 20, 3, 80), (17, 13, 0, 27), (17, 12, -4294967296, 27), (17, 16, 1, 78), (17, 5, 0, 77), (16, 5, -1, -1), (13, 12, -4294967296, 0), (9, 12, -4294967296, 2), (10, 9, -4294967296, -1), (12, 9, -4294967296, -2), (13, 9, -4294967296, 1)])
theorem oo_Mo_reveal_24 {kA : Nat → ClassId} : or_ok PRD kA GG o_Mo_reveal_24 := by
  refine or_mk fun A ta ws vs hD hth hl => ?_
  intro t0 r0 t3 k3 t5 k5 t9 k9 t10 k10 t11 k11 t12 k12 t13 k13 t14 r14 t16 k16 t17 k17 t19 k19 t20 k20 t21 k21 t22 k22 t23 k23 t24 k24 d0 d1 d2 d8 d18 d19 d20 d21 d22 d23 d24 d25 d27 d28 f0 f2 ta1 w1 le1 s1 f4 f5 f6 f7 f8 f9 f10 f11 f13 f15
  replace f0 := shm_4 f0
  replace f2 := shm_5 f2
  have s1 : (∀ b j, w_el ws b j = if b = v_ad (n_v vs 14) ∧ j = (v_iv (n_v vs 17)).toNat then v_iv (n_v vs 23) else w_el w1 b j) ∧ ∀ b k, w_fd ws b k = w_fd w1 b k := s1.2
  replace f4 := shm_107 f4
  replace f5 := shm_468 f5
  replace f6 := shm_12 f6
  replace f7 := shm_468 f7
  replace f8 := shm_12 f8
  replace f9 := shm_142 f9
  replace f10 := shm_713 f10
  replace f11 := shm_12 f11
  replace f13 := shm_1019 f13
  replace f15 := shm_1027 f15
  have q4 : n_v vs 4 = n_v vs 0 := f2.symm
  simp only [q4] at f10 f13 f15
  have ar_0_22_1 : w_ar w1 (n_v vs 0) 22 = w_ar ws (n_v vs 0) 22 := congrArg v_ad (s1.2 _ _).symm
  have cr_0_22 := fdq_240 hD hth r0
  have ar_0_33_1 : w_ar w1 (n_v vs 0) 33 = w_ar ws (n_v vs 0) 33 := congrArg v_ad (s1.2 _ _).symm
  have cr_0_33 := fdq_117 hD hth r0
  have ar_0_34_1 : w_ar w1 (n_v vs 0) 34 = w_ar ws (n_v vs 0) 34 := congrArg v_ad (s1.2 _ _).symm
  have cr_0_34 := fdq_118 hD hth r0
  have ar_0_35_1 : w_ar w1 (n_v vs 0) 35 = w_ar ws (n_v vs 0) 35 := congrArg v_ad (s1.2 _ _).symm
  have cr_0_35 := fdq_132 hD hth r0
  have ar_0_36_1 : w_ar w1 (n_v vs 0) 36 = w_ar ws (n_v vs 0) 36 := congrArg v_ad (s1.2 _ _).symm
  have cr_0_36 := fdq_167 hD hth r0
  have ar_0_37_1 : w_ar w1 (n_v vs 0) 37 = w_ar ws (n_v vs 0) 37 := congrArg v_ad (s1.2 _ _).symm
  have cr_0_37 := fdq_168 hD hth r0
  have ar_0_96_1 : w_ar w1 (n_v vs 0) 96 = w_ar ws (n_v vs 0) 96 := congrArg v_ad (s1.2 _ _).symm
  have cr_0_96 := fdq_166 hD hth r0
  have ar_0_117_1 : w_ar w1 (n_v vs 0) 117 = w_ar ws (n_v vs 0) 117 := congrArg v_ad (s1.2 _ _).symm
  have cr_0_117 := fdq_181 hD hth r0
  have ar_0_122_1 : w_ar w1 (n_v vs 0) 122 = w_ar ws (n_v vs 0) 122 := congrArg v_ad (s1.2 _ _).symm
  have ad_18 : v_ad (n_v vs 18) = w_ar ws (n_v vs 0) 117 := (congrArg v_ad f10).trans ar_0_117_1
  have ad_14 : v_ad (n_v vs 14) = w_ar ws (n_v vs 0) 122 := (congrArg v_ad f13).trans ar_0_122_1
  simp only [ad_18] at f4
  have h4 : v_iv (n_v vs 23) = w_ei w1 (w_ar ws (n_v vs 0) 117) (v_iv (n_v vs 22)) := f4
  simp only [ar_0_22_1, ar_0_33_1, ar_0_34_1, ar_0_35_1, ar_0_36_1, ar_0_37_1, ar_0_96_1, ar_0_117_1, ar_0_122_1] at f15
  have fe_0_31_1 : w_fi ws (n_v vs 0) 31 = w_fi w1 (n_v vs 0) 31 := congrArg v_iv (s1.2 _ _)
  have fe_0_32_1 : w_fi ws (n_v vs 0) 32 = w_fi w1 (n_v vs 0) 32 := congrArg v_iv (s1.2 _ _)
  have fe_0_121_1 : w_fi ws (n_v vs 0) 121 = w_fi w1 (n_v vs 0) 121 := congrArg v_iv (s1.2 _ _)
  have hE_0_22_1 : ∀ j : Int, w_ei ws (w_ar ws (n_v vs 0) 22) j = w_ei w1 (w_ar ws (n_v vs 0) 22) j := el_kp s1.1 r14 cr_0_22 (by decide)
  have hE_0_33_1 : ∀ j : Int, w_ei ws (w_ar ws (n_v vs 0) 33) j = w_ei w1 (w_ar ws (n_v vs 0) 33) j := el_kp s1.1 r14 cr_0_33 (by decide)
  have hE_0_34_1 : ∀ j : Int, w_ei ws (w_ar ws (n_v vs 0) 34) j = w_ei w1 (w_ar ws (n_v vs 0) 34) j := el_kp s1.1 r14 cr_0_34 (by decide)
  have hE_0_35_1 : ∀ j : Int, w_ei ws (w_ar ws (n_v vs 0) 35) j = w_ei w1 (w_ar ws (n_v vs 0) 35) j := el_kp s1.1 r14 cr_0_35 (by decide)
  have hE_0_36_1 : ∀ j : Int, w_ei ws (w_ar ws (n_v vs 0) 36) j = w_ei w1 (w_ar ws (n_v vs 0) 36) j := el_kp s1.1 r14 cr_0_36 (by decide)
  have hE_0_37_1 : ∀ j : Int, w_ei ws (w_ar ws (n_v vs 0) 37) j = w_ei w1 (w_ar ws (n_v vs 0) 37) j := el_kp s1.1 r14 cr_0_37 (by decide)
  have hE_0_96_1 : ∀ j : Int, w_ei ws (w_ar ws (n_v vs 0) 96) j = w_ei w1 (w_ar ws (n_v vs 0) 96) j := el_kp s1.1 r14 cr_0_96 (by decide)
  have hE_0_117_1 : ∀ j : Int, w_ei ws (w_ar ws (n_v vs 0) 117) j = w_ei w1 (w_ar ws (n_v vs 0) 117) j := el_kp s1.1 r14 cr_0_117 (by decide)
  have hE_0_122_1 : ∀ j : Int, 0 ≤ j → (j = v_iv (n_v vs 17) → w_ei ws (w_ar ws (n_v vs 0) 122) j = v_iv (n_v vs 23)) ∧ (j ≠ v_iv (n_v vs 17) → w_ei ws (w_ar ws (n_v vs 0) 122) j = w_ei w1 (w_ar ws (n_v vs 0) 122) j) := fun j hj => ⟨fun h => by unfold w_ei; rw [s1.1, if_pos ⟨ad_14.symm, by rw [h]⟩], fun h => by unfold w_ei; rw [s1.1, if_neg (fun e => h (by have := e.2; omega))]⟩
  have kz_0_31 := fdq_145 hD hth r0
  have kz_0_32 := fdq_140 hD hth r0
  have kz_0_121 := fdq_242 hD hth r0
  have nf0 : fc_1 PRD (20, [4, 5, 9, 10, 11, 3, 24], [60, 3, 9, 285, 31, 32, 121, 33, 34, 35, 36, 37, 22, 122, 96, 117]) ws (vs) := by
    refine ⟨nf_in hl rfl, sgq_1027 ?_⟩
    · show RS3 (w_fi ws (n_v vs 4) 31) (w_fi ws (n_v vs 4) 32) (w_fi ws (n_v vs 4) 121) (w_ei ws (w_ar ws (n_v vs 4) 33)) (w_ei ws (w_ar ws (n_v vs 4) 34)) (w_ei ws (w_ar ws (n_v vs 4) 35)) (w_ei ws (w_ar ws (n_v vs 4) 36)) (w_ei ws (w_ar ws (n_v vs 4) 37)) (w_ei ws (w_ar ws (n_v vs 4) 22)) (w_ei ws (w_ar ws (n_v vs 4) 122)) (w_ei ws (w_ar ws (n_v vs 4) 96)) (w_ei ws (w_ar ws (n_v vs 4) 117)) (v_iv (n_v vs 5)) (v_iv (n_v vs 9)) (v_iv (n_v vs 10)) (v_iv (n_v vs 11)) (v_iv (n_v vs 3)) (v_iv (n_v vs 24))
      rw [q4]
      exact vc_Mo_reveal_24_0 (v_iv (n_v vs 3)) (v_iv (n_v vs 5)) (v_iv (n_v vs 9)) (v_iv (n_v vs 10)) (v_iv (n_v vs 11)) (v_iv (n_v vs 12)) (v_iv (n_v vs 13)) (v_iv (n_v vs 16)) (v_iv (n_v vs 17)) (v_iv (n_v vs 19)) (v_iv (n_v vs 20)) (v_iv (n_v vs 21)) (v_iv (n_v vs 22)) (v_iv (n_v vs 23)) (v_iv (n_v vs 24)) (w_ei w1 (w_ar ws (n_v vs 0) 117)) (w_ei w1 (w_ar ws (n_v vs 0) 33)) (w_ei w1 (w_ar ws (n_v vs 0) 34)) (w_ei w1 (w_ar ws (n_v vs 0) 35)) (w_ei w1 (w_ar ws (n_v vs 0) 36)) (w_ei w1 (w_ar ws (n_v vs 0) 37)) (w_ei w1 (w_ar ws (n_v vs 0) 22)) (w_ei w1 (w_ar ws (n_v vs 0) 122)) (w_ei w1 (w_ar ws (n_v vs 0) 96)) (w_fi w1 (n_v vs 0) 31) (w_fi w1 (n_v vs 0) 32) (w_fi w1 (n_v vs 0) 121) (w_fi ws (n_v vs 0) 31) (w_fi ws (n_v vs 0) 32) (w_fi ws (n_v vs 0) 121) (w_ei ws (w_ar ws (n_v vs 0) 22)) (w_ei ws (w_ar ws (n_v vs 0) 33)) (w_ei ws (w_ar ws (n_v vs 0) 34)) (w_ei ws (w_ar ws (n_v vs 0) 35)) (w_ei ws (w_ar ws (n_v vs 0) 36)) (w_ei ws (w_ar ws (n_v vs 0) 37)) (w_ei ws (w_ar ws (n_v vs 0) 96)) (w_ei ws (w_ar ws (n_v vs 0) 117)) (w_ei ws (w_ar ws (n_v vs 0) 122)) k3 k5 k9 k10 k11 k12 k13 k16 k17 k19 k20 k21 k22 k23 k24 d0 d1 d2 d8 d22 d23 d24 d25 d27 d28 f0 h4 f5 f6 f7 f8 f9 f11 f15 fe_0_31_1 fe_0_32_1 fe_0_121_1 hE_0_22_1 hE_0_33_1 hE_0_34_1 hE_0_35_1 hE_0_36_1 hE_0_37_1 hE_0_96_1 hE_0_117_1 hE_0_122_1 kz_0_31 kz_0_32 kz_0_121
  refine ⟨(fun _ h => (by cases h)), [], trivial, ?_, (fun _ h => (by cases h))⟩
  rw [List.append_nil]
  exact List.forall_mem_cons.mpr ⟨⟨show (20 : Nat) < 100 from by decide, nf0⟩, (fun _ h => (by cases h))⟩
def n_Mo_reveal_an : List an_T := [(28, [(0, (2, 0, 0, [165])), (1, (0, 1, 28, [])), (2, (0, 0, 24, [])), (3, (0, 0, 24, [])), (4, (0, 0, 24, [])), (5, (0, 0, 80, [])), (6, (0, (Int.negSucc 0), 79, [])), (7, (0, 0, 80, []))], [], (0, 0), [(0, 0, 99972), (1, 11, 80), (0, 0, 100000)], [(1, 5, (Int.negSucc 999999999999), 0), (2, 6, (Int.negSucc 999999999999), 0), (5, 1, (Int.negSucc 999999999999), 0), (6, 2, (Int.negSucc 999999999999), 0), (9, 11, (Int.negSucc 999999999999), 0), (10, 9, (Int.negSucc 999999999999), (Int.negSucc 0)), (10, 11, (Int.negSucc 999999999999), (Int.negSucc 0))], [], [(2, 0, 0, [165]), (0, 1, 28, []), (0, 0, 24, []), (0, 2, 24, [])], 0, [], [(20, [4, 5, 6, 7, 9, 10, 11, 3], [60, 3, 9, 281, 31, 32, 121, 33, 34, 35, 36, 37, 22, 122, 96, 117]), (20, [8, 4, 5], [50, 0, 1, 1122, 1, 2, 1, 0, 3, 1, 122, 4, 2, 1, 2, 0, 1]), (24, [0, 4], [])]), (145, [(0, (2, 0, 0, [165])), (1, (0, 1, 28, [])), (2, (0, 0, 24, [])), (3, (0, 0, 24, [])), (4, (0, 0, 24, [])), (5, (0, 2, 2, [])), (6, (0, (Int.negSucc 0), 79, [])), (7, (0, 0, 1, [])), (8, (0, 0, 0, [])), (9, (0, 2, 30, []))], [], (0, 0), [(0, 0, 99855), (1, 13, 30), (0, 0, 100000)], [(1, 5, (Int.negSucc 999999999999), 0), (1, 13, (Int.negSucc 999999999999), (Int.negSucc 0)), (2, 6, (Int.negSucc 999999999999), 0), (5, 1, (Int.negSucc 999999999999), 0), (5, 13, (Int.negSucc 999999999999), (Int.negSucc 0)), (6, 2, (Int.negSucc 999999999999), 0), (10, 1, (Int.negSucc 999999999999), 0), (10, 2, (Int.negSucc 999999999999), 1), (10, 3, (Int.negSucc 999999999999), (Int.negSucc 0)), (10, 5, (Int.negSucc 999999999999), 0), (10, 6, (Int.negSucc 999999999999), 1), (10, 7, (Int.negSucc 999999999999), 1), (10, 8, (Int.negSucc 999999999999), 1), (10, 9, (Int.negSucc 999999999999), (Int.negSucc 0)), (10, 11, (Int.negSucc 999999999999), 1), (10, 12, (Int.negSucc 999999999999), 1), (10, 13, (Int.negSucc 999999999999), (Int.negSucc 0))], [], [(2, 0, 0, [165]), (0, 1, 28, []), (0, 0, 24, []), (0, 2, 24, [])], 0, [], [(20, [4, 5, 9, 10, 11, 3, 13], [60, 3, 9, 283, 31, 32, 121, 33, 34, 35, 36, 37, 22, 122, 96, 117]), (20, [12, 9], [50, 0, 0, 1, 2, 1, 0, 5, 2, 1, 1, 0, 2]), (24, [0, 4], [])]), (187, [(0, (2, 0, 0, [165])), (1, (0, 1, 28, [])), (2, (0, 0, 24, [])), (3, (0, 0, 24, [])), (4, (0, 0, 24, [])), (5, (0, 3, 80, [])), (6, (0, (Int.negSucc 0), 79, [])), (7, (0, 0, 1, [])), (8, (0, 1, 78, [])), (9, (0, (Int.negSucc 0), 29, []))], [], (0, 0), [(0, 0, 99813), (2, 13, (Int.negSucc 0)), (0, 0, 100000)], [(1, 5, (Int.negSucc 999999999999), 0), (2, 6, (Int.negSucc 999999999999), 0), (5, 1, (Int.negSucc 999999999999), 0), (6, 2, (Int.negSucc 999999999999), 0), (9, 12, (Int.negSucc 999999999999), 2), (10, 9, (Int.negSucc 999999999999), (Int.negSucc 0)), (10, 12, (Int.negSucc 999999999999), 1), (12, 9, (Int.negSucc 999999999999), (Int.negSucc 1))], [], [(2, 0, 0, [165]), (0, 1, 28, []), (0, 0, 24, []), (0, 2, 24, [])], 0, [], [(20, [4, 5, 9, 10, 11, 3, 13], [60, 3, 9, 284, 31, 32, 121, 33, 34, 35, 36, 37, 22, 122, 96, 117]), (20, [12, 9], [50, 0, 0, 1, 2, 1, 0, 5, 2, 1, 1, 0, 2]), (24, [0, 4], [])]), (234, [(0, (2, 0, 0, [165])), (1, (0, 1, 28, [])), (2, (0, 0, 24, [])), (3, (0, 0, 24, [])), (4, (0, 0, 24, [])), (5, (0, 2, 80, [])), (6, (0, (Int.negSucc 0), 79, [])), (7, (0, 0, 1, [])), (8, (0, 0, 78, [])), (9, (0, 1, 79, []))], [], (0, 0), [(0, 0, 99766), (1, 13, 79), (0, 0, 100000)], [(1, 5, (Int.negSucc 999999999999), 0), (2, 6, (Int.negSucc 999999999999), 0), (5, 1, (Int.negSucc 999999999999), 0), (6, 2, (Int.negSucc 999999999999), 0), (9, 12, (Int.negSucc 999999999999), 2), (10, 9, (Int.negSucc 999999999999), (Int.negSucc 0)), (10, 12, (Int.negSucc 999999999999), 1), (12, 9, (Int.negSucc 999999999999), (Int.negSucc 1)), (13, 9, (Int.negSucc 999999999999), 1), (13, 12, (Int.negSucc 999999999999), 3)], [], [(2, 0, 0, [165]), (0, 1, 28, []), (0, 0, 24, []), (0, 2, 24, [])], 0, [], [(20, [4, 5, 9, 10, 11, 3, 13], [60, 3, 9, 285, 31, 32, 121, 33, 34, 35, 36, 37, 22, 122, 96, 117]), (20, [12, 9], [50, 0, 0, 1, 2, 1, 0, 5, 2, 1, 1, 0, 2]), (24, [0, 4], [])])]
def t_Mo_reveal_ct : ct_L := [(1, 603, e_Mo_across1)]
set_option maxRecDepth 100000 in
theorem c_Mo_reveal {l : Launch} {D : va_G} {kA : Nat → ClassId} (h_Mo_across1 : ct_ok PRD l D kA GG y_Mo_across1 z_Mo_across1 e_Mo_across1) : ct_ok PRD l D kA GG y_Mo_reveal z_Mo_reveal e_Mo_reveal := chk_all_ok (FT := [(48, 13, 22), (66, 13, 36), (69, 13, 37), (265, 13, 117), (278, 13, 122), (904, 13, 121)]) (PT := [(904, 13, 121, .int)]) (CT := t_Mo_reveal_ct) (KT := []) (NT := []) (AN := n_Mo_reveal_an) (OT := [o_Mo_reveal_0, o_Mo_reveal_1, o_Mo_reveal_2, o_Mo_reveal_3, o_Mo_reveal_4, o_Mo_reveal_5, o_Mo_reveal_6, o_Mo_reveal_7, o_Mo_reveal_8, o_Mo_reveal_9, o_Mo_reveal_10, o_Mo_reveal_11, o_Mo_reveal_12, o_Mo_reveal_13, o_Mo_reveal_14, o_Mo_reveal_15, o_Mo_reveal_16, o_Mo_reveal_17, o_Mo_reveal_18, o_Mo_reveal_19, o_Mo_reveal_20, o_Mo_reveal_21, o_Mo_reveal_22, o_Mo_reveal_23, o_Mo_reveal_24]) 3 896 (List.forall_mem_cons.mpr ⟨oo_Mo_reveal_0, List.forall_mem_cons.mpr ⟨oo_Mo_reveal_1, List.forall_mem_cons.mpr ⟨oo_Mo_reveal_2, List.forall_mem_cons.mpr ⟨oo_Mo_reveal_3, List.forall_mem_cons.mpr ⟨oo_Mo_reveal_4, List.forall_mem_cons.mpr ⟨oo_Mo_reveal_5, List.forall_mem_cons.mpr ⟨oo_Mo_reveal_6, List.forall_mem_cons.mpr ⟨oo_Mo_reveal_7, List.forall_mem_cons.mpr ⟨oo_Mo_reveal_8, List.forall_mem_cons.mpr ⟨oo_Mo_reveal_9, List.forall_mem_cons.mpr ⟨oo_Mo_reveal_10, List.forall_mem_cons.mpr ⟨oo_Mo_reveal_11, List.forall_mem_cons.mpr ⟨oo_Mo_reveal_12, List.forall_mem_cons.mpr ⟨oo_Mo_reveal_13, List.forall_mem_cons.mpr ⟨oo_Mo_reveal_14, List.forall_mem_cons.mpr ⟨oo_Mo_reveal_15, List.forall_mem_cons.mpr ⟨oo_Mo_reveal_16, List.forall_mem_cons.mpr ⟨oo_Mo_reveal_17, List.forall_mem_cons.mpr ⟨oo_Mo_reveal_18, List.forall_mem_cons.mpr ⟨oo_Mo_reveal_19, List.forall_mem_cons.mpr ⟨oo_Mo_reveal_20, List.forall_mem_cons.mpr ⟨oo_Mo_reveal_21, List.forall_mem_cons.mpr ⟨oo_Mo_reveal_22, List.forall_mem_cons.mpr ⟨oo_Mo_reveal_23, List.forall_mem_cons.mpr ⟨oo_Mo_reveal_24, List.forall_mem_nil _⟩⟩⟩⟩⟩⟩⟩⟩⟩⟩⟩⟩⟩⟩⟩⟩⟩⟩⟩⟩⟩⟩⟩⟩⟩) (by decide +kernel) ⟨List.forall_mem_cons.mpr ⟨gf_Mo_48, List.forall_mem_cons.mpr ⟨gf_Mo_66, List.forall_mem_cons.mpr ⟨gf_Mo_69, List.forall_mem_cons.mpr ⟨gf_Mo_265, List.forall_mem_cons.mpr ⟨gf_Mo_278, List.forall_mem_cons.mpr ⟨gf_Mo_904, List.forall_mem_nil _⟩⟩⟩⟩⟩⟩, List.forall_mem_cons.mpr ⟨pf_Mo_904, List.forall_mem_nil _⟩, List.forall_mem_cons.mpr ⟨cl_virtual (y := y_Mo_across1) (ci := 13) rfl rfl ⟨_, _, rfl⟩ (by decide +kernel) h_Mo_across1 wm_3163 wm_9 wm_3160 wm_3162 wv_15_0 ⟨by decide, by decide, by decide +kernel⟩ (by decide), List.forall_mem_nil _⟩, List.forall_mem_nil _, List.forall_mem_nil _, GG_pl⟩ (by decide +kernel)
set_option maxHeartbeats 4000000 in
theorem vc_Mo_styleOpen_at_f0_0_r0 (x1 : Int) (x4 : Int) (opened_0 : Int) (k1 : 0 ≤ x1 ∧ x1 ≤ 13) (k4 : 0 ≤ x4 ∧ x4 ≤ 13) (g0 : x1 = opened_0) (f1 : 1 * opened_0 + 0 ≤ 0) (f2 : (-1) * opened_0 + 0 ≤ 0) (f3 : opened_0 = x4) (kz_0_159 : 0 ≤ opened_0 ∧ opened_0 ≤ 13) : 0 ≤ x1 ∧ x1 ≤ 0 := by
  first | assumption | omega | grind
def o_Mo_styleOpen_at_f0_0 : or_T := (6, 6, [(0, (2, 0, 0, [165])), (1, (0, 0, 13, [])), (4, (0, 0, 13, []))], [(9, [1, 0], [159]), (20, [0], [30, 0, 1, 1, 159]), (20, [0], [30, 0, -1, 1, 159]), (20, [0, 4], [50, 1, 0, 159, 1, 3, 2, 0, 159, 1, 1])], [(1, (0, 0, 0, []))], [], [], [], [])
theorem oo_Mo_styleOpen_at_f0_0 {kA : Nat → ClassId} : or_ok PRD kA GG o_Mo_styleOpen_at_f0_0 := by
  refine or_mk fun A ta ws vs hD hth hl => ?_
  intro t0 r0 t1 k1 t4 k4 f0 f1 f2 f3
  replace f0 := shm_317 f0
  have g0 : v_iv (n_v vs 1) = w_fi ws (n_v vs 0) 159 := congrArg v_iv f0
  have kz_0_159 := fdq_37 hD hth r0
  have hrf0 : 0 ≤ v_iv (n_v vs 1) ∧ v_iv (n_v vs 1) ≤ 0 := vc_Mo_styleOpen_at_f0_0_r0 (v_iv (n_v vs 1)) (v_iv (n_v vs 4)) (w_fi ws (n_v vs 0) 159) k1 k4 g0 (shm_1029 f1) (shm_1030 f2) (shm_278 f3) kz_0_159
  have rf1 : tv_ok ta (0, 0, 0, []) (n_v vs 1) := tv_in t1 (by first | omega | grind) (by first | omega | grind)
  refine ⟨List.forall_mem_cons.mpr ⟨rf1, (fun _ h => (by cases h))⟩, [], trivial, ?_, (fun _ h => (by cases h))⟩
  rw [List.append_nil]
  exact (fun _ h => (by cases h))
set_option maxHeartbeats 4000000 in
theorem vc_Mo_styleOpen_at_f0_2_0 (x1 : Int) (x2 : Int) (x4 : Int) (x5 : Int) (x6 : Int) (x7 : Int) (x8 : Int) (x9 : Int) (x10 : Int) (cur_0 : Int) (opened_0 : Int) (cur_1 : Int) (tokenKind_1 : Int → Int) (tokens_1 : Int) (opened_2 : Int) (tokenKind_2 : Int → Int) (cur_2 : Int) (tokens_2 : Int) (tokens_0 : Int) (opened_1 : Int) (tokenKind_0 : Int → Int) (k1 : 0 ≤ x1 ∧ x1 ≤ 0) (k2 : 0 ≤ x2 ∧ x2 ≤ 2009) (k4 : 0 ≤ x4 ∧ x4 ≤ 13) (k5 : 12 ≤ x5 ∧ x5 ≤ 12) (k6 : 1 ≤ x6 ∧ x6 ≤ 1) (k7 : 1 ≤ x7 ∧ x7 ≤ 1) (k8 : 0 ≤ x8 ∧ x8 ≤ 2009) (k9 : 1 ≤ x9 ∧ x9 ≤ 1) (k10 : 1 ≤ x10 ∧ x10 ≤ 2009) (d0 : x8 + 1 ≤ x10 ∧ x10 ≤ x8 + 1) (g0 : x10 = cur_0) (g1 : x7 = opened_0) (f3 : x10 = x8 + x9) (g4 : x8 = cur_1) (f5 : ((cur_1 + 1) ≤ tokens_1) ∧ ((tokens_1 ≤ 2010) ∧ ((tokenKind_1 ((tokens_1 - 1)) = 0) ∨ (tokenKind_1 ((tokens_1 - 1)) = 4)))) (f6 : 1 * cur_1 + ((-1) * x2 + 0) ≤ 0) (f7 : (-1) * cur_1 + (1 * x2 + 0) ≤ 0) (f8 : tokenKind_1 (cur_1) ≠ 0) (f9 : tokenKind_1 (cur_1) ≠ 4) (f11 : x7 = x1 + x6) (g12 : x1 = opened_2) (f13 : x1 ≠ x5) (f14 : ((cur_2 + 1) ≤ tokens_2) ∧ ((tokens_2 ≤ 2010) ∧ ((tokenKind_2 ((tokens_2 - 1)) = 0) ∨ (tokenKind_2 ((tokens_2 - 1)) = 4)))) (f15 : 1 * cur_2 + ((-1) * x2 + 0) ≤ 0) (f16 : (-1) * cur_2 + (1 * x2 + 0) ≤ 0) (f17 : tokenKind_2 (cur_2) ≠ 0) (f18 : tokenKind_2 (cur_2) ≠ 4) (f19 : 1 * opened_2 + 0 ≤ 0) (f20 : (-1) * opened_2 + 0 ≤ 0) (f21 : opened_2 = x4) (fe_0_157_1 : tokens_0 = tokens_1) (fe_0_158_1 : cur_0 = x10) (fe_0_159_1 : opened_0 = opened_1) (fe_0_157_2 : tokens_1 = tokens_2) (fe_0_158_2 : cur_1 = cur_2) (fe_0_159_2 : opened_1 = x7) (hE_0_160_1 : ∀ j : Int, tokenKind_0 j = tokenKind_1 j) (hE_0_160_2 : ∀ j : Int, tokenKind_1 j = tokenKind_2 j) (hK_0_160 : ∀ j : Int, 0 ≤ j → j < 2010 → 0 ≤ tokenKind_0 j ∧ tokenKind_0 j ≤ 4) (kz_0_157 : 0 ≤ tokens_0 ∧ tokens_0 ≤ 2010) (kz_0_158 : 0 ≤ cur_0 ∧ cur_0 ≤ 2009) (kz_0_159 : 0 ≤ opened_0 ∧ opened_0 ≤ 13) : ((cur_0 + 1) ≤ tokens_0) ∧ ((tokens_0 ≤ 2010) ∧ ((tokenKind_0 ((tokens_0 - 1)) = 0) ∨ (tokenKind_0 ((tokens_0 - 1)) = 4))) := by
  subst fe_0_157_1
  subst fe_0_159_1
  subst fe_0_157_2
  subst fe_0_158_2
  have e_hE_0_160_1 := funext hE_0_160_1; subst e_hE_0_160_1
  have e_hE_0_160_2 := funext hE_0_160_2; subst e_hE_0_160_2
  first | assumption | (clear f5 f14 hE_0_160_1 hE_0_160_2 hK_0_160; omega) | (clear hE_0_160_1 hE_0_160_2 hK_0_160; grind) | omega | grind
set_option maxHeartbeats 4000000 in
theorem vc_Mo_styleOpen_at_f0_2_1 (x1 : Int) (x2 : Int) (x4 : Int) (x5 : Int) (x6 : Int) (x7 : Int) (x8 : Int) (x9 : Int) (x10 : Int) (cur_0 : Int) (opened_0 : Int) (cur_1 : Int) (tokenKind_1 : Int → Int) (tokens_1 : Int) (opened_2 : Int) (tokenKind_2 : Int → Int) (cur_2 : Int) (tokens_2 : Int) (tokens_0 : Int) (opened_1 : Int) (tokenKind_0 : Int → Int) (k1 : 0 ≤ x1 ∧ x1 ≤ 0) (k2 : 0 ≤ x2 ∧ x2 ≤ 2009) (k4 : 0 ≤ x4 ∧ x4 ≤ 13) (k5 : 12 ≤ x5 ∧ x5 ≤ 12) (k6 : 1 ≤ x6 ∧ x6 ≤ 1) (k7 : 1 ≤ x7 ∧ x7 ≤ 1) (k8 : 0 ≤ x8 ∧ x8 ≤ 2009) (k9 : 1 ≤ x9 ∧ x9 ≤ 1) (k10 : 1 ≤ x10 ∧ x10 ≤ 2009) (d0 : x8 + 1 ≤ x10 ∧ x10 ≤ x8 + 1) (g0 : x10 = cur_0) (g1 : x7 = opened_0) (f3 : x10 = x8 + x9) (g4 : x8 = cur_1) (f5 : ((cur_1 + 1) ≤ tokens_1) ∧ ((tokens_1 ≤ 2010) ∧ ((tokenKind_1 ((tokens_1 - 1)) = 0) ∨ (tokenKind_1 ((tokens_1 - 1)) = 4)))) (f6 : 1 * cur_1 + ((-1) * x2 + 0) ≤ 0) (f7 : (-1) * cur_1 + (1 * x2 + 0) ≤ 0) (f8 : tokenKind_1 (cur_1) ≠ 0) (f9 : tokenKind_1 (cur_1) ≠ 4) (f11 : x7 = x1 + x6) (g12 : x1 = opened_2) (f13 : x1 ≠ x5) (f14 : ((cur_2 + 1) ≤ tokens_2) ∧ ((tokens_2 ≤ 2010) ∧ ((tokenKind_2 ((tokens_2 - 1)) = 0) ∨ (tokenKind_2 ((tokens_2 - 1)) = 4)))) (f15 : 1 * cur_2 + ((-1) * x2 + 0) ≤ 0) (f16 : (-1) * cur_2 + (1 * x2 + 0) ≤ 0) (f17 : tokenKind_2 (cur_2) ≠ 0) (f18 : tokenKind_2 (cur_2) ≠ 4) (f19 : 1 * opened_2 + 0 ≤ 0) (f20 : (-1) * opened_2 + 0 ≤ 0) (f21 : opened_2 = x4) (fe_0_157_1 : tokens_0 = tokens_1) (fe_0_158_1 : cur_0 = x10) (fe_0_159_1 : opened_0 = opened_1) (fe_0_157_2 : tokens_1 = tokens_2) (fe_0_158_2 : cur_1 = cur_2) (fe_0_159_2 : opened_1 = x7) (hE_0_160_1 : ∀ j : Int, tokenKind_0 j = tokenKind_1 j) (hE_0_160_2 : ∀ j : Int, tokenKind_1 j = tokenKind_2 j) (hK_0_160 : ∀ j : Int, 0 ≤ j → j < 2010 → 0 ≤ tokenKind_0 j ∧ tokenKind_0 j ≤ 4) (kz_0_157 : 0 ≤ tokens_0 ∧ tokens_0 ≤ 2010) (kz_0_158 : 0 ≤ cur_0 ∧ cur_0 ≤ 2009) (kz_0_159 : 0 ≤ opened_0 ∧ opened_0 ≤ 13) : 1 * x2 + ((-1) * cur_0 + 0) ≤ (-1) := by
  subst fe_0_157_1
  subst fe_0_159_1
  subst fe_0_157_2
  subst fe_0_158_2
  have e_hE_0_160_1 := funext hE_0_160_1; subst e_hE_0_160_1
  have e_hE_0_160_2 := funext hE_0_160_2; subst e_hE_0_160_2
  first | assumption | (clear f5 f14 hE_0_160_1 hE_0_160_2 hK_0_160; omega) | (clear hE_0_160_1 hE_0_160_2 hK_0_160; grind) | omega | grind
set_option maxHeartbeats 4000000 in
theorem vc_Mo_styleOpen_at_f0_2_2 (x1 : Int) (x2 : Int) (x4 : Int) (x5 : Int) (x6 : Int) (x7 : Int) (x8 : Int) (x9 : Int) (x10 : Int) (cur_0 : Int) (opened_0 : Int) (cur_1 : Int) (tokenKind_1 : Int → Int) (tokens_1 : Int) (opened_2 : Int) (tokenKind_2 : Int → Int) (cur_2 : Int) (tokens_2 : Int) (tokens_0 : Int) (opened_1 : Int) (tokenKind_0 : Int → Int) (k1 : 0 ≤ x1 ∧ x1 ≤ 0) (k2 : 0 ≤ x2 ∧ x2 ≤ 2009) (k4 : 0 ≤ x4 ∧ x4 ≤ 13) (k5 : 12 ≤ x5 ∧ x5 ≤ 12) (k6 : 1 ≤ x6 ∧ x6 ≤ 1) (k7 : 1 ≤ x7 ∧ x7 ≤ 1) (k8 : 0 ≤ x8 ∧ x8 ≤ 2009) (k9 : 1 ≤ x9 ∧ x9 ≤ 1) (k10 : 1 ≤ x10 ∧ x10 ≤ 2009) (d0 : x8 + 1 ≤ x10 ∧ x10 ≤ x8 + 1) (g0 : x10 = cur_0) (g1 : x7 = opened_0) (f3 : x10 = x8 + x9) (g4 : x8 = cur_1) (f5 : ((cur_1 + 1) ≤ tokens_1) ∧ ((tokens_1 ≤ 2010) ∧ ((tokenKind_1 ((tokens_1 - 1)) = 0) ∨ (tokenKind_1 ((tokens_1 - 1)) = 4)))) (f6 : 1 * cur_1 + ((-1) * x2 + 0) ≤ 0) (f7 : (-1) * cur_1 + (1 * x2 + 0) ≤ 0) (f8 : tokenKind_1 (cur_1) ≠ 0) (f9 : tokenKind_1 (cur_1) ≠ 4) (f11 : x7 = x1 + x6) (g12 : x1 = opened_2) (f13 : x1 ≠ x5) (f14 : ((cur_2 + 1) ≤ tokens_2) ∧ ((tokens_2 ≤ 2010) ∧ ((tokenKind_2 ((tokens_2 - 1)) = 0) ∨ (tokenKind_2 ((tokens_2 - 1)) = 4)))) (f15 : 1 * cur_2 + ((-1) * x2 + 0) ≤ 0) (f16 : (-1) * cur_2 + (1 * x2 + 0) ≤ 0) (f17 : tokenKind_2 (cur_2) ≠ 0) (f18 : tokenKind_2 (cur_2) ≠ 4) (f19 : 1 * opened_2 + 0 ≤ 0) (f20 : (-1) * opened_2 + 0 ≤ 0) (f21 : opened_2 = x4) (fe_0_157_1 : tokens_0 = tokens_1) (fe_0_158_1 : cur_0 = x10) (fe_0_159_1 : opened_0 = opened_1) (fe_0_157_2 : tokens_1 = tokens_2) (fe_0_158_2 : cur_1 = cur_2) (fe_0_159_2 : opened_1 = x7) (hE_0_160_1 : ∀ j : Int, tokenKind_0 j = tokenKind_1 j) (hE_0_160_2 : ∀ j : Int, tokenKind_1 j = tokenKind_2 j) (hK_0_160 : ∀ j : Int, 0 ≤ j → j < 2010 → 0 ≤ tokenKind_0 j ∧ tokenKind_0 j ≤ 4) (kz_0_157 : 0 ≤ tokens_0 ∧ tokens_0 ≤ 2010) (kz_0_158 : 0 ≤ cur_0 ∧ cur_0 ≤ 2009) (kz_0_159 : 0 ≤ opened_0 ∧ opened_0 ≤ 13) : 1 * opened_0 + 0 ≤ 1 := by
  subst fe_0_157_1
  subst fe_0_159_1
  subst fe_0_157_2
  subst fe_0_158_2
  have e_hE_0_160_1 := funext hE_0_160_1; subst e_hE_0_160_1
  have e_hE_0_160_2 := funext hE_0_160_2; subst e_hE_0_160_2
  first | assumption | (clear f5 f14 hE_0_160_1 hE_0_160_2 hK_0_160; omega) | (clear hE_0_160_1 hE_0_160_2 hK_0_160; grind) | omega | grind
set_option maxHeartbeats 4000000 in
theorem vc_Mo_styleOpen_at_f0_2_3 (x1 : Int) (x2 : Int) (x4 : Int) (x5 : Int) (x6 : Int) (x7 : Int) (x8 : Int) (x9 : Int) (x10 : Int) (cur_0 : Int) (opened_0 : Int) (cur_1 : Int) (tokenKind_1 : Int → Int) (tokens_1 : Int) (opened_2 : Int) (tokenKind_2 : Int → Int) (cur_2 : Int) (tokens_2 : Int) (tokens_0 : Int) (opened_1 : Int) (tokenKind_0 : Int → Int) (k1 : 0 ≤ x1 ∧ x1 ≤ 0) (k2 : 0 ≤ x2 ∧ x2 ≤ 2009) (k4 : 0 ≤ x4 ∧ x4 ≤ 13) (k5 : 12 ≤ x5 ∧ x5 ≤ 12) (k6 : 1 ≤ x6 ∧ x6 ≤ 1) (k7 : 1 ≤ x7 ∧ x7 ≤ 1) (k8 : 0 ≤ x8 ∧ x8 ≤ 2009) (k9 : 1 ≤ x9 ∧ x9 ≤ 1) (k10 : 1 ≤ x10 ∧ x10 ≤ 2009) (d0 : x8 + 1 ≤ x10 ∧ x10 ≤ x8 + 1) (g0 : x10 = cur_0) (g1 : x7 = opened_0) (f3 : x10 = x8 + x9) (g4 : x8 = cur_1) (f5 : ((cur_1 + 1) ≤ tokens_1) ∧ ((tokens_1 ≤ 2010) ∧ ((tokenKind_1 ((tokens_1 - 1)) = 0) ∨ (tokenKind_1 ((tokens_1 - 1)) = 4)))) (f6 : 1 * cur_1 + ((-1) * x2 + 0) ≤ 0) (f7 : (-1) * cur_1 + (1 * x2 + 0) ≤ 0) (f8 : tokenKind_1 (cur_1) ≠ 0) (f9 : tokenKind_1 (cur_1) ≠ 4) (f11 : x7 = x1 + x6) (g12 : x1 = opened_2) (f13 : x1 ≠ x5) (f14 : ((cur_2 + 1) ≤ tokens_2) ∧ ((tokens_2 ≤ 2010) ∧ ((tokenKind_2 ((tokens_2 - 1)) = 0) ∨ (tokenKind_2 ((tokens_2 - 1)) = 4)))) (f15 : 1 * cur_2 + ((-1) * x2 + 0) ≤ 0) (f16 : (-1) * cur_2 + (1 * x2 + 0) ≤ 0) (f17 : tokenKind_2 (cur_2) ≠ 0) (f18 : tokenKind_2 (cur_2) ≠ 4) (f19 : 1 * opened_2 + 0 ≤ 0) (f20 : (-1) * opened_2 + 0 ≤ 0) (f21 : opened_2 = x4) (fe_0_157_1 : tokens_0 = tokens_1) (fe_0_158_1 : cur_0 = x10) (fe_0_159_1 : opened_0 = opened_1) (fe_0_157_2 : tokens_1 = tokens_2) (fe_0_158_2 : cur_1 = cur_2) (fe_0_159_2 : opened_1 = x7) (hE_0_160_1 : ∀ j : Int, tokenKind_0 j = tokenKind_1 j) (hE_0_160_2 : ∀ j : Int, tokenKind_1 j = tokenKind_2 j) (hK_0_160 : ∀ j : Int, 0 ≤ j → j < 2010 → 0 ≤ tokenKind_0 j ∧ tokenKind_0 j ≤ 4) (kz_0_157 : 0 ≤ tokens_0 ∧ tokens_0 ≤ 2010) (kz_0_158 : 0 ≤ cur_0 ∧ cur_0 ≤ 2009) (kz_0_159 : 0 ≤ opened_0 ∧ opened_0 ≤ 13) : (-1) * opened_0 + 0 ≤ (-1) := by
  subst fe_0_157_1
  subst fe_0_159_1
  subst fe_0_157_2
  subst fe_0_158_2
  have e_hE_0_160_1 := funext hE_0_160_1; subst e_hE_0_160_1
  have e_hE_0_160_2 := funext hE_0_160_2; subst e_hE_0_160_2
  first | assumption | (clear f5 f14 hE_0_160_1 hE_0_160_2 hK_0_160; omega) | (clear hE_0_160_1 hE_0_160_2 hK_0_160; grind) | omega | grind
set_option maxHeartbeats 4000000 in
theorem vc_Mo_styleOpen_at_f0_2_4 (x1 : Int) (x2 : Int) (x4 : Int) (x5 : Int) (x6 : Int) (x7 : Int) (x8 : Int) (x9 : Int) (x10 : Int) (cur_0 : Int) (opened_0 : Int) (cur_1 : Int) (tokenKind_1 : Int → Int) (tokens_1 : Int) (opened_2 : Int) (tokenKind_2 : Int → Int) (cur_2 : Int) (tokens_2 : Int) (tokens_0 : Int) (opened_1 : Int) (tokenKind_0 : Int → Int) (k1 : 0 ≤ x1 ∧ x1 ≤ 0) (k2 : 0 ≤ x2 ∧ x2 ≤ 2009) (k4 : 0 ≤ x4 ∧ x4 ≤ 13) (k5 : 12 ≤ x5 ∧ x5 ≤ 12) (k6 : 1 ≤ x6 ∧ x6 ≤ 1) (k7 : 1 ≤ x7 ∧ x7 ≤ 1) (k8 : 0 ≤ x8 ∧ x8 ≤ 2009) (k9 : 1 ≤ x9 ∧ x9 ≤ 1) (k10 : 1 ≤ x10 ∧ x10 ≤ 2009) (d0 : x8 + 1 ≤ x10 ∧ x10 ≤ x8 + 1) (g0 : x10 = cur_0) (g1 : x7 = opened_0) (f3 : x10 = x8 + x9) (g4 : x8 = cur_1) (f5 : ((cur_1 + 1) ≤ tokens_1) ∧ ((tokens_1 ≤ 2010) ∧ ((tokenKind_1 ((tokens_1 - 1)) = 0) ∨ (tokenKind_1 ((tokens_1 - 1)) = 4)))) (f6 : 1 * cur_1 + ((-1) * x2 + 0) ≤ 0) (f7 : (-1) * cur_1 + (1 * x2 + 0) ≤ 0) (f8 : tokenKind_1 (cur_1) ≠ 0) (f9 : tokenKind_1 (cur_1) ≠ 4) (f11 : x7 = x1 + x6) (g12 : x1 = opened_2) (f13 : x1 ≠ x5) (f14 : ((cur_2 + 1) ≤ tokens_2) ∧ ((tokens_2 ≤ 2010) ∧ ((tokenKind_2 ((tokens_2 - 1)) = 0) ∨ (tokenKind_2 ((tokens_2 - 1)) = 4)))) (f15 : 1 * cur_2 + ((-1) * x2 + 0) ≤ 0) (f16 : (-1) * cur_2 + (1 * x2 + 0) ≤ 0) (f17 : tokenKind_2 (cur_2) ≠ 0) (f18 : tokenKind_2 (cur_2) ≠ 4) (f19 : 1 * opened_2 + 0 ≤ 0) (f20 : (-1) * opened_2 + 0 ≤ 0) (f21 : opened_2 = x4) (fe_0_157_1 : tokens_0 = tokens_1) (fe_0_158_1 : cur_0 = x10) (fe_0_159_1 : opened_0 = opened_1) (fe_0_157_2 : tokens_1 = tokens_2) (fe_0_158_2 : cur_1 = cur_2) (fe_0_159_2 : opened_1 = x7) (hE_0_160_1 : ∀ j : Int, tokenKind_0 j = tokenKind_1 j) (hE_0_160_2 : ∀ j : Int, tokenKind_1 j = tokenKind_2 j) (hK_0_160 : ∀ j : Int, 0 ≤ j → j < 2010 → 0 ≤ tokenKind_0 j ∧ tokenKind_0 j ≤ 4) (kz_0_157 : 0 ≤ tokens_0 ∧ tokens_0 ≤ 2010) (kz_0_158 : 0 ≤ cur_0 ∧ cur_0 ≤ 2009) (kz_0_159 : 0 ≤ opened_0 ∧ opened_0 ≤ 13) : cur_0 = (x2 + 1) := by
  subst fe_0_157_1
  subst fe_0_159_1
  subst fe_0_157_2
  subst fe_0_158_2
  have e_hE_0_160_1 := funext hE_0_160_1; subst e_hE_0_160_1
  have e_hE_0_160_2 := funext hE_0_160_2; subst e_hE_0_160_2
  first | assumption | (clear f5 f14 hE_0_160_1 hE_0_160_2 hK_0_160; omega) | (clear hE_0_160_1 hE_0_160_2 hK_0_160; grind) | omega | grind
def o_Mo_styleOpen_at_f0_2 : or_T := (43, 11, [(0, (2, 0, 0, [165])), (1, (0, 0, 0, [])), (2, (0, 0, 2009, [])), (4, (0, 0, 13, [])), (5, (0, 12, 12, [])), (6, (0, 1, 1, [])), (7, (0, 1, 1, [])), (8, (0, 0, 2009, [])), (9, (0, 1, 1, [])), (10, (0, 1, 2009, []))], [(9, [10, 0], [158]), (9, [7, 0], [159]), (101, [0, 10], [158]), (1, [10, 8, 9], []), (9, [8, 0], [158]), (20, [0], [50, 2, 1, 158, 157, 160, 2, 12, 0, 7, 4, 3, 2, 0, 158, 0, 1, 2, 0, 157, 2, 7, 0, 3, 2, 0, 157, 0, 2010, 3, 14, 1, 10, 3, 0, 160, 5, 3, 2, 0, 157, 0, 1, 0, 0, 1, 10, 3, 0, 160, 5, 3, 2, 0, 157, 0, 1, 0, 4]), (20, [0, 2], [30, 0, 1, 1, 158, -1, 0, 0]), (20, [0, 2], [30, 0, -1, 1, 158, 1, 0, 0]), (20, [0], [50, 1, 1, 158, 160, 7, 6, 3, 0, 160, 2, 0, 158, 0, 0]), (20, [0], [50, 1, 1, 158, 160, 7, 6, 3, 0, 160, 2, 0, 158, 0, 4]), (101, [0, 7], [159]), (1, [7, 1, 6], []), (9, [1, 0], [159]), (7, [1, 5], [1]), (20, [0], [50, 2, 1, 158, 157, 160, 2, 12, 0, 7, 4, 3, 2, 0, 158, 0, 1, 2, 0, 157, 2, 7, 0, 3, 2, 0, 157, 0, 2010, 3, 14, 1, 10, 3, 0, 160, 5, 3, 2, 0, 157, 0, 1, 0, 0, 1, 10, 3, 0, 160, 5, 3, 2, 0, 157, 0, 1, 0, 4]), (20, [0, 2], [30, 0, 1, 1, 158, -1, 0, 0]), (20, [0, 2], [30, 0, -1, 1, 158, 1, 0, 0]), (20, [0], [50, 1, 1, 158, 160, 7, 6, 3, 0, 160, 2, 0, 158, 0, 0]), (20, [0], [50, 1, 1, 158, 160, 7, 6, 3, 0, 160, 2, 0, 158, 0, 4]), (20, [0], [30, 0, 1, 1, 159]), (20, [0], [30, 0, -1, 1, 159]), (20, [0, 4], [50, 1, 0, 159, 1, 3, 2, 0, 159, 1, 1])], [], [], [(20, [0], [50, 2, 1, 158, 157, 160, 2, 12, 0, 7, 4, 3, 2, 0, 158, 0, 1, 2, 0, 157, 2, 7, 0, 3, 2, 0, 157, 0, 2010, 3, 14, 1, 10, 3, 0, 160, 5, 3, 2, 0, 157, 0, 1, 0, 0, 1, 10, 3, 0, 160, 5, 3, 2, 0, 157, 0, 1, 0, 4]), (20, [2, 0], [30, -1, 1, 0, 0, -1, 1, 158]), (20, [0], [30, 1, 1, 1, 159]), (20, [0], [30, -1, -1, 1, 159]), (20, [0, 2], [50, 1, 0, 158, 1, 3, 2, 0, 158, 4, 2, 1, 1, 0, 1])], [], [(10, 8, 1, 1)])
theorem oo_Mo_styleOpen_at_f0_2 {kA : Nat → ClassId} : or_ok PRD kA GG o_Mo_styleOpen_at_f0_2 := by
  refine or_mk fun A ta ws vs hD hth hl => ?_
  intro t0 r0 t1 k1 t2 k2 t4 k4 t5 k5 t6 k6 t7 k7 t8 k8 t9 k9 t10 k10 d0 f0 f1 ta1 w1 le1 s1 f3 f4 f5 f6 f7 f8 f9 ta2 w2 le2 s2 f11 f12 f13 f14 f15 f16 f17 f18 f19 f20 f21
  replace f0 := shm_286 f0
  replace f1 := shm_317 f1
  have s1 : (∀ b j, w_el ws b j = w_el w1 b j) ∧ ∀ b j, w_fd ws b j = if b = v_ad (n_v vs 0) ∧ j = 158 then n_v vs 10 else w_fd w1 b j := s1.2
  replace f4 := shm_286 f4
  replace f5 := shm_271 f5
  replace f8 := shm_310 f8
  replace f9 := shm_311 f9
  have s2 : (∀ b j, w_el w1 b j = w_el w2 b j) ∧ ∀ b j, w_fd w1 b j = if b = v_ad (n_v vs 0) ∧ j = 159 then n_v vs 7 else w_fd w2 b j := s2.2
  replace f12 := shm_317 f12
  replace f14 := shm_271 f14
  replace f17 := shm_310 f17
  replace f18 := shm_311 f18
  have ar_0_160_1 : w_ar w1 (n_v vs 0) 160 = w_ar ws (n_v vs 0) 160 := by show v_ad (w_fd w1 _ _) = v_ad (w_fd ws _ _); rw [s1.2, if_neg (fun e => absurd e.2 (by decide))]
  have ar_0_160_2 : w_ar w2 (n_v vs 0) 160 = w_ar ws (n_v vs 0) 160 := by rw [← ar_0_160_1]; show v_ad (w_fd w2 _ _) = v_ad (w_fd w1 _ _); rw [s2.2, if_neg (fun e => absurd e.2 (by decide))]
  have cr_0_160 := fdq_33 hD hth r0
  have g0 : v_iv (n_v vs 10) = w_fi ws (n_v vs 0) 158 := congrArg v_iv f0
  have g1 : v_iv (n_v vs 7) = w_fi ws (n_v vs 0) 159 := congrArg v_iv f1
  have g4 : v_iv (n_v vs 8) = w_fi w1 (n_v vs 0) 158 := congrArg v_iv f4
  simp only [ar_0_160_1] at f5 f8 f9
  have g12 : v_iv (n_v vs 1) = w_fi w2 (n_v vs 0) 159 := congrArg v_iv f12
  simp only [ar_0_160_2] at f14 f17 f18
  have fe_0_157_1 : w_fi ws (n_v vs 0) 157 = w_fi w1 (n_v vs 0) 157 := by show v_iv (w_fd _ _ _) = v_iv (w_fd _ _ _); rw [s1.2, if_neg (fun e => absurd e.2 (by decide))]
  have fe_0_158_1 : w_fi ws (n_v vs 0) 158 = v_iv (n_v vs 10) := by show v_iv (w_fd _ _ _) = _; rw [s1.2, if_pos ⟨rfl, rfl⟩]
  have fe_0_159_1 : w_fi ws (n_v vs 0) 159 = w_fi w1 (n_v vs 0) 159 := by show v_iv (w_fd _ _ _) = v_iv (w_fd _ _ _); rw [s1.2, if_neg (fun e => absurd e.2 (by decide))]
  have fe_0_157_2 : w_fi w1 (n_v vs 0) 157 = w_fi w2 (n_v vs 0) 157 := by show v_iv (w_fd _ _ _) = v_iv (w_fd _ _ _); rw [s2.2, if_neg (fun e => absurd e.2 (by decide))]
  have fe_0_158_2 : w_fi w1 (n_v vs 0) 158 = w_fi w2 (n_v vs 0) 158 := by show v_iv (w_fd _ _ _) = v_iv (w_fd _ _ _); rw [s2.2, if_neg (fun e => absurd e.2 (by decide))]
  have fe_0_159_2 : w_fi w1 (n_v vs 0) 159 = v_iv (n_v vs 7) := by show v_iv (w_fd _ _ _) = _; rw [s2.2, if_pos ⟨rfl, rfl⟩]
  have hE_0_160_1 : ∀ j : Int, w_ei ws (w_ar ws (n_v vs 0) 160) j = w_ei w1 (w_ar ws (n_v vs 0) 160) j := fun j => s1.1 _ _
  have hE_0_160_2 : ∀ j : Int, w_ei w1 (w_ar ws (n_v vs 0) 160) j = w_ei w2 (w_ar ws (n_v vs 0) 160) j := fun j => s2.1 _ _
  have hK_0_160 := elq_6 hD hth cr_0_160
  have kz_0_157 := fdq_35 hD hth r0
  have kz_0_158 := fdq_36 hD hth r0
  have kz_0_159 := fdq_37 hD hth r0
  have nf0 : fc_1 PRD (20, [0], [50, 2, 1, 158, 157, 160, 2, 12, 0, 7, 4, 3, 2, 0, 158, 0, 1, 2, 0, 157, 2, 7, 0, 3, 2, 0, 157, 0, 2010, 3, 14, 1, 10, 3, 0, 160, 5, 3, 2, 0, 157, 0, 1, 0, 0, 1, 10, 3, 0, 160, 5, 3, 2, 0, 157, 0, 1, 0, 4]) ws (vs) := ⟨nf_in hl rfl, sgq_271 (vc_Mo_styleOpen_at_f0_2_0 (v_iv (n_v vs 1)) (v_iv (n_v vs 2)) (v_iv (n_v vs 4)) (v_iv (n_v vs 5)) (v_iv (n_v vs 6)) (v_iv (n_v vs 7)) (v_iv (n_v vs 8)) (v_iv (n_v vs 9)) (v_iv (n_v vs 10)) (w_fi ws (n_v vs 0) 158) (w_fi ws (n_v vs 0) 159) (w_fi w1 (n_v vs 0) 158) (w_ei w1 (w_ar ws (n_v vs 0) 160)) (w_fi w1 (n_v vs 0) 157) (w_fi w2 (n_v vs 0) 159) (w_ei w2 (w_ar ws (n_v vs 0) 160)) (w_fi w2 (n_v vs 0) 158) (w_fi w2 (n_v vs 0) 157) (w_fi ws (n_v vs 0) 157) (w_fi w1 (n_v vs 0) 159) (w_ei ws (w_ar ws (n_v vs 0) 160)) k1 k2 k4 k5 k6 k7 k8 k9 k10 d0 g0 g1 (shm_12 f3) g4 f5 (shm_272 f6) (shm_273 f7) f8 f9 (shm_12 f11) g12 (shm_40 f13) f14 (shm_272 f15) (shm_273 f16) f17 f18 (shm_1029 f19) (shm_1030 f20) (shm_278 f21) fe_0_157_1 fe_0_158_1 fe_0_159_1 fe_0_157_2 fe_0_158_2 fe_0_159_2 hE_0_160_1 hE_0_160_2 hK_0_160 kz_0_157 kz_0_158 kz_0_159)⟩
  have nf1 : fc_1 PRD (20, [2, 0], [30, -1, 1, 0, 0, -1, 1, 158]) ws (vs) := ⟨nf_in hl rfl, sgq_320 (vc_Mo_styleOpen_at_f0_2_1 (v_iv (n_v vs 1)) (v_iv (n_v vs 2)) (v_iv (n_v vs 4)) (v_iv (n_v vs 5)) (v_iv (n_v vs 6)) (v_iv (n_v vs 7)) (v_iv (n_v vs 8)) (v_iv (n_v vs 9)) (v_iv (n_v vs 10)) (w_fi ws (n_v vs 0) 158) (w_fi ws (n_v vs 0) 159) (w_fi w1 (n_v vs 0) 158) (w_ei w1 (w_ar ws (n_v vs 0) 160)) (w_fi w1 (n_v vs 0) 157) (w_fi w2 (n_v vs 0) 159) (w_ei w2 (w_ar ws (n_v vs 0) 160)) (w_fi w2 (n_v vs 0) 158) (w_fi w2 (n_v vs 0) 157) (w_fi ws (n_v vs 0) 157) (w_fi w1 (n_v vs 0) 159) (w_ei ws (w_ar ws (n_v vs 0) 160)) k1 k2 k4 k5 k6 k7 k8 k9 k10 d0 g0 g1 (shm_12 f3) g4 f5 (shm_272 f6) (shm_273 f7) f8 f9 (shm_12 f11) g12 (shm_40 f13) f14 (shm_272 f15) (shm_273 f16) f17 f18 (shm_1029 f19) (shm_1030 f20) (shm_278 f21) fe_0_157_1 fe_0_158_1 fe_0_159_1 fe_0_157_2 fe_0_158_2 fe_0_159_2 hE_0_160_1 hE_0_160_2 hK_0_160 kz_0_157 kz_0_158 kz_0_159)⟩
  have nf2 : fc_1 PRD (20, [0], [30, 1, 1, 1, 159]) ws (vs) := ⟨nf_in hl rfl, sgq_1031 (vc_Mo_styleOpen_at_f0_2_2 (v_iv (n_v vs 1)) (v_iv (n_v vs 2)) (v_iv (n_v vs 4)) (v_iv (n_v vs 5)) (v_iv (n_v vs 6)) (v_iv (n_v vs 7)) (v_iv (n_v vs 8)) (v_iv (n_v vs 9)) (v_iv (n_v vs 10)) (w_fi ws (n_v vs 0) 158) (w_fi ws (n_v vs 0) 159) (w_fi w1 (n_v vs 0) 158) (w_ei w1 (w_ar ws (n_v vs 0) 160)) (w_fi w1 (n_v vs 0) 157) (w_fi w2 (n_v vs 0) 159) (w_ei w2 (w_ar ws (n_v vs 0) 160)) (w_fi w2 (n_v vs 0) 158) (w_fi w2 (n_v vs 0) 157) (w_fi ws (n_v vs 0) 157) (w_fi w1 (n_v vs 0) 159) (w_ei ws (w_ar ws (n_v vs 0) 160)) k1 k2 k4 k5 k6 k7 k8 k9 k10 d0 g0 g1 (shm_12 f3) g4 f5 (shm_272 f6) (shm_273 f7) f8 f9 (shm_12 f11) g12 (shm_40 f13) f14 (shm_272 f15) (shm_273 f16) f17 f18 (shm_1029 f19) (shm_1030 f20) (shm_278 f21) fe_0_157_1 fe_0_158_1 fe_0_159_1 fe_0_157_2 fe_0_158_2 fe_0_159_2 hE_0_160_1 hE_0_160_2 hK_0_160 kz_0_157 kz_0_158 kz_0_159)⟩
  have nf3 : fc_1 PRD (20, [0], [30, -1, -1, 1, 159]) ws (vs) := ⟨nf_in hl rfl, sgq_1032 (vc_Mo_styleOpen_at_f0_2_3 (v_iv (n_v vs 1)) (v_iv (n_v vs 2)) (v_iv (n_v vs 4)) (v_iv (n_v vs 5)) (v_iv (n_v vs 6)) (v_iv (n_v vs 7)) (v_iv (n_v vs 8)) (v_iv (n_v vs 9)) (v_iv (n_v vs 10)) (w_fi ws (n_v vs 0) 158) (w_fi ws (n_v vs 0) 159) (w_fi w1 (n_v vs 0) 158) (w_ei w1 (w_ar ws (n_v vs 0) 160)) (w_fi w1 (n_v vs 0) 157) (w_fi w2 (n_v vs 0) 159) (w_ei w2 (w_ar ws (n_v vs 0) 160)) (w_fi w2 (n_v vs 0) 158) (w_fi w2 (n_v vs 0) 157) (w_fi ws (n_v vs 0) 157) (w_fi w1 (n_v vs 0) 159) (w_ei ws (w_ar ws (n_v vs 0) 160)) k1 k2 k4 k5 k6 k7 k8 k9 k10 d0 g0 g1 (shm_12 f3) g4 f5 (shm_272 f6) (shm_273 f7) f8 f9 (shm_12 f11) g12 (shm_40 f13) f14 (shm_272 f15) (shm_273 f16) f17 f18 (shm_1029 f19) (shm_1030 f20) (shm_278 f21) fe_0_157_1 fe_0_158_1 fe_0_159_1 fe_0_157_2 fe_0_158_2 fe_0_159_2 hE_0_160_1 hE_0_160_2 hK_0_160 kz_0_157 kz_0_158 kz_0_159)⟩
  have nf4 : fc_1 PRD (20, [0, 2], [50, 1, 0, 158, 1, 3, 2, 0, 158, 4, 2, 1, 1, 0, 1]) ws (vs) := ⟨nf_in hl rfl, sgq_321 (vc_Mo_styleOpen_at_f0_2_4 (v_iv (n_v vs 1)) (v_iv (n_v vs 2)) (v_iv (n_v vs 4)) (v_iv (n_v vs 5)) (v_iv (n_v vs 6)) (v_iv (n_v vs 7)) (v_iv (n_v vs 8)) (v_iv (n_v vs 9)) (v_iv (n_v vs 10)) (w_fi ws (n_v vs 0) 158) (w_fi ws (n_v vs 0) 159) (w_fi w1 (n_v vs 0) 158) (w_ei w1 (w_ar ws (n_v vs 0) 160)) (w_fi w1 (n_v vs 0) 157) (w_fi w2 (n_v vs 0) 159) (w_ei w2 (w_ar ws (n_v vs 0) 160)) (w_fi w2 (n_v vs 0) 158) (w_fi w2 (n_v vs 0) 157) (w_fi ws (n_v vs 0) 157) (w_fi w1 (n_v vs 0) 159) (w_ei ws (w_ar ws (n_v vs 0) 160)) k1 k2 k4 k5 k6 k7 k8 k9 k10 d0 g0 g1 (shm_12 f3) g4 f5 (shm_272 f6) (shm_273 f7) f8 f9 (shm_12 f11) g12 (shm_40 f13) f14 (shm_272 f15) (shm_273 f16) f17 f18 (shm_1029 f19) (shm_1030 f20) (shm_278 f21) fe_0_157_1 fe_0_158_1 fe_0_159_1 fe_0_157_2 fe_0_158_2 fe_0_159_2 hE_0_160_1 hE_0_160_2 hK_0_160 kz_0_157 kz_0_158 kz_0_159)⟩
  refine ⟨(fun _ h => (by cases h)), [], trivial, ?_, (fun _ h => (by cases h))⟩
  rw [List.append_nil]
  exact List.forall_mem_cons.mpr ⟨⟨show (20 : Nat) < 100 from by decide, nf0⟩, List.forall_mem_cons.mpr ⟨⟨show (20 : Nat) < 100 from by decide, nf1⟩, List.forall_mem_cons.mpr ⟨⟨show (20 : Nat) < 100 from by decide, nf2⟩, List.forall_mem_cons.mpr ⟨⟨show (20 : Nat) < 100 from by decide, nf3⟩, List.forall_mem_cons.mpr ⟨⟨show (20 : Nat) < 100 from by decide, nf4⟩, (fun _ h => (by cases h))⟩⟩⟩⟩⟩
def n_Mo_styleOpen_at_f0_an : List an_T := []
def t_Mo_styleOpen_at_f0_ct : ct_L := []
set_option maxRecDepth 100000 in
theorem c_Mo_styleOpen_at_f0 {l : Launch} {D : va_G} {kA : Nat → ClassId} : ct_ok PRD l D kA GG y_Mo_styleOpen_at_f0 z_Mo_styleOpen_at_f0 e_Mo_styleOpen_at_f0 := chk_all_ok (FT := [(348, 13, 162), (1169, 13, 158), (1175, 13, 159)]) (PT := [(1169, 13, 158, .int), (1175, 13, 159, .int)]) (CT := t_Mo_styleOpen_at_f0_ct) (KT := []) (NT := []) (AN := n_Mo_styleOpen_at_f0_an) (OT := [o_Mo_styleOpen_at_f0_0, (o_Mo_styleOpen_f_1 0), o_Mo_styleOpen_at_f0_2]) 0 200 (List.forall_mem_cons.mpr ⟨oo_Mo_styleOpen_at_f0_0, List.forall_mem_cons.mpr ⟨(oo_Mo_styleOpen_f_1 0 (by decide) (by decide)), List.forall_mem_cons.mpr ⟨oo_Mo_styleOpen_at_f0_2, List.forall_mem_nil _⟩⟩⟩) (by decide +kernel) ⟨List.forall_mem_cons.mpr ⟨gf_Mo_348, List.forall_mem_cons.mpr ⟨gf_Mo_1169, List.forall_mem_cons.mpr ⟨gf_Mo_1175, List.forall_mem_nil _⟩⟩⟩, List.forall_mem_cons.mpr ⟨pf_Mo_1169, List.forall_mem_cons.mpr ⟨pf_Mo_1175, List.forall_mem_nil _⟩⟩, List.forall_mem_nil _, List.forall_mem_nil _, List.forall_mem_nil _, GG_pl⟩ (by decide +kernel)
def n_Mo_styleOpen_at_f1_an : List an_T := []
def t_Mo_styleOpen_at_f1_ct : ct_L := []
set_option maxRecDepth 100000 in
theorem c_Mo_styleOpen_at_f1 {l : Launch} {D : va_G} {kA : Nat → ClassId} : ct_ok PRD l D kA GG y_Mo_styleOpen_at_f1 z_Mo_styleOpen_at_f1 e_Mo_styleOpen_at_f1 := chk_all_ok (FT := [(348, 13, 162), (1169, 13, 158), (1175, 13, 159)]) (PT := [(1169, 13, 158, .int), (1175, 13, 159, .int)]) (CT := t_Mo_styleOpen_at_f1_ct) (KT := []) (NT := []) (AN := n_Mo_styleOpen_at_f1_an) (OT := [(o_Mo_styleOpen_f_0 1), (o_Mo_styleOpen_f_1 1), (o_Mo_styleOpen_f_2 1)]) 0 200 (List.forall_mem_cons.mpr ⟨(oo_Mo_styleOpen_f_0 1 (by decide) (by decide)), List.forall_mem_cons.mpr ⟨(oo_Mo_styleOpen_f_1 1 (by decide) (by decide)), List.forall_mem_cons.mpr ⟨(oo_Mo_styleOpen_f_2 1 (by decide) (by decide)), List.forall_mem_nil _⟩⟩⟩) (by decide +kernel) ⟨List.forall_mem_cons.mpr ⟨gf_Mo_348, List.forall_mem_cons.mpr ⟨gf_Mo_1169, List.forall_mem_cons.mpr ⟨gf_Mo_1175, List.forall_mem_nil _⟩⟩⟩, List.forall_mem_cons.mpr ⟨pf_Mo_1169, List.forall_mem_cons.mpr ⟨pf_Mo_1175, List.forall_mem_nil _⟩⟩, List.forall_mem_nil _, List.forall_mem_nil _, List.forall_mem_nil _, GG_pl⟩ (by decide +kernel)
def n_Mo_styleOpen_at_f10_an : List an_T := []
def t_Mo_styleOpen_at_f10_ct : ct_L := []
set_option maxRecDepth 100000 in
theorem c_Mo_styleOpen_at_f10 {l : Launch} {D : va_G} {kA : Nat → ClassId} : ct_ok PRD l D kA GG y_Mo_styleOpen_at_f10 z_Mo_styleOpen_at_f10 e_Mo_styleOpen_at_f10 := chk_all_ok (FT := [(348, 13, 162), (1169, 13, 158), (1175, 13, 159)]) (PT := [(1169, 13, 158, .int), (1175, 13, 159, .int)]) (CT := t_Mo_styleOpen_at_f10_ct) (KT := []) (NT := []) (AN := n_Mo_styleOpen_at_f10_an) (OT := [(o_Mo_styleOpen_f_0 10), (o_Mo_styleOpen_f_1 10), (o_Mo_styleOpen_f_2 10)]) 0 200 (List.forall_mem_cons.mpr ⟨(oo_Mo_styleOpen_f_0 10 (by decide) (by decide)), List.forall_mem_cons.mpr ⟨(oo_Mo_styleOpen_f_1 10 (by decide) (by decide)), List.forall_mem_cons.mpr ⟨(oo_Mo_styleOpen_f_2 10 (by decide) (by decide)), List.forall_mem_nil _⟩⟩⟩) (by decide +kernel) ⟨List.forall_mem_cons.mpr ⟨gf_Mo_348, List.forall_mem_cons.mpr ⟨gf_Mo_1169, List.forall_mem_cons.mpr ⟨gf_Mo_1175, List.forall_mem_nil _⟩⟩⟩, List.forall_mem_cons.mpr ⟨pf_Mo_1169, List.forall_mem_cons.mpr ⟨pf_Mo_1175, List.forall_mem_nil _⟩⟩, List.forall_mem_nil _, List.forall_mem_nil _, List.forall_mem_nil _, GG_pl⟩ (by decide +kernel)
def n_Mo_styleOpen_at_f11_an : List an_T := []
def t_Mo_styleOpen_at_f11_ct : ct_L := []
set_option maxRecDepth 100000 in
theorem c_Mo_styleOpen_at_f11 {l : Launch} {D : va_G} {kA : Nat → ClassId} : ct_ok PRD l D kA GG y_Mo_styleOpen_at_f11 z_Mo_styleOpen_at_f11 e_Mo_styleOpen_at_f11 := chk_all_ok (FT := [(348, 13, 162), (1169, 13, 158), (1175, 13, 159)]) (PT := [(1169, 13, 158, .int), (1175, 13, 159, .int)]) (CT := t_Mo_styleOpen_at_f11_ct) (KT := []) (NT := []) (AN := n_Mo_styleOpen_at_f11_an) (OT := [(o_Mo_styleOpen_f_0 11), (o_Mo_styleOpen_f_1 11), (o_Mo_styleOpen_f_2 11)]) 0 200 (List.forall_mem_cons.mpr ⟨(oo_Mo_styleOpen_f_0 11 (by decide) (by decide)), List.forall_mem_cons.mpr ⟨(oo_Mo_styleOpen_f_1 11 (by decide) (by decide)), List.forall_mem_cons.mpr ⟨(oo_Mo_styleOpen_f_2 11 (by decide) (by decide)), List.forall_mem_nil _⟩⟩⟩) (by decide +kernel) ⟨List.forall_mem_cons.mpr ⟨gf_Mo_348, List.forall_mem_cons.mpr ⟨gf_Mo_1169, List.forall_mem_cons.mpr ⟨gf_Mo_1175, List.forall_mem_nil _⟩⟩⟩, List.forall_mem_cons.mpr ⟨pf_Mo_1169, List.forall_mem_cons.mpr ⟨pf_Mo_1175, List.forall_mem_nil _⟩⟩, List.forall_mem_nil _, List.forall_mem_nil _, List.forall_mem_nil _, GG_pl⟩ (by decide +kernel)
set_option maxHeartbeats 4000000 in
theorem vc_Mo_styleOpen_at_f12_1_0 (fault_0 : Int) (gx : Int) (kz_0_8 : 0 ≤ fault_0 ∧ fault_0 ≤ 5) (ex2 : gx = fault_0) : 1 * fault_0 + ((-1) * gx + 0) ≤ 0 := by
  first | assumption | omega | grind
set_option maxHeartbeats 4000000 in
theorem vc_Mo_styleOpen_at_f12_1_1 (fault_0 : Int) (gx : Int) (kz_0_8 : 0 ≤ fault_0 ∧ fault_0 ≤ 5) (ex2 : gx = fault_0) : (-1) * fault_0 + (1 * gx + 0) ≤ 0 := by
  first | assumption | omega | grind
def o_Mo_styleOpen_at_f12_1 : or_T := (20, 10, [(0, (2, 0, 0, [165]))], [], [], [(0, 0, 5, [])], [(20, [0, 10], [30, 0, 1, 1, 8, -1, 0, 0]), (20, [0, 10], [30, 0, -1, 1, 8, 1, 0, 0])], [], [])
theorem oo_Mo_styleOpen_at_f12_1 {kA : Nat → ClassId} : or_ok PRD kA GG o_Mo_styleOpen_at_f12_1 := by
  refine or_mk fun A ta ws vs hD hth hl => ?_
  intro t0 r0
  have kz_0_8 := fdq_34 hD hth r0
  obtain ⟨x, ex, hx⟩ := iv_ex (ta := ta) (lo := 0) (hi := 5) (z := w_fi ws (n_v vs 0) 8) (by omega) (by omega) (by omega) (by omega)
  have ex2 : v_iv (Value.int x) = w_fi ws (n_v vs 0) 8 := ex
  have ex3 : 0 ≤ v_iv (Value.int x) ∧ v_iv (Value.int x) ≤ 5 := tv_rng hx
  have e_0 : n_v (vs ++ [Value.int x]) 0 = n_v vs 0 := n_v_old (by rw [hl]; decide)
  have e_10 : n_v (vs ++ [Value.int x]) 10 = Value.int x := n_v_new hl
  have nf0 : fc_1 PRD (20, [0, 10], [30, 0, 1, 1, 8, -1, 0, 0]) ws (vs ++ [Value.int x]) := by
    refine ⟨nf_inA hl rfl, sgq_303 ?_⟩
    · show 1 * w_fi ws (n_v (vs ++ [Value.int x]) 0) 8 + ((-1) * v_iv (n_v (vs ++ [Value.int x]) 10) + 0) ≤ 0
      simp only [e_0, e_10]
      exact vc_Mo_styleOpen_at_f12_1_0 (w_fi ws (n_v vs 0) 8) (v_iv (Value.int x)) kz_0_8 ex2
  have nf1 : fc_1 PRD (20, [0, 10], [30, 0, -1, 1, 8, 1, 0, 0]) ws (vs ++ [Value.int x]) := by
    refine ⟨nf_inA hl rfl, sgq_304 ?_⟩
    · show (-1) * w_fi ws (n_v (vs ++ [Value.int x]) 0) 8 + (1 * v_iv (n_v (vs ++ [Value.int x]) 10) + 0) ≤ 0
      simp only [e_0, e_10]
      exact vc_Mo_styleOpen_at_f12_1_1 (w_fi ws (n_v vs 0) 8) (v_iv (Value.int x)) kz_0_8 ex2
  exact ⟨(fun _ h => (by cases h)), [Value.int x], ag_one hx, List.forall_mem_cons.mpr ⟨⟨show (20 : Nat) < 100 from by decide, nf0⟩, List.forall_mem_cons.mpr ⟨⟨show (20 : Nat) < 100 from by decide, nf1⟩, (fun _ h => (by cases h))⟩⟩, (fun _ h => (by cases h))⟩
set_option maxHeartbeats 4000000 in
theorem vc_Mo_styleOpen_at_f12_2_r0 (x8 : Int) (x14 : Int) (cur_0 : Int) (tokenKind_0 : Int → Int) (tokens_0 : Int) (tokenKind_1 : Int → Int) (cur_1 : Int) (tokens_1 : Int) (k8 : 0 ≤ x8 ∧ x8 ≤ 2009) (k14 : 1 ≤ x14 ∧ x14 ≤ 2010) (d0 : x8 + 1 ≤ x14 ∧ x14 ≤ x8 + 1) (g1 : x8 = cur_0) (f2 : ((cur_0 + 1) ≤ tokens_0) ∧ ((tokens_0 ≤ 2010) ∧ ((tokenKind_0 ((tokens_0 - 1)) = 0) ∨ (tokenKind_0 ((tokens_0 - 1)) = 4)))) (f5 : tokenKind_0 (cur_0) ≠ 0) (f6 : tokenKind_0 (cur_0) ≠ 4) (fe_0_157_1 : tokens_0 = tokens_1) (fe_0_158_1 : cur_0 = cur_1) (hE_0_160_1 : ∀ j : Int, tokenKind_0 j = tokenKind_1 j) (kz_0_157 : 0 ≤ tokens_0 ∧ tokens_0 ≤ 2010) (kz_0_158 : 0 ≤ cur_0 ∧ cur_0 ≤ 2009) : 1 ≤ x14 ∧ x14 ≤ 2009 := by
  subst fe_0_157_1
  subst fe_0_158_1
  have e_hE_0_160_1 := funext hE_0_160_1; subst e_hE_0_160_1
  first | assumption | omega | grind
def o_Mo_styleOpen_at_f12_2 : or_T := (40, 15, [(0, (2, 0, 0, [165])), (2, (0, 0, 2009, [])), (8, (0, 0, 2009, [])), (13, (0, 1, 1, [])), (14, (0, 1, 2010, []))], [(1, [14, 8, 13], []), (9, [8, 0], [158]), (20, [0], [50, 2, 1, 158, 157, 160, 2, 12, 0, 7, 4, 3, 2, 0, 158, 0, 1, 2, 0, 157, 2, 7, 0, 3, 2, 0, 157, 0, 2010, 3, 14, 1, 10, 3, 0, 160, 5, 3, 2, 0, 157, 0, 1, 0, 0, 1, 10, 3, 0, 160, 5, 3, 2, 0, 157, 0, 1, 0, 4]), (20, [0, 2], [30, 0, 1, 1, 158, -1, 0, 0]), (20, [0, 2], [30, 0, -1, 1, 158, 1, 0, 0]), (20, [0], [50, 1, 1, 158, 160, 7, 6, 3, 0, 160, 2, 0, 158, 0, 0]), (20, [0], [50, 1, 1, 158, 160, 7, 6, 3, 0, 160, 2, 0, 158, 0, 4]), (101, [0, 12], [159]), (20, [0], [50, 2, 1, 158, 157, 160, 2, 12, 0, 7, 4, 3, 2, 0, 158, 0, 1, 2, 0, 157, 2, 7, 0, 3, 2, 0, 157, 0, 2010, 3, 14, 1, 10, 3, 0, 160, 5, 3, 2, 0, 157, 0, 1, 0, 0, 1, 10, 3, 0, 160, 5, 3, 2, 0, 157, 0, 1, 0, 4]), (20, [0, 2], [30, 0, 1, 1, 158, -1, 0, 0]), (20, [0, 2], [30, 0, -1, 1, 158, 1, 0, 0]), (20, [0], [50, 1, 1, 158, 160, 7, 6, 3, 0, 160, 2, 0, 158, 0, 0]), (20, [0], [50, 1, 1, 158, 160, 7, 6, 3, 0, 160, 2, 0, 158, 0, 4])], [(14, (0, 1, 2009, []))], [], [], [], [(14, 8, 1, 1)])
theorem oo_Mo_styleOpen_at_f12_2 {kA : Nat → ClassId} : or_ok PRD kA GG o_Mo_styleOpen_at_f12_2 := by
  refine or_mk fun A ta ws vs hD hth hl => ?_
  intro t0 r0 t2 k2 t8 k8 t13 k13 t14 k14 d0 f0 f1 f2 f3 f4 f5 f6 ta1 w1 le1 s1 f8 f9 f10 f11 f12
  replace f1 := shm_286 f1
  have s1 : (∀ b j, w_el ws b j = w_el w1 b j) ∧ ∀ b j, w_fd ws b j = if b = v_ad (n_v vs 0) ∧ j = 159 then n_v vs 12 else w_fd w1 b j := s1.2
  have g1 : v_iv (n_v vs 8) = w_fi ws (n_v vs 0) 158 := congrArg v_iv f1
  have fe_0_157_1 : w_fi ws (n_v vs 0) 157 = w_fi w1 (n_v vs 0) 157 := by show v_iv (w_fd _ _ _) = v_iv (w_fd _ _ _); rw [s1.2, if_neg (fun e => absurd e.2 (by decide))]
  have fe_0_158_1 : w_fi ws (n_v vs 0) 158 = w_fi w1 (n_v vs 0) 158 := by show v_iv (w_fd _ _ _) = v_iv (w_fd _ _ _); rw [s1.2, if_neg (fun e => absurd e.2 (by decide))]
  have hE_0_160_1 : ∀ j : Int, w_ei ws (w_ar ws (n_v vs 0) 160) j = w_ei w1 (w_ar ws (n_v vs 0) 160) j := fun j => s1.1 _ _
  have kz_0_157 := fdq_35 hD hth r0
  have kz_0_158 := fdq_36 hD hth r0
  have hrf0 : 1 ≤ v_iv (n_v vs 14) ∧ v_iv (n_v vs 14) ≤ 2009 := vc_Mo_styleOpen_at_f12_2_r0 (v_iv (n_v vs 8)) (v_iv (n_v vs 14)) (w_fi ws (n_v vs 0) 158) (w_ei ws (w_ar ws (n_v vs 0) 160)) (w_fi ws (n_v vs 0) 157) (w_ei w1 (w_ar ws (n_v vs 0) 160)) (w_fi w1 (n_v vs 0) 158) (w_fi w1 (n_v vs 0) 157) k8 k14 d0 g1 (shm_271 f2) (shm_310 f5) (shm_311 f6) fe_0_157_1 fe_0_158_1 hE_0_160_1 kz_0_157 kz_0_158
  have rf14 : tv_ok ta (0, 1, 2009, []) (n_v vs 14) := tv_in t14 (by first | omega | grind) (by first | omega | grind)
  refine ⟨List.forall_mem_cons.mpr ⟨rf14, (fun _ h => (by cases h))⟩, [], trivial, ?_, (fun _ h => (by cases h))⟩
  rw [List.append_nil]
  exact (fun _ h => (by cases h))
set_option maxHeartbeats 4000000 in
theorem vc_Mo_styleOpen_at_f12_3_0 (x8 : Int) (x14 : Int) (cur_0 : Int) (opened_0 : Int) (cur_1 : Int) (tokenKind_1 : Int → Int) (tokens_1 : Int) (tokenKind_2 : Int → Int) (cur_2 : Int) (tokens_2 : Int) (tokens_0 : Int) (opened_1 : Int) (tokenKind_0 : Int → Int) (k8 : 0 ≤ x8 ∧ x8 ≤ 2009) (k14 : 1 ≤ x14 ∧ x14 ≤ 2009) (d0 : x8 + 1 ≤ x14 ∧ x14 ≤ x8 + 1) (g0 : x14 = cur_0) (g4 : x8 = cur_1) (f5 : ((cur_1 + 1) ≤ tokens_1) ∧ ((tokens_1 ≤ 2010) ∧ ((tokenKind_1 ((tokens_1 - 1)) = 0) ∨ (tokenKind_1 ((tokens_1 - 1)) = 4)))) (f8 : tokenKind_1 (cur_1) ≠ 0) (f9 : tokenKind_1 (cur_1) ≠ 4) (fe_0_157_1 : tokens_0 = tokens_1) (fe_0_159_1 : opened_0 = opened_1) (fe_0_157_2 : tokens_1 = tokens_2) (fe_0_158_2 : cur_1 = cur_2) (hE_0_160_1 : ∀ j : Int, tokenKind_0 j = tokenKind_1 j) (hE_0_160_2 : ∀ j : Int, tokenKind_1 j = tokenKind_2 j) (kz_0_157 : 0 ≤ tokens_0 ∧ tokens_0 ≤ 2010) (kz_0_158 : 0 ≤ cur_0 ∧ cur_0 ≤ 2009) (kz_0_159 : 0 ≤ opened_0 ∧ opened_0 ≤ 13) : ((cur_0 + 1) ≤ tokens_0) ∧ ((tokens_0 ≤ 2010) ∧ ((tokenKind_0 ((tokens_0 - 1)) = 0) ∨ (tokenKind_0 ((tokens_0 - 1)) = 4))) := by
  subst fe_0_157_1
  subst fe_0_159_1
  subst fe_0_157_2
  subst fe_0_158_2
  have e_hE_0_160_1 := funext hE_0_160_1; subst e_hE_0_160_1
  have e_hE_0_160_2 := funext hE_0_160_2; subst e_hE_0_160_2
  first | assumption | omega | grind
set_option maxHeartbeats 4000000 in
theorem vc_Mo_styleOpen_at_f12_3_1 (x2 : Int) (x8 : Int) (x14 : Int) (cur_0 : Int) (opened_0 : Int) (cur_1 : Int) (tokenKind_1 : Int → Int) (tokens_1 : Int) (tokenKind_2 : Int → Int) (cur_2 : Int) (tokens_2 : Int) (tokens_0 : Int) (opened_1 : Int) (tokenKind_0 : Int → Int) (k2 : 0 ≤ x2 ∧ x2 ≤ 2009) (k8 : 0 ≤ x8 ∧ x8 ≤ 2009) (k14 : 1 ≤ x14 ∧ x14 ≤ 2009) (d0 : x8 + 1 ≤ x14 ∧ x14 ≤ x8 + 1) (g0 : x14 = cur_0) (g4 : x8 = cur_1) (f6 : 1 * cur_1 + ((-1) * x2 + 0) ≤ 0) (f7 : (-1) * cur_1 + (1 * x2 + 0) ≤ 0) (fe_0_157_1 : tokens_0 = tokens_1) (fe_0_159_1 : opened_0 = opened_1) (fe_0_157_2 : tokens_1 = tokens_2) (fe_0_158_2 : cur_1 = cur_2) (hE_0_160_1 : ∀ j : Int, tokenKind_0 j = tokenKind_1 j) (hE_0_160_2 : ∀ j : Int, tokenKind_1 j = tokenKind_2 j) (kz_0_157 : 0 ≤ tokens_0 ∧ tokens_0 ≤ 2010) (kz_0_158 : 0 ≤ cur_0 ∧ cur_0 ≤ 2009) (kz_0_159 : 0 ≤ opened_0 ∧ opened_0 ≤ 13) : 1 * x2 + ((-1) * cur_0 + 0) ≤ (-1) := by
  subst fe_0_157_1
  subst fe_0_159_1
  subst fe_0_157_2
  subst fe_0_158_2
  have e_hE_0_160_1 := funext hE_0_160_1; subst e_hE_0_160_1
  have e_hE_0_160_2 := funext hE_0_160_2; subst e_hE_0_160_2
  first | assumption | omega | grind
set_option maxHeartbeats 4000000 in
theorem vc_Mo_styleOpen_at_f12_3_2 (x12 : Int) (opened_0 : Int) (cur_1 : Int) (tokenKind_1 : Int → Int) (tokens_1 : Int) (tokenKind_2 : Int → Int) (cur_2 : Int) (tokens_2 : Int) (tokens_0 : Int) (opened_1 : Int) (tokenKind_0 : Int → Int) (k12 : 13 ≤ x12 ∧ x12 ≤ 13) (g1 : x12 = opened_0) (fe_0_157_1 : tokens_0 = tokens_1) (fe_0_159_1 : opened_0 = opened_1) (fe_0_157_2 : tokens_1 = tokens_2) (fe_0_158_2 : cur_1 = cur_2) (hE_0_160_1 : ∀ j : Int, tokenKind_0 j = tokenKind_1 j) (hE_0_160_2 : ∀ j : Int, tokenKind_1 j = tokenKind_2 j) (kz_0_157 : 0 ≤ tokens_0 ∧ tokens_0 ≤ 2010) (kz_0_159 : 0 ≤ opened_0 ∧ opened_0 ≤ 13) : 1 * opened_0 + 0 ≤ 13 := by
  subst fe_0_157_1
  subst fe_0_159_1
  subst fe_0_157_2
  subst fe_0_158_2
  have e_hE_0_160_1 := funext hE_0_160_1; subst e_hE_0_160_1
  have e_hE_0_160_2 := funext hE_0_160_2; subst e_hE_0_160_2
  first | assumption | omega | grind
set_option maxHeartbeats 4000000 in
theorem vc_Mo_styleOpen_at_f12_3_3 (x12 : Int) (opened_0 : Int) (cur_1 : Int) (tokenKind_1 : Int → Int) (tokens_1 : Int) (tokenKind_2 : Int → Int) (cur_2 : Int) (tokens_2 : Int) (tokens_0 : Int) (opened_1 : Int) (tokenKind_0 : Int → Int) (k12 : 13 ≤ x12 ∧ x12 ≤ 13) (g1 : x12 = opened_0) (fe_0_157_1 : tokens_0 = tokens_1) (fe_0_159_1 : opened_0 = opened_1) (fe_0_157_2 : tokens_1 = tokens_2) (fe_0_158_2 : cur_1 = cur_2) (hE_0_160_1 : ∀ j : Int, tokenKind_0 j = tokenKind_1 j) (hE_0_160_2 : ∀ j : Int, tokenKind_1 j = tokenKind_2 j) (kz_0_157 : 0 ≤ tokens_0 ∧ tokens_0 ≤ 2010) (kz_0_159 : 0 ≤ opened_0 ∧ opened_0 ≤ 13) : (-1) * opened_0 + 0 ≤ (-13) := by
  subst fe_0_157_1
  subst fe_0_159_1
  subst fe_0_157_2
  subst fe_0_158_2
  have e_hE_0_160_1 := funext hE_0_160_1; subst e_hE_0_160_1
  have e_hE_0_160_2 := funext hE_0_160_2; subst e_hE_0_160_2
  first | assumption | omega | grind
set_option maxHeartbeats 4000000 in
theorem vc_Mo_styleOpen_at_f12_3_4 (x2 : Int) (x8 : Int) (x14 : Int) (cur_0 : Int) (opened_0 : Int) (cur_1 : Int) (tokenKind_1 : Int → Int) (tokens_1 : Int) (tokenKind_2 : Int → Int) (cur_2 : Int) (tokens_2 : Int) (tokens_0 : Int) (opened_1 : Int) (tokenKind_0 : Int → Int) (k2 : 0 ≤ x2 ∧ x2 ≤ 2009) (k8 : 0 ≤ x8 ∧ x8 ≤ 2009) (k14 : 1 ≤ x14 ∧ x14 ≤ 2009) (d0 : x8 + 1 ≤ x14 ∧ x14 ≤ x8 + 1) (g0 : x14 = cur_0) (g4 : x8 = cur_1) (f6 : 1 * cur_1 + ((-1) * x2 + 0) ≤ 0) (f7 : (-1) * cur_1 + (1 * x2 + 0) ≤ 0) (fe_0_157_1 : tokens_0 = tokens_1) (fe_0_159_1 : opened_0 = opened_1) (fe_0_157_2 : tokens_1 = tokens_2) (fe_0_158_2 : cur_1 = cur_2) (hE_0_160_1 : ∀ j : Int, tokenKind_0 j = tokenKind_1 j) (hE_0_160_2 : ∀ j : Int, tokenKind_1 j = tokenKind_2 j) (kz_0_157 : 0 ≤ tokens_0 ∧ tokens_0 ≤ 2010) (kz_0_158 : 0 ≤ cur_0 ∧ cur_0 ≤ 2009) (kz_0_159 : 0 ≤ opened_0 ∧ opened_0 ≤ 13) : cur_0 = (x2 + 1) := by
  subst fe_0_157_1
  subst fe_0_159_1
  subst fe_0_157_2
  subst fe_0_158_2
  have e_hE_0_160_1 := funext hE_0_160_1; subst e_hE_0_160_1
  have e_hE_0_160_2 := funext hE_0_160_2; subst e_hE_0_160_2
  first | assumption | omega | grind
def o_Mo_styleOpen_at_f12_3 : or_T := (43, 15, [(0, (2, 0, 0, [165])), (2, (0, 0, 2009, [])), (8, (0, 0, 2009, [])), (12, (0, 13, 13, [])), (14, (0, 1, 2009, []))], [(9, [14, 0], [158]), (9, [12, 0], [159]), (101, [0, 14], [158]), (9, [8, 0], [158]), (20, [0], [50, 2, 1, 158, 157, 160, 2, 12, 0, 7, 4, 3, 2, 0, 158, 0, 1, 2, 0, 157, 2, 7, 0, 3, 2, 0, 157, 0, 2010, 3, 14, 1, 10, 3, 0, 160, 5, 3, 2, 0, 157, 0, 1, 0, 0, 1, 10, 3, 0, 160, 5, 3, 2, 0, 157, 0, 1, 0, 4]), (20, [0, 2], [30, 0, 1, 1, 158, -1, 0, 0]), (20, [0, 2], [30, 0, -1, 1, 158, 1, 0, 0]), (20, [0], [50, 1, 1, 158, 160, 7, 6, 3, 0, 160, 2, 0, 158, 0, 0]), (20, [0], [50, 1, 1, 158, 160, 7, 6, 3, 0, 160, 2, 0, 158, 0, 4]), (101, [0, 12], [159])], [], [], [(20, [0], [50, 2, 1, 158, 157, 160, 2, 12, 0, 7, 4, 3, 2, 0, 158, 0, 1, 2, 0, 157, 2, 7, 0, 3, 2, 0, 157, 0, 2010, 3, 14, 1, 10, 3, 0, 160, 5, 3, 2, 0, 157, 0, 1, 0, 0, 1, 10, 3, 0, 160, 5, 3, 2, 0, 157, 0, 1, 0, 4]), (20, [2, 0], [30, -1, 1, 0, 0, -1, 1, 158]), (20, [0], [30, 13, 1, 1, 159]), (20, [0], [30, -13, -1, 1, 159]), (20, [0, 2], [50, 1, 0, 158, 1, 3, 2, 0, 158, 4, 2, 1, 1, 0, 1])], [], [(14, 8, 1, 1)])
theorem oo_Mo_styleOpen_at_f12_3 {kA : Nat → ClassId} : or_ok PRD kA GG o_Mo_styleOpen_at_f12_3 := by
  refine or_mk fun A ta ws vs hD hth hl => ?_
  intro t0 r0 t2 k2 t8 k8 t12 k12 t14 k14 d0 f0 f1 ta1 w1 le1 s1 f4 f5 f6 f7 f8 f9 ta2 w2 le2 s2
  replace f0 := shm_286 f0
  replace f1 := shm_317 f1
  have s1 : (∀ b j, w_el ws b j = w_el w1 b j) ∧ ∀ b j, w_fd ws b j = if b = v_ad (n_v vs 0) ∧ j = 158 then n_v vs 14 else w_fd w1 b j := s1.2
  replace f4 := shm_286 f4
  replace f5 := shm_271 f5
  replace f8 := shm_310 f8
  replace f9 := shm_311 f9
  have s2 : (∀ b j, w_el w1 b j = w_el w2 b j) ∧ ∀ b j, w_fd w1 b j = if b = v_ad (n_v vs 0) ∧ j = 159 then n_v vs 12 else w_fd w2 b j := s2.2
  have ar_0_160_1 : w_ar w1 (n_v vs 0) 160 = w_ar ws (n_v vs 0) 160 := by show v_ad (w_fd w1 _ _) = v_ad (w_fd ws _ _); rw [s1.2, if_neg (fun e => absurd e.2 (by decide))]
  have g0 : v_iv (n_v vs 14) = w_fi ws (n_v vs 0) 158 := congrArg v_iv f0
  have g1 : v_iv (n_v vs 12) = w_fi ws (n_v vs 0) 159 := congrArg v_iv f1
  have g4 : v_iv (n_v vs 8) = w_fi w1 (n_v vs 0) 158 := congrArg v_iv f4
  simp only [ar_0_160_1] at f5 f8 f9
  have fe_0_157_1 : w_fi ws (n_v vs 0) 157 = w_fi w1 (n_v vs 0) 157 := by show v_iv (w_fd _ _ _) = v_iv (w_fd _ _ _); rw [s1.2, if_neg (fun e => absurd e.2 (by decide))]
  have fe_0_159_1 : w_fi ws (n_v vs 0) 159 = w_fi w1 (n_v vs 0) 159 := by show v_iv (w_fd _ _ _) = v_iv (w_fd _ _ _); rw [s1.2, if_neg (fun e => absurd e.2 (by decide))]
  have fe_0_157_2 : w_fi w1 (n_v vs 0) 157 = w_fi w2 (n_v vs 0) 157 := by show v_iv (w_fd _ _ _) = v_iv (w_fd _ _ _); rw [s2.2, if_neg (fun e => absurd e.2 (by decide))]
  have fe_0_158_2 : w_fi w1 (n_v vs 0) 158 = w_fi w2 (n_v vs 0) 158 := by show v_iv (w_fd _ _ _) = v_iv (w_fd _ _ _); rw [s2.2, if_neg (fun e => absurd e.2 (by decide))]
  have hE_0_160_1 : ∀ j : Int, w_ei ws (w_ar ws (n_v vs 0) 160) j = w_ei w1 (w_ar ws (n_v vs 0) 160) j := fun j => s1.1 _ _
  have hE_0_160_2 : ∀ j : Int, w_ei w1 (w_ar ws (n_v vs 0) 160) j = w_ei w2 (w_ar ws (n_v vs 0) 160) j := fun j => s2.1 _ _
  have kz_0_157 := fdq_35 hD hth r0
  have kz_0_158 := fdq_36 hD hth r0
  have kz_0_159 := fdq_37 hD hth r0
  have nf0 : fc_1 PRD (20, [0], [50, 2, 1, 158, 157, 160, 2, 12, 0, 7, 4, 3, 2, 0, 158, 0, 1, 2, 0, 157, 2, 7, 0, 3, 2, 0, 157, 0, 2010, 3, 14, 1, 10, 3, 0, 160, 5, 3, 2, 0, 157, 0, 1, 0, 0, 1, 10, 3, 0, 160, 5, 3, 2, 0, 157, 0, 1, 0, 4]) ws (vs) := ⟨nf_in hl rfl, sgq_271 (vc_Mo_styleOpen_at_f12_3_0 (v_iv (n_v vs 8)) (v_iv (n_v vs 14)) (w_fi ws (n_v vs 0) 158) (w_fi ws (n_v vs 0) 159) (w_fi w1 (n_v vs 0) 158) (w_ei w1 (w_ar ws (n_v vs 0) 160)) (w_fi w1 (n_v vs 0) 157) (w_ei w2 (w_ar ws (n_v vs 0) 160)) (w_fi w2 (n_v vs 0) 158) (w_fi w2 (n_v vs 0) 157) (w_fi ws (n_v vs 0) 157) (w_fi w1 (n_v vs 0) 159) (w_ei ws (w_ar ws (n_v vs 0) 160)) k8 k14 d0 g0 g4 f5 f8 f9 fe_0_157_1 fe_0_159_1 fe_0_157_2 fe_0_158_2 hE_0_160_1 hE_0_160_2 kz_0_157 kz_0_158 kz_0_159)⟩
  have nf1 : fc_1 PRD (20, [2, 0], [30, -1, 1, 0, 0, -1, 1, 158]) ws (vs) := ⟨nf_in hl rfl, sgq_320 (vc_Mo_styleOpen_at_f12_3_1 (v_iv (n_v vs 2)) (v_iv (n_v vs 8)) (v_iv (n_v vs 14)) (w_fi ws (n_v vs 0) 158) (w_fi ws (n_v vs 0) 159) (w_fi w1 (n_v vs 0) 158) (w_ei w1 (w_ar ws (n_v vs 0) 160)) (w_fi w1 (n_v vs 0) 157) (w_ei w2 (w_ar ws (n_v vs 0) 160)) (w_fi w2 (n_v vs 0) 158) (w_fi w2 (n_v vs 0) 157) (w_fi ws (n_v vs 0) 157) (w_fi w1 (n_v vs 0) 159) (w_ei ws (w_ar ws (n_v vs 0) 160)) k2 k8 k14 d0 g0 g4 (shm_272 f6) (shm_273 f7) fe_0_157_1 fe_0_159_1 fe_0_157_2 fe_0_158_2 hE_0_160_1 hE_0_160_2 kz_0_157 kz_0_158 kz_0_159)⟩
  have nf2 : fc_1 PRD (20, [0], [30, 13, 1, 1, 159]) ws (vs) := ⟨nf_in hl rfl, sgq_1035 (vc_Mo_styleOpen_at_f12_3_2 (v_iv (n_v vs 12)) (w_fi ws (n_v vs 0) 159) (w_fi w1 (n_v vs 0) 158) (w_ei w1 (w_ar ws (n_v vs 0) 160)) (w_fi w1 (n_v vs 0) 157) (w_ei w2 (w_ar ws (n_v vs 0) 160)) (w_fi w2 (n_v vs 0) 158) (w_fi w2 (n_v vs 0) 157) (w_fi ws (n_v vs 0) 157) (w_fi w1 (n_v vs 0) 159) (w_ei ws (w_ar ws (n_v vs 0) 160)) k12 g1 fe_0_157_1 fe_0_159_1 fe_0_157_2 fe_0_158_2 hE_0_160_1 hE_0_160_2 kz_0_157 kz_0_159)⟩
  have nf3 : fc_1 PRD (20, [0], [30, -13, -1, 1, 159]) ws (vs) := ⟨nf_in hl rfl, sgq_1036 (vc_Mo_styleOpen_at_f12_3_3 (v_iv (n_v vs 12)) (w_fi ws (n_v vs 0) 159) (w_fi w1 (n_v vs 0) 158) (w_ei w1 (w_ar ws (n_v vs 0) 160)) (w_fi w1 (n_v vs 0) 157) (w_ei w2 (w_ar ws (n_v vs 0) 160)) (w_fi w2 (n_v vs 0) 158) (w_fi w2 (n_v vs 0) 157) (w_fi ws (n_v vs 0) 157) (w_fi w1 (n_v vs 0) 159) (w_ei ws (w_ar ws (n_v vs 0) 160)) k12 g1 fe_0_157_1 fe_0_159_1 fe_0_157_2 fe_0_158_2 hE_0_160_1 hE_0_160_2 kz_0_157 kz_0_159)⟩
  have nf4 : fc_1 PRD (20, [0, 2], [50, 1, 0, 158, 1, 3, 2, 0, 158, 4, 2, 1, 1, 0, 1]) ws (vs) := ⟨nf_in hl rfl, sgq_321 (vc_Mo_styleOpen_at_f12_3_4 (v_iv (n_v vs 2)) (v_iv (n_v vs 8)) (v_iv (n_v vs 14)) (w_fi ws (n_v vs 0) 158) (w_fi ws (n_v vs 0) 159) (w_fi w1 (n_v vs 0) 158) (w_ei w1 (w_ar ws (n_v vs 0) 160)) (w_fi w1 (n_v vs 0) 157) (w_ei w2 (w_ar ws (n_v vs 0) 160)) (w_fi w2 (n_v vs 0) 158) (w_fi w2 (n_v vs 0) 157) (w_fi ws (n_v vs 0) 157) (w_fi w1 (n_v vs 0) 159) (w_ei ws (w_ar ws (n_v vs 0) 160)) k2 k8 k14 d0 g0 g4 (shm_272 f6) (shm_273 f7) fe_0_157_1 fe_0_159_1 fe_0_157_2 fe_0_158_2 hE_0_160_1 hE_0_160_2 kz_0_157 kz_0_158 kz_0_159)⟩
  refine ⟨(fun _ h => (by cases h)), [], trivial, ?_, (fun _ h => (by cases h))⟩
  rw [List.append_nil]
  exact List.forall_mem_cons.mpr ⟨⟨show (20 : Nat) < 100 from by decide, nf0⟩, List.forall_mem_cons.mpr ⟨⟨show (20 : Nat) < 100 from by decide, nf1⟩, List.forall_mem_cons.mpr ⟨⟨show (20 : Nat) < 100 from by decide, nf2⟩, List.forall_mem_cons.mpr ⟨⟨show (20 : Nat) < 100 from by decide, nf3⟩, List.forall_mem_cons.mpr ⟨⟨show (20 : Nat) < 100 from by decide, nf4⟩, (fun _ h => (by cases h))⟩⟩⟩⟩⟩
def n_Mo_styleOpen_at_f12_an : List an_T := []
def t_Mo_styleOpen_at_f12_ct : ct_L := [(1, 463, e_Mo_wrong)]
set_option maxRecDepth 100000 in
theorem c_Mo_styleOpen_at_f12 {l : Launch} {D : va_G} {kA : Nat → ClassId} (h_Mo_wrong : ct_ok PRD l D kA GG y_Mo_wrong z_Mo_wrong e_Mo_wrong) : ct_ok PRD l D kA GG y_Mo_styleOpen_at_f12 z_Mo_styleOpen_at_f12 e_Mo_styleOpen_at_f12 := chk_all_ok (FT := [(348, 13, 162), (1169, 13, 158), (1175, 13, 159)]) (PT := [(1169, 13, 158, .int), (1175, 13, 159, .int)]) (CT := t_Mo_styleOpen_at_f12_ct) (KT := []) (NT := []) (AN := n_Mo_styleOpen_at_f12_an) (OT := [(o_Mo_styleOpen_f_0 12), o_Mo_styleOpen_at_f12_1, o_Mo_styleOpen_at_f12_2, o_Mo_styleOpen_at_f12_3]) 0 200 (List.forall_mem_cons.mpr ⟨(oo_Mo_styleOpen_f_0 12 (by decide) (by decide)), List.forall_mem_cons.mpr ⟨oo_Mo_styleOpen_at_f12_1, List.forall_mem_cons.mpr ⟨oo_Mo_styleOpen_at_f12_2, List.forall_mem_cons.mpr ⟨oo_Mo_styleOpen_at_f12_3, List.forall_mem_nil _⟩⟩⟩⟩) (by decide +kernel) ⟨List.forall_mem_cons.mpr ⟨gf_Mo_348, List.forall_mem_cons.mpr ⟨gf_Mo_1169, List.forall_mem_cons.mpr ⟨gf_Mo_1175, List.forall_mem_nil _⟩⟩⟩, List.forall_mem_cons.mpr ⟨pf_Mo_1169, List.forall_mem_cons.mpr ⟨pf_Mo_1175, List.forall_mem_nil _⟩⟩, List.forall_mem_cons.mpr ⟨cl_virtual (y := y_Mo_wrong) (ci := 13) rfl rfl ⟨_, _, rfl⟩ (by decide +kernel) h_Mo_wrong wm_3017 wm_9 wm_3014 wm_3016 wv_13_1 ⟨by decide, by decide, by decide +kernel⟩ (by decide), List.forall_mem_nil _⟩, List.forall_mem_nil _, List.forall_mem_nil _, GG_pl⟩ (by decide +kernel)
def n_Mo_styleOpen_at_f2_an : List an_T := []
def t_Mo_styleOpen_at_f2_ct : ct_L := []
set_option maxRecDepth 100000 in
theorem c_Mo_styleOpen_at_f2 {l : Launch} {D : va_G} {kA : Nat → ClassId} : ct_ok PRD l D kA GG y_Mo_styleOpen_at_f2 z_Mo_styleOpen_at_f2 e_Mo_styleOpen_at_f2 := chk_all_ok (FT := [(348, 13, 162), (1169, 13, 158), (1175, 13, 159)]) (PT := [(1169, 13, 158, .int), (1175, 13, 159, .int)]) (CT := t_Mo_styleOpen_at_f2_ct) (KT := []) (NT := []) (AN := n_Mo_styleOpen_at_f2_an) (OT := [(o_Mo_styleOpen_f_0 2), (o_Mo_styleOpen_f_1 2), (o_Mo_styleOpen_f_2 2)]) 0 200 (List.forall_mem_cons.mpr ⟨(oo_Mo_styleOpen_f_0 2 (by decide) (by decide)), List.forall_mem_cons.mpr ⟨(oo_Mo_styleOpen_f_1 2 (by decide) (by decide)), List.forall_mem_cons.mpr ⟨(oo_Mo_styleOpen_f_2 2 (by decide) (by decide)), List.forall_mem_nil _⟩⟩⟩) (by decide +kernel) ⟨List.forall_mem_cons.mpr ⟨gf_Mo_348, List.forall_mem_cons.mpr ⟨gf_Mo_1169, List.forall_mem_cons.mpr ⟨gf_Mo_1175, List.forall_mem_nil _⟩⟩⟩, List.forall_mem_cons.mpr ⟨pf_Mo_1169, List.forall_mem_cons.mpr ⟨pf_Mo_1175, List.forall_mem_nil _⟩⟩, List.forall_mem_nil _, List.forall_mem_nil _, List.forall_mem_nil _, GG_pl⟩ (by decide +kernel)
def n_Mo_styleOpen_at_f3_an : List an_T := []
def t_Mo_styleOpen_at_f3_ct : ct_L := []
set_option maxRecDepth 100000 in
theorem c_Mo_styleOpen_at_f3 {l : Launch} {D : va_G} {kA : Nat → ClassId} : ct_ok PRD l D kA GG y_Mo_styleOpen_at_f3 z_Mo_styleOpen_at_f3 e_Mo_styleOpen_at_f3 := chk_all_ok (FT := [(348, 13, 162), (1169, 13, 158), (1175, 13, 159)]) (PT := [(1169, 13, 158, .int), (1175, 13, 159, .int)]) (CT := t_Mo_styleOpen_at_f3_ct) (KT := []) (NT := []) (AN := n_Mo_styleOpen_at_f3_an) (OT := [(o_Mo_styleOpen_f_0 3), (o_Mo_styleOpen_f_1 3), (o_Mo_styleOpen_f_2 3)]) 0 200 (List.forall_mem_cons.mpr ⟨(oo_Mo_styleOpen_f_0 3 (by decide) (by decide)), List.forall_mem_cons.mpr ⟨(oo_Mo_styleOpen_f_1 3 (by decide) (by decide)), List.forall_mem_cons.mpr ⟨(oo_Mo_styleOpen_f_2 3 (by decide) (by decide)), List.forall_mem_nil _⟩⟩⟩) (by decide +kernel) ⟨List.forall_mem_cons.mpr ⟨gf_Mo_348, List.forall_mem_cons.mpr ⟨gf_Mo_1169, List.forall_mem_cons.mpr ⟨gf_Mo_1175, List.forall_mem_nil _⟩⟩⟩, List.forall_mem_cons.mpr ⟨pf_Mo_1169, List.forall_mem_cons.mpr ⟨pf_Mo_1175, List.forall_mem_nil _⟩⟩, List.forall_mem_nil _, List.forall_mem_nil _, List.forall_mem_nil _, GG_pl⟩ (by decide +kernel)
def n_Mo_styleOpen_at_f4_an : List an_T := []
def t_Mo_styleOpen_at_f4_ct : ct_L := []
set_option maxRecDepth 100000 in
theorem c_Mo_styleOpen_at_f4 {l : Launch} {D : va_G} {kA : Nat → ClassId} : ct_ok PRD l D kA GG y_Mo_styleOpen_at_f4 z_Mo_styleOpen_at_f4 e_Mo_styleOpen_at_f4 := chk_all_ok (FT := [(348, 13, 162), (1169, 13, 158), (1175, 13, 159)]) (PT := [(1169, 13, 158, .int), (1175, 13, 159, .int)]) (CT := t_Mo_styleOpen_at_f4_ct) (KT := []) (NT := []) (AN := n_Mo_styleOpen_at_f4_an) (OT := [(o_Mo_styleOpen_f_0 4), (o_Mo_styleOpen_f_1 4), (o_Mo_styleOpen_f_2 4)]) 0 200 (List.forall_mem_cons.mpr ⟨(oo_Mo_styleOpen_f_0 4 (by decide) (by decide)), List.forall_mem_cons.mpr ⟨(oo_Mo_styleOpen_f_1 4 (by decide) (by decide)), List.forall_mem_cons.mpr ⟨(oo_Mo_styleOpen_f_2 4 (by decide) (by decide)), List.forall_mem_nil _⟩⟩⟩) (by decide +kernel) ⟨List.forall_mem_cons.mpr ⟨gf_Mo_348, List.forall_mem_cons.mpr ⟨gf_Mo_1169, List.forall_mem_cons.mpr ⟨gf_Mo_1175, List.forall_mem_nil _⟩⟩⟩, List.forall_mem_cons.mpr ⟨pf_Mo_1169, List.forall_mem_cons.mpr ⟨pf_Mo_1175, List.forall_mem_nil _⟩⟩, List.forall_mem_nil _, List.forall_mem_nil _, List.forall_mem_nil _, GG_pl⟩ (by decide +kernel)
def n_Mo_styleOpen_at_f5_an : List an_T := []
def t_Mo_styleOpen_at_f5_ct : ct_L := []
set_option maxRecDepth 100000 in
theorem c_Mo_styleOpen_at_f5 {l : Launch} {D : va_G} {kA : Nat → ClassId} : ct_ok PRD l D kA GG y_Mo_styleOpen_at_f5 z_Mo_styleOpen_at_f5 e_Mo_styleOpen_at_f5 := chk_all_ok (FT := [(348, 13, 162), (1169, 13, 158), (1175, 13, 159)]) (PT := [(1169, 13, 158, .int), (1175, 13, 159, .int)]) (CT := t_Mo_styleOpen_at_f5_ct) (KT := []) (NT := []) (AN := n_Mo_styleOpen_at_f5_an) (OT := [(o_Mo_styleOpen_f_0 5), (o_Mo_styleOpen_f_1 5), (o_Mo_styleOpen_f_2 5)]) 0 200 (List.forall_mem_cons.mpr ⟨(oo_Mo_styleOpen_f_0 5 (by decide) (by decide)), List.forall_mem_cons.mpr ⟨(oo_Mo_styleOpen_f_1 5 (by decide) (by decide)), List.forall_mem_cons.mpr ⟨(oo_Mo_styleOpen_f_2 5 (by decide) (by decide)), List.forall_mem_nil _⟩⟩⟩) (by decide +kernel) ⟨List.forall_mem_cons.mpr ⟨gf_Mo_348, List.forall_mem_cons.mpr ⟨gf_Mo_1169, List.forall_mem_cons.mpr ⟨gf_Mo_1175, List.forall_mem_nil _⟩⟩⟩, List.forall_mem_cons.mpr ⟨pf_Mo_1169, List.forall_mem_cons.mpr ⟨pf_Mo_1175, List.forall_mem_nil _⟩⟩, List.forall_mem_nil _, List.forall_mem_nil _, List.forall_mem_nil _, GG_pl⟩ (by decide +kernel)
def n_Mo_styleOpen_at_f6_an : List an_T := []
def t_Mo_styleOpen_at_f6_ct : ct_L := []
set_option maxRecDepth 100000 in
theorem c_Mo_styleOpen_at_f6 {l : Launch} {D : va_G} {kA : Nat → ClassId} : ct_ok PRD l D kA GG y_Mo_styleOpen_at_f6 z_Mo_styleOpen_at_f6 e_Mo_styleOpen_at_f6 := chk_all_ok (FT := [(348, 13, 162), (1169, 13, 158), (1175, 13, 159)]) (PT := [(1169, 13, 158, .int), (1175, 13, 159, .int)]) (CT := t_Mo_styleOpen_at_f6_ct) (KT := []) (NT := []) (AN := n_Mo_styleOpen_at_f6_an) (OT := [(o_Mo_styleOpen_f_0 6), (o_Mo_styleOpen_f_1 6), (o_Mo_styleOpen_f_2 6)]) 0 200 (List.forall_mem_cons.mpr ⟨(oo_Mo_styleOpen_f_0 6 (by decide) (by decide)), List.forall_mem_cons.mpr ⟨(oo_Mo_styleOpen_f_1 6 (by decide) (by decide)), List.forall_mem_cons.mpr ⟨(oo_Mo_styleOpen_f_2 6 (by decide) (by decide)), List.forall_mem_nil _⟩⟩⟩) (by decide +kernel) ⟨List.forall_mem_cons.mpr ⟨gf_Mo_348, List.forall_mem_cons.mpr ⟨gf_Mo_1169, List.forall_mem_cons.mpr ⟨gf_Mo_1175, List.forall_mem_nil _⟩⟩⟩, List.forall_mem_cons.mpr ⟨pf_Mo_1169, List.forall_mem_cons.mpr ⟨pf_Mo_1175, List.forall_mem_nil _⟩⟩, List.forall_mem_nil _, List.forall_mem_nil _, List.forall_mem_nil _, GG_pl⟩ (by decide +kernel)
def n_Mo_styleOpen_at_f7_an : List an_T := []
def t_Mo_styleOpen_at_f7_ct : ct_L := []
set_option maxRecDepth 100000 in
theorem c_Mo_styleOpen_at_f7 {l : Launch} {D : va_G} {kA : Nat → ClassId} : ct_ok PRD l D kA GG y_Mo_styleOpen_at_f7 z_Mo_styleOpen_at_f7 e_Mo_styleOpen_at_f7 := chk_all_ok (FT := [(348, 13, 162), (1169, 13, 158), (1175, 13, 159)]) (PT := [(1169, 13, 158, .int), (1175, 13, 159, .int)]) (CT := t_Mo_styleOpen_at_f7_ct) (KT := []) (NT := []) (AN := n_Mo_styleOpen_at_f7_an) (OT := [(o_Mo_styleOpen_f_0 7), (o_Mo_styleOpen_f_1 7), (o_Mo_styleOpen_f_2 7)]) 0 200 (List.forall_mem_cons.mpr ⟨(oo_Mo_styleOpen_f_0 7 (by decide) (by decide)), List.forall_mem_cons.mpr ⟨(oo_Mo_styleOpen_f_1 7 (by decide) (by decide)), List.forall_mem_cons.mpr ⟨(oo_Mo_styleOpen_f_2 7 (by decide) (by decide)), List.forall_mem_nil _⟩⟩⟩) (by decide +kernel) ⟨List.forall_mem_cons.mpr ⟨gf_Mo_348, List.forall_mem_cons.mpr ⟨gf_Mo_1169, List.forall_mem_cons.mpr ⟨gf_Mo_1175, List.forall_mem_nil _⟩⟩⟩, List.forall_mem_cons.mpr ⟨pf_Mo_1169, List.forall_mem_cons.mpr ⟨pf_Mo_1175, List.forall_mem_nil _⟩⟩, List.forall_mem_nil _, List.forall_mem_nil _, List.forall_mem_nil _, GG_pl⟩ (by decide +kernel)
def n_Mo_styleOpen_at_f8_an : List an_T := []
def t_Mo_styleOpen_at_f8_ct : ct_L := []
set_option maxRecDepth 100000 in
theorem c_Mo_styleOpen_at_f8 {l : Launch} {D : va_G} {kA : Nat → ClassId} : ct_ok PRD l D kA GG y_Mo_styleOpen_at_f8 z_Mo_styleOpen_at_f8 e_Mo_styleOpen_at_f8 := chk_all_ok (FT := [(348, 13, 162), (1169, 13, 158), (1175, 13, 159)]) (PT := [(1169, 13, 158, .int), (1175, 13, 159, .int)]) (CT := t_Mo_styleOpen_at_f8_ct) (KT := []) (NT := []) (AN := n_Mo_styleOpen_at_f8_an) (OT := [(o_Mo_styleOpen_f_0 8), (o_Mo_styleOpen_f_1 8), (o_Mo_styleOpen_f_2 8)]) 0 200 (List.forall_mem_cons.mpr ⟨(oo_Mo_styleOpen_f_0 8 (by decide) (by decide)), List.forall_mem_cons.mpr ⟨(oo_Mo_styleOpen_f_1 8 (by decide) (by decide)), List.forall_mem_cons.mpr ⟨(oo_Mo_styleOpen_f_2 8 (by decide) (by decide)), List.forall_mem_nil _⟩⟩⟩) (by decide +kernel) ⟨List.forall_mem_cons.mpr ⟨gf_Mo_348, List.forall_mem_cons.mpr ⟨gf_Mo_1169, List.forall_mem_cons.mpr ⟨gf_Mo_1175, List.forall_mem_nil _⟩⟩⟩, List.forall_mem_cons.mpr ⟨pf_Mo_1169, List.forall_mem_cons.mpr ⟨pf_Mo_1175, List.forall_mem_nil _⟩⟩, List.forall_mem_nil _, List.forall_mem_nil _, List.forall_mem_nil _, GG_pl⟩ (by decide +kernel)
def n_Mo_styleOpen_at_f9_an : List an_T := []
def t_Mo_styleOpen_at_f9_ct : ct_L := []
set_option maxRecDepth 100000 in
theorem c_Mo_styleOpen_at_f9 {l : Launch} {D : va_G} {kA : Nat → ClassId} : ct_ok PRD l D kA GG y_Mo_styleOpen_at_f9 z_Mo_styleOpen_at_f9 e_Mo_styleOpen_at_f9 := chk_all_ok (FT := [(348, 13, 162), (1169, 13, 158), (1175, 13, 159)]) (PT := [(1169, 13, 158, .int), (1175, 13, 159, .int)]) (CT := t_Mo_styleOpen_at_f9_ct) (KT := []) (NT := []) (AN := n_Mo_styleOpen_at_f9_an) (OT := [(o_Mo_styleOpen_f_0 9), (o_Mo_styleOpen_f_1 9), (o_Mo_styleOpen_f_2 9)]) 0 200 (List.forall_mem_cons.mpr ⟨(oo_Mo_styleOpen_f_0 9 (by decide) (by decide)), List.forall_mem_cons.mpr ⟨(oo_Mo_styleOpen_f_1 9 (by decide) (by decide)), List.forall_mem_cons.mpr ⟨(oo_Mo_styleOpen_f_2 9 (by decide) (by decide)), List.forall_mem_nil _⟩⟩⟩) (by decide +kernel) ⟨List.forall_mem_cons.mpr ⟨gf_Mo_348, List.forall_mem_cons.mpr ⟨gf_Mo_1169, List.forall_mem_cons.mpr ⟨gf_Mo_1175, List.forall_mem_nil _⟩⟩⟩, List.forall_mem_cons.mpr ⟨pf_Mo_1169, List.forall_mem_cons.mpr ⟨pf_Mo_1175, List.forall_mem_nil _⟩⟩, List.forall_mem_nil _, List.forall_mem_nil _, List.forall_mem_nil _, GG_pl⟩ (by decide +kernel)
def o_Mo_take_0 : or_T := (14, 5, [(0, (2, 0, 0, [165])), (1, (0, 0, 3, [])), (2, (2, 0, 0, [168])), (3, (0, 0, 30, [])), (4, (0, 0, 66297, []))], [(23, [4, 1, 3], [0, 1, -16709, -539]), (23, [4, 1, 3], [0, -1, 16709, 539]), (101, [0, 4], [5]), (23, [4, 1, 3], [0, 1, -16709, -539]), (23, [4, 1, 3], [0, -1, 16709, 539]), (10, [3, 2, 1], []), (9, [2, 0], [3])], [], [], [(20, [0, 1], [50, 1, 1, 5, 3, 1, 3, 2, 0, 5, 4, 6, 6, 2, 0, 16709, 1, 1, 6, 2, 0, 539, 3, 0, 3, 1, 1])], [], [])
theorem oo_Mo_take_0 {kA : Nat → ClassId} : or_ok PRD kA GG o_Mo_take_0 := by
  refine or_mk fun A ta ws vs hD hth hl => ?_
  intro t0 r0 t1 k1 t2 r2 t3 k3 t4 k4 f0 f1 ta1 w1 le1 s1 f3 f4 f5 f6
  replace f0 := shm_128 f0
  replace f1 := shm_129 f1
  have s1 : (∀ b j, w_el ws b j = w_el w1 b j) ∧ ∀ b j, w_fd ws b j = if b = v_ad (n_v vs 0) ∧ j = 5 then n_v vs 4 else w_fd w1 b j := s1.2
  replace f3 := shm_128 f3
  replace f4 := shm_129 f4
  replace f5 := shm_107 f5
  replace f6 := shm_137 f6
  have ar_0_3_1 : w_ar w1 (n_v vs 0) 3 = w_ar ws (n_v vs 0) 3 := by show v_ad (w_fd w1 _ _) = v_ad (w_fd ws _ _); rw [s1.2, if_neg (fun e => absurd e.2 (by decide))]
  have cr_0_3 := fdq_142 hD hth r0
  have ad_2 : v_ad (n_v vs 2) = w_ar ws (n_v vs 0) 3 := (congrArg v_ad f6).trans ar_0_3_1
  simp only [ad_2] at f5
  have h5 : v_iv (n_v vs 3) = w_ei w1 (w_ar ws (n_v vs 0) 3) (v_iv (n_v vs 1)) := f5
  have fe_0_5_1 : w_fi ws (n_v vs 0) 5 = v_iv (n_v vs 4) := by show v_iv (w_fd _ _ _) = _; rw [s1.2, if_pos ⟨rfl, rfl⟩]
  have ee_0_3_1_1 : w_el ws (w_ar ws (n_v vs 0) 3) (v_iv (n_v vs 1)).toNat = w_el w1 (w_ar ws (n_v vs 0) 3) (v_iv (n_v vs 1)).toNat := s1.1 _ _
  have br_0_3_1_0 : w_ei ws (w_ar ws (n_v vs 0) 3) (v_iv (n_v vs 1)) = w_el ws (w_ar ws (n_v vs 0) 3) (v_iv (n_v vs 1)).toNat := rfl
  have br_0_3_1_1 : w_ei w1 (w_ar ws (n_v vs 0) 3) (v_iv (n_v vs 1)) = w_el w1 (w_ar ws (n_v vs 0) 3) (v_iv (n_v vs 1)).toNat := rfl
  have hE_0_3_1 : ∀ j : Int, w_ei ws (w_ar ws (n_v vs 0) 3) j = w_ei w1 (w_ar ws (n_v vs 0) 3) j := fun j => s1.1 _ _
  have hK_0_3 := elq_80 hD hth cr_0_3
  have nf0 : fc_1 PRD (20, [0, 1], [50, 1, 1, 5, 3, 1, 3, 2, 0, 5, 4, 6, 6, 2, 0, 16709, 1, 1, 6, 2, 0, 539, 3, 0, 3, 1, 1]) ws (vs) := by
    refine ⟨nf_in hl rfl, sgq_1037 ?_⟩
    · show w_fi ws (n_v vs 0) 5 = ((16709 * v_iv (n_v vs 1)) + (539 * w_ei ws (w_ar ws (n_v vs 0) 3) (v_iv (n_v vs 1))))
      first | omega | grind
  refine ⟨(fun _ h => (by cases h)), [], trivial, ?_, (fun _ h => (by cases h))⟩
  rw [List.append_nil]
  exact List.forall_mem_cons.mpr ⟨⟨show (20 : Nat) < 100 from by decide, nf0⟩, (fun _ h => (by cases h))⟩
def n_Mo_take_an : List an_T := []
def t_Mo_take_ct : ct_L := [(0, 372, e_Mo_rowOf)]
set_option maxRecDepth 100000 in
theorem c_Mo_take {l : Launch} {D : va_G} {kA : Nat → ClassId} (h_Mo_rowOf : ct_ok PRD l D kA GG y_Mo_rowOf z_Mo_rowOf e_Mo_rowOf) : ct_ok PRD l D kA GG y_Mo_take z_Mo_take e_Mo_take := chk_all_ok (FT := [(20, 13, 3)]) (PT := [(391, 13, 5, .int)]) (CT := t_Mo_take_ct) (KT := []) (NT := []) (AN := n_Mo_take_an) (OT := [o_Mo_take_0]) 0 200 (List.forall_mem_cons.mpr ⟨oo_Mo_take_0, List.forall_mem_nil _⟩) (by decide +kernel) ⟨List.forall_mem_cons.mpr ⟨gf_Mo_20, List.forall_mem_nil _⟩, List.forall_mem_cons.mpr ⟨pf_Mo_391, List.forall_mem_nil _⟩, List.forall_mem_cons.mpr ⟨cl_static (y := y_Mo_rowOf) h_Mo_rowOf wm_2420 wm_9 wm_2418 wm_2419 ⟨by decide, by decide, by decide +kernel⟩ (by decide), List.forall_mem_nil _⟩, List.forall_mem_nil _, List.forall_mem_nil _, GG_pl⟩ (by decide +kernel)
def o_Mo_writeNumber_0 : or_T := (26, 5, [(0, (2, 0, 0, [165])), (1, (0, 0, 900000000, [])), (2, (0, 0, 99999987, [])), (3, (1, 0, 900000000, [])), (4, (1, 1, 1, []))], [(8, [1], [3]), (22, [3, 1], []), (8, [1], [3]), (20, [0, 2], [30, 0, 1, 1, 170, -1, 0, 0])], [], [(0, -1, 2147483647, [])], [(20, [0, 2], [30, 1, 1, 1, 170, -1, 0, 0]), (23, [4], [-1, -1]), (23, [4], [2147483648, 1]), (20, [4, 3], [50, 0, 0, 3, 6, 0, 2, 1, 0, 0, 1, 0, 2, 1, 0, 1, 1]), (24, [0, 0], []), (20, [5, 3, 4], [30, 0, 1, 0, 0, -1, 0, 0, 1, 0, 0]), (20, [5, 3, 4], [30, 0, -1, 0, 0, 1, 0, 0, -1, 0, 0])], [], [])
theorem oo_Mo_writeNumber_0 {kA : Nat → ClassId} : or_ok PRD kA GG o_Mo_writeNumber_0 := by
  refine or_mk fun A ta ws vs hD hth hl => ?_
  intro t0 r0 t1 k1 t2 k2 t3 k3 t4 k4 f0 f1 f2 f3
  replace f0 := shm_32 f0
  replace f1 := shm_47 f1
  replace f2 := shm_32 f2
  replace f3 := shm_131 f3
  have kz_0_170 := fdq_11 hD hth r0
  obtain ⟨x, ex, hx⟩ := iv_ex (ta := ta) (lo := (-1)) (hi := 2147483647) (z := 0 + (1 * v_iv (n_v vs 3) + ((-1) * v_iv (n_v vs 4) + 0))) (by omega) (by omega) (by omega) (by omega)
  have ex2 : v_iv (Value.int x) = 0 + (1 * v_iv (n_v vs 3) + ((-1) * v_iv (n_v vs 4) + 0)) := ex
  have ex3 : (-1) ≤ v_iv (Value.int x) ∧ v_iv (Value.int x) ≤ 2147483647 := tv_rng hx
  have e_0 : n_v (vs ++ [Value.int x]) 0 = n_v vs 0 := n_v_old (by rw [hl]; decide)
  have e_2 : n_v (vs ++ [Value.int x]) 2 = n_v vs 2 := n_v_old (by rw [hl]; decide)
  have e_3 : n_v (vs ++ [Value.int x]) 3 = n_v vs 3 := n_v_old (by rw [hl]; decide)
  have e_4 : n_v (vs ++ [Value.int x]) 4 = n_v vs 4 := n_v_old (by rw [hl]; decide)
  have e_5 : n_v (vs ++ [Value.int x]) 5 = Value.int x := n_v_new hl
  have nf0 : fc_1 PRD (20, [0, 2], [30, 1, 1, 1, 170, -1, 0, 0]) ws (vs ++ [Value.int x]) := by
    refine ⟨nf_inA hl rfl, sgq_132 ?_⟩
    · show 1 * w_fi ws (n_v (vs ++ [Value.int x]) 0) 170 + ((-1) * v_iv (n_v (vs ++ [Value.int x]) 2) + 0) ≤ 1
      simp only [e_0, e_2]
      omega
  have nf1 : fc_1 PRD (23, [4], [-1, -1]) ws (vs ++ [Value.int x]) := by
    refine ⟨nf_inA hl rfl, sgq_626 ?_⟩
    · show (-1) * v_iv (n_v (vs ++ [Value.int x]) 4) + 0 ≤ (-1)
      rw [e_4]
      omega
  have nf2 : fc_1 PRD (23, [4], [2147483648, 1]) ws (vs ++ [Value.int x]) := by
    refine ⟨nf_inA hl rfl, sgq_1038 ?_⟩
    · show 1 * v_iv (n_v (vs ++ [Value.int x]) 4) + 0 ≤ 2147483648
      rw [e_4]
      omega
  have nf3 : fc_1 PRD (20, [4, 3], [50, 0, 0, 3, 6, 0, 2, 1, 0, 0, 1, 0, 2, 1, 0, 1, 1]) ws (vs ++ [Value.int x]) := by
    refine ⟨nf_inA hl rfl, sgq_1039 ?_⟩
    · show (v_iv (n_v (vs ++ [Value.int x]) 4) ≤ 1) ∨ (v_iv (n_v (vs ++ [Value.int x]) 4) ≤ v_iv (n_v (vs ++ [Value.int x]) 3))
      simp only [e_3, e_4]
      first | omega | grind
  have nf4 : fc_1 PRD (24, [0, 0], []) ws (vs ++ [Value.int x]) := by
    refine ⟨nf_inA hl rfl, sgq_1 ?_⟩
    · show n_v (vs ++ [Value.int x]) 0 = n_v (vs ++ [Value.int x]) 0
      first | rfl | simp only [e_0]
  have nf5 : fc_1 PRD (20, [5, 3, 4], [30, 0, 1, 0, 0, -1, 0, 0, 1, 0, 0]) ws (vs ++ [Value.int x]) := by
    refine ⟨nf_inA hl rfl, sgq_1040 ?_⟩
    · show 1 * v_iv (n_v (vs ++ [Value.int x]) 5) + ((-1) * v_iv (n_v (vs ++ [Value.int x]) 3) + (1 * v_iv (n_v (vs ++ [Value.int x]) 4) + 0)) ≤ 0
      simp only [e_3, e_4, e_5]
      omega
  have nf6 : fc_1 PRD (20, [5, 3, 4], [30, 0, -1, 0, 0, 1, 0, 0, -1, 0, 0]) ws (vs ++ [Value.int x]) := by
    refine ⟨nf_inA hl rfl, sgq_1041 ?_⟩
    · show (-1) * v_iv (n_v (vs ++ [Value.int x]) 5) + (1 * v_iv (n_v (vs ++ [Value.int x]) 3) + ((-1) * v_iv (n_v (vs ++ [Value.int x]) 4) + 0)) ≤ 0
      simp only [e_3, e_4, e_5]
      omega
  exact ⟨(fun _ h => (by cases h)), [Value.int x], ag_one hx, List.forall_mem_cons.mpr ⟨⟨show (20 : Nat) < 100 from by decide, nf0⟩, List.forall_mem_cons.mpr ⟨⟨show (23 : Nat) < 100 from by decide, nf1⟩, List.forall_mem_cons.mpr ⟨⟨show (23 : Nat) < 100 from by decide, nf2⟩, List.forall_mem_cons.mpr ⟨⟨show (20 : Nat) < 100 from by decide, nf3⟩, List.forall_mem_cons.mpr ⟨⟨show (24 : Nat) < 100 from by decide, nf4⟩, List.forall_mem_cons.mpr ⟨⟨show (20 : Nat) < 100 from by decide, nf5⟩, List.forall_mem_cons.mpr ⟨⟨show (20 : Nat) < 100 from by decide, nf6⟩, (fun _ h => (by cases h))⟩⟩⟩⟩⟩⟩⟩, (fun _ h => (by cases h))⟩
def o_Mo_writeNumber_1 : or_T := (20, 6, [(0, (2, 0, 0, [165])), (2, (0, 0, 99999987, []))], [(20, [0, 2], [30, 0, 1, 1, 170, -1, 0, 0])], [], [(0, 0, 99999999, [])], [(20, [0, 6], [30, 0, 1, 1, 170, -1, 0, 0]), (23, [6, 2], [0, 1, -1])], [], [])
theorem oo_Mo_writeNumber_1 {kA : Nat → ClassId} : or_ok PRD kA GG o_Mo_writeNumber_1 := by
  refine or_mk fun A ta ws vs hD hth hl => ?_
  intro t0 r0 t2 k2 f0
  replace f0 := shm_131 f0
  have kz_0_170 := fdq_11 hD hth r0
  have kv0 := fdq_11 hD hth r0
  obtain ⟨x, ex, hx⟩ := iv_ex (ta := ta) (lo := 0) (hi := 99999999) (z := w_fi ws (n_v vs 0) 170) (by omega) (by omega) (by omega) (by omega)
  have ex2 : v_iv (Value.int x) = w_fi ws (n_v vs 0) 170 := ex
  have ex3 : 0 ≤ v_iv (Value.int x) ∧ v_iv (Value.int x) ≤ 99999999 := tv_rng hx
  have e_0 : n_v (vs ++ [Value.int x]) 0 = n_v vs 0 := n_v_old (by rw [hl]; decide)
  have e_2 : n_v (vs ++ [Value.int x]) 2 = n_v vs 2 := n_v_old (by rw [hl]; decide)
  have e_6 : n_v (vs ++ [Value.int x]) 6 = Value.int x := n_v_new hl
  have nf0 : fc_1 PRD (20, [0, 6], [30, 0, 1, 1, 170, -1, 0, 0]) ws (vs ++ [Value.int x]) := by
    refine ⟨nf_inA hl rfl, sgq_131 ?_⟩
    · show 1 * w_fi ws (n_v (vs ++ [Value.int x]) 0) 170 + ((-1) * v_iv (n_v (vs ++ [Value.int x]) 6) + 0) ≤ 0
      simp only [e_0, e_6]
      omega
  have nf1 : fc_1 PRD (23, [6, 2], [0, 1, -1]) ws (vs ++ [Value.int x]) := by
    refine ⟨nf_inA hl rfl, sgq_7 ?_⟩
    · show 1 * v_iv (n_v (vs ++ [Value.int x]) 6) + ((-1) * v_iv (n_v (vs ++ [Value.int x]) 2) + 0) ≤ 0
      simp only [e_2, e_6]
      omega
  exact ⟨(fun _ h => (by cases h)), [Value.int x], ag_one hx, List.forall_mem_cons.mpr ⟨⟨show (20 : Nat) < 100 from by decide, nf0⟩, List.forall_mem_cons.mpr ⟨⟨show (23 : Nat) < 100 from by decide, nf1⟩, (fun _ h => (by cases h))⟩⟩, (fun _ h => (by cases h))⟩
def o_Mo_writeNumber_2 : or_T := (26, 8, [(0, (2, 0, 0, [165])), (1, (0, -900000000, -1, [])), (2, (0, 0, 99999987, [])), (3, (1, -900000000, -1, [])), (4, (1, 1, 900000000, [])), (6, (0, 0, 99999999, [])), (7, (1, 1, 1, []))], [(23, [6, 2], [0, 1, -1]), (22, [3, 1], []), (20, [0, 6], [30, 1, 1, 1, 170, -1, 0, 0]), (102, [6], [7770675568902916283677847627294075626569627356208558085007249638955617140820833992704, 165170]), (23, [6, 2], [0, 1, -1]), (8, [1], [2]), (15, [4, 3], [-1]), (22, [3, 1], []), (8, [1], [2])], [], [(0, -1, 2147483647, [])], [(20, [0, 2], [30, 1, 1, 1, 170, -1, 0, 0]), (23, [7], [-1, -1]), (23, [7], [2147483648, 1]), (20, [7, 4], [50, 0, 0, 3, 6, 0, 2, 1, 0, 0, 1, 0, 2, 1, 0, 1, 1]), (24, [0, 0], []), (20, [8, 4, 7], [30, 0, 1, 0, 0, -1, 0, 0, 1, 0, 0]), (20, [8, 4, 7], [30, 0, -1, 0, 0, 1, 0, 0, -1, 0, 0])], [], [])
theorem oo_Mo_writeNumber_2 {kA : Nat → ClassId} : or_ok PRD kA GG o_Mo_writeNumber_2 := by
  refine or_mk fun A ta ws vs hD hth hl => ?_
  intro t0 r0 t1 k1 t2 k2 t3 k3 t4 k4 t6 k6 t7 k7 f0 f1 f2 ta1 w1 le1 s1 f4 f5 f6 f7 f8
  replace f0 := shm_7 f0
  replace f1 := shm_47 f1
  replace f2 := shm_132 f2
  replace f4 := shm_7 f4
  replace f5 := shm_39 f5
  replace f6 := shm_538 f6
  replace f7 := shm_47 f7
  replace f8 := shm_39 f8
  have kz_0_170 := fdq_11 hD hth r0
  obtain ⟨x, ex, hx⟩ := iv_ex (ta := ta) (lo := (-1)) (hi := 2147483647) (z := 0 + (1 * v_iv (n_v vs 4) + ((-1) * v_iv (n_v vs 7) + 0))) (by omega) (by omega) (by omega) (by omega)
  have ex2 : v_iv (Value.int x) = 0 + (1 * v_iv (n_v vs 4) + ((-1) * v_iv (n_v vs 7) + 0)) := ex
  have ex3 : (-1) ≤ v_iv (Value.int x) ∧ v_iv (Value.int x) ≤ 2147483647 := tv_rng hx
  have e_0 : n_v (vs ++ [Value.int x]) 0 = n_v vs 0 := n_v_old (by rw [hl]; decide)
  have e_2 : n_v (vs ++ [Value.int x]) 2 = n_v vs 2 := n_v_old (by rw [hl]; decide)
  have e_4 : n_v (vs ++ [Value.int x]) 4 = n_v vs 4 := n_v_old (by rw [hl]; decide)
  have e_7 : n_v (vs ++ [Value.int x]) 7 = n_v vs 7 := n_v_old (by rw [hl]; decide)
  have e_8 : n_v (vs ++ [Value.int x]) 8 = Value.int x := n_v_new hl
  have nf0 : fc_1 PRD (20, [0, 2], [30, 1, 1, 1, 170, -1, 0, 0]) ws (vs ++ [Value.int x]) := by
    refine ⟨nf_inA hl rfl, sgq_132 ?_⟩
    · show 1 * w_fi ws (n_v (vs ++ [Value.int x]) 0) 170 + ((-1) * v_iv (n_v (vs ++ [Value.int x]) 2) + 0) ≤ 1
      simp only [e_0, e_2]
      omega
  have nf1 : fc_1 PRD (23, [7], [-1, -1]) ws (vs ++ [Value.int x]) := by
    refine ⟨nf_inA hl rfl, sgq_626 ?_⟩
    · show (-1) * v_iv (n_v (vs ++ [Value.int x]) 7) + 0 ≤ (-1)
      rw [e_7]
      omega
  have nf2 : fc_1 PRD (23, [7], [2147483648, 1]) ws (vs ++ [Value.int x]) := by
    refine ⟨nf_inA hl rfl, sgq_1038 ?_⟩
    · show 1 * v_iv (n_v (vs ++ [Value.int x]) 7) + 0 ≤ 2147483648
      rw [e_7]
      omega
  have nf3 : fc_1 PRD (20, [7, 4], [50, 0, 0, 3, 6, 0, 2, 1, 0, 0, 1, 0, 2, 1, 0, 1, 1]) ws (vs ++ [Value.int x]) := by
    refine ⟨nf_inA hl rfl, sgq_1039 ?_⟩
    · show (v_iv (n_v (vs ++ [Value.int x]) 7) ≤ 1) ∨ (v_iv (n_v (vs ++ [Value.int x]) 7) ≤ v_iv (n_v (vs ++ [Value.int x]) 4))
      simp only [e_4, e_7]
      first | omega | grind
  have nf4 : fc_1 PRD (24, [0, 0], []) ws (vs ++ [Value.int x]) := by
    refine ⟨nf_inA hl rfl, sgq_1 ?_⟩
    · show n_v (vs ++ [Value.int x]) 0 = n_v (vs ++ [Value.int x]) 0
      first | rfl | simp only [e_0]
  have nf5 : fc_1 PRD (20, [8, 4, 7], [30, 0, 1, 0, 0, -1, 0, 0, 1, 0, 0]) ws (vs ++ [Value.int x]) := by
    refine ⟨nf_inA hl rfl, sgq_1040 ?_⟩
    · show 1 * v_iv (n_v (vs ++ [Value.int x]) 8) + ((-1) * v_iv (n_v (vs ++ [Value.int x]) 4) + (1 * v_iv (n_v (vs ++ [Value.int x]) 7) + 0)) ≤ 0
      simp only [e_4, e_7, e_8]
      omega
  have nf6 : fc_1 PRD (20, [8, 4, 7], [30, 0, -1, 0, 0, 1, 0, 0, -1, 0, 0]) ws (vs ++ [Value.int x]) := by
    refine ⟨nf_inA hl rfl, sgq_1041 ?_⟩
    · show (-1) * v_iv (n_v (vs ++ [Value.int x]) 8) + (1 * v_iv (n_v (vs ++ [Value.int x]) 4) + ((-1) * v_iv (n_v (vs ++ [Value.int x]) 7) + 0)) ≤ 0
      simp only [e_4, e_7, e_8]
      omega
  exact ⟨(fun _ h => (by cases h)), [Value.int x], ag_one hx, List.forall_mem_cons.mpr ⟨⟨show (20 : Nat) < 100 from by decide, nf0⟩, List.forall_mem_cons.mpr ⟨⟨show (23 : Nat) < 100 from by decide, nf1⟩, List.forall_mem_cons.mpr ⟨⟨show (23 : Nat) < 100 from by decide, nf2⟩, List.forall_mem_cons.mpr ⟨⟨show (20 : Nat) < 100 from by decide, nf3⟩, List.forall_mem_cons.mpr ⟨⟨show (24 : Nat) < 100 from by decide, nf4⟩, List.forall_mem_cons.mpr ⟨⟨show (20 : Nat) < 100 from by decide, nf5⟩, List.forall_mem_cons.mpr ⟨⟨show (20 : Nat) < 100 from by decide, nf6⟩, (fun _ h => (by cases h))⟩⟩⟩⟩⟩⟩⟩, (fun _ h => (by cases h))⟩
def o_Mo_writeNumber_3 : or_T := (48, 10, [(0, (2, 0, 0, [165])), (2, (0, 0, 99999987, [])), (3, (2, 0, 0, [165])), (5, (1, 0, 900000000, [])), (6, (1, 1, 2147483648, [])), (7, (0, -1, 2147483647, [])), (8, (1, 0, 9, [])), (9, (1, 9, 9, []))], [(7, [8, 9], [5]), (4, [8, 5, 6], []), (20, [3, 2], [30, 1, 1, 1, 170, -1, 0, 0]), (23, [6], [-1, -1]), (23, [6], [2147483648, 1]), (20, [6, 5], [50, 0, 0, 3, 6, 0, 2, 1, 0, 0, 1, 0, 2, 1, 0, 1, 1]), (24, [0, 3], []), (20, [7, 5, 6], [30, 0, 1, 0, 0, -1, 0, 0, 1, 0, 0]), (20, [7, 5, 6], [30, 0, -1, 0, 0, 1, 0, 0, -1, 0, 0])], [], [(0, -1, 11, [])], [(20, [3, 10, 2], [30, 12, 1, 1, 170, 1, 0, 0, -1, 0, 0]), (23, [6], [2147483648, 1]), (23, [6], [0, -1]), (20, [6, 10], [50, 0, 0, 3, 6, 0, 2, 1, 0, 0, 0, 0, 2, 0, 1, 1, 1]), (20, [6, 10], [50, 0, 0, 3, 6, 0, 2, 1, 0, 0, 9, 0, 2, 0, 2, 1, 1]), (20, [6, 10], [50, 0, 0, 3, 6, 0, 2, 1, 0, 0, 99, 0, 2, 0, 3, 1, 1]), (20, [6, 10], [50, 0, 0, 3, 6, 0, 2, 1, 0, 0, 999, 0, 2, 0, 4, 1, 1]), (20, [6, 10], [50, 0, 0, 3, 6, 0, 2, 1, 0, 0, 9999, 0, 2, 0, 5, 1, 1]), (20, [6, 10], [50, 0, 0, 3, 6, 0, 2, 1, 0, 0, 99999, 0, 2, 0, 6, 1, 1]), (20, [6, 10], [50, 0, 0, 3, 6, 0, 2, 1, 0, 0, 999999, 0, 2, 0, 7, 1, 1]), (20, [6, 10], [50, 0, 0, 3, 6, 0, 2, 1, 0, 0, 9999999, 0, 2, 0, 8, 1, 1]), (20, [6, 10], [50, 0, 0, 3, 6, 0, 2, 1, 0, 0, 99999999, 0, 2, 0, 9, 1, 1]), (20, [6, 10], [50, 0, 0, 3, 6, 0, 2, 1, 0, 0, 999999999, 0, 2, 0, 10, 1, 1]), (20, [6, 10], [50, 0, 0, 3, 6, 0, 2, 1, 0, 0, 9999999999, 0, 2, 0, 11, 1, 1]), (20, [10], [50, 0, 0, 0, 2, 0, -1, 1, 0]), (24, [0, 3], [])], [], [])
theorem oo_Mo_writeNumber_3 {kA : Nat → ClassId} : or_ok PRD kA GG o_Mo_writeNumber_3 := by
  refine or_mk fun A ta ws vs hD hth hl => ?_
  intro t0 r0 t2 k2 t3 r3 t5 k5 t6 k6 t7 k7 t8 k8 t9 k9 f0 f1 f2 f3 f4 f5 f6 f7 f8
  replace f0 := shm_24 f0
  replace f1 := shm_34 f1
  have fq1 : 10 ≤ v_iv (n_v vs 8) → 10 * v_iv (n_v vs 6) ≤ v_iv (n_v vs 5) := dv_ten f1 (by omega) (by omega)
  replace f2 := shm_132 f2
  replace f3 := shm_626 f3
  replace f4 := shm_1038 f4
  replace f5 := shm_1039 f5
  replace f6 := shm_5 f6
  replace f7 := shm_1040 f7
  replace f8 := shm_1041 f8
  have q3 : n_v vs 3 = n_v vs 0 := f6.symm
  simp only [q3] at f2
  have kz_0_170 := fdq_11 hD hth r0
  obtain ⟨x, ex, hx⟩ := iv_ex (ta := ta) (lo := (-1)) (hi := 11) (z := 11) (by omega) (by omega) (by omega) (by omega)
  have ex2 : v_iv (Value.int x) = 11 := ex
  have ex3 : (-1) ≤ v_iv (Value.int x) ∧ v_iv (Value.int x) ≤ 11 := tv_rng hx
  have e_0 : n_v (vs ++ [Value.int x]) 0 = n_v vs 0 := n_v_old (by rw [hl]; decide)
  have e_2 : n_v (vs ++ [Value.int x]) 2 = n_v vs 2 := n_v_old (by rw [hl]; decide)
  have e_3 : n_v (vs ++ [Value.int x]) 3 = n_v vs 3 := n_v_old (by rw [hl]; decide)
  have e_6 : n_v (vs ++ [Value.int x]) 6 = n_v vs 6 := n_v_old (by rw [hl]; decide)
  have e_10 : n_v (vs ++ [Value.int x]) 10 = Value.int x := n_v_new hl
  have nf0 : fc_1 PRD (20, [3, 10, 2], [30, 12, 1, 1, 170, 1, 0, 0, -1, 0, 0]) ws (vs ++ [Value.int x]) := by
    refine ⟨nf_inA hl rfl, sgq_1042 ?_⟩
    · show 1 * w_fi ws (n_v (vs ++ [Value.int x]) 3) 170 + (1 * v_iv (n_v (vs ++ [Value.int x]) 10) + ((-1) * v_iv (n_v (vs ++ [Value.int x]) 2) + 0)) ≤ 12
      simp only [e_2, e_3, e_10, q3]
      omega
  have nf1 : fc_1 PRD (23, [6], [2147483648, 1]) ws (vs ++ [Value.int x]) := by
    refine ⟨nf_inA hl rfl, sgq_1038 ?_⟩
    · show 1 * v_iv (n_v (vs ++ [Value.int x]) 6) + 0 ≤ 2147483648
      rw [e_6]
      omega
  have nf2 : fc_1 PRD (23, [6], [0, -1]) ws (vs ++ [Value.int x]) := by
    refine ⟨nf_inA hl rfl, sgq_1043 ?_⟩
    · show (-1) * v_iv (n_v (vs ++ [Value.int x]) 6) + 0 ≤ 0
      rw [e_6]
      omega
  have nf3 : fc_1 PRD (20, [6, 10], [50, 0, 0, 3, 6, 0, 2, 1, 0, 0, 0, 0, 2, 0, 1, 1, 1]) ws (vs ++ [Value.int x]) := by
    refine ⟨nf_inA hl rfl, sgq_1044 ?_⟩
    · show (v_iv (n_v (vs ++ [Value.int x]) 6) ≤ 0) ∨ (1 ≤ v_iv (n_v (vs ++ [Value.int x]) 10))
      simp only [e_6, e_10]
      first | omega | grind
  have nf4 : fc_1 PRD (20, [6, 10], [50, 0, 0, 3, 6, 0, 2, 1, 0, 0, 9, 0, 2, 0, 2, 1, 1]) ws (vs ++ [Value.int x]) := by
    refine ⟨nf_inA hl rfl, sgq_1045 ?_⟩
    · show (v_iv (n_v (vs ++ [Value.int x]) 6) ≤ 9) ∨ (2 ≤ v_iv (n_v (vs ++ [Value.int x]) 10))
      simp only [e_6, e_10]
      first | omega | grind
  have nf5 : fc_1 PRD (20, [6, 10], [50, 0, 0, 3, 6, 0, 2, 1, 0, 0, 99, 0, 2, 0, 3, 1, 1]) ws (vs ++ [Value.int x]) := by
    refine ⟨nf_inA hl rfl, sgq_1046 ?_⟩
    · show (v_iv (n_v (vs ++ [Value.int x]) 6) ≤ 99) ∨ (3 ≤ v_iv (n_v (vs ++ [Value.int x]) 10))
      simp only [e_6, e_10]
      first | omega | grind
  have nf6 : fc_1 PRD (20, [6, 10], [50, 0, 0, 3, 6, 0, 2, 1, 0, 0, 999, 0, 2, 0, 4, 1, 1]) ws (vs ++ [Value.int x]) := by
    refine ⟨nf_inA hl rfl, sgq_1047 ?_⟩
    · show (v_iv (n_v (vs ++ [Value.int x]) 6) ≤ 999) ∨ (4 ≤ v_iv (n_v (vs ++ [Value.int x]) 10))
      simp only [e_6, e_10]
      first | omega | grind
  have nf7 : fc_1 PRD (20, [6, 10], [50, 0, 0, 3, 6, 0, 2, 1, 0, 0, 9999, 0, 2, 0, 5, 1, 1]) ws (vs ++ [Value.int x]) := by
    refine ⟨nf_inA hl rfl, sgq_1048 ?_⟩
    · show (v_iv (n_v (vs ++ [Value.int x]) 6) ≤ 9999) ∨ (5 ≤ v_iv (n_v (vs ++ [Value.int x]) 10))
      simp only [e_6, e_10]
      first | omega | grind
  have nf8 : fc_1 PRD (20, [6, 10], [50, 0, 0, 3, 6, 0, 2, 1, 0, 0, 99999, 0, 2, 0, 6, 1, 1]) ws (vs ++ [Value.int x]) := by
    refine ⟨nf_inA hl rfl, sgq_1049 ?_⟩
    · show (v_iv (n_v (vs ++ [Value.int x]) 6) ≤ 99999) ∨ (6 ≤ v_iv (n_v (vs ++ [Value.int x]) 10))
      simp only [e_6, e_10]
      first | omega | grind
  have nf9 : fc_1 PRD (20, [6, 10], [50, 0, 0, 3, 6, 0, 2, 1, 0, 0, 999999, 0, 2, 0, 7, 1, 1]) ws (vs ++ [Value.int x]) := by
    refine ⟨nf_inA hl rfl, sgq_1050 ?_⟩
    · show (v_iv (n_v (vs ++ [Value.int x]) 6) ≤ 999999) ∨ (7 ≤ v_iv (n_v (vs ++ [Value.int x]) 10))
      simp only [e_6, e_10]
      first | omega | grind
  have nf10 : fc_1 PRD (20, [6, 10], [50, 0, 0, 3, 6, 0, 2, 1, 0, 0, 9999999, 0, 2, 0, 8, 1, 1]) ws (vs ++ [Value.int x]) := by
    refine ⟨nf_inA hl rfl, sgq_1051 ?_⟩
    · show (v_iv (n_v (vs ++ [Value.int x]) 6) ≤ 9999999) ∨ (8 ≤ v_iv (n_v (vs ++ [Value.int x]) 10))
      simp only [e_6, e_10]
      first | omega | grind
  have nf11 : fc_1 PRD (20, [6, 10], [50, 0, 0, 3, 6, 0, 2, 1, 0, 0, 99999999, 0, 2, 0, 9, 1, 1]) ws (vs ++ [Value.int x]) := by
    refine ⟨nf_inA hl rfl, sgq_1052 ?_⟩
    · show (v_iv (n_v (vs ++ [Value.int x]) 6) ≤ 99999999) ∨ (9 ≤ v_iv (n_v (vs ++ [Value.int x]) 10))
      simp only [e_6, e_10]
      first | omega | grind
  have nf12 : fc_1 PRD (20, [6, 10], [50, 0, 0, 3, 6, 0, 2, 1, 0, 0, 999999999, 0, 2, 0, 10, 1, 1]) ws (vs ++ [Value.int x]) := by
    refine ⟨nf_inA hl rfl, sgq_1053 ?_⟩
    · show (v_iv (n_v (vs ++ [Value.int x]) 6) ≤ 999999999) ∨ (10 ≤ v_iv (n_v (vs ++ [Value.int x]) 10))
      simp only [e_6, e_10]
      first | omega | grind
  have nf13 : fc_1 PRD (20, [6, 10], [50, 0, 0, 3, 6, 0, 2, 1, 0, 0, 9999999999, 0, 2, 0, 11, 1, 1]) ws (vs ++ [Value.int x]) := by
    refine ⟨nf_inA hl rfl, sgq_1054 ?_⟩
    · show (v_iv (n_v (vs ++ [Value.int x]) 6) ≤ 9999999999) ∨ (11 ≤ v_iv (n_v (vs ++ [Value.int x]) 10))
      simp only [e_6, e_10]
      first | omega | grind
  have nf14 : fc_1 PRD (20, [10], [50, 0, 0, 0, 2, 0, -1, 1, 0]) ws (vs ++ [Value.int x]) := by
    refine ⟨nf_inA hl rfl, sgq_609 ?_⟩
    · show (-1) ≤ v_iv (n_v (vs ++ [Value.int x]) 10)
      rw [e_10]
      first | omega | grind
  have nf15 : fc_1 PRD (24, [0, 3], []) ws (vs ++ [Value.int x]) := by
    refine ⟨nf_inA hl rfl, sgq_5 ?_⟩
    · show n_v (vs ++ [Value.int x]) 0 = n_v (vs ++ [Value.int x]) 3
      first | rfl | simp only [e_0, e_3, q3]
  exact ⟨(fun _ h => (by cases h)), [Value.int x], ag_one hx, List.forall_mem_cons.mpr ⟨⟨show (20 : Nat) < 100 from by decide, nf0⟩, List.forall_mem_cons.mpr ⟨⟨show (23 : Nat) < 100 from by decide, nf1⟩, List.forall_mem_cons.mpr ⟨⟨show (23 : Nat) < 100 from by decide, nf2⟩, List.forall_mem_cons.mpr ⟨⟨show (20 : Nat) < 100 from by decide, nf3⟩, List.forall_mem_cons.mpr ⟨⟨show (20 : Nat) < 100 from by decide, nf4⟩, List.forall_mem_cons.mpr ⟨⟨show (20 : Nat) < 100 from by decide, nf5⟩, List.forall_mem_cons.mpr ⟨⟨show (20 : Nat) < 100 from by decide, nf6⟩, List.forall_mem_cons.mpr ⟨⟨show (20 : Nat) < 100 from by decide, nf7⟩, List.forall_mem_cons.mpr ⟨⟨show (20 : Nat) < 100 from by decide, nf8⟩, List.forall_mem_cons.mpr ⟨⟨show (20 : Nat) < 100 from by decide, nf9⟩, List.forall_mem_cons.mpr ⟨⟨show (20 : Nat) < 100 from by decide, nf10⟩, List.forall_mem_cons.mpr ⟨⟨show (20 : Nat) < 100 from by decide, nf11⟩, List.forall_mem_cons.mpr ⟨⟨show (20 : Nat) < 100 from by decide, nf12⟩, List.forall_mem_cons.mpr ⟨⟨show (20 : Nat) < 100 from by decide, nf13⟩, List.forall_mem_cons.mpr ⟨⟨show (20 : Nat) < 100 from by decide, nf14⟩, List.forall_mem_cons.mpr ⟨⟨show (24 : Nat) < 100 from by decide, nf15⟩, (fun _ h => (by cases h))⟩⟩⟩⟩⟩⟩⟩⟩⟩⟩⟩⟩⟩⟩⟩⟩, (fun _ h => (by cases h))⟩
def o_Mo_writeNumber_4 : or_T := (43, 12, [(0, (2, 0, 0, [165])), (2, (0, 0, 99999987, [])), (3, (2, 0, 0, [165])), (5, (1, 0, 900000000, [])), (6, (1, 1, 2147483648, [])), (7, (0, -1, 2147483647, [])), (8, (1, 10, 900000000, [])), (9, (1, 9, 9, [])), (10, (1, 10, 10, [])), (11, (1, 10, 21474836480, []))], [(3, [11, 6, 10], []), (7, [8, 9], [4]), (4, [8, 5, 6], []), (20, [3, 2], [30, 1, 1, 1, 170, -1, 0, 0]), (23, [6], [-1, -1]), (23, [6], [2147483648, 1]), (20, [6, 5], [50, 0, 0, 3, 6, 0, 2, 1, 0, 0, 1, 0, 2, 1, 0, 1, 1]), (24, [0, 3], []), (20, [7, 5, 6], [30, 0, 1, 0, 0, -1, 0, 0, 1, 0, 0]), (20, [7, 5, 6], [30, 0, -1, 0, 0, 1, 0, 0, -1, 0, 0])], [(11, (1, 10, 2147483648, []))], [], [], [], [])
theorem oo_Mo_writeNumber_4 {kA : Nat → ClassId} : or_ok PRD kA GG o_Mo_writeNumber_4 := by
  refine or_mk fun A ta ws vs hD hth hl => ?_
  intro t0 r0 t2 k2 t3 r3 t5 k5 t6 k6 t7 k7 t8 k8 t9 k9 t10 k10 t11 k11 f0 f1 f2 f3 f4 f5 f6 f7 f8 f9
  replace f0 := shm_38 f0
  rw [show v_iv (n_v vs 10) = 10 from by omega] at f0
  replace f1 := shm_21 f1
  replace f2 := shm_34 f2
  have fq2 : 10 ≤ v_iv (n_v vs 8) → 10 * v_iv (n_v vs 6) ≤ v_iv (n_v vs 5) := dv_ten f2 (by omega) (by omega)
  replace f3 := shm_132 f3
  replace f4 := shm_626 f4
  replace f5 := shm_1038 f5
  replace f6 := shm_1039 f6
  replace f7 := shm_5 f7
  replace f8 := shm_1040 f8
  replace f9 := shm_1041 f9
  have q3 : n_v vs 3 = n_v vs 0 := f7.symm
  simp only [q3] at f3
  have kz_0_170 := fdq_11 hD hth r0
  have rf11 : tv_ok ta (1, 10, 2147483648, []) (n_v vs 11) := tv_inL t11 (by first | omega | grind) (by first | omega | grind)
  refine ⟨List.forall_mem_cons.mpr ⟨rf11, (fun _ h => (by cases h))⟩, [], trivial, ?_, (fun _ h => (by cases h))⟩
  rw [List.append_nil]
  exact (fun _ h => (by cases h))
def o_Mo_writeNumber_5 : or_T := (45, 12, [(0, (2, 0, 0, [165])), (2, (0, 0, 99999987, [])), (3, (2, 0, 0, [165])), (5, (1, 0, 900000000, [])), (6, (1, 1, 2147483648, [])), (7, (0, -1, 2147483647, [])), (8, (1, 10, 900000000, [])), (9, (1, 9, 9, [])), (10, (1, 10, 10, [])), (11, (1, 10, 2147483648, []))], [(3, [11, 6, 10], []), (7, [8, 9], [4]), (4, [8, 5, 6], []), (20, [3, 2], [30, 1, 1, 1, 170, -1, 0, 0]), (23, [6], [-1, -1]), (23, [6], [2147483648, 1]), (20, [6, 5], [50, 0, 0, 3, 6, 0, 2, 1, 0, 0, 1, 0, 2, 1, 0, 1, 1]), (24, [0, 3], []), (20, [7, 5, 6], [30, 0, 1, 0, 0, -1, 0, 0, 1, 0, 0]), (20, [7, 5, 6], [30, 0, -1, 0, 0, 1, 0, 0, -1, 0, 0])], [], [(0, -1, 2147483647, [])], [(20, [3, 2], [30, 1, 1, 1, 170, -1, 0, 0]), (23, [11], [-1, -1]), (23, [11], [2147483648, 1]), (20, [11, 5], [50, 0, 0, 3, 6, 0, 2, 1, 0, 0, 1, 0, 2, 1, 0, 1, 1]), (20, [5, 11, 12], [30, -1, 1, 0, 0, -1, 0, 0, -1, 0, 0]), (24, [0, 3], [])], [(12, 7, 0, 0)], [])
theorem oo_Mo_writeNumber_5 {kA : Nat → ClassId} : or_ok PRD kA GG o_Mo_writeNumber_5 := by
  refine or_mk fun A ta ws vs hD hth hl => ?_
  intro t0 r0 t2 k2 t3 r3 t5 k5 t6 k6 t7 k7 t8 k8 t9 k9 t10 k10 t11 k11 f0 f1 f2 f3 f4 f5 f6 f7 f8 f9
  replace f0 := shm_38 f0
  rw [show v_iv (n_v vs 10) = 10 from by omega] at f0
  replace f1 := shm_21 f1
  replace f2 := shm_34 f2
  have fq2 : 10 ≤ v_iv (n_v vs 8) → 10 * v_iv (n_v vs 6) ≤ v_iv (n_v vs 5) := dv_ten f2 (by omega) (by omega)
  replace f3 := shm_132 f3
  replace f4 := shm_626 f4
  replace f5 := shm_1038 f5
  replace f6 := shm_1039 f6
  replace f7 := shm_5 f7
  replace f8 := shm_1040 f8
  replace f9 := shm_1041 f9
  have q3 : n_v vs 3 = n_v vs 0 := f7.symm
  simp only [q3] at f3
  have kz_0_170 := fdq_11 hD hth r0
  obtain ⟨x, ex, hx⟩ := iv_ex (ta := ta) (lo := (-1)) (hi := 2147483647) (z := 0 + (1 * v_iv (n_v vs 7) + 0)) (by omega) (by omega) (by omega) (by omega)
  have ex2 : v_iv (Value.int x) = 0 + (1 * v_iv (n_v vs 7) + 0) := ex
  have ex3 : (-1) ≤ v_iv (Value.int x) ∧ v_iv (Value.int x) ≤ 2147483647 := tv_rng hx
  have e_0 : n_v (vs ++ [Value.int x]) 0 = n_v vs 0 := n_v_old (by rw [hl]; decide)
  have e_2 : n_v (vs ++ [Value.int x]) 2 = n_v vs 2 := n_v_old (by rw [hl]; decide)
  have e_3 : n_v (vs ++ [Value.int x]) 3 = n_v vs 3 := n_v_old (by rw [hl]; decide)
  have e_5 : n_v (vs ++ [Value.int x]) 5 = n_v vs 5 := n_v_old (by rw [hl]; decide)
  have e_11 : n_v (vs ++ [Value.int x]) 11 = n_v vs 11 := n_v_old (by rw [hl]; decide)
  have e_12 : n_v (vs ++ [Value.int x]) 12 = Value.int x := n_v_new hl
  have nf0 : fc_1 PRD (20, [3, 2], [30, 1, 1, 1, 170, -1, 0, 0]) ws (vs ++ [Value.int x]) := by
    refine ⟨nf_inA hl rfl, sgq_132 ?_⟩
    · show 1 * w_fi ws (n_v (vs ++ [Value.int x]) 3) 170 + ((-1) * v_iv (n_v (vs ++ [Value.int x]) 2) + 0) ≤ 1
      simp only [e_2, e_3, q3]
      omega
  have nf1 : fc_1 PRD (23, [11], [-1, -1]) ws (vs ++ [Value.int x]) := by
    refine ⟨nf_inA hl rfl, sgq_626 ?_⟩
    · show (-1) * v_iv (n_v (vs ++ [Value.int x]) 11) + 0 ≤ (-1)
      rw [e_11]
      omega
  have nf2 : fc_1 PRD (23, [11], [2147483648, 1]) ws (vs ++ [Value.int x]) := by
    refine ⟨nf_inA hl rfl, sgq_1038 ?_⟩
    · show 1 * v_iv (n_v (vs ++ [Value.int x]) 11) + 0 ≤ 2147483648
      rw [e_11]
      omega
  have nf3 : fc_1 PRD (20, [11, 5], [50, 0, 0, 3, 6, 0, 2, 1, 0, 0, 1, 0, 2, 1, 0, 1, 1]) ws (vs ++ [Value.int x]) := by
    refine ⟨nf_inA hl rfl, sgq_1039 ?_⟩
    · show (v_iv (n_v (vs ++ [Value.int x]) 11) ≤ 1) ∨ (v_iv (n_v (vs ++ [Value.int x]) 11) ≤ v_iv (n_v (vs ++ [Value.int x]) 5))
      simp only [e_5, e_11]
      first | omega | grind
  have nf4 : fc_1 PRD (20, [5, 11, 12], [30, -1, 1, 0, 0, -1, 0, 0, -1, 0, 0]) ws (vs ++ [Value.int x]) := by
    refine ⟨nf_inA hl rfl, sgq_1055 ?_⟩
    · show 1 * v_iv (n_v (vs ++ [Value.int x]) 5) + ((-1) * v_iv (n_v (vs ++ [Value.int x]) 11) + ((-1) * v_iv (n_v (vs ++ [Value.int x]) 12) + 0)) ≤ (-1)
      simp only [e_5, e_11, e_12]
      omega
  have nf5 : fc_1 PRD (24, [0, 3], []) ws (vs ++ [Value.int x]) := by
    refine ⟨nf_inA hl rfl, sgq_5 ?_⟩
    · show n_v (vs ++ [Value.int x]) 0 = n_v (vs ++ [Value.int x]) 3
      first | rfl | simp only [e_0, e_3, q3]
  obtain ⟨x0, e0, _, _⟩ := tv_int t7 rfl
  have e1 : v_iv (n_v vs 7) = x0.toInt := by rw [e0]; rfl
  have ho : sy_ofs (vs ++ [Value.int x]) (12, 7, 0, 0) := by
    refine ⟨x, x0, by rw [List.getElem?_append_right (by rw [hl]; decide), hl]; rfl, ?_, ?_, ?_⟩
    · rw [List.getElem?_append_left (by rw [hl]; decide)]; exact n_v_some (by rw [hl]; decide) e0
    · show x0.toInt + 0 ≤ x.toInt; omega
    · show x.toInt ≤ x0.toInt + 0; omega
  exact ⟨(fun _ h => (by cases h)), [Value.int x], ag_one hx, List.forall_mem_cons.mpr ⟨⟨show (20 : Nat) < 100 from by decide, nf0⟩, List.forall_mem_cons.mpr ⟨⟨show (23 : Nat) < 100 from by decide, nf1⟩, List.forall_mem_cons.mpr ⟨⟨show (23 : Nat) < 100 from by decide, nf2⟩, List.forall_mem_cons.mpr ⟨⟨show (20 : Nat) < 100 from by decide, nf3⟩, List.forall_mem_cons.mpr ⟨⟨show (20 : Nat) < 100 from by decide, nf4⟩, List.forall_mem_cons.mpr ⟨⟨show (24 : Nat) < 100 from by decide, nf5⟩, (fun _ h => (by cases h))⟩⟩⟩⟩⟩⟩, List.forall_mem_cons.mpr ⟨ho, (fun _ h => (by cases h))⟩⟩
def o_Mo_writeNumber_6 : or_T := (26, 8, [(0, (2, 0, 0, [165])), (2, (0, 0, 99999987, [])), (3, (2, 0, 0, [165])), (5, (1, 0, 900000000, [])), (6, (1, 10, 2147483648, [])), (7, (0, -1, 2147483647, []))], [(20, [3, 2], [30, 1, 1, 1, 170, -1, 0, 0]), (23, [6], [-1, -1]), (23, [6], [2147483648, 1]), (20, [6, 5], [50, 0, 0, 3, 6, 0, 2, 1, 0, 0, 1, 0, 2, 1, 0, 1, 1]), (20, [5, 6, 7], [30, -1, 1, 0, 0, -1, 0, 0, -1, 0, 0]), (24, [0, 3], [])], [], [(0, -1, 2147483647, [])], [(20, [3, 2], [30, 1, 1, 1, 170, -1, 0, 0]), (23, [6], [-1, -1]), (23, [6], [2147483648, 1]), (20, [6, 5], [50, 0, 0, 3, 6, 0, 2, 1, 0, 0, 1, 0, 2, 1, 0, 1, 1]), (24, [0, 3], []), (20, [8, 5, 6], [30, 0, 1, 0, 0, -1, 0, 0, 1, 0, 0]), (20, [8, 5, 6], [30, 0, -1, 0, 0, 1, 0, 0, -1, 0, 0])], [(8, 7, -1000000000000, -1)], [])
theorem oo_Mo_writeNumber_6 {kA : Nat → ClassId} : or_ok PRD kA GG o_Mo_writeNumber_6 := by
  refine or_mk fun A ta ws vs hD hth hl => ?_
  intro t0 r0 t2 k2 t3 r3 t5 k5 t6 k6 t7 k7 f0 f1 f2 f3 f4 f5
  replace f0 := shm_132 f0
  replace f1 := shm_626 f1
  replace f2 := shm_1038 f2
  replace f3 := shm_1039 f3
  replace f4 := shm_1055 f4
  replace f5 := shm_5 f5
  have q3 : n_v vs 3 = n_v vs 0 := f5.symm
  simp only [q3] at f0
  have kz_0_170 := fdq_11 hD hth r0
  obtain ⟨x, ex, hx⟩ := iv_ex (ta := ta) (lo := (-1)) (hi := 2147483647) (z := 0 + (1 * v_iv (n_v vs 5) + ((-1) * v_iv (n_v vs 6) + 0))) (by omega) (by omega) (by omega) (by omega)
  have ex2 : v_iv (Value.int x) = 0 + (1 * v_iv (n_v vs 5) + ((-1) * v_iv (n_v vs 6) + 0)) := ex
  have ex3 : (-1) ≤ v_iv (Value.int x) ∧ v_iv (Value.int x) ≤ 2147483647 := tv_rng hx
  have e_0 : n_v (vs ++ [Value.int x]) 0 = n_v vs 0 := n_v_old (by rw [hl]; decide)
  have e_2 : n_v (vs ++ [Value.int x]) 2 = n_v vs 2 := n_v_old (by rw [hl]; decide)
  have e_3 : n_v (vs ++ [Value.int x]) 3 = n_v vs 3 := n_v_old (by rw [hl]; decide)
  have e_5 : n_v (vs ++ [Value.int x]) 5 = n_v vs 5 := n_v_old (by rw [hl]; decide)
  have e_6 : n_v (vs ++ [Value.int x]) 6 = n_v vs 6 := n_v_old (by rw [hl]; decide)
  have e_8 : n_v (vs ++ [Value.int x]) 8 = Value.int x := n_v_new hl
  have nf0 : fc_1 PRD (20, [3, 2], [30, 1, 1, 1, 170, -1, 0, 0]) ws (vs ++ [Value.int x]) := by
    refine ⟨nf_inA hl rfl, sgq_132 ?_⟩
    · show 1 * w_fi ws (n_v (vs ++ [Value.int x]) 3) 170 + ((-1) * v_iv (n_v (vs ++ [Value.int x]) 2) + 0) ≤ 1
      simp only [e_2, e_3, q3]
      omega
  have nf1 : fc_1 PRD (23, [6], [-1, -1]) ws (vs ++ [Value.int x]) := by
    refine ⟨nf_inA hl rfl, sgq_626 ?_⟩
    · show (-1) * v_iv (n_v (vs ++ [Value.int x]) 6) + 0 ≤ (-1)
      rw [e_6]
      omega
  have nf2 : fc_1 PRD (23, [6], [2147483648, 1]) ws (vs ++ [Value.int x]) := by
    refine ⟨nf_inA hl rfl, sgq_1038 ?_⟩
    · show 1 * v_iv (n_v (vs ++ [Value.int x]) 6) + 0 ≤ 2147483648
      rw [e_6]
      omega
  have nf3 : fc_1 PRD (20, [6, 5], [50, 0, 0, 3, 6, 0, 2, 1, 0, 0, 1, 0, 2, 1, 0, 1, 1]) ws (vs ++ [Value.int x]) := by
    refine ⟨nf_inA hl rfl, sgq_1039 ?_⟩
    · show (v_iv (n_v (vs ++ [Value.int x]) 6) ≤ 1) ∨ (v_iv (n_v (vs ++ [Value.int x]) 6) ≤ v_iv (n_v (vs ++ [Value.int x]) 5))
      simp only [e_5, e_6]
      first | omega | grind
  have nf4 : fc_1 PRD (24, [0, 3], []) ws (vs ++ [Value.int x]) := by
    refine ⟨nf_inA hl rfl, sgq_5 ?_⟩
    · show n_v (vs ++ [Value.int x]) 0 = n_v (vs ++ [Value.int x]) 3
      first | rfl | simp only [e_0, e_3, q3]
  have nf5 : fc_1 PRD (20, [8, 5, 6], [30, 0, 1, 0, 0, -1, 0, 0, 1, 0, 0]) ws (vs ++ [Value.int x]) := by
    refine ⟨nf_inA hl rfl, sgq_1040 ?_⟩
    · show 1 * v_iv (n_v (vs ++ [Value.int x]) 8) + ((-1) * v_iv (n_v (vs ++ [Value.int x]) 5) + (1 * v_iv (n_v (vs ++ [Value.int x]) 6) + 0)) ≤ 0
      simp only [e_5, e_6, e_8]
      omega
  have nf6 : fc_1 PRD (20, [8, 5, 6], [30, 0, -1, 0, 0, 1, 0, 0, -1, 0, 0]) ws (vs ++ [Value.int x]) := by
    refine ⟨nf_inA hl rfl, sgq_1041 ?_⟩
    · show (-1) * v_iv (n_v (vs ++ [Value.int x]) 8) + (1 * v_iv (n_v (vs ++ [Value.int x]) 5) + ((-1) * v_iv (n_v (vs ++ [Value.int x]) 6) + 0)) ≤ 0
      simp only [e_5, e_6, e_8]
      omega
  obtain ⟨x0, e0, _, _⟩ := tv_int t7 rfl
  have e1 : v_iv (n_v vs 7) = x0.toInt := by rw [e0]; rfl
  have ho : sy_ofs (vs ++ [Value.int x]) (8, 7, -1000000000000, -1) := by
    refine ⟨x, x0, by rw [List.getElem?_append_right (by rw [hl]; decide), hl]; rfl, ?_, ?_, ?_⟩
    · rw [List.getElem?_append_left (by rw [hl]; decide)]; exact n_v_some (by rw [hl]; decide) e0
    · show x0.toInt + (-1000000000000) ≤ x.toInt; omega
    · show x.toInt ≤ x0.toInt + (-1); omega
  exact ⟨(fun _ h => (by cases h)), [Value.int x], ag_one hx, List.forall_mem_cons.mpr ⟨⟨show (20 : Nat) < 100 from by decide, nf0⟩, List.forall_mem_cons.mpr ⟨⟨show (23 : Nat) < 100 from by decide, nf1⟩, List.forall_mem_cons.mpr ⟨⟨show (23 : Nat) < 100 from by decide, nf2⟩, List.forall_mem_cons.mpr ⟨⟨show (20 : Nat) < 100 from by decide, nf3⟩, List.forall_mem_cons.mpr ⟨⟨show (24 : Nat) < 100 from by decide, nf4⟩, List.forall_mem_cons.mpr ⟨⟨show (20 : Nat) < 100 from by decide, nf5⟩, List.forall_mem_cons.mpr ⟨⟨show (20 : Nat) < 100 from by decide, nf6⟩, (fun _ h => (by cases h))⟩⟩⟩⟩⟩⟩⟩, List.forall_mem_cons.mpr ⟨ho, (fun _ h => (by cases h))⟩⟩
def o_Mo_writeNumber_7 : or_T := (83, 9, [(0, (2, 0, 0, [165])), (2, (0, 0, 99999987, [])), (3, (2, 0, 0, [165])), (6, (1, 0, 0, [])), (7, (0, -1, 11, [])), (8, (1, 0, 0, []))], [(7, [6, 8], [5]), (20, [3, 7, 2], [30, 12, 1, 1, 170, 1, 0, 0, -1, 0, 0]), (23, [6], [2147483648, 1]), (23, [6], [0, -1]), (20, [6, 7], [50, 0, 0, 3, 6, 0, 2, 1, 0, 0, 0, 0, 2, 0, 1, 1, 1]), (20, [6, 7], [50, 0, 0, 3, 6, 0, 2, 1, 0, 0, 9, 0, 2, 0, 2, 1, 1]), (20, [6, 7], [50, 0, 0, 3, 6, 0, 2, 1, 0, 0, 99, 0, 2, 0, 3, 1, 1]), (20, [6, 7], [50, 0, 0, 3, 6, 0, 2, 1, 0, 0, 999, 0, 2, 0, 4, 1, 1]), (20, [6, 7], [50, 0, 0, 3, 6, 0, 2, 1, 0, 0, 9999, 0, 2, 0, 5, 1, 1]), (20, [6, 7], [50, 0, 0, 3, 6, 0, 2, 1, 0, 0, 99999, 0, 2, 0, 6, 1, 1]), (20, [6, 7], [50, 0, 0, 3, 6, 0, 2, 1, 0, 0, 999999, 0, 2, 0, 7, 1, 1]), (20, [6, 7], [50, 0, 0, 3, 6, 0, 2, 1, 0, 0, 9999999, 0, 2, 0, 8, 1, 1]), (20, [6, 7], [50, 0, 0, 3, 6, 0, 2, 1, 0, 0, 99999999, 0, 2, 0, 9, 1, 1]), (20, [6, 7], [50, 0, 0, 3, 6, 0, 2, 1, 0, 0, 999999999, 0, 2, 0, 10, 1, 1]), (20, [6, 7], [50, 0, 0, 3, 6, 0, 2, 1, 0, 0, 9999999999, 0, 2, 0, 11, 1, 1]), (20, [7], [50, 0, 0, 0, 2, 0, -1, 1, 0]), (24, [0, 3], [])], [], [], [(20, [0, 2], [30, 13, 1, 1, 170, -1, 0, 0])], [], [])
theorem oo_Mo_writeNumber_7 {kA : Nat → ClassId} : or_ok PRD kA GG o_Mo_writeNumber_7 := by
  refine or_mk fun A ta ws vs hD hth hl => ?_
  intro t0 r0 t2 k2 t3 r3 t6 k6 t7 k7 t8 k8 f0 f1 f2 f3 f4 f5 f6 f7 f8 f9 f10 f11 f12 f13 f14 f15 f16
  replace f0 := shm_24 f0
  replace f1 := shm_1042 f1
  replace f2 := shm_1038 f2
  replace f3 := shm_1043 f3
  replace f4 := shm_1044 f4
  replace f5 := shm_1045 f5
  replace f6 := shm_1046 f6
  replace f7 := shm_1047 f7
  replace f8 := shm_1048 f8
  replace f9 := shm_1049 f9
  replace f10 := shm_1050 f10
  replace f11 := shm_1051 f11
  replace f12 := shm_1052 f12
  replace f13 := shm_1053 f13
  replace f14 := shm_1054 f14
  replace f15 := shm_609 f15
  replace f16 := shm_5 f16
  have q3 : n_v vs 3 = n_v vs 0 := f16.symm
  simp only [q3] at f1
  have kz_0_170 := fdq_11 hD hth r0
  have nf0 : fc_1 PRD (20, [0, 2], [30, 13, 1, 1, 170, -1, 0, 0]) ws (vs) := by
    refine ⟨nf_in hl rfl, sgq_1056 ?_⟩
    · show 1 * w_fi ws (n_v vs 0) 170 + ((-1) * v_iv (n_v vs 2) + 0) ≤ 13
      omega
  refine ⟨(fun _ h => (by cases h)), [], trivial, ?_, (fun _ h => (by cases h))⟩
  rw [List.append_nil]
  exact List.forall_mem_cons.mpr ⟨⟨show (20 : Nat) < 100 from by decide, nf0⟩, (fun _ h => (by cases h))⟩
def o_Mo_writeNumber_8 : or_T := (69, 15, [(0, (2, 0, 0, [165])), (2, (0, 0, 99999987, [])), (3, (2, 0, 0, [165])), (5, (1, 0, 900000000, [])), (6, (1, 1, 922337203685477580, [])), (7, (0, -1, 11, [])), (8, (1, 0, 0, [])), (10, (1, 0, 900000000, []))], [(4, [10, 5, 6], []), (7, [6, 8], [4]), (20, [3, 7, 2], [30, 12, 1, 1, 170, 1, 0, 0, -1, 0, 0]), (23, [6], [2147483648, 1]), (23, [6], [0, -1]), (20, [6, 7], [50, 0, 0, 3, 6, 0, 2, 1, 0, 0, 0, 0, 2, 0, 1, 1, 1]), (20, [6, 7], [50, 0, 0, 3, 6, 0, 2, 1, 0, 0, 9, 0, 2, 0, 2, 1, 1]), (20, [6, 7], [50, 0, 0, 3, 6, 0, 2, 1, 0, 0, 99, 0, 2, 0, 3, 1, 1]), (20, [6, 7], [50, 0, 0, 3, 6, 0, 2, 1, 0, 0, 999, 0, 2, 0, 4, 1, 1]), (20, [6, 7], [50, 0, 0, 3, 6, 0, 2, 1, 0, 0, 9999, 0, 2, 0, 5, 1, 1]), (20, [6, 7], [50, 0, 0, 3, 6, 0, 2, 1, 0, 0, 99999, 0, 2, 0, 6, 1, 1]), (20, [6, 7], [50, 0, 0, 3, 6, 0, 2, 1, 0, 0, 999999, 0, 2, 0, 7, 1, 1]), (20, [6, 7], [50, 0, 0, 3, 6, 0, 2, 1, 0, 0, 9999999, 0, 2, 0, 8, 1, 1]), (20, [6, 7], [50, 0, 0, 3, 6, 0, 2, 1, 0, 0, 99999999, 0, 2, 0, 9, 1, 1]), (20, [6, 7], [50, 0, 0, 3, 6, 0, 2, 1, 0, 0, 999999999, 0, 2, 0, 10, 1, 1]), (20, [6, 7], [50, 0, 0, 3, 6, 0, 2, 1, 0, 0, 9999999999, 0, 2, 0, 11, 1, 1]), (20, [7], [50, 0, 0, 0, 2, 0, -1, 1, 0]), (24, [0, 3], [])], [], [(0, 0, 99999999, [])], [(20, [3, 15], [30, 0, 1, 1, 170, -1, 0, 0]), (23, [15, 7, 2], [12, 1, 1, -1])], [], [])
theorem oo_Mo_writeNumber_8 {kA : Nat → ClassId} : or_ok PRD kA GG o_Mo_writeNumber_8 := by
  refine or_mk fun A ta ws vs hD hth hl => ?_
  intro t0 r0 t2 k2 t3 r3 t5 k5 t6 k6 t7 k7 t8 k8 t10 k10 f0 f1 f2 f3 f4 f5 f6 f7 f8 f9 f10 f11 f12 f13 f14 f15 f16 f17
  replace f0 := shm_34 f0
  have fq0 : 10 ≤ v_iv (n_v vs 10) → 10 * v_iv (n_v vs 6) ≤ v_iv (n_v vs 5) := dv_ten f0 (by omega) (by omega)
  replace f1 := shm_21 f1
  replace f2 := shm_1042 f2
  replace f3 := shm_1038 f3
  replace f4 := shm_1043 f4
  replace f5 := shm_1044 f5
  replace f6 := shm_1045 f6
  replace f7 := shm_1046 f7
  replace f8 := shm_1047 f8
  replace f9 := shm_1048 f9
  replace f10 := shm_1049 f10
  replace f11 := shm_1050 f11
  replace f12 := shm_1051 f12
  replace f13 := shm_1052 f13
  replace f14 := shm_1053 f14
  replace f15 := shm_1054 f15
  replace f16 := shm_609 f16
  replace f17 := shm_5 f17
  have q3 : n_v vs 3 = n_v vs 0 := f17.symm
  simp only [q3] at f2
  have kz_0_170 := fdq_11 hD hth r0
  have kv0 := fdq_11 hD hth r0
  obtain ⟨x, ex, hx⟩ := iv_ex (ta := ta) (lo := 0) (hi := 99999999) (z := w_fi ws (n_v vs 0) 170) (by omega) (by omega) (by omega) (by omega)
  have ex2 : v_iv (Value.int x) = w_fi ws (n_v vs 0) 170 := ex
  have ex3 : 0 ≤ v_iv (Value.int x) ∧ v_iv (Value.int x) ≤ 99999999 := tv_rng hx
  have e_2 : n_v (vs ++ [Value.int x]) 2 = n_v vs 2 := n_v_old (by rw [hl]; decide)
  have e_3 : n_v (vs ++ [Value.int x]) 3 = n_v vs 3 := n_v_old (by rw [hl]; decide)
  have e_7 : n_v (vs ++ [Value.int x]) 7 = n_v vs 7 := n_v_old (by rw [hl]; decide)
  have e_15 : n_v (vs ++ [Value.int x]) 15 = Value.int x := n_v_new hl
  have nf0 : fc_1 PRD (20, [3, 15], [30, 0, 1, 1, 170, -1, 0, 0]) ws (vs ++ [Value.int x]) := by
    refine ⟨nf_inA hl rfl, sgq_131 ?_⟩
    · show 1 * w_fi ws (n_v (vs ++ [Value.int x]) 3) 170 + ((-1) * v_iv (n_v (vs ++ [Value.int x]) 15) + 0) ≤ 0
      simp only [e_3, e_15, q3]
      omega
  have nf1 : fc_1 PRD (23, [15, 7, 2], [12, 1, 1, -1]) ws (vs ++ [Value.int x]) := by
    refine ⟨nf_inA hl rfl, sgq_1057 ?_⟩
    · show 1 * v_iv (n_v (vs ++ [Value.int x]) 15) + (1 * v_iv (n_v (vs ++ [Value.int x]) 7) + ((-1) * v_iv (n_v (vs ++ [Value.int x]) 2) + 0)) ≤ 12
      simp only [e_2, e_7, e_15]
      omega
  exact ⟨(fun _ h => (by cases h)), [Value.int x], ag_one hx, List.forall_mem_cons.mpr ⟨⟨show (20 : Nat) < 100 from by decide, nf0⟩, List.forall_mem_cons.mpr ⟨⟨show (23 : Nat) < 100 from by decide, nf1⟩, (fun _ h => (by cases h))⟩⟩, (fun _ h => (by cases h))⟩
def o_Mo_writeNumber_9 : or_T := (80, 18, [(0, (2, 0, 0, [165])), (2, (0, 0, 99999987, [])), (3, (2, 0, 0, [165])), (6, (1, 1, 922337203685477580, [])), (7, (0, -1, 11, [])), (8, (1, 0, 0, [])), (15, (0, 0, 99999999, [])), (16, (1, 10, 10, [])), (17, (1, 0, 92233720368547758, []))], [(4, [17, 6, 16], []), (23, [15, 7, 2], [12, 1, 1, -1]), (23, [6], [2147483648, 1]), (23, [6], [0, -1]), (20, [6, 7], [50, 0, 0, 3, 6, 0, 2, 1, 0, 0, 0, 0, 2, 0, 1, 1, 1]), (20, [6, 7], [50, 0, 0, 3, 6, 0, 2, 1, 0, 0, 9, 0, 2, 0, 2, 1, 1]), (20, [6, 7], [50, 0, 0, 3, 6, 0, 2, 1, 0, 0, 99, 0, 2, 0, 3, 1, 1]), (20, [6, 7], [50, 0, 0, 3, 6, 0, 2, 1, 0, 0, 999, 0, 2, 0, 4, 1, 1]), (20, [6, 7], [50, 0, 0, 3, 6, 0, 2, 1, 0, 0, 9999, 0, 2, 0, 5, 1, 1]), (20, [6, 7], [50, 0, 0, 3, 6, 0, 2, 1, 0, 0, 99999, 0, 2, 0, 6, 1, 1]), (20, [6, 7], [50, 0, 0, 3, 6, 0, 2, 1, 0, 0, 999999, 0, 2, 0, 7, 1, 1]), (20, [6, 7], [50, 0, 0, 3, 6, 0, 2, 1, 0, 0, 9999999, 0, 2, 0, 8, 1, 1]), (20, [6, 7], [50, 0, 0, 3, 6, 0, 2, 1, 0, 0, 99999999, 0, 2, 0, 9, 1, 1]), (20, [6, 7], [50, 0, 0, 3, 6, 0, 2, 1, 0, 0, 999999999, 0, 2, 0, 10, 1, 1]), (20, [6, 7], [50, 0, 0, 3, 6, 0, 2, 1, 0, 0, 9999999999, 0, 2, 0, 11, 1, 1]), (20, [7], [50, 0, 0, 0, 2, 0, -1, 1, 0]), (24, [0, 3], []), (20, [3, 15], [30, 1, 1, 1, 170, -1, 0, 0]), (102, [15], [7770675568902916283677847627294075626569627356208558085007249638955617140820833992704, 165170]), (23, [15, 7, 2], [12, 1, 1, -1]), (7, [6, 8], [4]), (23, [6], [2147483648, 1]), (23, [6], [0, -1])], [], [(0, -1, 11, [])], [(20, [3, 18, 2], [30, 13, 1, 1, 170, 1, 0, 0, -1, 0, 0]), (23, [17], [2147483648, 1]), (23, [17], [0, -1]), (20, [17, 18], [50, 0, 0, 3, 6, 0, 2, 1, 0, 0, 0, 0, 2, 0, 2, 1, 1]), (20, [17, 18], [50, 0, 0, 3, 6, 0, 2, 1, 0, 0, 9, 0, 2, 0, 3, 1, 1]), (20, [17, 18], [50, 0, 0, 3, 6, 0, 2, 1, 0, 0, 99, 0, 2, 0, 4, 1, 1]), (20, [17, 18], [50, 0, 0, 3, 6, 0, 2, 1, 0, 0, 999, 0, 2, 0, 5, 1, 1]), (20, [17, 18], [50, 0, 0, 3, 6, 0, 2, 1, 0, 0, 9999, 0, 2, 0, 6, 1, 1]), (20, [17, 18], [50, 0, 0, 3, 6, 0, 2, 1, 0, 0, 99999, 0, 2, 0, 7, 1, 1]), (20, [17, 18], [50, 0, 0, 3, 6, 0, 2, 1, 0, 0, 999999, 0, 2, 0, 8, 1, 1]), (20, [17, 18], [50, 0, 0, 3, 6, 0, 2, 1, 0, 0, 9999999, 0, 2, 0, 9, 1, 1]), (20, [17, 18], [50, 0, 0, 3, 6, 0, 2, 1, 0, 0, 99999999, 0, 2, 0, 10, 1, 1]), (20, [17, 18], [50, 0, 0, 3, 6, 0, 2, 1, 0, 0, 999999999, 0, 2, 0, 11, 1, 1]), (20, [17, 18], [50, 0, 0, 3, 6, 0, 2, 1, 0, 0, 9999999999, 0, 2, 0, 12, 1, 1]), (20, [18], [50, 0, 0, 0, 2, 0, 0, 1, 0]), (24, [0, 3], [])], [(18, 7, 0, 0)], [])
theorem oo_Mo_writeNumber_9 {kA : Nat → ClassId} : or_ok PRD kA GG o_Mo_writeNumber_9 := by
  refine or_mk fun A ta ws vs hD hth hl => ?_
  intro t0 r0 t2 k2 t3 r3 t6 k6 t7 k7 t8 k8 t15 k15 t16 k16 t17 k17 f0 f1 f2 f3 f4 f5 f6 f7 f8 f9 f10 f11 f12 f13 f14 f15 f16 f17 ta1 w1 le1 s1 f19 f20 f21 f22
  replace f0 := shm_34 f0
  have fq0 : 10 * v_iv (n_v vs 17) ≤ v_iv (n_v vs 6) ∧ v_iv (n_v vs 6) < 10 * v_iv (n_v vs 17) + 10 := by have h := dv_c f0 (by omega) (by omega); rw [show v_iv (n_v vs 16) = 10 from by omega] at h; exact h
  replace f1 := shm_1057 f1
  replace f2 := shm_1038 f2
  replace f3 := shm_1043 f3
  replace f4 := shm_1044 f4
  replace f5 := shm_1045 f5
  replace f6 := shm_1046 f6
  replace f7 := shm_1047 f7
  replace f8 := shm_1048 f8
  replace f9 := shm_1049 f9
  replace f10 := shm_1050 f10
  replace f11 := shm_1051 f11
  replace f12 := shm_1052 f12
  replace f13 := shm_1053 f13
  replace f14 := shm_1054 f14
  replace f15 := shm_609 f15
  replace f16 := shm_5 f16
  replace f17 := shm_132 f17
  replace f19 := shm_1057 f19
  replace f20 := shm_21 f20
  replace f21 := shm_1038 f21
  replace f22 := shm_1043 f22
  have q3 : n_v vs 3 = n_v vs 0 := f16.symm
  simp only [q3] at f17
  have kz_0_170 := fdq_11 hD hth r0
  obtain ⟨x, ex, hx⟩ := iv_ex (ta := ta) (lo := (-1)) (hi := 11) (z := 0 + (1 * v_iv (n_v vs 7) + 0)) (by omega) (by omega) (by omega) (by omega)
  have ex2 : v_iv (Value.int x) = 0 + (1 * v_iv (n_v vs 7) + 0) := ex
  have ex3 : (-1) ≤ v_iv (Value.int x) ∧ v_iv (Value.int x) ≤ 11 := tv_rng hx
  have e_0 : n_v (vs ++ [Value.int x]) 0 = n_v vs 0 := n_v_old (by rw [hl]; decide)
  have e_2 : n_v (vs ++ [Value.int x]) 2 = n_v vs 2 := n_v_old (by rw [hl]; decide)
  have e_3 : n_v (vs ++ [Value.int x]) 3 = n_v vs 3 := n_v_old (by rw [hl]; decide)
  have e_17 : n_v (vs ++ [Value.int x]) 17 = n_v vs 17 := n_v_old (by rw [hl]; decide)
  have e_18 : n_v (vs ++ [Value.int x]) 18 = Value.int x := n_v_new hl
  have nf0 : fc_1 PRD (20, [3, 18, 2], [30, 13, 1, 1, 170, 1, 0, 0, -1, 0, 0]) ws (vs ++ [Value.int x]) := by
    refine ⟨nf_inA hl rfl, sgq_1058 ?_⟩
    · show 1 * w_fi ws (n_v (vs ++ [Value.int x]) 3) 170 + (1 * v_iv (n_v (vs ++ [Value.int x]) 18) + ((-1) * v_iv (n_v (vs ++ [Value.int x]) 2) + 0)) ≤ 13
      simp only [e_2, e_3, e_18, q3]
      omega
  have nf1 : fc_1 PRD (23, [17], [2147483648, 1]) ws (vs ++ [Value.int x]) := by
    refine ⟨nf_inA hl rfl, sgq_1038 ?_⟩
    · show 1 * v_iv (n_v (vs ++ [Value.int x]) 17) + 0 ≤ 2147483648
      rw [e_17]
      omega
  have nf2 : fc_1 PRD (23, [17], [0, -1]) ws (vs ++ [Value.int x]) := by
    refine ⟨nf_inA hl rfl, sgq_1043 ?_⟩
    · show (-1) * v_iv (n_v (vs ++ [Value.int x]) 17) + 0 ≤ 0
      rw [e_17]
      omega
  have nf3 : fc_1 PRD (20, [17, 18], [50, 0, 0, 3, 6, 0, 2, 1, 0, 0, 0, 0, 2, 0, 2, 1, 1]) ws (vs ++ [Value.int x]) := by
    refine ⟨nf_inA hl rfl, sgq_1059 ?_⟩
    · show (v_iv (n_v (vs ++ [Value.int x]) 17) ≤ 0) ∨ (2 ≤ v_iv (n_v (vs ++ [Value.int x]) 18))
      simp only [e_17, e_18]
      clear f6 f7 f8 f9 f10 f11 f12 f13 f14
      first | omega | grind
  have nf4 : fc_1 PRD (20, [17, 18], [50, 0, 0, 3, 6, 0, 2, 1, 0, 0, 9, 0, 2, 0, 3, 1, 1]) ws (vs ++ [Value.int x]) := by
    refine ⟨nf_inA hl rfl, sgq_1060 ?_⟩
    · show (v_iv (n_v (vs ++ [Value.int x]) 17) ≤ 9) ∨ (3 ≤ v_iv (n_v (vs ++ [Value.int x]) 18))
      simp only [e_17, e_18]
      clear f4 f7 f8 f9 f10 f11 f12 f13 f14
      first | omega | grind
  have nf5 : fc_1 PRD (20, [17, 18], [50, 0, 0, 3, 6, 0, 2, 1, 0, 0, 99, 0, 2, 0, 4, 1, 1]) ws (vs ++ [Value.int x]) := by
    refine ⟨nf_inA hl rfl, sgq_1061 ?_⟩
    · show (v_iv (n_v (vs ++ [Value.int x]) 17) ≤ 99) ∨ (4 ≤ v_iv (n_v (vs ++ [Value.int x]) 18))
      simp only [e_17, e_18]
      clear f4 f5 f8 f9 f10 f11 f12 f13 f14
      first | omega | grind
  have nf6 : fc_1 PRD (20, [17, 18], [50, 0, 0, 3, 6, 0, 2, 1, 0, 0, 999, 0, 2, 0, 5, 1, 1]) ws (vs ++ [Value.int x]) := by
    refine ⟨nf_inA hl rfl, sgq_1062 ?_⟩
    · show (v_iv (n_v (vs ++ [Value.int x]) 17) ≤ 999) ∨ (5 ≤ v_iv (n_v (vs ++ [Value.int x]) 18))
      simp only [e_17, e_18]
      clear f4 f5 f6 f9 f10 f11 f12 f13 f14
      first | omega | grind
  have nf7 : fc_1 PRD (20, [17, 18], [50, 0, 0, 3, 6, 0, 2, 1, 0, 0, 9999, 0, 2, 0, 6, 1, 1]) ws (vs ++ [Value.int x]) := by
    refine ⟨nf_inA hl rfl, sgq_1063 ?_⟩
    · show (v_iv (n_v (vs ++ [Value.int x]) 17) ≤ 9999) ∨ (6 ≤ v_iv (n_v (vs ++ [Value.int x]) 18))
      simp only [e_17, e_18]
      clear f4 f5 f6 f7 f10 f11 f12 f13 f14
      first | omega | grind
  have nf8 : fc_1 PRD (20, [17, 18], [50, 0, 0, 3, 6, 0, 2, 1, 0, 0, 99999, 0, 2, 0, 7, 1, 1]) ws (vs ++ [Value.int x]) := by
    refine ⟨nf_inA hl rfl, sgq_1064 ?_⟩
    · show (v_iv (n_v (vs ++ [Value.int x]) 17) ≤ 99999) ∨ (7 ≤ v_iv (n_v (vs ++ [Value.int x]) 18))
      simp only [e_17, e_18]
      clear f4 f5 f6 f7 f8 f11 f12 f13 f14
      first | omega | grind
  have nf9 : fc_1 PRD (20, [17, 18], [50, 0, 0, 3, 6, 0, 2, 1, 0, 0, 999999, 0, 2, 0, 8, 1, 1]) ws (vs ++ [Value.int x]) := by
    refine ⟨nf_inA hl rfl, sgq_1065 ?_⟩
    · show (v_iv (n_v (vs ++ [Value.int x]) 17) ≤ 999999) ∨ (8 ≤ v_iv (n_v (vs ++ [Value.int x]) 18))
      simp only [e_17, e_18]
      clear f4 f5 f6 f7 f8 f9 f12 f13 f14
      first | omega | grind
  have nf10 : fc_1 PRD (20, [17, 18], [50, 0, 0, 3, 6, 0, 2, 1, 0, 0, 9999999, 0, 2, 0, 9, 1, 1]) ws (vs ++ [Value.int x]) := by
    refine ⟨nf_inA hl rfl, sgq_1066 ?_⟩
    · show (v_iv (n_v (vs ++ [Value.int x]) 17) ≤ 9999999) ∨ (9 ≤ v_iv (n_v (vs ++ [Value.int x]) 18))
      simp only [e_17, e_18]
      clear f4 f5 f6 f7 f8 f9 f10 f13 f14
      first | omega | grind
  have nf11 : fc_1 PRD (20, [17, 18], [50, 0, 0, 3, 6, 0, 2, 1, 0, 0, 99999999, 0, 2, 0, 10, 1, 1]) ws (vs ++ [Value.int x]) := by
    refine ⟨nf_inA hl rfl, sgq_1067 ?_⟩
    · show (v_iv (n_v (vs ++ [Value.int x]) 17) ≤ 99999999) ∨ (10 ≤ v_iv (n_v (vs ++ [Value.int x]) 18))
      simp only [e_17, e_18]
      clear f4 f5 f6 f7 f8 f9 f10 f11 f14
      first | omega | grind
  have nf12 : fc_1 PRD (20, [17, 18], [50, 0, 0, 3, 6, 0, 2, 1, 0, 0, 999999999, 0, 2, 0, 11, 1, 1]) ws (vs ++ [Value.int x]) := by
    refine ⟨nf_inA hl rfl, sgq_1068 ?_⟩
    · show (v_iv (n_v (vs ++ [Value.int x]) 17) ≤ 999999999) ∨ (11 ≤ v_iv (n_v (vs ++ [Value.int x]) 18))
      simp only [e_17, e_18]
      clear f4 f5 f6 f7 f8 f9 f10 f11 f12
      first | omega | grind
  have nf13 : fc_1 PRD (20, [17, 18], [50, 0, 0, 3, 6, 0, 2, 1, 0, 0, 9999999999, 0, 2, 0, 12, 1, 1]) ws (vs ++ [Value.int x]) := by
    refine ⟨nf_inA hl rfl, sgq_1069 ?_⟩
    · show (v_iv (n_v (vs ++ [Value.int x]) 17) ≤ 9999999999) ∨ (12 ≤ v_iv (n_v (vs ++ [Value.int x]) 18))
      simp only [e_17, e_18]
      clear f4 f5 f6 f7 f8 f9 f10 f11 f12 f13
      first | omega | grind
  have nf14 : fc_1 PRD (20, [18], [50, 0, 0, 0, 2, 0, 0, 1, 0]) ws (vs ++ [Value.int x]) := by
    refine ⟨nf_inA hl rfl, sgq_722 ?_⟩
    · show 0 ≤ v_iv (n_v (vs ++ [Value.int x]) 18)
      rw [e_18]
      first | omega | grind
  have nf15 : fc_1 PRD (24, [0, 3], []) ws (vs ++ [Value.int x]) := by
    refine ⟨nf_inA hl rfl, sgq_5 ?_⟩
    · show n_v (vs ++ [Value.int x]) 0 = n_v (vs ++ [Value.int x]) 3
      first | rfl | simp only [e_0, e_3, q3]
  obtain ⟨x0, e0, _, _⟩ := tv_int t7 rfl
  have e1 : v_iv (n_v vs 7) = x0.toInt := by rw [e0]; rfl
  have ho : sy_ofs (vs ++ [Value.int x]) (18, 7, 0, 0) := by
    refine ⟨x, x0, by rw [List.getElem?_append_right (by rw [hl]; decide), hl]; rfl, ?_, ?_, ?_⟩
    · rw [List.getElem?_append_left (by rw [hl]; decide)]; exact n_v_some (by rw [hl]; decide) e0
    · show x0.toInt + 0 ≤ x.toInt; omega
    · show x.toInt ≤ x0.toInt + 0; omega
  exact ⟨(fun _ h => (by cases h)), [Value.int x], ag_one hx, List.forall_mem_cons.mpr ⟨⟨show (20 : Nat) < 100 from by decide, nf0⟩, List.forall_mem_cons.mpr ⟨⟨show (23 : Nat) < 100 from by decide, nf1⟩, List.forall_mem_cons.mpr ⟨⟨show (23 : Nat) < 100 from by decide, nf2⟩, List.forall_mem_cons.mpr ⟨⟨show (20 : Nat) < 100 from by decide, nf3⟩, List.forall_mem_cons.mpr ⟨⟨show (20 : Nat) < 100 from by decide, nf4⟩, List.forall_mem_cons.mpr ⟨⟨show (20 : Nat) < 100 from by decide, nf5⟩, List.forall_mem_cons.mpr ⟨⟨show (20 : Nat) < 100 from by decide, nf6⟩, List.forall_mem_cons.mpr ⟨⟨show (20 : Nat) < 100 from by decide, nf7⟩, List.forall_mem_cons.mpr ⟨⟨show (20 : Nat) < 100 from by decide, nf8⟩, List.forall_mem_cons.mpr ⟨⟨show (20 : Nat) < 100 from by decide, nf9⟩, List.forall_mem_cons.mpr ⟨⟨show (20 : Nat) < 100 from by decide, nf10⟩, List.forall_mem_cons.mpr ⟨⟨show (20 : Nat) < 100 from by decide, nf11⟩, List.forall_mem_cons.mpr ⟨⟨show (20 : Nat) < 100 from by decide, nf12⟩, List.forall_mem_cons.mpr ⟨⟨show (20 : Nat) < 100 from by decide, nf13⟩, List.forall_mem_cons.mpr ⟨⟨show (20 : Nat) < 100 from by decide, nf14⟩, List.forall_mem_cons.mpr ⟨⟨show (24 : Nat) < 100 from by decide, nf15⟩, (fun _ h => (by cases h))⟩⟩⟩⟩⟩⟩⟩⟩⟩⟩⟩⟩⟩⟩⟩⟩, List.forall_mem_cons.mpr ⟨ho, (fun _ h => (by cases h))⟩⟩
def o_Mo_writeNumber_10 : or_T := (48, 8, [(0, (2, 0, 0, [165])), (2, (0, 0, 99999987, [])), (3, (2, 0, 0, [165])), (6, (1, 0, 92233720368547758, [])), (7, (0, -1, 11, []))], [(20, [3, 7, 2], [30, 13, 1, 1, 170, 1, 0, 0, -1, 0, 0]), (23, [6], [2147483648, 1]), (23, [6], [0, -1]), (20, [6, 7], [50, 0, 0, 3, 6, 0, 2, 1, 0, 0, 0, 0, 2, 0, 2, 1, 1]), (20, [6, 7], [50, 0, 0, 3, 6, 0, 2, 1, 0, 0, 9, 0, 2, 0, 3, 1, 1]), (20, [6, 7], [50, 0, 0, 3, 6, 0, 2, 1, 0, 0, 99, 0, 2, 0, 4, 1, 1]), (20, [6, 7], [50, 0, 0, 3, 6, 0, 2, 1, 0, 0, 999, 0, 2, 0, 5, 1, 1]), (20, [6, 7], [50, 0, 0, 3, 6, 0, 2, 1, 0, 0, 9999, 0, 2, 0, 6, 1, 1]), (20, [6, 7], [50, 0, 0, 3, 6, 0, 2, 1, 0, 0, 99999, 0, 2, 0, 7, 1, 1]), (20, [6, 7], [50, 0, 0, 3, 6, 0, 2, 1, 0, 0, 999999, 0, 2, 0, 8, 1, 1]), (20, [6, 7], [50, 0, 0, 3, 6, 0, 2, 1, 0, 0, 9999999, 0, 2, 0, 9, 1, 1]), (20, [6, 7], [50, 0, 0, 3, 6, 0, 2, 1, 0, 0, 99999999, 0, 2, 0, 10, 1, 1]), (20, [6, 7], [50, 0, 0, 3, 6, 0, 2, 1, 0, 0, 999999999, 0, 2, 0, 11, 1, 1]), (20, [6, 7], [50, 0, 0, 3, 6, 0, 2, 1, 0, 0, 9999999999, 0, 2, 0, 12, 1, 1]), (20, [7], [50, 0, 0, 0, 2, 0, 0, 1, 0]), (24, [0, 3], [])], [], [(0, -1, 11, [])], [(20, [3, 8, 2], [30, 12, 1, 1, 170, 1, 0, 0, -1, 0, 0]), (23, [6], [2147483648, 1]), (23, [6], [0, -1]), (20, [6, 8], [50, 0, 0, 3, 6, 0, 2, 1, 0, 0, 0, 0, 2, 0, 1, 1, 1]), (20, [6, 8], [50, 0, 0, 3, 6, 0, 2, 1, 0, 0, 9, 0, 2, 0, 2, 1, 1]), (20, [6, 8], [50, 0, 0, 3, 6, 0, 2, 1, 0, 0, 99, 0, 2, 0, 3, 1, 1]), (20, [6, 8], [50, 0, 0, 3, 6, 0, 2, 1, 0, 0, 999, 0, 2, 0, 4, 1, 1]), (20, [6, 8], [50, 0, 0, 3, 6, 0, 2, 1, 0, 0, 9999, 0, 2, 0, 5, 1, 1]), (20, [6, 8], [50, 0, 0, 3, 6, 0, 2, 1, 0, 0, 99999, 0, 2, 0, 6, 1, 1]), (20, [6, 8], [50, 0, 0, 3, 6, 0, 2, 1, 0, 0, 999999, 0, 2, 0, 7, 1, 1]), (20, [6, 8], [50, 0, 0, 3, 6, 0, 2, 1, 0, 0, 9999999, 0, 2, 0, 8, 1, 1]), (20, [6, 8], [50, 0, 0, 3, 6, 0, 2, 1, 0, 0, 99999999, 0, 2, 0, 9, 1, 1]), (20, [6, 8], [50, 0, 0, 3, 6, 0, 2, 1, 0, 0, 999999999, 0, 2, 0, 10, 1, 1]), (20, [6, 8], [50, 0, 0, 3, 6, 0, 2, 1, 0, 0, 9999999999, 0, 2, 0, 11, 1, 1]), (20, [8], [50, 0, 0, 0, 2, 0, -1, 1, 0]), (24, [0, 3], [])], [(8, 7, -1000000000000, -1)], [])
theorem oo_Mo_writeNumber_10 {kA : Nat → ClassId} : or_ok PRD kA GG o_Mo_writeNumber_10 := by
  refine or_mk fun A ta ws vs hD hth hl => ?_
  intro t0 r0 t2 k2 t3 r3 t6 k6 t7 k7 f0 f1 f2 f3 f4 f5 f6 f7 f8 f9 f10 f11 f12 f13 f14 f15
  replace f0 := shm_1058 f0
  replace f1 := shm_1038 f1
  replace f2 := shm_1043 f2
  replace f3 := shm_1059 f3
  replace f4 := shm_1060 f4
  replace f5 := shm_1061 f5
  replace f6 := shm_1062 f6
  replace f7 := shm_1063 f7
  replace f8 := shm_1064 f8
  replace f9 := shm_1065 f9
  replace f10 := shm_1066 f10
  replace f11 := shm_1067 f11
  replace f12 := shm_1068 f12
  replace f13 := shm_1069 f13
  replace f14 := shm_722 f14
  replace f15 := shm_5 f15
  have q3 : n_v vs 3 = n_v vs 0 := f15.symm
  simp only [q3] at f0
  have kz_0_170 := fdq_11 hD hth r0
  obtain ⟨x, ex, hx⟩ := iv_ex (ta := ta) (lo := (-1)) (hi := 11) (z := (-1) + (1 * v_iv (n_v vs 7) + 0)) (by omega) (by omega) (by omega) (by omega)
  have ex2 : v_iv (Value.int x) = (-1) + (1 * v_iv (n_v vs 7) + 0) := ex
  have ex3 : (-1) ≤ v_iv (Value.int x) ∧ v_iv (Value.int x) ≤ 11 := tv_rng hx
  have e_0 : n_v (vs ++ [Value.int x]) 0 = n_v vs 0 := n_v_old (by rw [hl]; decide)
  have e_2 : n_v (vs ++ [Value.int x]) 2 = n_v vs 2 := n_v_old (by rw [hl]; decide)
  have e_3 : n_v (vs ++ [Value.int x]) 3 = n_v vs 3 := n_v_old (by rw [hl]; decide)
  have e_6 : n_v (vs ++ [Value.int x]) 6 = n_v vs 6 := n_v_old (by rw [hl]; decide)
  have e_8 : n_v (vs ++ [Value.int x]) 8 = Value.int x := n_v_new hl
  have nf0 : fc_1 PRD (20, [3, 8, 2], [30, 12, 1, 1, 170, 1, 0, 0, -1, 0, 0]) ws (vs ++ [Value.int x]) := by
    refine ⟨nf_inA hl rfl, sgq_1042 ?_⟩
    · show 1 * w_fi ws (n_v (vs ++ [Value.int x]) 3) 170 + (1 * v_iv (n_v (vs ++ [Value.int x]) 8) + ((-1) * v_iv (n_v (vs ++ [Value.int x]) 2) + 0)) ≤ 12
      simp only [e_2, e_3, e_8, q3]
      omega
  have nf1 : fc_1 PRD (23, [6], [2147483648, 1]) ws (vs ++ [Value.int x]) := by
    refine ⟨nf_inA hl rfl, sgq_1038 ?_⟩
    · show 1 * v_iv (n_v (vs ++ [Value.int x]) 6) + 0 ≤ 2147483648
      rw [e_6]
      omega
  have nf2 : fc_1 PRD (23, [6], [0, -1]) ws (vs ++ [Value.int x]) := by
    refine ⟨nf_inA hl rfl, sgq_1043 ?_⟩
    · show (-1) * v_iv (n_v (vs ++ [Value.int x]) 6) + 0 ≤ 0
      rw [e_6]
      omega
  have nf3 : fc_1 PRD (20, [6, 8], [50, 0, 0, 3, 6, 0, 2, 1, 0, 0, 0, 0, 2, 0, 1, 1, 1]) ws (vs ++ [Value.int x]) := by
    refine ⟨nf_inA hl rfl, sgq_1044 ?_⟩
    · show (v_iv (n_v (vs ++ [Value.int x]) 6) ≤ 0) ∨ (1 ≤ v_iv (n_v (vs ++ [Value.int x]) 8))
      simp only [e_6, e_8]
      clear f5 f6 f7 f8 f9 f10 f11 f12 f13
      first | omega | grind
  have nf4 : fc_1 PRD (20, [6, 8], [50, 0, 0, 3, 6, 0, 2, 1, 0, 0, 9, 0, 2, 0, 2, 1, 1]) ws (vs ++ [Value.int x]) := by
    refine ⟨nf_inA hl rfl, sgq_1045 ?_⟩
    · show (v_iv (n_v (vs ++ [Value.int x]) 6) ≤ 9) ∨ (2 ≤ v_iv (n_v (vs ++ [Value.int x]) 8))
      simp only [e_6, e_8]
      clear f3 f6 f7 f8 f9 f10 f11 f12 f13
      first | omega | grind
  have nf5 : fc_1 PRD (20, [6, 8], [50, 0, 0, 3, 6, 0, 2, 1, 0, 0, 99, 0, 2, 0, 3, 1, 1]) ws (vs ++ [Value.int x]) := by
    refine ⟨nf_inA hl rfl, sgq_1046 ?_⟩
    · show (v_iv (n_v (vs ++ [Value.int x]) 6) ≤ 99) ∨ (3 ≤ v_iv (n_v (vs ++ [Value.int x]) 8))
      simp only [e_6, e_8]
      clear f3 f4 f7 f8 f9 f10 f11 f12 f13
      first | omega | grind
  have nf6 : fc_1 PRD (20, [6, 8], [50, 0, 0, 3, 6, 0, 2, 1, 0, 0, 999, 0, 2, 0, 4, 1, 1]) ws (vs ++ [Value.int x]) := by
    refine ⟨nf_inA hl rfl, sgq_1047 ?_⟩
    · show (v_iv (n_v (vs ++ [Value.int x]) 6) ≤ 999) ∨ (4 ≤ v_iv (n_v (vs ++ [Value.int x]) 8))
      simp only [e_6, e_8]
      clear f3 f4 f5 f8 f9 f10 f11 f12 f13
      first | omega | grind
  have nf7 : fc_1 PRD (20, [6, 8], [50, 0, 0, 3, 6, 0, 2, 1, 0, 0, 9999, 0, 2, 0, 5, 1, 1]) ws (vs ++ [Value.int x]) := by
    refine ⟨nf_inA hl rfl, sgq_1048 ?_⟩
    · show (v_iv (n_v (vs ++ [Value.int x]) 6) ≤ 9999) ∨ (5 ≤ v_iv (n_v (vs ++ [Value.int x]) 8))
      simp only [e_6, e_8]
      clear f3 f4 f5 f6 f9 f10 f11 f12 f13
      first | omega | grind
  have nf8 : fc_1 PRD (20, [6, 8], [50, 0, 0, 3, 6, 0, 2, 1, 0, 0, 99999, 0, 2, 0, 6, 1, 1]) ws (vs ++ [Value.int x]) := by
    refine ⟨nf_inA hl rfl, sgq_1049 ?_⟩
    · show (v_iv (n_v (vs ++ [Value.int x]) 6) ≤ 99999) ∨ (6 ≤ v_iv (n_v (vs ++ [Value.int x]) 8))
      simp only [e_6, e_8]
      clear f3 f4 f5 f6 f7 f10 f11 f12 f13
      first | omega | grind
  have nf9 : fc_1 PRD (20, [6, 8], [50, 0, 0, 3, 6, 0, 2, 1, 0, 0, 999999, 0, 2, 0, 7, 1, 1]) ws (vs ++ [Value.int x]) := by
    refine ⟨nf_inA hl rfl, sgq_1050 ?_⟩
    · show (v_iv (n_v (vs ++ [Value.int x]) 6) ≤ 999999) ∨ (7 ≤ v_iv (n_v (vs ++ [Value.int x]) 8))
      simp only [e_6, e_8]
      clear f3 f4 f5 f6 f7 f8 f11 f12 f13
      first | omega | grind
  have nf10 : fc_1 PRD (20, [6, 8], [50, 0, 0, 3, 6, 0, 2, 1, 0, 0, 9999999, 0, 2, 0, 8, 1, 1]) ws (vs ++ [Value.int x]) := by
    refine ⟨nf_inA hl rfl, sgq_1051 ?_⟩
    · show (v_iv (n_v (vs ++ [Value.int x]) 6) ≤ 9999999) ∨ (8 ≤ v_iv (n_v (vs ++ [Value.int x]) 8))
      simp only [e_6, e_8]
      clear f3 f4 f5 f6 f7 f8 f9 f12 f13
      first | omega | grind
  have nf11 : fc_1 PRD (20, [6, 8], [50, 0, 0, 3, 6, 0, 2, 1, 0, 0, 99999999, 0, 2, 0, 9, 1, 1]) ws (vs ++ [Value.int x]) := by
    refine ⟨nf_inA hl rfl, sgq_1052 ?_⟩
    · show (v_iv (n_v (vs ++ [Value.int x]) 6) ≤ 99999999) ∨ (9 ≤ v_iv (n_v (vs ++ [Value.int x]) 8))
      simp only [e_6, e_8]
      clear f3 f4 f5 f6 f7 f8 f9 f10 f13
      first | omega | grind
  have nf12 : fc_1 PRD (20, [6, 8], [50, 0, 0, 3, 6, 0, 2, 1, 0, 0, 999999999, 0, 2, 0, 10, 1, 1]) ws (vs ++ [Value.int x]) := by
    refine ⟨nf_inA hl rfl, sgq_1053 ?_⟩
    · show (v_iv (n_v (vs ++ [Value.int x]) 6) ≤ 999999999) ∨ (10 ≤ v_iv (n_v (vs ++ [Value.int x]) 8))
      simp only [e_6, e_8]
      clear f3 f4 f5 f6 f7 f8 f9 f10 f11
      first | omega | grind
  have nf13 : fc_1 PRD (20, [6, 8], [50, 0, 0, 3, 6, 0, 2, 1, 0, 0, 9999999999, 0, 2, 0, 11, 1, 1]) ws (vs ++ [Value.int x]) := by
    refine ⟨nf_inA hl rfl, sgq_1054 ?_⟩
    · show (v_iv (n_v (vs ++ [Value.int x]) 6) ≤ 9999999999) ∨ (11 ≤ v_iv (n_v (vs ++ [Value.int x]) 8))
      simp only [e_6, e_8]
      clear f3 f4 f5 f6 f7 f8 f9 f10 f11 f12
      first | omega | grind
  have nf14 : fc_1 PRD (20, [8], [50, 0, 0, 0, 2, 0, -1, 1, 0]) ws (vs ++ [Value.int x]) := by
    refine ⟨nf_inA hl rfl, sgq_609 ?_⟩
    · show (-1) ≤ v_iv (n_v (vs ++ [Value.int x]) 8)
      rw [e_8]
      first | omega | grind
  have nf15 : fc_1 PRD (24, [0, 3], []) ws (vs ++ [Value.int x]) := by
    refine ⟨nf_inA hl rfl, sgq_5 ?_⟩
    · show n_v (vs ++ [Value.int x]) 0 = n_v (vs ++ [Value.int x]) 3
      first | rfl | simp only [e_0, e_3, q3]
  obtain ⟨x0, e0, _, _⟩ := tv_int t7 rfl
  have e1 : v_iv (n_v vs 7) = x0.toInt := by rw [e0]; rfl
  have ho : sy_ofs (vs ++ [Value.int x]) (8, 7, -1000000000000, -1) := by
    refine ⟨x, x0, by rw [List.getElem?_append_right (by rw [hl]; decide), hl]; rfl, ?_, ?_, ?_⟩
    · rw [List.getElem?_append_left (by rw [hl]; decide)]; exact n_v_some (by rw [hl]; decide) e0
    · show x0.toInt + (-1000000000000) ≤ x.toInt; omega
    · show x.toInt ≤ x0.toInt + (-1); omega
  exact ⟨(fun _ h => (by cases h)), [Value.int x], ag_one hx, List.forall_mem_cons.mpr ⟨⟨show (20 : Nat) < 100 from by decide, nf0⟩, List.forall_mem_cons.mpr ⟨⟨show (23 : Nat) < 100 from by decide, nf1⟩, List.forall_mem_cons.mpr ⟨⟨show (23 : Nat) < 100 from by decide, nf2⟩, List.forall_mem_cons.mpr ⟨⟨show (20 : Nat) < 100 from by decide, nf3⟩, List.forall_mem_cons.mpr ⟨⟨show (20 : Nat) < 100 from by decide, nf4⟩, List.forall_mem_cons.mpr ⟨⟨show (20 : Nat) < 100 from by decide, nf5⟩, List.forall_mem_cons.mpr ⟨⟨show (20 : Nat) < 100 from by decide, nf6⟩, List.forall_mem_cons.mpr ⟨⟨show (20 : Nat) < 100 from by decide, nf7⟩, List.forall_mem_cons.mpr ⟨⟨show (20 : Nat) < 100 from by decide, nf8⟩, List.forall_mem_cons.mpr ⟨⟨show (20 : Nat) < 100 from by decide, nf9⟩, List.forall_mem_cons.mpr ⟨⟨show (20 : Nat) < 100 from by decide, nf10⟩, List.forall_mem_cons.mpr ⟨⟨show (20 : Nat) < 100 from by decide, nf11⟩, List.forall_mem_cons.mpr ⟨⟨show (20 : Nat) < 100 from by decide, nf12⟩, List.forall_mem_cons.mpr ⟨⟨show (20 : Nat) < 100 from by decide, nf13⟩, List.forall_mem_cons.mpr ⟨⟨show (20 : Nat) < 100 from by decide, nf14⟩, List.forall_mem_cons.mpr ⟨⟨show (24 : Nat) < 100 from by decide, nf15⟩, (fun _ h => (by cases h))⟩⟩⟩⟩⟩⟩⟩⟩⟩⟩⟩⟩⟩⟩⟩⟩, List.forall_mem_cons.mpr ⟨ho, (fun _ h => (by cases h))⟩⟩
def n_Mo_writeNumber_an : List an_T := [(26, [(0, (2, 0, 0, [165])), (1, (0, (Int.negSucc 899999999), 900000000, [])), (2, (1, 0, 900000000, [])), (4, (1, 1, 2147483648, []))], [], (0, 0), [(0, 0, 99974), (2, 7, (Int.negSucc 0)), (0, 0, 100000)], [(1, 4, (Int.negSucc 999999999999), 0), (4, 1, (Int.negSucc 999999999999), 0)], [], [(2, 0, 0, [165]), (0, (Int.negSucc 899999999), 900000000, []), (0, 0, 99999987, [])], 0, [(0, (Int.negSucc 0), 2147483647, [])], [(20, [3, 2], [30, 1, 1, 1, 170, (Int.negSucc 0), 0, 0]), (23, [6], [(Int.negSucc 0), (Int.negSucc 0)]), (23, [6], [2147483648, 1]), (20, [6, 5], [50, 0, 0, 3, 6, 0, 2, 1, 0, 0, 1, 0, 2, 1, 0, 1, 1]), (24, [0, 3], []), (20, [7, 5, 6], [30, 0, 1, 0, 0, (Int.negSucc 0), 0, 0, 1, 0, 0]), (20, [7, 5, 6], [30, 0, (Int.negSucc 0), 0, 0, 1, 0, 0, (Int.negSucc 0), 0, 0])]), (45, [(0, (2, 0, 0, [165])), (1, (0, (Int.negSucc 899999999), 900000000, [])), (2, (1, 0, 900000000, [])), (4, (1, 10, 2147483648, []))], [], (0, 0), [(0, 0, 99974), (2, 7, (Int.negSucc 0)), (0, 0, 99955)], [(1, 4, (Int.negSucc 999999999999), 0), (4, 1, (Int.negSucc 999999999999), 0)], [], [(2, 0, 0, [165]), (0, (Int.negSucc 899999999), 900000000, []), (0, 0, 99999987, [])], 0, [(0, (Int.negSucc 0), 2147483647, [])], [(20, [3, 2], [30, 1, 1, 1, 170, (Int.negSucc 0), 0, 0]), (23, [6], [(Int.negSucc 0), (Int.negSucc 0)]), (23, [6], [2147483648, 1]), (20, [6, 5], [50, 0, 0, 3, 6, 0, 2, 1, 0, 0, 1, 0, 2, 1, 0, 1, 1]), (20, [5, 6, 7], [30, (Int.negSucc 0), 1, 0, 0, (Int.negSucc 0), 0, 0, (Int.negSucc 0), 0, 0]), (24, [0, 3], [])]), (48, [(0, (2, 0, 0, [165])), (1, (0, (Int.negSucc 899999999), 900000000, [])), (2, (1, 0, 900000000, [])), (4, (1, 0, 922337203685477580, []))], [], (0, 0), [(0, 0, 99952), (2, 7, (Int.negSucc 0)), (0, 0, 100000)], [(1, 4, (Int.negSucc 999999999999), 0), (4, 1, (Int.negSucc 999999999999), 0)], [], [(2, 0, 0, [165]), (0, (Int.negSucc 899999999), 900000000, []), (0, 0, 99999987, [])], 0, [(0, (Int.negSucc 0), 11, [])], [(20, [3, 7, 2], [30, 12, 1, 1, 170, 1, 0, 0, (Int.negSucc 0), 0, 0]), (23, [6], [2147483648, 1]), (23, [6], [0, (Int.negSucc 0)]), (20, [6, 7], [50, 0, 0, 3, 6, 0, 2, 1, 0, 0, 0, 0, 2, 0, 1, 1, 1]), (20, [6, 7], [50, 0, 0, 3, 6, 0, 2, 1, 0, 0, 9, 0, 2, 0, 2, 1, 1]), (20, [6, 7], [50, 0, 0, 3, 6, 0, 2, 1, 0, 0, 99, 0, 2, 0, 3, 1, 1]), (20, [6, 7], [50, 0, 0, 3, 6, 0, 2, 1, 0, 0, 999, 0, 2, 0, 4, 1, 1]), (20, [6, 7], [50, 0, 0, 3, 6, 0, 2, 1, 0, 0, 9999, 0, 2, 0, 5, 1, 1]), (20, [6, 7], [50, 0, 0, 3, 6, 0, 2, 1, 0, 0, 99999, 0, 2, 0, 6, 1, 1]), (20, [6, 7], [50, 0, 0, 3, 6, 0, 2, 1, 0, 0, 999999, 0, 2, 0, 7, 1, 1]), (20, [6, 7], [50, 0, 0, 3, 6, 0, 2, 1, 0, 0, 9999999, 0, 2, 0, 8, 1, 1]), (20, [6, 7], [50, 0, 0, 3, 6, 0, 2, 1, 0, 0, 99999999, 0, 2, 0, 9, 1, 1]), (20, [6, 7], [50, 0, 0, 3, 6, 0, 2, 1, 0, 0, 999999999, 0, 2, 0, 10, 1, 1]), (20, [6, 7], [50, 0, 0, 3, 6, 0, 2, 1, 0, 0, 9999999999, 0, 2, 0, 11, 1, 1]), (20, [7], [50, 0, 0, 0, 2, 0, (Int.negSucc 0), 1, 0]), (24, [0, 3], [])]), (80, [(0, (2, 0, 0, [165])), (1, (0, (Int.negSucc 899999999), 900000000, [])), (2, (1, 0, 900000000, [])), (4, (1, 0, 92233720368547758, []))], [], (0, 0), [(0, 0, 99952), (2, 7, (Int.negSucc 0)), (0, 0, 99920)], [(1, 4, (Int.negSucc 999999999999), 0), (4, 1, (Int.negSucc 999999999999), 0)], [], [(2, 0, 0, [165]), (0, (Int.negSucc 899999999), 900000000, []), (0, 0, 99999987, [])], 0, [(0, (Int.negSucc 0), 11, [])], [(20, [3, 7, 2], [30, 13, 1, 1, 170, 1, 0, 0, (Int.negSucc 0), 0, 0]), (23, [6], [2147483648, 1]), (23, [6], [0, (Int.negSucc 0)]), (20, [6, 7], [50, 0, 0, 3, 6, 0, 2, 1, 0, 0, 0, 0, 2, 0, 2, 1, 1]), (20, [6, 7], [50, 0, 0, 3, 6, 0, 2, 1, 0, 0, 9, 0, 2, 0, 3, 1, 1]), (20, [6, 7], [50, 0, 0, 3, 6, 0, 2, 1, 0, 0, 99, 0, 2, 0, 4, 1, 1]), (20, [6, 7], [50, 0, 0, 3, 6, 0, 2, 1, 0, 0, 999, 0, 2, 0, 5, 1, 1]), (20, [6, 7], [50, 0, 0, 3, 6, 0, 2, 1, 0, 0, 9999, 0, 2, 0, 6, 1, 1]), (20, [6, 7], [50, 0, 0, 3, 6, 0, 2, 1, 0, 0, 99999, 0, 2, 0, 7, 1, 1]), (20, [6, 7], [50, 0, 0, 3, 6, 0, 2, 1, 0, 0, 999999, 0, 2, 0, 8, 1, 1]), (20, [6, 7], [50, 0, 0, 3, 6, 0, 2, 1, 0, 0, 9999999, 0, 2, 0, 9, 1, 1]), (20, [6, 7], [50, 0, 0, 3, 6, 0, 2, 1, 0, 0, 99999999, 0, 2, 0, 10, 1, 1]), (20, [6, 7], [50, 0, 0, 3, 6, 0, 2, 1, 0, 0, 999999999, 0, 2, 0, 11, 1, 1]), (20, [6, 7], [50, 0, 0, 3, 6, 0, 2, 1, 0, 0, 9999999999, 0, 2, 0, 12, 1, 1]), (20, [7], [50, 0, 0, 0, 2, 0, 0, 1, 0]), (24, [0, 3], [])])]
def t_Mo_writeNumber_ct : ct_L := [(64, 1280, e_Mo_write1), (211, 1280, e_Mo_write1)]
set_option maxRecDepth 100000 in
theorem c_Mo_writeNumber {l : Launch} {D : va_G} {kA : Nat → ClassId} (h_Mo_write1 : ct_ok PRD l D kA GG y_Mo_write1 z_Mo_write1 e_Mo_write1) : ct_ok PRD l D kA GG y_Mo_writeNumber z_Mo_writeNumber e_Mo_writeNumber := chk_all_ok (FT := []) (PT := []) (CT := t_Mo_writeNumber_ct) (KT := [(2, 1165, .long (10), (1, 10, 10, [])), (2, 1167, .long (48), (1, 48, 48, [])), (2, 1283, .long (9), (1, 9, 9, []))]) (NT := []) (AN := n_Mo_writeNumber_an) (OT := [o_Mo_writeNumber_0, o_Mo_writeNumber_1, o_Mo_writeNumber_2, o_Mo_writeNumber_3, o_Mo_writeNumber_4, o_Mo_writeNumber_5, o_Mo_writeNumber_6, o_Mo_writeNumber_7, o_Mo_writeNumber_8, o_Mo_writeNumber_9, o_Mo_writeNumber_10]) 3 200 (List.forall_mem_cons.mpr ⟨oo_Mo_writeNumber_0, List.forall_mem_cons.mpr ⟨oo_Mo_writeNumber_1, List.forall_mem_cons.mpr ⟨oo_Mo_writeNumber_2, List.forall_mem_cons.mpr ⟨oo_Mo_writeNumber_3, List.forall_mem_cons.mpr ⟨oo_Mo_writeNumber_4, List.forall_mem_cons.mpr ⟨oo_Mo_writeNumber_5, List.forall_mem_cons.mpr ⟨oo_Mo_writeNumber_6, List.forall_mem_cons.mpr ⟨oo_Mo_writeNumber_7, List.forall_mem_cons.mpr ⟨oo_Mo_writeNumber_8, List.forall_mem_cons.mpr ⟨oo_Mo_writeNumber_9, List.forall_mem_cons.mpr ⟨oo_Mo_writeNumber_10, List.forall_mem_nil _⟩⟩⟩⟩⟩⟩⟩⟩⟩⟩⟩) (by decide +kernel) ⟨List.forall_mem_nil _, List.forall_mem_nil _, List.forall_mem_cons.mpr ⟨cl_virtual (y := y_Mo_write1) (ci := 13) rfl rfl ⟨_, _, rfl⟩ (by decide +kernel) h_Mo_write1 wm_3914 wm_9 wm_3911 wm_3913 wv_24_8 ⟨by decide, by decide, by decide +kernel⟩ (by decide), List.forall_mem_cons.mpr ⟨cl_virtual (y := y_Mo_write1) (ci := 13) rfl rfl ⟨_, _, rfl⟩ (by decide +kernel) h_Mo_write1 wm_3914 wm_9 wm_3911 wm_3913 wv_24_8 ⟨by decide, by decide, by decide +kernel⟩ (by decide), List.forall_mem_nil _⟩⟩, List.forall_mem_cons.mpr ⟨⟨kt_mk2 wm_3800, fun _ => Or.inr (Or.inl ⟨rfl, _, rfl, by decide, by decide⟩)⟩, List.forall_mem_cons.mpr ⟨⟨kt_mk2 wm_3801, fun _ => Or.inr (Or.inl ⟨rfl, _, rfl, by decide, by decide⟩)⟩, List.forall_mem_cons.mpr ⟨⟨kt_mk2 wm_3928, fun _ => Or.inr (Or.inl ⟨rfl, _, rfl, by decide, by decide⟩)⟩, List.forall_mem_nil _⟩⟩⟩, List.forall_mem_nil _, GG_pl⟩ (by decide +kernel)
set_option maxHeartbeats 4000000 in
theorem vc_Dr_take_0_0 (x1 : Int) (x3 : Int) (x7 : Int) (x8 : Int) (leastY_0 : Int) (mostX_0 : Int) (leastX_0 : Int) (mostY_1 : Int) (leastY_2 : Int) (mostY_2 : Int) (mostX_3 : Int) (leastY_3 : Int) (mostY_3 : Int) (leastX_4 : Int) (mostX_4 : Int) (leastY_4 : Int) (mostY_4 : Int) (leastX_1 : Int) (leastY_1 : Int) (mostX_1 : Int) (leastX_2 : Int) (mostX_2 : Int) (leastX_3 : Int) (k1 : (-41000000) ≤ x1 ∧ x1 ≤ 1001000000) (k3 : (-2147483648) ≤ x3 ∧ x3 ≤ 2147483647) (k7 : (-41000000) ≤ x7 ∧ x7 ≤ 690000000) (k8 : (-41000000) ≤ x8 ∧ x8 ≤ 690000000) (g3 : x8 = leastX_0) (f10 : (-1) * x7 + (1 * x8 + 0) ≤ 0) (f11 : (-1) * x1 + (1 * x8 + 0) ≤ 0) (g45 : x7 = leastX_4) (f46 : leastX_4 = x3) (fe_0_17_1 : leastX_0 = leastX_1) (fe_0_18_1 : leastY_0 = leastY_1) (fe_0_19_1 : mostX_0 = mostX_1) (fe_0_17_2 : leastX_1 = leastX_2) (fe_0_19_2 : mostX_1 = mostX_2) (fe_0_20_2 : mostY_1 = mostY_2) (fe_0_17_3 : leastX_2 = leastX_3) (fe_0_18_3 : leastY_2 = leastY_3) (fe_0_20_3 : mostY_2 = mostY_3) (fe_0_18_4 : leastY_3 = leastY_4) (fe_0_19_4 : mostX_3 = mostX_4) (fe_0_20_4 : mostY_3 = mostY_4) (kz_0_17 : (-41000000) ≤ leastX_0 ∧ leastX_0 ≤ 690000000) (kz_0_18 : (-41000000) ≤ leastY_0 ∧ leastY_0 ≤ 690000000) (kz_0_19 : (-40000000) ≤ mostX_0 ∧ mostX_0 ≤ 1001000000) : (leastX_0 ≤ x3) ∧ (leastX_0 ≤ x1) := by
  subst fe_0_17_1
  subst fe_0_18_1
  subst fe_0_19_1
  subst fe_0_17_2
  subst fe_0_19_2
  subst fe_0_20_2
  subst fe_0_17_3
  subst fe_0_18_3
  subst fe_0_20_3
  subst fe_0_18_4
  subst fe_0_19_4
  subst fe_0_20_4
  first
    | omega
  
set_option maxHeartbeats 4000000 in
theorem vc_Dr_take_0_1 (x1 : Int) (x4 : Int) (x9 : Int) (x10 : Int) (leastY_0 : Int) (mostX_0 : Int) (leastX_0 : Int) (mostY_1 : Int) (leastY_2 : Int) (mostY_2 : Int) (mostX_3 : Int) (leastY_3 : Int) (mostY_3 : Int) (mostX_4 : Int) (leastY_4 : Int) (mostY_4 : Int) (leastX_1 : Int) (leastY_1 : Int) (mostX_1 : Int) (leastX_2 : Int) (mostX_2 : Int) (leastX_3 : Int) (k1 : (-41000000) ≤ x1 ∧ x1 ≤ 1001000000) (k4 : (-2147483648) ≤ x4 ∧ x4 ≤ 2147483647) (k9 : (-40000000) ≤ x9 ∧ x9 ≤ 1001000000) (k10 : (-40000000) ≤ x10 ∧ x10 ≤ 1001000000) (g2 : x10 = mostX_0) (f8 : 1 * x9 + ((-1) * x10 + 0) ≤ 0) (f9 : 1 * x1 + ((-1) * x10 + 0) ≤ 0) (g36 : x9 = mostX_3) (f39 : mostX_3 = x4) (fe_0_17_1 : leastX_0 = leastX_1) (fe_0_18_1 : leastY_0 = leastY_1) (fe_0_19_1 : mostX_0 = mostX_1) (fe_0_17_2 : leastX_1 = leastX_2) (fe_0_19_2 : mostX_1 = mostX_2) (fe_0_20_2 : mostY_1 = mostY_2) (fe_0_17_3 : leastX_2 = leastX_3) (fe_0_18_3 : leastY_2 = leastY_3) (fe_0_20_3 : mostY_2 = mostY_3) (fe_0_18_4 : leastY_3 = leastY_4) (fe_0_19_4 : mostX_3 = mostX_4) (fe_0_20_4 : mostY_3 = mostY_4) (kz_0_17 : (-41000000) ≤ leastX_0 ∧ leastX_0 ≤ 690000000) (kz_0_18 : (-41000000) ≤ leastY_0 ∧ leastY_0 ≤ 690000000) (kz_0_19 : (-40000000) ≤ mostX_0 ∧ mostX_0 ≤ 1001000000) : (x4 ≤ mostX_0) ∧ (x1 ≤ mostX_0) := by
  subst fe_0_17_1
  subst fe_0_18_1
  subst fe_0_19_1
  subst fe_0_17_2
  subst fe_0_19_2
  subst fe_0_20_2
  subst fe_0_17_3
  subst fe_0_18_3
  subst fe_0_20_3
  subst fe_0_18_4
  subst fe_0_19_4
  subst fe_0_20_4
  first
    | omega
  
set_option maxHeartbeats 4000000 in
theorem vc_Dr_take_0_2 (x2 : Int) (x5 : Int) (x11 : Int) (x12 : Int) (leastY_0 : Int) (mostX_0 : Int) (leastX_0 : Int) (mostY_1 : Int) (leastY_2 : Int) (mostY_2 : Int) (mostX_3 : Int) (leastY_3 : Int) (mostY_3 : Int) (mostX_4 : Int) (leastY_4 : Int) (mostY_4 : Int) (leastX_1 : Int) (leastY_1 : Int) (mostX_1 : Int) (leastX_2 : Int) (mostX_2 : Int) (leastX_3 : Int) (k2 : (-41000000) ≤ x2 ∧ x2 ≤ 1001000000) (k5 : (-2147483648) ≤ x5 ∧ x5 ≤ 2147483647) (k11 : (-41000000) ≤ x11 ∧ x11 ≤ 690000000) (k12 : (-41000000) ≤ x12 ∧ x12 ≤ 690000000) (g1 : x12 = leastY_0) (f6 : (-1) * x11 + (1 * x12 + 0) ≤ 0) (f7 : (-1) * x2 + (1 * x12 + 0) ≤ 0) (g26 : x11 = leastY_2) (f31 : leastY_2 = x5) (fe_0_17_1 : leastX_0 = leastX_1) (fe_0_18_1 : leastY_0 = leastY_1) (fe_0_19_1 : mostX_0 = mostX_1) (fe_0_17_2 : leastX_1 = leastX_2) (fe_0_19_2 : mostX_1 = mostX_2) (fe_0_20_2 : mostY_1 = mostY_2) (fe_0_17_3 : leastX_2 = leastX_3) (fe_0_18_3 : leastY_2 = leastY_3) (fe_0_20_3 : mostY_2 = mostY_3) (fe_0_18_4 : leastY_3 = leastY_4) (fe_0_19_4 : mostX_3 = mostX_4) (fe_0_20_4 : mostY_3 = mostY_4) (kz_0_17 : (-41000000) ≤ leastX_0 ∧ leastX_0 ≤ 690000000) (kz_0_18 : (-41000000) ≤ leastY_0 ∧ leastY_0 ≤ 690000000) (kz_0_19 : (-40000000) ≤ mostX_0 ∧ mostX_0 ≤ 1001000000) : (leastY_0 ≤ x5) ∧ (leastY_0 ≤ x2) := by
  subst fe_0_17_1
  subst fe_0_18_1
  subst fe_0_19_1
  subst fe_0_17_2
  subst fe_0_19_2
  subst fe_0_20_2
  subst fe_0_17_3
  subst fe_0_18_3
  subst fe_0_20_3
  subst fe_0_18_4
  subst fe_0_19_4
  subst fe_0_20_4
  first
    | omega
  
set_option maxHeartbeats 4000000 in
theorem vc_Dr_take_0_3 (x2 : Int) (x6 : Int) (x13 : Int) (x14 : Int) (mostY_0 : Int) (leastY_0 : Int) (mostX_0 : Int) (leastX_0 : Int) (mostY_1 : Int) (leastY_2 : Int) (mostY_2 : Int) (mostX_3 : Int) (leastY_3 : Int) (mostY_3 : Int) (mostX_4 : Int) (leastY_4 : Int) (mostY_4 : Int) (leastX_1 : Int) (leastY_1 : Int) (mostX_1 : Int) (leastX_2 : Int) (mostX_2 : Int) (leastX_3 : Int) (k2 : (-41000000) ≤ x2 ∧ x2 ≤ 1001000000) (k6 : (-2147483648) ≤ x6 ∧ x6 ≤ 2147483647) (k13 : (-40000000) ≤ x13 ∧ x13 ≤ 1001000000) (k14 : (-40000000) ≤ x14 ∧ x14 ≤ 1001000000) (g0 : x14 = mostY_0) (f4 : 1 * x13 + ((-1) * x14 + 0) ≤ 0) (f5 : 1 * x2 + ((-1) * x14 + 0) ≤ 0) (g15 : x13 = mostY_1) (f22 : mostY_1 = x6) (fe_0_17_1 : leastX_0 = leastX_1) (fe_0_18_1 : leastY_0 = leastY_1) (fe_0_19_1 : mostX_0 = mostX_1) (fe_0_17_2 : leastX_1 = leastX_2) (fe_0_19_2 : mostX_1 = mostX_2) (fe_0_20_2 : mostY_1 = mostY_2) (fe_0_17_3 : leastX_2 = leastX_3) (fe_0_18_3 : leastY_2 = leastY_3) (fe_0_20_3 : mostY_2 = mostY_3) (fe_0_18_4 : leastY_3 = leastY_4) (fe_0_19_4 : mostX_3 = mostX_4) (fe_0_20_4 : mostY_3 = mostY_4) (kz_0_17 : (-41000000) ≤ leastX_0 ∧ leastX_0 ≤ 690000000) (kz_0_18 : (-41000000) ≤ leastY_0 ∧ leastY_0 ≤ 690000000) (kz_0_19 : (-40000000) ≤ mostX_0 ∧ mostX_0 ≤ 1001000000) (kz_0_20 : (-40000000) ≤ mostY_0 ∧ mostY_0 ≤ 1001000000) : (x6 ≤ mostY_0) ∧ (x2 ≤ mostY_0) := by
  subst fe_0_17_1
  subst fe_0_18_1
  subst fe_0_19_1
  subst fe_0_17_2
  subst fe_0_19_2
  subst fe_0_20_2
  subst fe_0_17_3
  subst fe_0_18_3
  subst fe_0_20_3
  subst fe_0_18_4
  subst fe_0_19_4
  subst fe_0_20_4
  first
    | omega
  
def o_Dr_take_0 : or_T := (48, 15, [(0, (2, 0, 0, [0])), (1, (0, -41000000, 1001000000, [])), (2, (0, -41000000, 1001000000, [])), (3, (0, -2147483648, 2147483647, [])), (4, (0, -2147483648, 2147483647, [])), (5, (0, -2147483648, 2147483647, [])), (6, (0, -2147483648, 2147483647, [])), (7, (0, -41000000, 690000000, [])), (8, (0, -41000000, 690000000, [])), (9, (0, -40000000, 1001000000, [])), (10, (0, -40000000, 1001000000, [])), (11, (0, -41000000, 690000000, [])), (12, (0, -41000000, 690000000, [])), (13, (0, -40000000, 1001000000, [])), (14, (0, -40000000, 1001000000, []))], [(9, [14, 0], [20]), (9, [12, 0], [18]), (9, [10, 0], [19]), (9, [8, 0], [17]), (23, [13, 14], [0, 1, -1]), (23, [2, 14], [0, 1, -1]), (23, [11, 12], [0, -1, 1]), (23, [2, 12], [0, -1, 1]), (23, [9, 10], [0, 1, -1]), (23, [1, 10], [0, 1, -1]), (23, [7, 8], [0, -1, 1]), (23, [1, 8], [0, -1, 1]), (101, [0, 14], [20]), (9, [13, 0], [20]), (20, [0, 6], [50, 1, 0, 20, 1, 3, 2, 0, 20, 1, 1]), (101, [0, 12], [18]), (9, [11, 0], [18]), (20, [0, 5], [50, 1, 0, 18, 1, 3, 2, 0, 18, 1, 1]), (101, [0, 10], [19]), (9, [9, 0], [19]), (20, [0, 4], [50, 1, 0, 19, 1, 3, 2, 0, 19, 1, 1]), (101, [0, 8], [17]), (9, [7, 0], [17]), (20, [0, 3], [50, 1, 0, 17, 1, 3, 2, 0, 17, 1, 1])], [], [], [(20, [0, 3, 1], [50, 1, 0, 17, 2, 7, 0, 3, 2, 0, 17, 1, 1, 0, 3, 2, 0, 17, 1, 2]), (20, [4, 0, 1], [50, 1, 0, 1019, 2, 7, 0, 2, 1, 0, 2, 1, 19, 0, 2, 1, 2, 2, 1, 19]), (20, [0, 5, 2], [50, 1, 0, 18, 2, 7, 0, 3, 2, 0, 18, 1, 1, 0, 3, 2, 0, 18, 1, 2]), (20, [6, 0, 2], [50, 1, 0, 1020, 2, 7, 0, 2, 1, 0, 2, 1, 20, 0, 2, 1, 2, 2, 1, 20])], [], [])
theorem oo_Dr_take_0 {kA : Nat → ClassId} : or_ok PRD kA GG o_Dr_take_0 := by
  refine or_mk fun A ta ws vs hD hth hl => ?_
  intro t0 r0 t1 k1 t2 k2 t3 k3 t4 k4 t5 k5 t6 k6 t7 k7 t8 k8 t9 k9 t10 k10 t11 k11 t12 k12 t13 k13 t14 k14 f0 f1 f2 f3 f4 f5 f6 f7 f8 f9 f10 f11 ta1 w1 le1 s1 f15 f22 ta2 w2 le2 s2 f26 f31 ta3 w3 le3 s3 f36 f39 ta4 w4 le4 s4 f45 f46
  replace f0 := shm_740 f0
  replace f1 := shm_799 f1
  replace f2 := shm_796 f2
  replace f3 := shm_795 f3
  have s1 : (∀ b j, w_el ws b j = w_el w1 b j) ∧ ∀ b j, w_fd ws b j = if b = v_ad (n_v vs 0) ∧ j = 20 then n_v vs 14 else w_fd w1 b j := s1.2
  replace f15 := shm_740 f15
  have s2 : (∀ b j, w_el w1 b j = w_el w2 b j) ∧ ∀ b j, w_fd w1 b j = if b = v_ad (n_v vs 0) ∧ j = 18 then n_v vs 12 else w_fd w2 b j := s2.2
  replace f26 := shm_799 f26
  have s3 : (∀ b j, w_el w2 b j = w_el w3 b j) ∧ ∀ b j, w_fd w2 b j = if b = v_ad (n_v vs 0) ∧ j = 19 then n_v vs 10 else w_fd w3 b j := s3.2
  replace f36 := shm_796 f36
  have s4 : (∀ b j, w_el w3 b j = w_el w4 b j) ∧ ∀ b j, w_fd w3 b j = if b = v_ad (n_v vs 0) ∧ j = 17 then n_v vs 8 else w_fd w4 b j := s4.2
  replace f45 := shm_795 f45
  have g0 : v_iv (n_v vs 14) = w_fi ws (n_v vs 0) 20 := congrArg v_iv f0
  have g1 : v_iv (n_v vs 12) = w_fi ws (n_v vs 0) 18 := congrArg v_iv f1
  have g2 : v_iv (n_v vs 10) = w_fi ws (n_v vs 0) 19 := congrArg v_iv f2
  have g3 : v_iv (n_v vs 8) = w_fi ws (n_v vs 0) 17 := congrArg v_iv f3
  have g15 : v_iv (n_v vs 13) = w_fi w1 (n_v vs 0) 20 := congrArg v_iv f15
  have g26 : v_iv (n_v vs 11) = w_fi w2 (n_v vs 0) 18 := congrArg v_iv f26
  have g36 : v_iv (n_v vs 9) = w_fi w3 (n_v vs 0) 19 := congrArg v_iv f36
  have g45 : v_iv (n_v vs 7) = w_fi w4 (n_v vs 0) 17 := congrArg v_iv f45
  have fe_0_17_1 : w_fi ws (n_v vs 0) 17 = w_fi w1 (n_v vs 0) 17 := by show v_iv (w_fd _ _ _) = v_iv (w_fd _ _ _); rw [s1.2, if_neg (fun e => absurd e.2 (by decide))]
  have fe_0_18_1 : w_fi ws (n_v vs 0) 18 = w_fi w1 (n_v vs 0) 18 := by show v_iv (w_fd _ _ _) = v_iv (w_fd _ _ _); rw [s1.2, if_neg (fun e => absurd e.2 (by decide))]
  have fe_0_19_1 : w_fi ws (n_v vs 0) 19 = w_fi w1 (n_v vs 0) 19 := by show v_iv (w_fd _ _ _) = v_iv (w_fd _ _ _); rw [s1.2, if_neg (fun e => absurd e.2 (by decide))]
  have fe_0_17_2 : w_fi w1 (n_v vs 0) 17 = w_fi w2 (n_v vs 0) 17 := by show v_iv (w_fd _ _ _) = v_iv (w_fd _ _ _); rw [s2.2, if_neg (fun e => absurd e.2 (by decide))]
  have fe_0_19_2 : w_fi w1 (n_v vs 0) 19 = w_fi w2 (n_v vs 0) 19 := by show v_iv (w_fd _ _ _) = v_iv (w_fd _ _ _); rw [s2.2, if_neg (fun e => absurd e.2 (by decide))]
  have fe_0_20_2 : w_fi w1 (n_v vs 0) 20 = w_fi w2 (n_v vs 0) 20 := by show v_iv (w_fd _ _ _) = v_iv (w_fd _ _ _); rw [s2.2, if_neg (fun e => absurd e.2 (by decide))]
  have fe_0_17_3 : w_fi w2 (n_v vs 0) 17 = w_fi w3 (n_v vs 0) 17 := by show v_iv (w_fd _ _ _) = v_iv (w_fd _ _ _); rw [s3.2, if_neg (fun e => absurd e.2 (by decide))]
  have fe_0_18_3 : w_fi w2 (n_v vs 0) 18 = w_fi w3 (n_v vs 0) 18 := by show v_iv (w_fd _ _ _) = v_iv (w_fd _ _ _); rw [s3.2, if_neg (fun e => absurd e.2 (by decide))]
  have fe_0_20_3 : w_fi w2 (n_v vs 0) 20 = w_fi w3 (n_v vs 0) 20 := by show v_iv (w_fd _ _ _) = v_iv (w_fd _ _ _); rw [s3.2, if_neg (fun e => absurd e.2 (by decide))]
  have fe_0_18_4 : w_fi w3 (n_v vs 0) 18 = w_fi w4 (n_v vs 0) 18 := by show v_iv (w_fd _ _ _) = v_iv (w_fd _ _ _); rw [s4.2, if_neg (fun e => absurd e.2 (by decide))]
  have fe_0_19_4 : w_fi w3 (n_v vs 0) 19 = w_fi w4 (n_v vs 0) 19 := by show v_iv (w_fd _ _ _) = v_iv (w_fd _ _ _); rw [s4.2, if_neg (fun e => absurd e.2 (by decide))]
  have fe_0_20_4 : w_fi w3 (n_v vs 0) 20 = w_fi w4 (n_v vs 0) 20 := by show v_iv (w_fd _ _ _) = v_iv (w_fd _ _ _); rw [s4.2, if_neg (fun e => absurd e.2 (by decide))]
  have kz_0_17 := fdq_198 hD hth r0
  have kz_0_18 := fdq_200 hD hth r0
  have kz_0_19 := fdq_199 hD hth r0
  have kz_0_20 := fdq_201 hD hth r0
  have nf0 : fc_1 PRD (20, [0, 3, 1], [50, 1, 0, 17, 2, 7, 0, 3, 2, 0, 17, 1, 1, 0, 3, 2, 0, 17, 1, 2]) ws (vs) := ⟨nf_in hl rfl, sgq_1074 (vc_Dr_take_0_0 (v_iv (n_v vs 1)) (v_iv (n_v vs 3)) (v_iv (n_v vs 7)) (v_iv (n_v vs 8)) (w_fi ws (n_v vs 0) 18) (w_fi ws (n_v vs 0) 19) (w_fi ws (n_v vs 0) 17) (w_fi w1 (n_v vs 0) 20) (w_fi w2 (n_v vs 0) 18) (w_fi w2 (n_v vs 0) 20) (w_fi w3 (n_v vs 0) 19) (w_fi w3 (n_v vs 0) 18) (w_fi w3 (n_v vs 0) 20) (w_fi w4 (n_v vs 0) 17) (w_fi w4 (n_v vs 0) 19) (w_fi w4 (n_v vs 0) 18) (w_fi w4 (n_v vs 0) 20) (w_fi w1 (n_v vs 0) 17) (w_fi w1 (n_v vs 0) 18) (w_fi w1 (n_v vs 0) 19) (w_fi w2 (n_v vs 0) 17) (w_fi w2 (n_v vs 0) 19) (w_fi w3 (n_v vs 0) 17) k1 k3 k7 k8 g3 (shm_22 f10) (shm_22 f11) g45 (shm_1073 f46) fe_0_17_1 fe_0_18_1 fe_0_19_1 fe_0_17_2 fe_0_19_2 fe_0_20_2 fe_0_17_3 fe_0_18_3 fe_0_20_3 fe_0_18_4 fe_0_19_4 fe_0_20_4 kz_0_17 kz_0_18 kz_0_19)⟩
  have nf1 : fc_1 PRD (20, [4, 0, 1], [50, 1, 0, 1019, 2, 7, 0, 2, 1, 0, 2, 1, 19, 0, 2, 1, 2, 2, 1, 19]) ws (vs) := ⟨nf_in hl rfl, sgq_1075 (vc_Dr_take_0_1 (v_iv (n_v vs 1)) (v_iv (n_v vs 4)) (v_iv (n_v vs 9)) (v_iv (n_v vs 10)) (w_fi ws (n_v vs 0) 18) (w_fi ws (n_v vs 0) 19) (w_fi ws (n_v vs 0) 17) (w_fi w1 (n_v vs 0) 20) (w_fi w2 (n_v vs 0) 18) (w_fi w2 (n_v vs 0) 20) (w_fi w3 (n_v vs 0) 19) (w_fi w3 (n_v vs 0) 18) (w_fi w3 (n_v vs 0) 20) (w_fi w4 (n_v vs 0) 19) (w_fi w4 (n_v vs 0) 18) (w_fi w4 (n_v vs 0) 20) (w_fi w1 (n_v vs 0) 17) (w_fi w1 (n_v vs 0) 18) (w_fi w1 (n_v vs 0) 19) (w_fi w2 (n_v vs 0) 17) (w_fi w2 (n_v vs 0) 19) (w_fi w3 (n_v vs 0) 17) k1 k4 k9 k10 g2 (shm_7 f8) (shm_7 f9) g36 (shm_1072 f39) fe_0_17_1 fe_0_18_1 fe_0_19_1 fe_0_17_2 fe_0_19_2 fe_0_20_2 fe_0_17_3 fe_0_18_3 fe_0_20_3 fe_0_18_4 fe_0_19_4 fe_0_20_4 kz_0_17 kz_0_18 kz_0_19)⟩
  have nf2 : fc_1 PRD (20, [0, 5, 2], [50, 1, 0, 18, 2, 7, 0, 3, 2, 0, 18, 1, 1, 0, 3, 2, 0, 18, 1, 2]) ws (vs) := ⟨nf_in hl rfl, sgq_1076 (vc_Dr_take_0_2 (v_iv (n_v vs 2)) (v_iv (n_v vs 5)) (v_iv (n_v vs 11)) (v_iv (n_v vs 12)) (w_fi ws (n_v vs 0) 18) (w_fi ws (n_v vs 0) 19) (w_fi ws (n_v vs 0) 17) (w_fi w1 (n_v vs 0) 20) (w_fi w2 (n_v vs 0) 18) (w_fi w2 (n_v vs 0) 20) (w_fi w3 (n_v vs 0) 19) (w_fi w3 (n_v vs 0) 18) (w_fi w3 (n_v vs 0) 20) (w_fi w4 (n_v vs 0) 19) (w_fi w4 (n_v vs 0) 18) (w_fi w4 (n_v vs 0) 20) (w_fi w1 (n_v vs 0) 17) (w_fi w1 (n_v vs 0) 18) (w_fi w1 (n_v vs 0) 19) (w_fi w2 (n_v vs 0) 17) (w_fi w2 (n_v vs 0) 19) (w_fi w3 (n_v vs 0) 17) k2 k5 k11 k12 g1 (shm_22 f6) (shm_22 f7) g26 (shm_1071 f31) fe_0_17_1 fe_0_18_1 fe_0_19_1 fe_0_17_2 fe_0_19_2 fe_0_20_2 fe_0_17_3 fe_0_18_3 fe_0_20_3 fe_0_18_4 fe_0_19_4 fe_0_20_4 kz_0_17 kz_0_18 kz_0_19)⟩
  have nf3 : fc_1 PRD (20, [6, 0, 2], [50, 1, 0, 1020, 2, 7, 0, 2, 1, 0, 2, 1, 20, 0, 2, 1, 2, 2, 1, 20]) ws (vs) := ⟨nf_in hl rfl, sgq_1077 (vc_Dr_take_0_3 (v_iv (n_v vs 2)) (v_iv (n_v vs 6)) (v_iv (n_v vs 13)) (v_iv (n_v vs 14)) (w_fi ws (n_v vs 0) 20) (w_fi ws (n_v vs 0) 18) (w_fi ws (n_v vs 0) 19) (w_fi ws (n_v vs 0) 17) (w_fi w1 (n_v vs 0) 20) (w_fi w2 (n_v vs 0) 18) (w_fi w2 (n_v vs 0) 20) (w_fi w3 (n_v vs 0) 19) (w_fi w3 (n_v vs 0) 18) (w_fi w3 (n_v vs 0) 20) (w_fi w4 (n_v vs 0) 19) (w_fi w4 (n_v vs 0) 18) (w_fi w4 (n_v vs 0) 20) (w_fi w1 (n_v vs 0) 17) (w_fi w1 (n_v vs 0) 18) (w_fi w1 (n_v vs 0) 19) (w_fi w2 (n_v vs 0) 17) (w_fi w2 (n_v vs 0) 19) (w_fi w3 (n_v vs 0) 17) k2 k6 k13 k14 g0 (shm_7 f4) (shm_7 f5) g15 (shm_1070 f22) fe_0_17_1 fe_0_18_1 fe_0_19_1 fe_0_17_2 fe_0_19_2 fe_0_20_2 fe_0_17_3 fe_0_18_3 fe_0_20_3 fe_0_18_4 fe_0_19_4 fe_0_20_4 kz_0_17 kz_0_18 kz_0_19 kz_0_20)⟩
  refine ⟨(fun _ h => (by cases h)), [], trivial, ?_, (fun _ h => (by cases h))⟩
  rw [List.append_nil]
  exact List.forall_mem_cons.mpr ⟨⟨show (20 : Nat) < 100 from by decide, nf0⟩, List.forall_mem_cons.mpr ⟨⟨show (20 : Nat) < 100 from by decide, nf1⟩, List.forall_mem_cons.mpr ⟨⟨show (20 : Nat) < 100 from by decide, nf2⟩, List.forall_mem_cons.mpr ⟨⟨show (20 : Nat) < 100 from by decide, nf3⟩, (fun _ h => (by cases h))⟩⟩⟩⟩
def n_Dr_take_an : List an_T := []
def t_Dr_take_ct : ct_L := [(21, 154, e_jMath_min1_v59), (57, 157, e_jMath_max1_v60), (93, 154, e_jMath_min1_v59), (129, 157, e_jMath_max1_v60)]
set_option maxRecDepth 100000 in
theorem c_Dr_take {l : Launch} {D : va_G} {kA : Nat → ClassId} : ct_ok PRD l D kA GG y_Dr_take z_Dr_take e_Dr_take := chk_all_ok (FT := [(62, 0, 17), (65, 0, 18), (68, 0, 19), (71, 0, 20)]) (PT := [(62, 0, 17, .int), (65, 0, 18, .int), (68, 0, 19, .int), (71, 0, 20, .int)]) (CT := t_Dr_take_ct) (KT := []) (NT := []) (AN := n_Dr_take_an) (OT := [o_Dr_take_0]) 0 200 (List.forall_mem_cons.mpr ⟨oo_Dr_take_0, List.forall_mem_nil _⟩) (by decide +kernel) ⟨List.forall_mem_cons.mpr ⟨gf_Dr_62, List.forall_mem_cons.mpr ⟨gf_Dr_65, List.forall_mem_cons.mpr ⟨gf_Dr_68, List.forall_mem_cons.mpr ⟨gf_Dr_71, List.forall_mem_nil _⟩⟩⟩⟩, List.forall_mem_cons.mpr ⟨pf_Dr_62, List.forall_mem_cons.mpr ⟨pf_Dr_65, List.forall_mem_cons.mpr ⟨pf_Dr_68, List.forall_mem_cons.mpr ⟨pf_Dr_71, List.forall_mem_nil _⟩⟩⟩⟩, List.forall_mem_cons.mpr ⟨cl_static (y := y_jMath_min1) c_jMath_min1_v59 wm_658 wm_10 wm_2026 wm_657 ⟨by decide, by decide, by decide +kernel⟩ (by decide), List.forall_mem_cons.mpr ⟨cl_static (y := y_jMath_max1) c_jMath_max1_v60 wm_836 wm_10 wm_2025 wm_835 ⟨by decide, by decide, by decide +kernel⟩ (by decide), List.forall_mem_cons.mpr ⟨cl_static (y := y_jMath_min1) c_jMath_min1_v59 wm_658 wm_10 wm_2026 wm_657 ⟨by decide, by decide, by decide +kernel⟩ (by decide), List.forall_mem_cons.mpr ⟨cl_static (y := y_jMath_max1) c_jMath_max1_v60 wm_836 wm_10 wm_2025 wm_835 ⟨by decide, by decide, by decide +kernel⟩ (by decide), List.forall_mem_nil _⟩⟩⟩⟩, List.forall_mem_nil _, List.forall_mem_nil _, GG_pl⟩ (by decide +kernel)

set_option maxHeartbeats 4000000 in
theorem vc_Em_joinBlocksAt_at_gn_0_0 (x1 : Int) (x4 : Int) (x5 : Int) (tail_0o3 : Int → Int) (head_0o3 : Int → Int) (edges_0o3 : Int) (block_0 : Int → Int) (k1 : 0 ≤ x1 ∧ x1 ≤ 23) (k4 : 0 ≤ x4 ∧ x4 ≤ 0) (k5 : 0 ≤ x5 ∧ x5 ≤ 0) (kz_3_6 : 0 ≤ edges_0o3 ∧ edges_0o3 ≤ 72) : JB5 (edges_0o3) (block_0) (tail_0o3) (head_0o3) (x1) (x5) (x4) := by
  first
    | exact jb5_start (by omega) (by omega)
    | exact jb5_next ‹JB7 _ _ _ _ _ _ _ _ _› (by omega) (by omega)
    | exact jb5_some (by omega)
    | (have q := jb7_c0 ‹JB7 _ _ _ _ _ _ _ _ _›; exact jb5_some (by omega))
  
def o_Em_joinBlocksAt_at_gn_0 : or_T := (5, 6, [(1, (0, 0, 23, [])), (3, (2, 0, 0, [5])), (4, (0, 0, 0, [])), (5, (0, 0, 0, []))], [], [], [], [(20, [0, 3, 1, 5, 4], [60, 1, 3, 627, 1006, 2, 1007, 1008]), (24, [3, 3], []), (24, [0, 0], []), (24, [1, 1], []), (24, [2, 2], [])], [], [])
theorem oo_Em_joinBlocksAt_at_gn_0 {kA : Nat → ClassId} : or_ok PRD kA GG o_Em_joinBlocksAt_at_gn_0 := by
  refine or_mk fun A ta ws vs hD hth hl => ?_
  intro t1 k1 t3 r3 t4 k4 t5 k5
  have kz_3_6 := fdq_59 hD hth r3
  have nf0 : fc_1 PRD (20, [0, 3, 1, 5, 4], [60, 1, 3, 627, 1006, 2, 1007, 1008]) ws (vs) := ⟨nf_in hl rfl, sgq_1080 (vc_Em_joinBlocksAt_at_gn_0_0 (v_iv (n_v vs 1)) (v_iv (n_v vs 4)) (v_iv (n_v vs 5)) (w_ei ws (w_ar ws (n_v vs 3) 7)) (w_ei ws (w_ar ws (n_v vs 3) 8)) (w_fi ws (n_v vs 3) 6) (w_ei ws (w_ar ws (n_v vs 0) 2)) k1 k4 k5 kz_3_6)⟩
  have nf1 : fc_1 PRD (24, [3, 3], []) ws (vs) := by
    refine ⟨nf_in hl rfl, sgq_1 ?_⟩
    · show n_v vs 3 = n_v vs 3
      first | rfl | simp only [true_and]
  have nf2 : fc_1 PRD (24, [0, 0], []) ws (vs) := by
    refine ⟨nf_in hl rfl, sgq_1 ?_⟩
    · show n_v vs 0 = n_v vs 0
      first | rfl | simp only [true_and]
  have nf3 : fc_1 PRD (24, [1, 1], []) ws (vs) := by
    refine ⟨nf_in hl rfl, sgq_1 ?_⟩
    · show n_v vs 1 = n_v vs 1
      first | rfl | simp only [true_and]
  have nf4 : fc_1 PRD (24, [2, 2], []) ws (vs) := by
    refine ⟨nf_in hl rfl, sgq_1 ?_⟩
    · show n_v vs 2 = n_v vs 2
      first | rfl | simp only [true_and]
  refine ⟨(fun _ h => (by cases h)), [], trivial, ?_, (fun _ h => (by cases h))⟩
  rw [List.append_nil]
  exact List.forall_mem_cons.mpr ⟨⟨show (20 : Nat) < 100 from by decide, nf0⟩, List.forall_mem_cons.mpr ⟨⟨show (24 : Nat) < 100 from by decide, nf1⟩, List.forall_mem_cons.mpr ⟨⟨show (24 : Nat) < 100 from by decide, nf2⟩, List.forall_mem_cons.mpr ⟨⟨show (24 : Nat) < 100 from by decide, nf3⟩, List.forall_mem_cons.mpr ⟨⟨show (24 : Nat) < 100 from by decide, nf4⟩, (fun _ h => (by cases h))⟩⟩⟩⟩⟩
set_option maxHeartbeats 4000000 in
theorem vc_Em_joinBlocksAt_at_gn_1_0 (x1 : Int) (x12 : Int) (x13 : Int) (block_0 : Int → Int) (tail_0o3 : Int → Int) (head_0o3 : Int → Int) (edges_0o3 : Int) (nodes_0o3 : Int) (near_0o3 : Int → Int) (around_1 : Int → Int) (block_1 : Int → Int) (tail_1o3 : Int → Int) (head_1o3 : Int → Int) (edges_1o3 : Int) (near_1o3 : Int → Int) (first_1o3 : Int → Int) (nodes_1o3 : Int) (around_0 : Int → Int) (first_0o3 : Int → Int) (k1 : 0 ≤ x1 ∧ x1 ≤ 23) (k12 : 0 ≤ x12 ∧ x12 ≤ 0) (k13 : 0 ≤ x13 ∧ x13 ≤ 71) (h11 : x13 = around_1 (x12)) (f15 : FIL (nodes_1o3) (near_1o3) (first_1o3) (x1)) (fe_3_5_1 : nodes_0o3 = nodes_1o3) (fe_3_6_1 : edges_0o3 = edges_1o3) (hE_0_2_1 : ∀ j : Int, block_0 j = block_1 j) (hE_0_19_1 : ∀ j : Int, around_0 j = around_1 j) (hE_3_7_1 : ∀ j : Int, tail_0o3 j = tail_1o3 j) (hE_3_8_1 : ∀ j : Int, head_0o3 j = head_1o3 j) (hE_3_9_1 : ∀ j : Int, near_0o3 j = near_1o3 j) (hK_3_9 : ∀ j : Int, 0 ≤ j → j < 25 → 0 ≤ near_0o3 j ∧ near_0o3 j ≤ 16777215) (hE_3_12_1 : ∀ j : Int, 0 ≤ j → (j = x1 → first_0o3 j = x13) ∧ (j ≠ x1 → first_0o3 j = first_1o3 j)) (kz_3_5 : 0 ≤ nodes_0o3 ∧ nodes_0o3 ≤ 24) (kz_3_6 : 0 ≤ edges_0o3 ∧ edges_0o3 ≤ 72) : FIL1 (nodes_0o3) (near_0o3) (first_0o3) (x1) := by
  subst fe_3_5_1
  subst fe_3_6_1
  have e_hE_0_2_1 := funext hE_0_2_1; subst e_hE_0_2_1
  have e_hE_0_19_1 := funext hE_0_19_1; subst e_hE_0_19_1
  have e_hE_3_7_1 := funext hE_3_7_1; subst e_hE_3_7_1
  have e_hE_3_8_1 := funext hE_3_8_1; subst e_hE_3_8_1
  have e_hE_3_9_1 := funext hE_3_9_1; subst e_hE_3_9_1
  first
    | assumption
    | exact fil_some ‹FIL _ _ _ _› (by omega) hE_3_12_1 (by omega) rfl
    | exact fil_none ‹FIL _ _ _ _› ‹JB5 _ _ _ _ _ _ _› (by omega) ‹NOK _ _ _ _ _› ‹LBE _ _ _ _ _› (by omega) (by omega) (by omega) (by have q := hK_3_9 x1 (by omega) (by omega); omega) hE_3_12_1 (by omega) rfl
  
def o_Em_joinBlocksAt_at_gn_1 : or_T := (122, 15, [(0, (2, 0, 0, [1])), (1, (0, 0, 23, [])), (3, (2, 0, 0, [5])), (10, (2, 0, 0, [85])), (12, (0, 0, 0, [])), (13, (0, 0, 71, []))], [(9, [11, 4], [19]), (9, [10, 9], [12]), (24, [3, 9], []), (24, [0, 4], []), (24, [1, 5], []), (100, [10, 5, 13], []), (10, [13, 11, 12], []), (20, [9, 5], [60, 1, 2, 629, 5, 9, 12])], [], [], [(20, [9, 5], [60, 1, 2, 630, 5, 9, 12])], [], [(1, 5, -4294967296, 0), (5, 1, -4294967296, 0)])
theorem oo_Em_joinBlocksAt_at_gn_1 {kA : Nat → ClassId} : or_ok PRD kA GG o_Em_joinBlocksAt_at_gn_1 := by
  refine or_mk fun A ta ws vs hD hth hl => ?_
  intro t0 r0 t1 k1 t3 r3 t10 r10 t12 k12 t13 k13 d1 d3 f0 f1 f3 f7 f8 ta1 w1 le1 s1 f11 f15
  replace f0 := shm_796 f0
  replace f1 := shm_103 f1
  replace f3 := shm_5 f3
  replace f7 := shm_5 f7
  replace f8 := shm_5 f8
  have s1 : (∀ b j, w_el ws b j = if b = v_ad (n_v vs 10) ∧ j = (v_iv (n_v vs 5)).toNat then v_iv (n_v vs 13) else w_el w1 b j) ∧ ∀ b k, w_fd ws b k = w_fd w1 b k := s1.2
  replace f11 := shm_107 f11
  replace f15 := shm_1079 f15
  have q9 : n_v vs 9 = n_v vs 3 := f3.symm
  have q4 : n_v vs 4 = n_v vs 0 := f7.symm
  have q5 : n_v vs 5 = n_v vs 1 := f8.symm
  simp only [q4, q9] at f0 f1
  rw [q5] at s1
  simp only [q9, q5] at f15
  have ar_0_2_1 : w_ar w1 (n_v vs 0) 2 = w_ar ws (n_v vs 0) 2 := congrArg v_ad (s1.2 _ _).symm
  have cr_0_2 := fdq_56 hD hth r0
  have cr_0_19 := fdq_244 hD hth r0
  have ar_3_7_1 : w_ar w1 (n_v vs 3) 7 = w_ar ws (n_v vs 3) 7 := congrArg v_ad (s1.2 _ _).symm
  have cr_3_7 := fdq_57 hD hth r3
  have ar_3_8_1 : w_ar w1 (n_v vs 3) 8 = w_ar ws (n_v vs 3) 8 := congrArg v_ad (s1.2 _ _).symm
  have cr_3_8 := fdq_58 hD hth r3
  have ar_3_9_1 : w_ar w1 (n_v vs 3) 9 = w_ar ws (n_v vs 3) 9 := congrArg v_ad (s1.2 _ _).symm
  have cr_3_9 := fdq_80 hD hth r3
  have ar_3_12_1 : w_ar w1 (n_v vs 3) 12 = w_ar ws (n_v vs 3) 12 := congrArg v_ad (s1.2 _ _).symm
  have ad_11 : v_ad (n_v vs 11) = w_ar ws (n_v vs 0) 19 := congrArg v_ad f0
  have ad_10 : v_ad (n_v vs 10) = w_ar ws (n_v vs 3) 12 := congrArg v_ad f1
  simp only [ad_11] at f11
  have h11 : v_iv (n_v vs 13) = w_ei w1 (w_ar ws (n_v vs 0) 19) (v_iv (n_v vs 12)) := f11
  simp only [ar_0_2_1, ar_3_7_1, ar_3_8_1, ar_3_9_1, ar_3_12_1] at f15
  have fe_3_5_1 : w_fi ws (n_v vs 3) 5 = w_fi w1 (n_v vs 3) 5 := congrArg v_iv (s1.2 _ _)
  have fe_3_6_1 : w_fi ws (n_v vs 3) 6 = w_fi w1 (n_v vs 3) 6 := congrArg v_iv (s1.2 _ _)
  have hE_0_2_1 : ∀ j : Int, w_ei ws (w_ar ws (n_v vs 0) 2) j = w_ei w1 (w_ar ws (n_v vs 0) 2) j := el_kp s1.1 r10 cr_0_2 (by decide)
  have hE_0_19_1 : ∀ j : Int, w_ei ws (w_ar ws (n_v vs 0) 19) j = w_ei w1 (w_ar ws (n_v vs 0) 19) j := el_kp s1.1 r10 cr_0_19 (by decide)
  have hE_3_7_1 : ∀ j : Int, w_ei ws (w_ar ws (n_v vs 3) 7) j = w_ei w1 (w_ar ws (n_v vs 3) 7) j := el_kp s1.1 r10 cr_3_7 (by decide)
  have hE_3_8_1 : ∀ j : Int, w_ei ws (w_ar ws (n_v vs 3) 8) j = w_ei w1 (w_ar ws (n_v vs 3) 8) j := el_kp s1.1 r10 cr_3_8 (by decide)
  have hE_3_9_1 : ∀ j : Int, w_ei ws (w_ar ws (n_v vs 3) 9) j = w_ei w1 (w_ar ws (n_v vs 3) 9) j := el_kp s1.1 r10 cr_3_9 (by decide)
  have hK_3_9 := elq_26 hD hth cr_3_9
  have hE_3_12_1 : ∀ j : Int, 0 ≤ j → (j = v_iv (n_v vs 1) → w_ei ws (w_ar ws (n_v vs 3) 12) j = v_iv (n_v vs 13)) ∧ (j ≠ v_iv (n_v vs 1) → w_ei ws (w_ar ws (n_v vs 3) 12) j = w_ei w1 (w_ar ws (n_v vs 3) 12) j) := fun j hj => ⟨fun h => by unfold w_ei; rw [s1.1, if_pos ⟨ad_10.symm, by rw [h]⟩], fun h => by unfold w_ei; rw [s1.1, if_neg (fun e => h (by have := e.2; omega))]⟩
  have kz_3_5 := fdq_82 hD hth r3
  have kz_3_6 := fdq_59 hD hth r3
  have nf0 : fc_1 PRD (20, [9, 5], [60, 1, 2, 630, 5, 9, 12]) ws (vs) := by
    refine ⟨nf_in hl rfl, sgq_1081 ?_⟩
    · show FIL1 (w_fi ws (n_v vs 9) 5) (w_ei ws (w_ar ws (n_v vs 9) 9)) (w_ei ws (w_ar ws (n_v vs 9) 12)) (v_iv (n_v vs 5))
      simp only [q9, q5]
      exact vc_Em_joinBlocksAt_at_gn_1_0 (v_iv (n_v vs 1)) (v_iv (n_v vs 12)) (v_iv (n_v vs 13)) (w_ei ws (w_ar ws (n_v vs 0) 2)) (w_ei ws (w_ar ws (n_v vs 3) 7)) (w_ei ws (w_ar ws (n_v vs 3) 8)) (w_fi ws (n_v vs 3) 6) (w_fi ws (n_v vs 3) 5) (w_ei ws (w_ar ws (n_v vs 3) 9)) (w_ei w1 (w_ar ws (n_v vs 0) 19)) (w_ei w1 (w_ar ws (n_v vs 0) 2)) (w_ei w1 (w_ar ws (n_v vs 3) 7)) (w_ei w1 (w_ar ws (n_v vs 3) 8)) (w_fi w1 (n_v vs 3) 6) (w_ei w1 (w_ar ws (n_v vs 3) 9)) (w_ei w1 (w_ar ws (n_v vs 3) 12)) (w_fi w1 (n_v vs 3) 5) (w_ei ws (w_ar ws (n_v vs 0) 19)) (w_ei ws (w_ar ws (n_v vs 3) 12)) k1 k12 k13 h11 f15 fe_3_5_1 fe_3_6_1 hE_0_2_1 hE_0_19_1 hE_3_7_1 hE_3_8_1 hE_3_9_1 hK_3_9 hE_3_12_1 kz_3_5 kz_3_6
  refine ⟨(fun _ h => (by cases h)), [], trivial, ?_, (fun _ h => (by cases h))⟩
  rw [List.append_nil]
  exact List.forall_mem_cons.mpr ⟨⟨show (20 : Nat) < 100 from by decide, nf0⟩, (fun _ h => (by cases h))⟩
set_option maxHeartbeats 4000000 in
theorem vc_Em_joinBlocksAt_at_gn_2_0 (x1 : Int) (x2 : Int) (x5 : Int) (x7 : Int) (x8 : Int) (x11 : Int) (block_0 : Int → Int) (tail_0o3 : Int → Int) (head_0o3 : Int → Int) (edges_0o3 : Int) (nodes_0o3 : Int) (near_0o3 : Int → Int) (block_1 : Int → Int) (tail_1o3 : Int → Int) (head_1o3 : Int → Int) (edges_1o3 : Int) (near_1o3 : Int → Int) (first_1o3 : Int → Int) (nodes_1o3 : Int) (first_0o3 : Int → Int) (k1 : 0 ≤ x1 ∧ x1 ≤ 23) (k2 : 0 ≤ x2 ∧ x2 ≤ 72) (k5 : 0 ≤ x5 ∧ x5 ≤ 23) (k7 : 0 ≤ x7 ∧ x7 ≤ 0) (k8 : 0 ≤ x8 ∧ x8 ≤ 72) (k11 : (-1) ≤ x11 ∧ x11 ≤ (-1)) (d1 : x5 + (-4294967296) ≤ x1 ∧ x1 ≤ x5 + 0) (d3 : x1 + (-4294967296) ≤ x5 ∧ x5 ≤ x1 + 0) (f3 : (0 ≤ x1) ∧ ((x1 + 1) ≤ nodes_0o3)) (f10 : x7 = 0) (f11 : x2 ≤ x8) (f12 : JB5 (edges_1o3) (block_1) (tail_1o3) (head_1o3) (x1) (x8) (x7)) (f13 : FIL (nodes_1o3) (near_1o3) (first_1o3) (x1)) (f15 : NOK (nodes_1o3) (edges_1o3) (tail_1o3) (head_1o3) (near_1o3)) (f16 : LBE (edges_1o3) (block_1) (tail_1o3) (head_1o3) (x2)) (fe_3_5_1 : nodes_0o3 = nodes_1o3) (fe_3_6_1 : edges_0o3 = edges_1o3) (hE_0_2_1 : ∀ j : Int, block_0 j = block_1 j) (hE_3_7_1 : ∀ j : Int, tail_0o3 j = tail_1o3 j) (hE_3_8_1 : ∀ j : Int, head_0o3 j = head_1o3 j) (hE_3_9_1 : ∀ j : Int, near_0o3 j = near_1o3 j) (hK_3_9 : ∀ j : Int, 0 ≤ j → j < 25 → 0 ≤ near_0o3 j ∧ near_0o3 j ≤ 16777215) (hE_3_12_1 : ∀ j : Int, 0 ≤ j → (j = x1 → first_0o3 j = x11) ∧ (j ≠ x1 → first_0o3 j = first_1o3 j)) (kz_3_5 : 0 ≤ nodes_0o3 ∧ nodes_0o3 ≤ 24) (kz_3_6 : 0 ≤ edges_0o3 ∧ edges_0o3 ≤ 72) : FIL1 (nodes_0o3) (near_0o3) (first_0o3) (x1) := by
  subst fe_3_5_1
  subst fe_3_6_1
  have e_hE_0_2_1 := funext hE_0_2_1; subst e_hE_0_2_1
  have e_hE_3_7_1 := funext hE_3_7_1; subst e_hE_3_7_1
  have e_hE_3_8_1 := funext hE_3_8_1; subst e_hE_3_8_1
  have e_hE_3_9_1 := funext hE_3_9_1; subst e_hE_3_9_1
  first
    | assumption
    | exact fil_some ‹FIL _ _ _ _› (by omega) hE_3_12_1 (by omega) rfl
    | exact fil_none ‹FIL _ _ _ _› ‹JB5 _ _ _ _ _ _ _› (by omega) ‹NOK _ _ _ _ _› ‹LBE _ _ _ _ _› (by omega) (by omega) (by omega) (by have q := hK_3_9 x1 (by omega) (by omega); omega) hE_3_12_1 (by omega) rfl
  
def o_Em_joinBlocksAt_at_gn_2 : or_T := (122, 13, [(0, (2, 0, 0, [1])), (1, (0, 0, 23, [])), (2, (0, 0, 72, [])), (3, (2, 0, 0, [5])), (5, (0, 0, 23, [])), (7, (0, 0, 0, [])), (8, (0, 0, 72, [])), (10, (2, 0, 0, [85])), (11, (0, -1, -1, []))], [(9, [10, 9], [12]), (24, [3, 9], []), (20, [5, 9], [50, 1, 0, 1005, 2, 6, 0, 2, 0, 0, 1, 0, 0, 6, 4, 2, 1, 0, 0, 1, 2, 1, 5]), (24, [0, 4], []), (24, [1, 5], []), (24, [2, 6], []), (100, [10, 5, 11], []), (8, [7], [0]), (7, [8, 6], [3]), (20, [4, 9, 5, 8, 7], [60, 1, 3, 627, 1006, 2, 1007, 1008]), (20, [9, 5], [60, 1, 2, 629, 5, 9, 12]), (20, [9], [60, 2, 3, 595, 5, 6, 7, 8, 9]), (20, [4, 9, 6], [60, 1, 3, 598, 1006, 2, 1007, 1008])], [], [], [(20, [9, 5], [60, 1, 2, 630, 5, 9, 12])], [], [(1, 5, -4294967296, 0), (5, 1, -4294967296, 0)])
theorem oo_Em_joinBlocksAt_at_gn_2 {kA : Nat → ClassId} : or_ok PRD kA GG o_Em_joinBlocksAt_at_gn_2 := by
  refine or_mk fun A ta ws vs hD hth hl => ?_
  intro t0 r0 t1 k1 t2 k2 t3 r3 t5 k5 t7 k7 t8 k8 t10 r10 t11 k11 d1 d3 f0 f2 f3 f6 f7 f8 ta1 w1 le1 s1 f10 f11 f12 f13 f15 f16
  replace f0 := shm_103 f0
  replace f2 := shm_5 f2
  replace f3 := shm_405 f3
  replace f6 := shm_5 f6
  replace f7 := shm_5 f7
  replace f8 := shm_5 f8
  have s1 : (∀ b j, w_el ws b j = if b = v_ad (n_v vs 10) ∧ j = (v_iv (n_v vs 5)).toNat then v_iv (n_v vs 11) else w_el w1 b j) ∧ ∀ b k, w_fd ws b k = w_fd w1 b k := s1.2
  replace f10 := shm_192 f10
  replace f11 := shm_2 f11
  replace f12 := shm_1080 f12
  replace f13 := shm_1079 f13
  replace f15 := shm_408 f15
  replace f16 := shm_1078 f16
  have q9 : n_v vs 9 = n_v vs 3 := f2.symm
  have q4 : n_v vs 4 = n_v vs 0 := f6.symm
  have q5 : n_v vs 5 = n_v vs 1 := f7.symm
  have q6 : n_v vs 6 = n_v vs 2 := f8.symm
  simp only [q9, q5] at f0 f3
  rw [q5] at s1
  simp only [q6, q9, q4, q5] at f11 f12 f13 f15 f16
  have ar_0_2_1 : w_ar w1 (n_v vs 0) 2 = w_ar ws (n_v vs 0) 2 := congrArg v_ad (s1.2 _ _).symm
  have cr_0_2 := fdq_56 hD hth r0
  have ar_3_7_1 : w_ar w1 (n_v vs 3) 7 = w_ar ws (n_v vs 3) 7 := congrArg v_ad (s1.2 _ _).symm
  have cr_3_7 := fdq_57 hD hth r3
  have ar_3_8_1 : w_ar w1 (n_v vs 3) 8 = w_ar ws (n_v vs 3) 8 := congrArg v_ad (s1.2 _ _).symm
  have cr_3_8 := fdq_58 hD hth r3
  have ar_3_9_1 : w_ar w1 (n_v vs 3) 9 = w_ar ws (n_v vs 3) 9 := congrArg v_ad (s1.2 _ _).symm
  have cr_3_9 := fdq_80 hD hth r3
  have ar_3_12_1 : w_ar w1 (n_v vs 3) 12 = w_ar ws (n_v vs 3) 12 := congrArg v_ad (s1.2 _ _).symm
  have ad_10 : v_ad (n_v vs 10) = w_ar ws (n_v vs 3) 12 := congrArg v_ad f0
  simp only [ar_0_2_1, ar_3_7_1, ar_3_8_1, ar_3_9_1, ar_3_12_1] at f12 f13 f15 f16
  have fe_3_5_1 : w_fi ws (n_v vs 3) 5 = w_fi w1 (n_v vs 3) 5 := congrArg v_iv (s1.2 _ _)
  have fe_3_6_1 : w_fi ws (n_v vs 3) 6 = w_fi w1 (n_v vs 3) 6 := congrArg v_iv (s1.2 _ _)
  have hE_0_2_1 : ∀ j : Int, w_ei ws (w_ar ws (n_v vs 0) 2) j = w_ei w1 (w_ar ws (n_v vs 0) 2) j := el_kp s1.1 r10 cr_0_2 (by decide)
  have hE_3_7_1 : ∀ j : Int, w_ei ws (w_ar ws (n_v vs 3) 7) j = w_ei w1 (w_ar ws (n_v vs 3) 7) j := el_kp s1.1 r10 cr_3_7 (by decide)
  have hE_3_8_1 : ∀ j : Int, w_ei ws (w_ar ws (n_v vs 3) 8) j = w_ei w1 (w_ar ws (n_v vs 3) 8) j := el_kp s1.1 r10 cr_3_8 (by decide)
  have hE_3_9_1 : ∀ j : Int, w_ei ws (w_ar ws (n_v vs 3) 9) j = w_ei w1 (w_ar ws (n_v vs 3) 9) j := el_kp s1.1 r10 cr_3_9 (by decide)
  have hK_3_9 := elq_26 hD hth cr_3_9
  have hE_3_12_1 : ∀ j : Int, 0 ≤ j → (j = v_iv (n_v vs 1) → w_ei ws (w_ar ws (n_v vs 3) 12) j = v_iv (n_v vs 11)) ∧ (j ≠ v_iv (n_v vs 1) → w_ei ws (w_ar ws (n_v vs 3) 12) j = w_ei w1 (w_ar ws (n_v vs 3) 12) j) := fun j hj => ⟨fun h => by unfold w_ei; rw [s1.1, if_pos ⟨ad_10.symm, by rw [h]⟩], fun h => by unfold w_ei; rw [s1.1, if_neg (fun e => h (by have := e.2; omega))]⟩
  have kz_3_5 := fdq_82 hD hth r3
  have kz_3_6 := fdq_59 hD hth r3
  have nf0 : fc_1 PRD (20, [9, 5], [60, 1, 2, 630, 5, 9, 12]) ws (vs) := by
    refine ⟨nf_in hl rfl, sgq_1081 ?_⟩
    · show FIL1 (w_fi ws (n_v vs 9) 5) (w_ei ws (w_ar ws (n_v vs 9) 9)) (w_ei ws (w_ar ws (n_v vs 9) 12)) (v_iv (n_v vs 5))
      simp only [q9, q5]
      exact vc_Em_joinBlocksAt_at_gn_2_0 (v_iv (n_v vs 1)) (v_iv (n_v vs 2)) (v_iv (n_v vs 5)) (v_iv (n_v vs 7)) (v_iv (n_v vs 8)) (v_iv (n_v vs 11)) (w_ei ws (w_ar ws (n_v vs 0) 2)) (w_ei ws (w_ar ws (n_v vs 3) 7)) (w_ei ws (w_ar ws (n_v vs 3) 8)) (w_fi ws (n_v vs 3) 6) (w_fi ws (n_v vs 3) 5) (w_ei ws (w_ar ws (n_v vs 3) 9)) (w_ei w1 (w_ar ws (n_v vs 0) 2)) (w_ei w1 (w_ar ws (n_v vs 3) 7)) (w_ei w1 (w_ar ws (n_v vs 3) 8)) (w_fi w1 (n_v vs 3) 6) (w_ei w1 (w_ar ws (n_v vs 3) 9)) (w_ei w1 (w_ar ws (n_v vs 3) 12)) (w_fi w1 (n_v vs 3) 5) (w_ei ws (w_ar ws (n_v vs 3) 12)) k1 k2 k5 k7 k8 k11 d1 d3 f3 f10 f11 f12 f13 f15 f16 fe_3_5_1 fe_3_6_1 hE_0_2_1 hE_3_7_1 hE_3_8_1 hE_3_9_1 hK_3_9 hE_3_12_1 kz_3_5 kz_3_6
  refine ⟨(fun _ h => (by cases h)), [], trivial, ?_, (fun _ h => (by cases h))⟩
  rw [List.append_nil]
  exact List.forall_mem_cons.mpr ⟨⟨show (20 : Nat) < 100 from by decide, nf0⟩, (fun _ h => (by cases h))⟩
set_option maxHeartbeats 4000000 in
theorem vc_Em_joinBlocksAt_at_gn_3_0 (x1 : Int) (x7 : Int) (x8 : Int) (x10 : Int) (x11 : Int) (block_0 : Int → Int) (tail_0o3 : Int → Int) (head_0o3 : Int → Int) (edges_0o3 : Int) (k1 : 0 ≤ x1 ∧ x1 ≤ 23) (k7 : 0 ≤ x7 ∧ x7 ≤ 72) (k8 : 0 ≤ x8 ∧ x8 ≤ 71) (k10 : (-1) ≤ x10 ∧ x10 ≤ 71) (k11 : 0 ≤ x11 ∧ x11 ≤ 0) (f0 : LEX (edges_0o3) (block_0) (tail_0o3) (head_0o3) (x1) (x8) (x10)) (f2 : JB5 (edges_0o3) (block_0) (tail_0o3) (head_0o3) (x1) (x8) (x7)) (kz_3_6 : 0 ≤ edges_0o3 ∧ edges_0o3 ≤ 72) : JB7 (edges_0o3) (block_0) (tail_0o3) (head_0o3) (x1) (x8) (x7) (x10) (x11) := by
  first
    | exact jb7_start ‹JB5 _ _ _ _ _ _ _› ‹LEX _ _ _ _ _ _ _› (by omega)
    | exact jb7_more (by omega)
    | (have q := jb7_c0 ‹JB7 _ _ _ _ _ _ _ _ _›; exact jb7_more (by omega))
  
def o_Em_joinBlocksAt_at_gn_3 : or_T := (27, 12, [(1, (0, 0, 23, [])), (3, (2, 0, 0, [5])), (7, (0, 0, 72, [])), (8, (0, 0, 71, [])), (10, (0, -1, 71, [])), (11, (0, 0, 0, []))], [(20, [4, 9, 5, 8, 10], [60, 1, 3, 626, 1006, 2, 1007, 1008]), (20, [4, 9, 5, 8, 7], [60, 1, 3, 627, 1006, 2, 1007, 1008]), (24, [3, 9], []), (24, [0, 4], []), (24, [1, 5], [])], [], [], [(20, [4, 9, 5, 8, 7, 10, 11], [60, 1, 3, 628, 1006, 2, 1007, 1008])], [], [])
theorem oo_Em_joinBlocksAt_at_gn_3 {kA : Nat → ClassId} : or_ok PRD kA GG o_Em_joinBlocksAt_at_gn_3 := by
  refine or_mk fun A ta ws vs hD hth hl => ?_
  intro t1 k1 t3 r3 t7 k7 t8 k8 t10 k10 t11 k11 f0 f2 f4 f8 f9
  replace f0 := shm_356 f0
  replace f2 := shm_1080 f2
  replace f4 := shm_5 f4
  replace f8 := shm_5 f8
  replace f9 := shm_5 f9
  have q9 : n_v vs 9 = n_v vs 3 := f4.symm
  have q4 : n_v vs 4 = n_v vs 0 := f8.symm
  have q5 : n_v vs 5 = n_v vs 1 := f9.symm
  simp only [q9, q4, q5] at f0 f2
  have kz_3_6 := fdq_59 hD hth r3
  have nf0 : fc_1 PRD (20, [4, 9, 5, 8, 7, 10, 11], [60, 1, 3, 628, 1006, 2, 1007, 1008]) ws (vs) := by
    refine ⟨nf_in hl rfl, sgq_1082 ?_⟩
    · show JB7 (w_fi ws (n_v vs 9) 6) (w_ei ws (w_ar ws (n_v vs 4) 2)) (w_ei ws (w_ar ws (n_v vs 9) 7)) (w_ei ws (w_ar ws (n_v vs 9) 8)) (v_iv (n_v vs 5)) (v_iv (n_v vs 8)) (v_iv (n_v vs 7)) (v_iv (n_v vs 10)) (v_iv (n_v vs 11))
      simp only [q9, q4, q5]
      exact vc_Em_joinBlocksAt_at_gn_3_0 (v_iv (n_v vs 1)) (v_iv (n_v vs 7)) (v_iv (n_v vs 8)) (v_iv (n_v vs 10)) (v_iv (n_v vs 11)) (w_ei ws (w_ar ws (n_v vs 0) 2)) (w_ei ws (w_ar ws (n_v vs 3) 7)) (w_ei ws (w_ar ws (n_v vs 3) 8)) (w_fi ws (n_v vs 3) 6) k1 k7 k8 k10 k11 f0 f2 kz_3_6
  refine ⟨(fun _ h => (by cases h)), [], trivial, ?_, (fun _ h => (by cases h))⟩
  rw [List.append_nil]
  exact List.forall_mem_cons.mpr ⟨⟨show (20 : Nat) < 100 from by decide, nf0⟩, (fun _ h => (by cases h))⟩
set_option maxHeartbeats 4000000 in
theorem vc_Em_joinBlocksAt_at_gn_4_0 (x1 : Int) (x7 : Int) (x8 : Int) (x10 : Int) (x11 : Int) (x14 : Int) (block_0 : Int → Int) (tail_0o3 : Int → Int) (head_0o3 : Int → Int) (edges_0o3 : Int) (k1 : 0 ≤ x1 ∧ x1 ≤ 23) (k7 : 72 ≤ x7 ∧ x7 ≤ 72) (k8 : 0 ≤ x8 ∧ x8 ≤ 71) (k10 : (-1) ≤ x10 ∧ x10 ≤ 71) (k11 : 72 ≤ x11 ∧ x11 ≤ 72) (k14 : 1 ≤ x14 ∧ x14 ≤ 72) (f0 : x14 = x8 + 1) (f2 : JB7 (edges_0o3) (block_0) (tail_0o3) (head_0o3) (x1) (x8) (x7) (x10) (x11)) (kz_3_6 : 0 ≤ edges_0o3 ∧ edges_0o3 ≤ 72) : JB5 (edges_0o3) (block_0) (tail_0o3) (head_0o3) (x1) (x14) (x7) := by
  first
    | exact jb5_start (by omega) (by omega)
    | exact jb5_next ‹JB7 _ _ _ _ _ _ _ _ _› (by omega) (by omega)
    | exact jb5_some (by omega)
    | (have q := jb7_c0 ‹JB7 _ _ _ _ _ _ _ _ _›; exact jb5_some (by omega))
  
def o_Em_joinBlocksAt_at_gn_4 : or_T := (5, 15, [(1, (0, 0, 23, [])), (3, (2, 0, 0, [5])), (7, (0, 72, 72, [])), (8, (0, 0, 71, [])), (10, (0, -1, 71, [])), (11, (0, 72, 72, [])), (14, (0, 1, 72, []))], [(6, [14, 8], [1]), (20, [4, 12, 5, 8, 7, 10, 11], [60, 1, 3, 628, 1006, 2, 1007, 1008]), (24, [3, 12], []), (24, [0, 4], []), (24, [1, 5], [])], [], [], [(20, [4, 12, 5, 14, 7], [60, 1, 3, 627, 1006, 2, 1007, 1008])], [], [])
theorem oo_Em_joinBlocksAt_at_gn_4 {kA : Nat → ClassId} : or_ok PRD kA GG o_Em_joinBlocksAt_at_gn_4 := by
  refine or_mk fun A ta ws vs hD hth hl => ?_
  intro t1 k1 t3 r3 t7 k7 t8 k8 t10 k10 t11 k11 t14 k14 f0 f2 f4 f8 f9
  replace f0 := shm_4 f0
  replace f2 := shm_1082 f2
  replace f4 := shm_5 f4
  replace f8 := shm_5 f8
  replace f9 := shm_5 f9
  have q12 : n_v vs 12 = n_v vs 3 := f4.symm
  have q4 : n_v vs 4 = n_v vs 0 := f8.symm
  have q5 : n_v vs 5 = n_v vs 1 := f9.symm
  simp only [q12, q4, q5] at f2
  have kz_3_6 := fdq_59 hD hth r3
  have nf0 : fc_1 PRD (20, [4, 12, 5, 14, 7], [60, 1, 3, 627, 1006, 2, 1007, 1008]) ws (vs) := by
    refine ⟨nf_in hl rfl, sgq_1080 ?_⟩
    · show JB5 (w_fi ws (n_v vs 12) 6) (w_ei ws (w_ar ws (n_v vs 4) 2)) (w_ei ws (w_ar ws (n_v vs 12) 7)) (w_ei ws (w_ar ws (n_v vs 12) 8)) (v_iv (n_v vs 5)) (v_iv (n_v vs 14)) (v_iv (n_v vs 7))
      simp only [q12, q4, q5]
      exact vc_Em_joinBlocksAt_at_gn_4_0 (v_iv (n_v vs 1)) (v_iv (n_v vs 7)) (v_iv (n_v vs 8)) (v_iv (n_v vs 10)) (v_iv (n_v vs 11)) (v_iv (n_v vs 14)) (w_ei ws (w_ar ws (n_v vs 0) 2)) (w_ei ws (w_ar ws (n_v vs 3) 7)) (w_ei ws (w_ar ws (n_v vs 3) 8)) (w_fi ws (n_v vs 3) 6) k1 k7 k8 k10 k11 k14 f0 f2 kz_3_6
  refine ⟨(fun _ h => (by cases h)), [], trivial, ?_, (fun _ h => (by cases h))⟩
  rw [List.append_nil]
  exact List.forall_mem_cons.mpr ⟨⟨show (20 : Nat) < 100 from by decide, nf0⟩, (fun _ h => (by cases h))⟩
set_option maxHeartbeats 4000000 in
theorem vc_Em_joinBlocksAt_at_gn_5_0 (x1 : Int) (x7 : Int) (x8 : Int) (x10 : Int) (x11 : Int) (x15 : Int) (block_0 : Int → Int) (tail_0o3 : Int → Int) (head_0o3 : Int → Int) (edges_0o3 : Int) (k1 : 0 ≤ x1 ∧ x1 ≤ 23) (k7 : 0 ≤ x7 ∧ x7 ≤ 72) (k8 : 0 ≤ x8 ∧ x8 ≤ 71) (k10 : (-1) ≤ x10 ∧ x10 ≤ (-1)) (k11 : 0 ≤ x11 ∧ x11 ≤ 71) (k15 : 1 ≤ x15 ∧ x15 ≤ 72) (f0 : x15 = x8 + 1) (f3 : JB7 (edges_0o3) (block_0) (tail_0o3) (head_0o3) (x1) (x8) (x7) (x10) (x11)) (kz_3_6 : 0 ≤ edges_0o3 ∧ edges_0o3 ≤ 72) : JB5 (edges_0o3) (block_0) (tail_0o3) (head_0o3) (x1) (x15) (x7) := by
  first
    | exact jb5_start (by omega) (by omega)
    | exact jb5_next ‹JB7 _ _ _ _ _ _ _ _ _› (by omega) (by omega)
    | exact jb5_some (by omega)
    | (have q := jb7_c0 ‹JB7 _ _ _ _ _ _ _ _ _›; exact jb5_some (by omega))
  
def o_Em_joinBlocksAt_at_gn_5 : or_T := (5, 16, [(1, (0, 0, 23, [])), (3, (2, 0, 0, [5])), (7, (0, 0, 72, [])), (8, (0, 0, 71, [])), (10, (0, -1, -1, [])), (11, (0, 0, 71, [])), (15, (0, 1, 72, []))], [(6, [15, 8], [1]), (20, [4, 12, 5, 8, 7, 10, 11], [60, 1, 3, 628, 1006, 2, 1007, 1008]), (24, [3, 12], []), (24, [0, 4], []), (24, [1, 5], [])], [], [], [(20, [4, 12, 5, 15, 7], [60, 1, 3, 627, 1006, 2, 1007, 1008])], [], [])
theorem oo_Em_joinBlocksAt_at_gn_5 {kA : Nat → ClassId} : or_ok PRD kA GG o_Em_joinBlocksAt_at_gn_5 := by
  refine or_mk fun A ta ws vs hD hth hl => ?_
  intro t1 k1 t3 r3 t7 k7 t8 k8 t10 k10 t11 k11 t15 k15 f0 f3 f5 f9 f10
  replace f0 := shm_4 f0
  replace f3 := shm_1082 f3
  replace f5 := shm_5 f5
  replace f9 := shm_5 f9
  replace f10 := shm_5 f10
  have q12 : n_v vs 12 = n_v vs 3 := f5.symm
  have q4 : n_v vs 4 = n_v vs 0 := f9.symm
  have q5 : n_v vs 5 = n_v vs 1 := f10.symm
  simp only [q12, q4, q5] at f3
  have kz_3_6 := fdq_59 hD hth r3
  have nf0 : fc_1 PRD (20, [4, 12, 5, 15, 7], [60, 1, 3, 627, 1006, 2, 1007, 1008]) ws (vs) := by
    refine ⟨nf_in hl rfl, sgq_1080 ?_⟩
    · show JB5 (w_fi ws (n_v vs 12) 6) (w_ei ws (w_ar ws (n_v vs 4) 2)) (w_ei ws (w_ar ws (n_v vs 12) 7)) (w_ei ws (w_ar ws (n_v vs 12) 8)) (v_iv (n_v vs 5)) (v_iv (n_v vs 15)) (v_iv (n_v vs 7))
      simp only [q12, q4, q5]
      exact vc_Em_joinBlocksAt_at_gn_5_0 (v_iv (n_v vs 1)) (v_iv (n_v vs 7)) (v_iv (n_v vs 8)) (v_iv (n_v vs 10)) (v_iv (n_v vs 11)) (v_iv (n_v vs 15)) (w_ei ws (w_ar ws (n_v vs 0) 2)) (w_ei ws (w_ar ws (n_v vs 3) 7)) (w_ei ws (w_ar ws (n_v vs 3) 8)) (w_fi ws (n_v vs 3) 6) k1 k7 k8 k10 k11 k15 f0 f3 kz_3_6
  refine ⟨(fun _ h => (by cases h)), [], trivial, ?_, (fun _ h => (by cases h))⟩
  rw [List.append_nil]
  exact List.forall_mem_cons.mpr ⟨⟨show (20 : Nat) < 100 from by decide, nf0⟩, (fun _ h => (by cases h))⟩
set_option maxHeartbeats 4000000 in
theorem vc_Em_joinBlocksAt_at_gn_6_0 (x1 : Int) (x7 : Int) (x8 : Int) (x10 : Int) (x11 : Int) (x16 : Int) (block_0 : Int → Int) (tail_0o3 : Int → Int) (head_0o3 : Int → Int) (edges_0o3 : Int) (k1 : 0 ≤ x1 ∧ x1 ≤ 23) (k7 : 72 ≤ x7 ∧ x7 ≤ 72) (k8 : 0 ≤ x8 ∧ x8 ≤ 71) (k10 : 0 ≤ x10 ∧ x10 ≤ 71) (k11 : 0 ≤ x11 ∧ x11 ≤ 71) (k16 : 1 ≤ x16 ∧ x16 ≤ 72) (f0 : x16 = x8 + 1) (f4 : JB7 (edges_0o3) (block_0) (tail_0o3) (head_0o3) (x1) (x8) (x7) (x10) (x11)) (kz_3_6 : 0 ≤ edges_0o3 ∧ edges_0o3 ≤ 72) : JB5 (edges_0o3) (block_0) (tail_0o3) (head_0o3) (x1) (x16) (x7) := by
  first
    | exact jb5_start (by omega) (by omega)
    | exact jb5_next ‹JB7 _ _ _ _ _ _ _ _ _› (by omega) (by omega)
    | exact jb5_some (by omega)
    | (have q := jb7_c0 ‹JB7 _ _ _ _ _ _ _ _ _›; exact jb5_some (by omega))
  
def o_Em_joinBlocksAt_at_gn_6 : or_T := (5, 17, [(1, (0, 0, 23, [])), (3, (2, 0, 0, [5])), (7, (0, 72, 72, [])), (8, (0, 0, 71, [])), (10, (0, 0, 71, [])), (11, (0, 0, 71, [])), (16, (0, 1, 72, []))], [(6, [16, 8], [1]), (20, [4, 12, 5, 8, 7, 10, 11], [60, 1, 3, 628, 1006, 2, 1007, 1008]), (24, [3, 12], []), (24, [0, 4], []), (24, [1, 5], [])], [], [], [(20, [4, 12, 5, 16, 7], [60, 1, 3, 627, 1006, 2, 1007, 1008])], [], [])
theorem oo_Em_joinBlocksAt_at_gn_6 {kA : Nat → ClassId} : or_ok PRD kA GG o_Em_joinBlocksAt_at_gn_6 := by
  refine or_mk fun A ta ws vs hD hth hl => ?_
  intro t1 k1 t3 r3 t7 k7 t8 k8 t10 k10 t11 k11 t16 k16 f0 f4 f6 f10 f11
  replace f0 := shm_4 f0
  replace f4 := shm_1082 f4
  replace f6 := shm_5 f6
  replace f10 := shm_5 f10
  replace f11 := shm_5 f11
  have q12 : n_v vs 12 = n_v vs 3 := f6.symm
  have q4 : n_v vs 4 = n_v vs 0 := f10.symm
  have q5 : n_v vs 5 = n_v vs 1 := f11.symm
  simp only [q12, q4, q5] at f4
  have kz_3_6 := fdq_59 hD hth r3
  have nf0 : fc_1 PRD (20, [4, 12, 5, 16, 7], [60, 1, 3, 627, 1006, 2, 1007, 1008]) ws (vs) := by
    refine ⟨nf_in hl rfl, sgq_1080 ?_⟩
    · show JB5 (w_fi ws (n_v vs 12) 6) (w_ei ws (w_ar ws (n_v vs 4) 2)) (w_ei ws (w_ar ws (n_v vs 12) 7)) (w_ei ws (w_ar ws (n_v vs 12) 8)) (v_iv (n_v vs 5)) (v_iv (n_v vs 16)) (v_iv (n_v vs 7))
      simp only [q12, q4, q5]
      exact vc_Em_joinBlocksAt_at_gn_6_0 (v_iv (n_v vs 1)) (v_iv (n_v vs 7)) (v_iv (n_v vs 8)) (v_iv (n_v vs 10)) (v_iv (n_v vs 11)) (v_iv (n_v vs 16)) (w_ei ws (w_ar ws (n_v vs 0) 2)) (w_ei ws (w_ar ws (n_v vs 3) 7)) (w_ei ws (w_ar ws (n_v vs 3) 8)) (w_fi ws (n_v vs 3) 6) k1 k7 k8 k10 k11 k16 f0 f4 kz_3_6
  refine ⟨(fun _ h => (by cases h)), [], trivial, ?_, (fun _ h => (by cases h))⟩
  rw [List.append_nil]
  exact List.forall_mem_cons.mpr ⟨⟨show (20 : Nat) < 100 from by decide, nf0⟩, (fun _ h => (by cases h))⟩
set_option maxHeartbeats 4000000 in
theorem vc_Em_joinBlocksAt_at_gn_7_0 (x1 : Int) (x7 : Int) (x8 : Int) (x17 : Int) (x20 : Int) (x21 : Int) (after_0 : Int → Int) (block_0 : Int → Int) (tail_0o3 : Int → Int) (head_0o3 : Int → Int) (edges_0o3 : Int) (near_0o3 : Int → Int) (first_0o3 : Int → Int) (nodes_0o3 : Int) (block_1 : Int → Int) (tail_1o3 : Int → Int) (head_1o3 : Int → Int) (edges_1o3 : Int) (near_1o3 : Int → Int) (first_1o3 : Int → Int) (nodes_1o3 : Int) (after_1 : Int → Int) (k1 : 0 ≤ x1 ∧ x1 ≤ 23) (k7 : 0 ≤ x7 ∧ x7 ≤ 71) (k8 : 0 ≤ x8 ∧ x8 ≤ 71) (k17 : 1 ≤ x17 ∧ x17 ≤ 72) (k20 : (-1) ≤ x20 ∧ x20 ≤ 71) (k21 : 1 ≤ x21 ∧ x21 ≤ 72) (d2 : x7 + 1 ≤ x17 ∧ x17 ≤ x7 + 1) (fe_3_5_1 : nodes_0o3 = nodes_1o3) (fe_3_6_1 : edges_0o3 = edges_1o3) (hE_0_2_1 : ∀ j : Int, block_0 j = block_1 j) (hE_0_12_1 : ∀ j : Int, after_0 j = after_1 j) (hE_3_7_1 : ∀ j : Int, tail_0o3 j = tail_1o3 j) (hE_3_8_1 : ∀ j : Int, head_0o3 j = head_1o3 j) (hE_3_9_1 : ∀ j : Int, near_0o3 j = near_1o3 j) (hE_3_12_1 : ∀ j : Int, first_0o3 j = first_1o3 j) (kz_3_5 : 0 ≤ nodes_0o3 ∧ nodes_0o3 ≤ 24) (kz_3_6 : 0 ≤ edges_0o3 ∧ edges_0o3 ≤ 72) : JB7 (edges_0o3) (block_0) (tail_0o3) (head_0o3) (x1) (x8) (x17) (x20) (x21) := by
  subst fe_3_5_1
  subst fe_3_6_1
  have e_hE_0_2_1 := funext hE_0_2_1; subst e_hE_0_2_1
  have e_hE_0_12_1 := funext hE_0_12_1; subst e_hE_0_12_1
  have e_hE_3_7_1 := funext hE_3_7_1; subst e_hE_3_7_1
  have e_hE_3_8_1 := funext hE_3_8_1; subst e_hE_3_8_1
  have e_hE_3_9_1 := funext hE_3_9_1; subst e_hE_3_9_1
  have e_hE_3_12_1 := funext hE_3_12_1; subst e_hE_3_12_1
  first
    | exact jb7_start ‹JB5 _ _ _ _ _ _ _› ‹LEX _ _ _ _ _ _ _› (by omega)
    | exact jb7_more (by omega)
    | (have q := jb7_c0 ‹JB7 _ _ _ _ _ _ _ _ _›; exact jb7_more (by omega))
  
def o_Em_joinBlocksAt_at_gn_7 : or_T := (27, 22, [(0, (2, 0, 0, [1])), (1, (0, 0, 23, [])), (2, (0, 0, 72, [])), (3, (2, 0, 0, [5])), (4, (2, 0, 0, [1])), (5, (0, 0, 23, [])), (6, (0, 1, 72, [])), (7, (0, 0, 71, [])), (8, (0, 0, 71, [])), (9, (0, -1, 71, [])), (10, (0, 0, 71, [])), (11, (0, 0, 71, [])), (12, (2, 0, 0, [5])), (13, (0, 72, 72, [])), (14, (0, -1, -1, [])), (15, (0, 72, 72, [])), (16, (2, 0, 0, [36])), (17, (0, 1, 72, [])), (18, (2, 0, 0, [33])), (19, (0, 1, 143, [])), (20, (0, -1, 71, [])), (21, (0, 1, 72, []))], [(9, [16, 4], [19]), (6, [21, 11], [1]), (7, [20, 9], [1]), (10, [20, 18, 19], []), (9, [18, 4], [12]), (6, [17, 7], [1]), (20, [4, 12, 5, 8, 7, 10, 11], [60, 1, 3, 628, 1006, 2, 1007, 1008]), (20, [12, 5], [60, 1, 2, 629, 5, 9, 12]), (24, [3, 12], []), (20, [5, 12], [50, 1, 0, 1005, 2, 6, 0, 2, 0, 0, 1, 0, 0, 6, 4, 2, 1, 0, 0, 1, 2, 1, 5]), (20, [12], [60, 2, 3, 595, 5, 6, 7, 8, 9]), (20, [4, 12, 6], [60, 1, 3, 598, 1006, 2, 1007, 1008]), (24, [0, 4], []), (24, [1, 5], []), (24, [2, 6], []), (100, [16, 7, 10], []), (7, [7, 15], [2]), (7, [10, 14], [1]), (7, [11, 13], [2]), (20, [4, 12, 5, 8, 7, 10, 11], [60, 1, 3, 628, 1006, 2, 1007, 1008]), (20, [12, 5], [60, 1, 2, 629, 5, 9, 12]), (20, [5, 12], [50, 1, 0, 1005, 2, 6, 0, 2, 0, 0, 1, 0, 0, 6, 4, 2, 1, 0, 0, 1, 2, 1, 5]), (20, [12], [60, 2, 3, 595, 5, 6, 7, 8, 9]), (20, [4, 12, 6], [60, 1, 3, 598, 1006, 2, 1007, 1008])], [], [], [(20, [4, 12, 5, 8, 17, 20, 21], [60, 1, 3, 628, 1006, 2, 1007, 1008])], [], [(21, 11, 1, 1), (21, 7, -4294967296, 1), (17, 7, 1, 1), (1, 2, -4294967296, 22), (1, 5, -4294967296, 0), (2, 6, -4294967296, 0), (5, 1, -4294967296, 0), (5, 2, -4294967296, 22), (6, 2, -4294967296, 0), (8, 2, -4294967296, -1), (8, 6, -4294967296, -1), (9, 2, -4294967296, 70), (11, 7, -4294967296, 0)])
theorem oo_Em_joinBlocksAt_at_gn_7 {kA : Nat → ClassId} : or_ok PRD kA GG o_Em_joinBlocksAt_at_gn_7 := by
  refine or_mk fun A ta ws vs hD hth hl => ?_
  intro t0 r0 t1 k1 t2 k2 t3 r3 t4 r4 t5 k5 t6 k6 t7 k7 t8 k8 t9 k9 t10 k10 t11 k11 t12 r12 t13 k13 t14 k14 t15 k15 t16 r16 t17 k17 t18 r18 t19 k19 t20 k20 t21 k21 d0 d1 d2 d3 d4 d5 d6 d7 d8 d9 d10 d11 d12 f0 f1 f2 f3 f4 f5 f6 f7 f8 f9 f10 f11 f12 f13 f14 ta1 w1 le1 s1 f16 f17 f18 f19 f20 f21 f22 f23
  replace f8 := shm_5 f8
  replace f12 := shm_5 f12
  replace f13 := shm_5 f13
  have s1 : (∀ b j, w_el ws b j = if b = v_ad (n_v vs 16) ∧ j = (v_iv (n_v vs 7)).toNat then v_iv (n_v vs 10) else w_el w1 b j) ∧ ∀ b k, w_fd ws b k = w_fd w1 b k := s1.2
  have q12 : n_v vs 12 = n_v vs 3 := f8.symm
  have q4 : n_v vs 4 = n_v vs 0 := f12.symm
  have q5 : n_v vs 5 = n_v vs 1 := f13.symm
  have cr_0_2 := fdq_56 hD hth r0
  have cr_0_12 := fdq_245 hD hth r0
  have cr_3_7 := fdq_57 hD hth r3
  have cr_3_8 := fdq_58 hD hth r3
  have cr_3_9 := fdq_80 hD hth r3
  have cr_3_12 := fdq_243 hD hth r3
  have fe_3_5_1 : w_fi ws (n_v vs 3) 5 = w_fi w1 (n_v vs 3) 5 := congrArg v_iv (s1.2 _ _)
  have fe_3_6_1 : w_fi ws (n_v vs 3) 6 = w_fi w1 (n_v vs 3) 6 := congrArg v_iv (s1.2 _ _)
  have hE_0_2_1 : ∀ j : Int, w_ei ws (w_ar ws (n_v vs 0) 2) j = w_ei w1 (w_ar ws (n_v vs 0) 2) j := el_kp s1.1 r16 cr_0_2 (by decide)
  have hE_0_12_1 : ∀ j : Int, w_ei ws (w_ar ws (n_v vs 0) 12) j = w_ei w1 (w_ar ws (n_v vs 0) 12) j := el_kp s1.1 r16 cr_0_12 (by decide)
  have hE_3_7_1 : ∀ j : Int, w_ei ws (w_ar ws (n_v vs 3) 7) j = w_ei w1 (w_ar ws (n_v vs 3) 7) j := el_kp s1.1 r16 cr_3_7 (by decide)
  have hE_3_8_1 : ∀ j : Int, w_ei ws (w_ar ws (n_v vs 3) 8) j = w_ei w1 (w_ar ws (n_v vs 3) 8) j := el_kp s1.1 r16 cr_3_8 (by decide)
  have hE_3_9_1 : ∀ j : Int, w_ei ws (w_ar ws (n_v vs 3) 9) j = w_ei w1 (w_ar ws (n_v vs 3) 9) j := el_kp s1.1 r16 cr_3_9 (by decide)
  have hE_3_12_1 : ∀ j : Int, w_ei ws (w_ar ws (n_v vs 3) 12) j = w_ei w1 (w_ar ws (n_v vs 3) 12) j := el_kp s1.1 r16 cr_3_12 (by decide)
  have kz_3_5 := fdq_82 hD hth r3
  have kz_3_6 := fdq_59 hD hth r3
  have nf0 : fc_1 PRD (20, [4, 12, 5, 8, 17, 20, 21], [60, 1, 3, 628, 1006, 2, 1007, 1008]) ws (vs) := by
    refine ⟨nf_in hl rfl, sgq_1082 ?_⟩
    · show JB7 (w_fi ws (n_v vs 12) 6) (w_ei ws (w_ar ws (n_v vs 4) 2)) (w_ei ws (w_ar ws (n_v vs 12) 7)) (w_ei ws (w_ar ws (n_v vs 12) 8)) (v_iv (n_v vs 5)) (v_iv (n_v vs 8)) (v_iv (n_v vs 17)) (v_iv (n_v vs 20)) (v_iv (n_v vs 21))
      simp only [q12, q4, q5]
      exact vc_Em_joinBlocksAt_at_gn_7_0 (v_iv (n_v vs 1)) (v_iv (n_v vs 7)) (v_iv (n_v vs 8)) (v_iv (n_v vs 17)) (v_iv (n_v vs 20)) (v_iv (n_v vs 21)) (w_ei ws (w_ar ws (n_v vs 0) 12)) (w_ei ws (w_ar ws (n_v vs 0) 2)) (w_ei ws (w_ar ws (n_v vs 3) 7)) (w_ei ws (w_ar ws (n_v vs 3) 8)) (w_fi ws (n_v vs 3) 6) (w_ei ws (w_ar ws (n_v vs 3) 9)) (w_ei ws (w_ar ws (n_v vs 3) 12)) (w_fi ws (n_v vs 3) 5) (w_ei w1 (w_ar ws (n_v vs 0) 2)) (w_ei w1 (w_ar ws (n_v vs 3) 7)) (w_ei w1 (w_ar ws (n_v vs 3) 8)) (w_fi w1 (n_v vs 3) 6) (w_ei w1 (w_ar ws (n_v vs 3) 9)) (w_ei w1 (w_ar ws (n_v vs 3) 12)) (w_fi w1 (n_v vs 3) 5) (w_ei w1 (w_ar ws (n_v vs 0) 12)) k1 k7 k8 k17 k20 k21 d2 fe_3_5_1 fe_3_6_1 hE_0_2_1 hE_0_12_1 hE_3_7_1 hE_3_8_1 hE_3_9_1 hE_3_12_1 kz_3_5 kz_3_6
  refine ⟨(fun _ h => (by cases h)), [], trivial, ?_, (fun _ h => (by cases h))⟩
  rw [List.append_nil]
  exact List.forall_mem_cons.mpr ⟨⟨show (20 : Nat) < 100 from by decide, nf0⟩, (fun _ h => (by cases h))⟩
set_option maxHeartbeats 4000000 in
theorem vc_Em_joinBlocksAt_at_gn_8_0 (x1 : Int) (x7 : Int) (x17 : Int) (x21 : Int) (block_0 : Int → Int) (tail_0o3 : Int → Int) (head_0o3 : Int → Int) (edges_0o3 : Int) (near_0o3 : Int → Int) (first_0o3 : Int → Int) (nodes_0o3 : Int) (block_1 : Int → Int) (tail_1o3 : Int → Int) (head_1o3 : Int → Int) (edges_1o3 : Int) (near_1o3 : Int → Int) (first_1o3 : Int → Int) (nodes_1o3 : Int) (k1 : 0 ≤ x1 ∧ x1 ≤ 23) (k7 : 0 ≤ x7 ∧ x7 ≤ 71) (k17 : 1 ≤ x17 ∧ x17 ≤ 72) (k21 : 1 ≤ x21 ∧ x21 ≤ 72) (d3 : x7 + 1 ≤ x17 ∧ x17 ≤ x7 + 1) (fe_3_5_1 : nodes_0o3 = nodes_1o3) (fe_3_6_1 : edges_0o3 = edges_1o3) (hE_0_2_1 : ∀ j : Int, block_0 j = block_1 j) (hE_3_7_1 : ∀ j : Int, tail_0o3 j = tail_1o3 j) (hE_3_8_1 : ∀ j : Int, head_0o3 j = head_1o3 j) (hE_3_9_1 : ∀ j : Int, near_0o3 j = near_1o3 j) (hE_3_12_1 : ∀ j : Int, first_0o3 j = first_1o3 j) (kz_3_5 : 0 ≤ nodes_0o3 ∧ nodes_0o3 ≤ 24) (kz_3_6 : 0 ≤ edges_0o3 ∧ edges_0o3 ≤ 72) : JB5 (edges_0o3) (block_0) (tail_0o3) (head_0o3) (x1) (x21) (x17) := by
  subst fe_3_5_1
  subst fe_3_6_1
  have e_hE_0_2_1 := funext hE_0_2_1; subst e_hE_0_2_1
  have e_hE_3_7_1 := funext hE_3_7_1; subst e_hE_3_7_1
  have e_hE_3_8_1 := funext hE_3_8_1; subst e_hE_3_8_1
  have e_hE_3_9_1 := funext hE_3_9_1; subst e_hE_3_9_1
  have e_hE_3_12_1 := funext hE_3_12_1; subst e_hE_3_12_1
  first
    | exact jb5_start (by omega) (by omega)
    | exact jb5_next ‹JB7 _ _ _ _ _ _ _ _ _› (by omega) (by omega)
    | exact jb5_some (by omega)
    | (have q := jb7_c0 ‹JB7 _ _ _ _ _ _ _ _ _›; exact jb5_some (by omega))
  
def o_Em_joinBlocksAt_at_gn_8 : or_T := (5, 22, [(0, (2, 0, 0, [1])), (1, (0, 0, 23, [])), (3, (2, 0, 0, [5])), (7, (0, 0, 71, [])), (16, (2, 0, 0, [36])), (17, (0, 1, 72, [])), (21, (0, 1, 72, []))], [(24, [3, 12], []), (24, [0, 4], []), (24, [1, 5], []), (100, [16, 7, 10], [])], [], [], [(20, [4, 12, 5, 21, 17], [60, 1, 3, 627, 1006, 2, 1007, 1008])], [], [(17, 7, 1, 1)])
theorem oo_Em_joinBlocksAt_at_gn_8 {kA : Nat → ClassId} : or_ok PRD kA GG o_Em_joinBlocksAt_at_gn_8 := by
  refine or_mk fun A ta ws vs hD hth hl => ?_
  intro t0 r0 t1 k1 t3 r3 t7 k7 t16 r16 t17 k17 t21 k21 d3 f5 f9 f10 ta1 w1 le1 s1
  replace f5 := shm_5 f5
  replace f9 := shm_5 f9
  replace f10 := shm_5 f10
  have s1 : (∀ b j, w_el ws b j = if b = v_ad (n_v vs 16) ∧ j = (v_iv (n_v vs 7)).toNat then v_iv (n_v vs 10) else w_el w1 b j) ∧ ∀ b k, w_fd ws b k = w_fd w1 b k := s1.2
  have q12 : n_v vs 12 = n_v vs 3 := f5.symm
  have q4 : n_v vs 4 = n_v vs 0 := f9.symm
  have q5 : n_v vs 5 = n_v vs 1 := f10.symm
  have cr_0_2 := fdq_56 hD hth r0
  have cr_3_7 := fdq_57 hD hth r3
  have cr_3_8 := fdq_58 hD hth r3
  have cr_3_9 := fdq_80 hD hth r3
  have cr_3_12 := fdq_243 hD hth r3
  have fe_3_5_1 : w_fi ws (n_v vs 3) 5 = w_fi w1 (n_v vs 3) 5 := congrArg v_iv (s1.2 _ _)
  have fe_3_6_1 : w_fi ws (n_v vs 3) 6 = w_fi w1 (n_v vs 3) 6 := congrArg v_iv (s1.2 _ _)
  have hE_0_2_1 : ∀ j : Int, w_ei ws (w_ar ws (n_v vs 0) 2) j = w_ei w1 (w_ar ws (n_v vs 0) 2) j := el_kp s1.1 r16 cr_0_2 (by decide)
  have hE_3_7_1 : ∀ j : Int, w_ei ws (w_ar ws (n_v vs 3) 7) j = w_ei w1 (w_ar ws (n_v vs 3) 7) j := el_kp s1.1 r16 cr_3_7 (by decide)
  have hE_3_8_1 : ∀ j : Int, w_ei ws (w_ar ws (n_v vs 3) 8) j = w_ei w1 (w_ar ws (n_v vs 3) 8) j := el_kp s1.1 r16 cr_3_8 (by decide)
  have hE_3_9_1 : ∀ j : Int, w_ei ws (w_ar ws (n_v vs 3) 9) j = w_ei w1 (w_ar ws (n_v vs 3) 9) j := el_kp s1.1 r16 cr_3_9 (by decide)
  have hE_3_12_1 : ∀ j : Int, w_ei ws (w_ar ws (n_v vs 3) 12) j = w_ei w1 (w_ar ws (n_v vs 3) 12) j := el_kp s1.1 r16 cr_3_12 (by decide)
  have kz_3_5 := fdq_82 hD hth r3
  have kz_3_6 := fdq_59 hD hth r3
  have nf0 : fc_1 PRD (20, [4, 12, 5, 21, 17], [60, 1, 3, 627, 1006, 2, 1007, 1008]) ws (vs) := by
    refine ⟨nf_in hl rfl, sgq_1080 ?_⟩
    · show JB5 (w_fi ws (n_v vs 12) 6) (w_ei ws (w_ar ws (n_v vs 4) 2)) (w_ei ws (w_ar ws (n_v vs 12) 7)) (w_ei ws (w_ar ws (n_v vs 12) 8)) (v_iv (n_v vs 5)) (v_iv (n_v vs 21)) (v_iv (n_v vs 17))
      simp only [q12, q4, q5]
      exact vc_Em_joinBlocksAt_at_gn_8_0 (v_iv (n_v vs 1)) (v_iv (n_v vs 7)) (v_iv (n_v vs 17)) (v_iv (n_v vs 21)) (w_ei ws (w_ar ws (n_v vs 0) 2)) (w_ei ws (w_ar ws (n_v vs 3) 7)) (w_ei ws (w_ar ws (n_v vs 3) 8)) (w_fi ws (n_v vs 3) 6) (w_ei ws (w_ar ws (n_v vs 3) 9)) (w_ei ws (w_ar ws (n_v vs 3) 12)) (w_fi ws (n_v vs 3) 5) (w_ei w1 (w_ar ws (n_v vs 0) 2)) (w_ei w1 (w_ar ws (n_v vs 3) 7)) (w_ei w1 (w_ar ws (n_v vs 3) 8)) (w_fi w1 (n_v vs 3) 6) (w_ei w1 (w_ar ws (n_v vs 3) 9)) (w_ei w1 (w_ar ws (n_v vs 3) 12)) (w_fi w1 (n_v vs 3) 5) k1 k7 k17 k21 d3 fe_3_5_1 fe_3_6_1 hE_0_2_1 hE_3_7_1 hE_3_8_1 hE_3_9_1 hE_3_12_1 kz_3_5 kz_3_6
  refine ⟨(fun _ h => (by cases h)), [], trivial, ?_, (fun _ h => (by cases h))⟩
  rw [List.append_nil]
  exact List.forall_mem_cons.mpr ⟨⟨show (20 : Nat) < 100 from by decide, nf0⟩, (fun _ h => (by cases h))⟩
set_option maxHeartbeats 4000000 in
theorem vc_Em_joinBlocksAt_at_gn_9_0 (x1 : Int) (x7 : Int) (x8 : Int) (x17 : Int) (x20 : Int) (x21 : Int) (after_0 : Int → Int) (block_0 : Int → Int) (tail_0o3 : Int → Int) (head_0o3 : Int → Int) (edges_0o3 : Int) (near_0o3 : Int → Int) (first_0o3 : Int → Int) (nodes_0o3 : Int) (block_1 : Int → Int) (tail_1o3 : Int → Int) (head_1o3 : Int → Int) (edges_1o3 : Int) (near_1o3 : Int → Int) (first_1o3 : Int → Int) (nodes_1o3 : Int) (after_1 : Int → Int) (k1 : 0 ≤ x1 ∧ x1 ≤ 23) (k7 : 0 ≤ x7 ∧ x7 ≤ 71) (k8 : 0 ≤ x8 ∧ x8 ≤ 71) (k17 : 1 ≤ x17 ∧ x17 ≤ 72) (k20 : (-1) ≤ x20 ∧ x20 ≤ 71) (k21 : 1 ≤ x21 ∧ x21 ≤ 72) (d2 : x7 + 1 ≤ x17 ∧ x17 ≤ x7 + 1) (fe_3_5_1 : nodes_0o3 = nodes_1o3) (fe_3_6_1 : edges_0o3 = edges_1o3) (hE_0_2_1 : ∀ j : Int, block_0 j = block_1 j) (hE_0_12_1 : ∀ j : Int, after_0 j = after_1 j) (hE_3_7_1 : ∀ j : Int, tail_0o3 j = tail_1o3 j) (hE_3_8_1 : ∀ j : Int, head_0o3 j = head_1o3 j) (hE_3_9_1 : ∀ j : Int, near_0o3 j = near_1o3 j) (hE_3_12_1 : ∀ j : Int, first_0o3 j = first_1o3 j) (kz_3_5 : 0 ≤ nodes_0o3 ∧ nodes_0o3 ≤ 24) (kz_3_6 : 0 ≤ edges_0o3 ∧ edges_0o3 ≤ 72) : JB7 (edges_0o3) (block_0) (tail_0o3) (head_0o3) (x1) (x8) (x17) (x20) (x21) := by
  subst fe_3_5_1
  subst fe_3_6_1
  have e_hE_0_2_1 := funext hE_0_2_1; subst e_hE_0_2_1
  have e_hE_0_12_1 := funext hE_0_12_1; subst e_hE_0_12_1
  have e_hE_3_7_1 := funext hE_3_7_1; subst e_hE_3_7_1
  have e_hE_3_8_1 := funext hE_3_8_1; subst e_hE_3_8_1
  have e_hE_3_9_1 := funext hE_3_9_1; subst e_hE_3_9_1
  have e_hE_3_12_1 := funext hE_3_12_1; subst e_hE_3_12_1
  first
    | exact jb7_start ‹JB5 _ _ _ _ _ _ _› ‹LEX _ _ _ _ _ _ _› (by omega)
    | exact jb7_more (by omega)
    | (have q := jb7_c0 ‹JB7 _ _ _ _ _ _ _ _ _›; exact jb7_more (by omega))
  
def o_Em_joinBlocksAt_at_gn_9 : or_T := (27, 22, [(0, (2, 0, 0, [1])), (1, (0, 0, 23, [])), (2, (0, 0, 72, [])), (3, (2, 0, 0, [5])), (4, (2, 0, 0, [1])), (5, (0, 0, 23, [])), (6, (0, 1, 72, [])), (7, (0, 0, 71, [])), (8, (0, 0, 71, [])), (9, (0, -1, 71, [])), (10, (0, 0, 71, [])), (11, (0, 0, 71, [])), (12, (2, 0, 0, [5])), (13, (0, 72, 72, [])), (14, (0, -1, -1, [])), (15, (0, 72, 72, [])), (16, (2, 0, 0, [36])), (17, (0, 1, 72, [])), (18, (2, 0, 0, [33])), (19, (0, 0, 142, [])), (20, (0, -1, 71, [])), (21, (0, 1, 72, []))], [(9, [16, 4], [19]), (6, [21, 11], [1]), (7, [20, 9], [1]), (10, [20, 18, 19], []), (9, [18, 4], [12]), (6, [17, 7], [1]), (20, [4, 12, 5, 8, 7, 10, 11], [60, 1, 3, 628, 1006, 2, 1007, 1008]), (20, [12, 5], [60, 1, 2, 629, 5, 9, 12]), (24, [3, 12], []), (20, [5, 12], [50, 1, 0, 1005, 2, 6, 0, 2, 0, 0, 1, 0, 0, 6, 4, 2, 1, 0, 0, 1, 2, 1, 5]), (20, [12], [60, 2, 3, 595, 5, 6, 7, 8, 9]), (20, [4, 12, 6], [60, 1, 3, 598, 1006, 2, 1007, 1008]), (24, [0, 4], []), (24, [1, 5], []), (24, [2, 6], []), (100, [16, 7, 10], []), (7, [7, 15], [2]), (7, [10, 14], [1]), (7, [11, 13], [2]), (20, [4, 12, 5, 8, 7, 10, 11], [60, 1, 3, 628, 1006, 2, 1007, 1008]), (20, [12, 5], [60, 1, 2, 629, 5, 9, 12]), (20, [5, 12], [50, 1, 0, 1005, 2, 6, 0, 2, 0, 0, 1, 0, 0, 6, 4, 2, 1, 0, 0, 1, 2, 1, 5]), (20, [12], [60, 2, 3, 595, 5, 6, 7, 8, 9]), (20, [4, 12, 6], [60, 1, 3, 598, 1006, 2, 1007, 1008])], [], [], [(20, [4, 12, 5, 8, 17, 20, 21], [60, 1, 3, 628, 1006, 2, 1007, 1008])], [], [(21, 11, 1, 1), (21, 7, -4294967296, 1), (17, 7, 1, 1), (1, 2, -4294967296, 22), (1, 5, -4294967296, 0), (2, 6, -4294967296, 0), (5, 1, -4294967296, 0), (5, 2, -4294967296, 22), (6, 2, -4294967296, 0), (8, 2, -4294967296, -1), (8, 6, -4294967296, -1), (9, 2, -4294967296, 70), (11, 7, -4294967296, 0)])
theorem oo_Em_joinBlocksAt_at_gn_9 {kA : Nat → ClassId} : or_ok PRD kA GG o_Em_joinBlocksAt_at_gn_9 := by
  refine or_mk fun A ta ws vs hD hth hl => ?_
  intro t0 r0 t1 k1 t2 k2 t3 r3 t4 r4 t5 k5 t6 k6 t7 k7 t8 k8 t9 k9 t10 k10 t11 k11 t12 r12 t13 k13 t14 k14 t15 k15 t16 r16 t17 k17 t18 r18 t19 k19 t20 k20 t21 k21 d0 d1 d2 d3 d4 d5 d6 d7 d8 d9 d10 d11 d12 f0 f1 f2 f3 f4 f5 f6 f7 f8 f9 f10 f11 f12 f13 f14 ta1 w1 le1 s1 f16 f17 f18 f19 f20 f21 f22 f23
  replace f8 := shm_5 f8
  replace f12 := shm_5 f12
  replace f13 := shm_5 f13
  have s1 : (∀ b j, w_el ws b j = if b = v_ad (n_v vs 16) ∧ j = (v_iv (n_v vs 7)).toNat then v_iv (n_v vs 10) else w_el w1 b j) ∧ ∀ b k, w_fd ws b k = w_fd w1 b k := s1.2
  have q12 : n_v vs 12 = n_v vs 3 := f8.symm
  have q4 : n_v vs 4 = n_v vs 0 := f12.symm
  have q5 : n_v vs 5 = n_v vs 1 := f13.symm
  have cr_0_2 := fdq_56 hD hth r0
  have cr_0_12 := fdq_245 hD hth r0
  have cr_3_7 := fdq_57 hD hth r3
  have cr_3_8 := fdq_58 hD hth r3
  have cr_3_9 := fdq_80 hD hth r3
  have cr_3_12 := fdq_243 hD hth r3
  have fe_3_5_1 : w_fi ws (n_v vs 3) 5 = w_fi w1 (n_v vs 3) 5 := congrArg v_iv (s1.2 _ _)
  have fe_3_6_1 : w_fi ws (n_v vs 3) 6 = w_fi w1 (n_v vs 3) 6 := congrArg v_iv (s1.2 _ _)
  have hE_0_2_1 : ∀ j : Int, w_ei ws (w_ar ws (n_v vs 0) 2) j = w_ei w1 (w_ar ws (n_v vs 0) 2) j := el_kp s1.1 r16 cr_0_2 (by decide)
  have hE_0_12_1 : ∀ j : Int, w_ei ws (w_ar ws (n_v vs 0) 12) j = w_ei w1 (w_ar ws (n_v vs 0) 12) j := el_kp s1.1 r16 cr_0_12 (by decide)
  have hE_3_7_1 : ∀ j : Int, w_ei ws (w_ar ws (n_v vs 3) 7) j = w_ei w1 (w_ar ws (n_v vs 3) 7) j := el_kp s1.1 r16 cr_3_7 (by decide)
  have hE_3_8_1 : ∀ j : Int, w_ei ws (w_ar ws (n_v vs 3) 8) j = w_ei w1 (w_ar ws (n_v vs 3) 8) j := el_kp s1.1 r16 cr_3_8 (by decide)
  have hE_3_9_1 : ∀ j : Int, w_ei ws (w_ar ws (n_v vs 3) 9) j = w_ei w1 (w_ar ws (n_v vs 3) 9) j := el_kp s1.1 r16 cr_3_9 (by decide)
  have hE_3_12_1 : ∀ j : Int, w_ei ws (w_ar ws (n_v vs 3) 12) j = w_ei w1 (w_ar ws (n_v vs 3) 12) j := el_kp s1.1 r16 cr_3_12 (by decide)
  have kz_3_5 := fdq_82 hD hth r3
  have kz_3_6 := fdq_59 hD hth r3
  have nf0 : fc_1 PRD (20, [4, 12, 5, 8, 17, 20, 21], [60, 1, 3, 628, 1006, 2, 1007, 1008]) ws (vs) := by
    refine ⟨nf_in hl rfl, sgq_1082 ?_⟩
    · show JB7 (w_fi ws (n_v vs 12) 6) (w_ei ws (w_ar ws (n_v vs 4) 2)) (w_ei ws (w_ar ws (n_v vs 12) 7)) (w_ei ws (w_ar ws (n_v vs 12) 8)) (v_iv (n_v vs 5)) (v_iv (n_v vs 8)) (v_iv (n_v vs 17)) (v_iv (n_v vs 20)) (v_iv (n_v vs 21))
      simp only [q12, q4, q5]
      exact vc_Em_joinBlocksAt_at_gn_9_0 (v_iv (n_v vs 1)) (v_iv (n_v vs 7)) (v_iv (n_v vs 8)) (v_iv (n_v vs 17)) (v_iv (n_v vs 20)) (v_iv (n_v vs 21)) (w_ei ws (w_ar ws (n_v vs 0) 12)) (w_ei ws (w_ar ws (n_v vs 0) 2)) (w_ei ws (w_ar ws (n_v vs 3) 7)) (w_ei ws (w_ar ws (n_v vs 3) 8)) (w_fi ws (n_v vs 3) 6) (w_ei ws (w_ar ws (n_v vs 3) 9)) (w_ei ws (w_ar ws (n_v vs 3) 12)) (w_fi ws (n_v vs 3) 5) (w_ei w1 (w_ar ws (n_v vs 0) 2)) (w_ei w1 (w_ar ws (n_v vs 3) 7)) (w_ei w1 (w_ar ws (n_v vs 3) 8)) (w_fi w1 (n_v vs 3) 6) (w_ei w1 (w_ar ws (n_v vs 3) 9)) (w_ei w1 (w_ar ws (n_v vs 3) 12)) (w_fi w1 (n_v vs 3) 5) (w_ei w1 (w_ar ws (n_v vs 0) 12)) k1 k7 k8 k17 k20 k21 d2 fe_3_5_1 fe_3_6_1 hE_0_2_1 hE_0_12_1 hE_3_7_1 hE_3_8_1 hE_3_9_1 hE_3_12_1 kz_3_5 kz_3_6
  refine ⟨(fun _ h => (by cases h)), [], trivial, ?_, (fun _ h => (by cases h))⟩
  rw [List.append_nil]
  exact List.forall_mem_cons.mpr ⟨⟨show (20 : Nat) < 100 from by decide, nf0⟩, (fun _ h => (by cases h))⟩
set_option maxHeartbeats 4000000 in
theorem vc_Em_joinBlocksAt_at_gn_10_0 (x1 : Int) (near_0o3 : Int → Int) (first_0o3 : Int → Int) (nodes_0o3 : Int) (k1 : 0 ≤ x1 ∧ x1 ≤ 23) (f0 : FIL1 (nodes_0o3) (near_0o3) (first_0o3) (x1)) (hK_3_9 : ∀ j : Int, 0 ≤ j → j < 25 → 0 ≤ near_0o3 j ∧ near_0o3 j ≤ 16777215) (kz_3_5 : 0 ≤ nodes_0o3 ∧ nodes_0o3 ≤ 24) : FIL1 (nodes_0o3) (near_0o3) (first_0o3) (x1) := by
  first
    | assumption
    | exact fil_some ‹FIL _ _ _ _› (by omega) hE_3_12_1 (by omega) rfl
    | exact fil_none ‹FIL _ _ _ _› ‹JB5 _ _ _ _ _ _ _› (by omega) ‹NOK _ _ _ _ _› ‹LBE _ _ _ _ _› (by omega) (by omega) (by omega) (by have q := hK_3_9 x1 (by omega) (by omega); omega) hE_3_12_1 (by omega) rfl
  
set_option maxHeartbeats 4000000 in
theorem vc_Em_joinBlocksAt_at_gn_10_1 (near_0o3 : Int → Int) (nodes_0o3 : Int) (tail_0o3 : Int → Int) (head_0o3 : Int → Int) (edges_0o3 : Int) (f2 : NOK (nodes_0o3) (edges_0o3) (tail_0o3) (head_0o3) (near_0o3)) (kz_3_5 : 0 ≤ nodes_0o3 ∧ nodes_0o3 ≤ 24) (kz_3_6 : 0 ≤ edges_0o3 ∧ edges_0o3 ≤ 72) : NOK (nodes_0o3) (edges_0o3) (tail_0o3) (head_0o3) (near_0o3) := by
  assumption
set_option maxHeartbeats 4000000 in
theorem vc_Em_joinBlocksAt_at_gn_10_2 (x2 : Int) (tail_0o3 : Int → Int) (head_0o3 : Int → Int) (edges_0o3 : Int) (block_0 : Int → Int) (k2 : 0 ≤ x2 ∧ x2 ≤ 72) (f3 : LBE (edges_0o3) (block_0) (tail_0o3) (head_0o3) (x2)) (kz_3_6 : 0 ≤ edges_0o3 ∧ edges_0o3 ≤ 72) : LBE (edges_0o3) (block_0) (tail_0o3) (head_0o3) (x2) := by
  assumption
def o_Em_joinBlocksAt_at_gn_10 : or_T := (168, 10, [(1, (0, 0, 23, [])), (2, (0, 0, 72, [])), (3, (2, 0, 0, [5]))], [(20, [9, 5], [60, 1, 2, 630, 5, 9, 12]), (24, [3, 9], []), (20, [9], [60, 2, 3, 595, 5, 6, 7, 8, 9]), (20, [4, 9, 6], [60, 1, 3, 598, 1006, 2, 1007, 1008]), (24, [0, 4], []), (24, [1, 5], []), (24, [2, 6], [])], [], [], [(20, [3, 1], [60, 1, 2, 630, 5, 9, 12]), (20, [3], [60, 2, 3, 595, 5, 6, 7, 8, 9]), (20, [0, 3, 2], [60, 1, 3, 598, 1006, 2, 1007, 1008])], [], [])
theorem oo_Em_joinBlocksAt_at_gn_10 {kA : Nat → ClassId} : or_ok PRD kA GG o_Em_joinBlocksAt_at_gn_10 := by
  refine or_mk fun A ta ws vs hD hth hl => ?_
  intro t1 k1 t2 k2 t3 r3 f0 f1 f2 f3 f4 f5 f6
  replace f0 := shm_1081 f0
  replace f1 := shm_5 f1
  replace f2 := shm_408 f2
  replace f3 := shm_1078 f3
  replace f4 := shm_5 f4
  replace f5 := shm_5 f5
  replace f6 := shm_5 f6
  have q9 : n_v vs 9 = n_v vs 3 := f1.symm
  have q4 : n_v vs 4 = n_v vs 0 := f4.symm
  have q5 : n_v vs 5 = n_v vs 1 := f5.symm
  have q6 : n_v vs 6 = n_v vs 2 := f6.symm
  simp only [q9, q5, q4, q6] at f0 f2 f3
  have cr_3_9 := fdq_80 hD hth r3
  have hK_3_9 := elq_26 hD hth cr_3_9
  have kz_3_5 := fdq_82 hD hth r3
  have kz_3_6 := fdq_59 hD hth r3
  have nf0 : fc_1 PRD (20, [3, 1], [60, 1, 2, 630, 5, 9, 12]) ws (vs) := ⟨nf_in hl rfl, sgq_1081 (vc_Em_joinBlocksAt_at_gn_10_0 (v_iv (n_v vs 1)) (w_ei ws (w_ar ws (n_v vs 3) 9)) (w_ei ws (w_ar ws (n_v vs 3) 12)) (w_fi ws (n_v vs 3) 5) k1 f0 hK_3_9 kz_3_5)⟩
  have nf1 : fc_1 PRD (20, [3], [60, 2, 3, 595, 5, 6, 7, 8, 9]) ws (vs) := ⟨nf_in hl rfl, sgq_408 (vc_Em_joinBlocksAt_at_gn_10_1 (w_ei ws (w_ar ws (n_v vs 3) 9)) (w_fi ws (n_v vs 3) 5) (w_ei ws (w_ar ws (n_v vs 3) 7)) (w_ei ws (w_ar ws (n_v vs 3) 8)) (w_fi ws (n_v vs 3) 6) f2 kz_3_5 kz_3_6)⟩
  have nf2 : fc_1 PRD (20, [0, 3, 2], [60, 1, 3, 598, 1006, 2, 1007, 1008]) ws (vs) := ⟨nf_in hl rfl, sgq_1078 (vc_Em_joinBlocksAt_at_gn_10_2 (v_iv (n_v vs 2)) (w_ei ws (w_ar ws (n_v vs 3) 7)) (w_ei ws (w_ar ws (n_v vs 3) 8)) (w_fi ws (n_v vs 3) 6) (w_ei ws (w_ar ws (n_v vs 0) 2)) k2 f3 kz_3_6)⟩
  refine ⟨(fun _ h => (by cases h)), [], trivial, ?_, (fun _ h => (by cases h))⟩
  rw [List.append_nil]
  exact List.forall_mem_cons.mpr ⟨⟨show (20 : Nat) < 100 from by decide, nf0⟩, List.forall_mem_cons.mpr ⟨⟨show (20 : Nat) < 100 from by decide, nf1⟩, List.forall_mem_cons.mpr ⟨⟨show (20 : Nat) < 100 from by decide, nf2⟩, (fun _ h => (by cases h))⟩⟩⟩
def n_Em_joinBlocksAt_at_gn_an : List an_T := [(5, [(0, (2, 0, 0, [1])), (1, (0, 0, 23, [])), (2, (0, 0, 72, [])), (3, (0, 0, 72, [])), (4, (0, 0, 72, []))], [], (0, 0), [(0, 0, 99995), (1, 8, 72), (0, 0, 100000), (0, 0, 0), (0, 0, 0)], [(1, 5, (Int.negSucc 999999999999), 0), (2, 6, (Int.negSucc 999999999999), 0), (5, 1, (Int.negSucc 999999999999), 0), (6, 2, (Int.negSucc 999999999999), 0), (8, 2, (Int.negSucc 999999999999), 0), (8, 6, (Int.negSucc 999999999999), 0)], [((0, 0), (2, 0, 0, [5]))], [(2, 0, 0, [1]), (0, 0, 23, []), (0, 0, 72, []), (2, 0, 0, [5])], 0, [], [(20, [4, 9, 5, 8, 7], [60, 1, 3, 627, 1006, 2, 1007, 1008]), (20, [9, 5], [60, 1, 2, 629, 5, 9, 12]), (24, [3, 9], []), (20, [5, 9], [50, 1, 0, 1005, 2, 6, 0, 2, 0, 0, 1, 0, 0, 6, 4, 2, 1, 0, 0, 1, 2, 1, 5]), (20, [9], [60, 2, 3, 595, 5, 6, 7, 8, 9]), (20, [4, 9, 6], [60, 1, 3, 598, 1006, 2, 1007, 1008]), (24, [0, 4], []), (24, [1, 5], []), (24, [2, 6], [])]), (27, [(0, (2, 0, 0, [1])), (1, (0, 0, 23, [])), (2, (0, 1, 72, [])), (3, (0, 0, 72, [])), (4, (0, 0, 71, [])), (5, (0, (Int.negSucc 0), 71, [])), (6, (0, (Int.negSucc 0), 71, [])), (7, (0, 0, 72, []))], [], (0, 0), [(0, 0, 99995), (1, 8, 72), (0, 0, 99973), (1, 7, 72), (0, 0, 100000)], [(1, 2, (Int.negSucc 999999999999), 22), (1, 5, (Int.negSucc 999999999999), 0), (2, 6, (Int.negSucc 999999999999), 0), (5, 1, (Int.negSucc 999999999999), 0), (5, 2, (Int.negSucc 999999999999), 22), (6, 2, (Int.negSucc 999999999999), 0), (8, 2, (Int.negSucc 999999999999), (Int.negSucc 0)), (8, 6, (Int.negSucc 999999999999), (Int.negSucc 0)), (9, 2, (Int.negSucc 999999999999), 70), (11, 7, (Int.negSucc 999999999999), 0)], [((0, 0), (2, 0, 0, [5]))], [(2, 0, 0, [1]), (0, 0, 23, []), (0, 0, 72, []), (2, 0, 0, [5])], 0, [], [(20, [4, 12, 5, 8, 7, 10, 11], [60, 1, 3, 628, 1006, 2, 1007, 1008]), (20, [12, 5], [60, 1, 2, 629, 5, 9, 12]), (24, [3, 12], []), (20, [5, 12], [50, 1, 0, 1005, 2, 6, 0, 2, 0, 0, 1, 0, 0, 6, 4, 2, 1, 0, 0, 1, 2, 1, 5]), (20, [12], [60, 2, 3, 595, 5, 6, 7, 8, 9]), (20, [4, 12, 6], [60, 1, 3, 598, 1006, 2, 1007, 1008]), (24, [0, 4], []), (24, [1, 5], []), (24, [2, 6], [])]), (122, [(0, (2, 0, 0, [1])), (1, (0, 0, 23, [])), (2, (0, 0, 72, [])), (3, (0, 0, 72, [])), (4, (0, 0, 72, []))], [], (0, 0), [(0, 0, 99878), (1, 8, 72), (0, 0, 100000), (0, 0, 0), (0, 0, 0)], [(1, 5, (Int.negSucc 999999999999), 0), (2, 6, (Int.negSucc 999999999999), 0), (5, 1, (Int.negSucc 999999999999), 0), (6, 2, (Int.negSucc 999999999999), 0), (8, 7, (Int.negSucc 999999999999), 0)], [((0, 0), (2, 0, 0, [5]))], [(2, 0, 0, [1]), (0, 0, 23, []), (0, 0, 72, []), (2, 0, 0, [5])], 0, [], [(20, [9, 5], [60, 1, 2, 630, 5, 9, 12]), (24, [3, 9], []), (20, [9], [60, 2, 3, 595, 5, 6, 7, 8, 9]), (20, [4, 9, 6], [60, 1, 3, 598, 1006, 2, 1007, 1008]), (24, [0, 4], []), (24, [1, 5], []), (24, [2, 6], [])])]
def t_Em_joinBlocksAt_at_gn_ct : ct_L := [(1, 217, e_Ne_endAt), (49, 220, e_Em_leastEdgeAt_at_gn)]
set_option maxRecDepth 100000 in
theorem c_Em_joinBlocksAt_at_gn {l : Launch} {D : va_G} {kA : Nat → ClassId} (h_Em_leastEdgeAt_at_gn : ct_ok PRD l D kA GG y_Em_leastEdgeAt_at_gn z_Em_leastEdgeAt_at_gn e_Em_leastEdgeAt_at_gn) (h_Ne_endAt : ct_ok PRD l D kA GG y_Ne_endAt z_Ne_endAt e_Ne_endAt) : ct_ok PRD l D kA GG y_Em_joinBlocksAt_at_gn z_Em_joinBlocksAt_at_gn e_Em_joinBlocksAt_at_gn := chk_all_ok (FT := [(9, 1, 0), (54, 1, 12), (75, 1, 19), (223, 5, 12), (226, 5, 11)]) (PT := []) (CT := t_Em_joinBlocksAt_at_gn_ct) (KT := []) (NT := []) (AN := n_Em_joinBlocksAt_at_gn_an) (OT := [o_Em_joinBlocksAt_at_gn_0, o_Em_joinBlocksAt_at_gn_1, o_Em_joinBlocksAt_at_gn_2, o_Em_joinBlocksAt_at_gn_3, o_Em_joinBlocksAt_at_gn_4, o_Em_joinBlocksAt_at_gn_5, o_Em_joinBlocksAt_at_gn_6, o_Em_joinBlocksAt_at_gn_7, o_Em_joinBlocksAt_at_gn_8, o_Em_joinBlocksAt_at_gn_9, o_Em_joinBlocksAt_at_gn_10]) 5 476 (List.forall_mem_cons.mpr ⟨oo_Em_joinBlocksAt_at_gn_0, List.forall_mem_cons.mpr ⟨oo_Em_joinBlocksAt_at_gn_1, List.forall_mem_cons.mpr ⟨oo_Em_joinBlocksAt_at_gn_2, List.forall_mem_cons.mpr ⟨oo_Em_joinBlocksAt_at_gn_3, List.forall_mem_cons.mpr ⟨oo_Em_joinBlocksAt_at_gn_4, List.forall_mem_cons.mpr ⟨oo_Em_joinBlocksAt_at_gn_5, List.forall_mem_cons.mpr ⟨oo_Em_joinBlocksAt_at_gn_6, List.forall_mem_cons.mpr ⟨oo_Em_joinBlocksAt_at_gn_7, List.forall_mem_cons.mpr ⟨oo_Em_joinBlocksAt_at_gn_8, List.forall_mem_cons.mpr ⟨oo_Em_joinBlocksAt_at_gn_9, List.forall_mem_cons.mpr ⟨oo_Em_joinBlocksAt_at_gn_10, List.forall_mem_nil _⟩⟩⟩⟩⟩⟩⟩⟩⟩⟩⟩) (by decide +kernel) ⟨List.forall_mem_cons.mpr ⟨gf_Em_9, List.forall_mem_cons.mpr ⟨gf_Em_54, List.forall_mem_cons.mpr ⟨gf_Em_75, List.forall_mem_cons.mpr ⟨gf_Em_223, List.forall_mem_cons.mpr ⟨gf_Em_226, List.forall_mem_nil _⟩⟩⟩⟩⟩, List.forall_mem_nil _, List.forall_mem_cons.mpr ⟨cl_virtual (y := y_Ne_endAt) (ci := 5) rfl rfl ⟨_, _, rfl⟩ (by decide +kernel) h_Ne_endAt wm_1138 wm_6 wm_1135 wm_1136 wm_1137 ⟨by decide, by decide, by decide +kernel⟩ (by decide), List.forall_mem_cons.mpr ⟨cl_virtual (y := y_Em_leastEdgeAt_at_gn) (ci := 1) rfl rfl ⟨_, _, rfl⟩ (by decide +kernel) h_Em_leastEdgeAt_at_gn wm_1146 wm_5 wm_1143 wm_1145 wv_4_5 ⟨by decide, by decide, by decide +kernel⟩ (by decide), List.forall_mem_nil _⟩⟩, List.forall_mem_nil _, List.forall_mem_nil _, GG_pl⟩ (by decide +kernel)
set_option maxHeartbeats 4000000 in
theorem vc_Em_joinBlocksAt_at_gp_0_0 (x1 : Int) (x4 : Int) (x5 : Int) (tail_0o3 : Int → Int) (head_0o3 : Int → Int) (edges_0o3 : Int) (block_0 : Int → Int) (k1 : 0 ≤ x1 ∧ x1 ≤ 24) (k4 : 0 ≤ x4 ∧ x4 ≤ 0) (k5 : 0 ≤ x5 ∧ x5 ≤ 0) (kz_3_6 : 0 ≤ edges_0o3 ∧ edges_0o3 ≤ 72) : JB5 (edges_0o3) (block_0) (tail_0o3) (head_0o3) (x1) (x5) (x4) := by
  first
    | exact jb5_start (by omega) (by omega)
    | exact jb5_next ‹JB7 _ _ _ _ _ _ _ _ _› (by omega) (by omega)
    | exact jb5_some (by omega)
    | (have q := jb7_c0 ‹JB7 _ _ _ _ _ _ _ _ _›; exact jb5_some (by omega))
  
def o_Em_joinBlocksAt_at_gp_0 : or_T := (5, 6, [(1, (0, 0, 24, [])), (3, (2, 0, 0, [149])), (4, (0, 0, 0, [])), (5, (0, 0, 0, []))], [], [], [], [(20, [0, 3, 1, 5, 4], [60, 1, 3, 627, 1006, 2, 1007, 1008]), (24, [3, 3], []), (24, [0, 0], []), (24, [1, 1], []), (24, [2, 2], [])], [], [])
theorem oo_Em_joinBlocksAt_at_gp_0 {kA : Nat → ClassId} : or_ok PRD kA GG o_Em_joinBlocksAt_at_gp_0 := by
  refine or_mk fun A ta ws vs hD hth hl => ?_
  intro t1 k1 t3 r3 t4 k4 t5 k5
  have kz_3_6 := fdq_62 hD hth r3
  have nf0 : fc_1 PRD (20, [0, 3, 1, 5, 4], [60, 1, 3, 627, 1006, 2, 1007, 1008]) ws (vs) := ⟨nf_in hl rfl, sgq_1080 (vc_Em_joinBlocksAt_at_gp_0_0 (v_iv (n_v vs 1)) (v_iv (n_v vs 4)) (v_iv (n_v vs 5)) (w_ei ws (w_ar ws (n_v vs 3) 7)) (w_ei ws (w_ar ws (n_v vs 3) 8)) (w_fi ws (n_v vs 3) 6) (w_ei ws (w_ar ws (n_v vs 0) 2)) k1 k4 k5 kz_3_6)⟩
  have nf1 : fc_1 PRD (24, [3, 3], []) ws (vs) := by
    refine ⟨nf_in hl rfl, sgq_1 ?_⟩
    · show n_v vs 3 = n_v vs 3
      first | rfl | simp only [true_and]
  have nf2 : fc_1 PRD (24, [0, 0], []) ws (vs) := by
    refine ⟨nf_in hl rfl, sgq_1 ?_⟩
    · show n_v vs 0 = n_v vs 0
      first | rfl | simp only [true_and]
  have nf3 : fc_1 PRD (24, [1, 1], []) ws (vs) := by
    refine ⟨nf_in hl rfl, sgq_1 ?_⟩
    · show n_v vs 1 = n_v vs 1
      first | rfl | simp only [true_and]
  have nf4 : fc_1 PRD (24, [2, 2], []) ws (vs) := by
    refine ⟨nf_in hl rfl, sgq_1 ?_⟩
    · show n_v vs 2 = n_v vs 2
      first | rfl | simp only [true_and]
  refine ⟨(fun _ h => (by cases h)), [], trivial, ?_, (fun _ h => (by cases h))⟩
  rw [List.append_nil]
  exact List.forall_mem_cons.mpr ⟨⟨show (20 : Nat) < 100 from by decide, nf0⟩, List.forall_mem_cons.mpr ⟨⟨show (24 : Nat) < 100 from by decide, nf1⟩, List.forall_mem_cons.mpr ⟨⟨show (24 : Nat) < 100 from by decide, nf2⟩, List.forall_mem_cons.mpr ⟨⟨show (24 : Nat) < 100 from by decide, nf3⟩, List.forall_mem_cons.mpr ⟨⟨show (24 : Nat) < 100 from by decide, nf4⟩, (fun _ h => (by cases h))⟩⟩⟩⟩⟩
set_option maxHeartbeats 4000000 in
theorem vc_Em_joinBlocksAt_at_gp_1_0 (x1 : Int) (x12 : Int) (x13 : Int) (block_0 : Int → Int) (tail_0o3 : Int → Int) (head_0o3 : Int → Int) (edges_0o3 : Int) (nodes_0o3 : Int) (near_0o3 : Int → Int) (around_1 : Int → Int) (block_1 : Int → Int) (tail_1o3 : Int → Int) (head_1o3 : Int → Int) (edges_1o3 : Int) (near_1o3 : Int → Int) (first_1o3 : Int → Int) (nodes_1o3 : Int) (around_0 : Int → Int) (first_0o3 : Int → Int) (k1 : 0 ≤ x1 ∧ x1 ≤ 24) (k12 : 0 ≤ x12 ∧ x12 ≤ 0) (k13 : 0 ≤ x13 ∧ x13 ≤ 71) (h11 : x13 = around_1 (x12)) (f15 : FIL (nodes_1o3) (near_1o3) (first_1o3) (x1)) (fe_3_5_1 : nodes_0o3 = nodes_1o3) (fe_3_6_1 : edges_0o3 = edges_1o3) (hE_0_2_1 : ∀ j : Int, block_0 j = block_1 j) (hE_0_19_1 : ∀ j : Int, around_0 j = around_1 j) (hE_3_7_1 : ∀ j : Int, tail_0o3 j = tail_1o3 j) (hE_3_8_1 : ∀ j : Int, head_0o3 j = head_1o3 j) (hE_3_9_1 : ∀ j : Int, near_0o3 j = near_1o3 j) (hK_3_9 : ∀ j : Int, 0 ≤ j → j < 25 → 0 ≤ near_0o3 j ∧ near_0o3 j ≤ 33554431) (hE_3_12_1 : ∀ j : Int, 0 ≤ j → (j = x1 → first_0o3 j = x13) ∧ (j ≠ x1 → first_0o3 j = first_1o3 j)) (kz_3_5 : 0 ≤ nodes_0o3 ∧ nodes_0o3 ≤ 25) (kz_3_6 : 0 ≤ edges_0o3 ∧ edges_0o3 ≤ 72) : FIL1 (nodes_0o3) (near_0o3) (first_0o3) (x1) := by
  subst fe_3_5_1
  subst fe_3_6_1
  have e_hE_0_2_1 := funext hE_0_2_1; subst e_hE_0_2_1
  have e_hE_0_19_1 := funext hE_0_19_1; subst e_hE_0_19_1
  have e_hE_3_7_1 := funext hE_3_7_1; subst e_hE_3_7_1
  have e_hE_3_8_1 := funext hE_3_8_1; subst e_hE_3_8_1
  have e_hE_3_9_1 := funext hE_3_9_1; subst e_hE_3_9_1
  first
    | assumption
    | exact fil_some ‹FIL _ _ _ _› (by omega) hE_3_12_1 (by omega) rfl
    | exact fil_none ‹FIL _ _ _ _› ‹JB5 _ _ _ _ _ _ _› (by omega) ‹NOK _ _ _ _ _› ‹LBE _ _ _ _ _› (by omega) (by omega) (by omega) (by have q := hK_3_9 x1 (by omega) (by omega); omega) hE_3_12_1 (by omega) rfl
  
def o_Em_joinBlocksAt_at_gp_1 : or_T := (122, 15, [(0, (2, 0, 0, [1])), (1, (0, 0, 24, [])), (3, (2, 0, 0, [149])), (10, (2, 0, 0, [145])), (12, (0, 0, 0, [])), (13, (0, 0, 71, []))], [(9, [11, 4], [19]), (9, [10, 9], [12]), (24, [3, 9], []), (24, [0, 4], []), (24, [1, 5], []), (100, [10, 5, 13], []), (10, [13, 11, 12], []), (20, [9, 5], [60, 1, 2, 629, 5, 9, 12])], [], [], [(20, [9, 5], [60, 1, 2, 630, 5, 9, 12])], [], [(1, 5, -4294967296, 0), (5, 1, -4294967296, 0)])
theorem oo_Em_joinBlocksAt_at_gp_1 {kA : Nat → ClassId} : or_ok PRD kA GG o_Em_joinBlocksAt_at_gp_1 := by
  refine or_mk fun A ta ws vs hD hth hl => ?_
  intro t0 r0 t1 k1 t3 r3 t10 r10 t12 k12 t13 k13 d1 d3 f0 f1 f3 f7 f8 ta1 w1 le1 s1 f11 f15
  replace f0 := shm_796 f0
  replace f1 := shm_103 f1
  replace f3 := shm_5 f3
  replace f7 := shm_5 f7
  replace f8 := shm_5 f8
  have s1 : (∀ b j, w_el ws b j = if b = v_ad (n_v vs 10) ∧ j = (v_iv (n_v vs 5)).toNat then v_iv (n_v vs 13) else w_el w1 b j) ∧ ∀ b k, w_fd ws b k = w_fd w1 b k := s1.2
  replace f11 := shm_107 f11
  replace f15 := shm_1079 f15
  have q9 : n_v vs 9 = n_v vs 3 := f3.symm
  have q4 : n_v vs 4 = n_v vs 0 := f7.symm
  have q5 : n_v vs 5 = n_v vs 1 := f8.symm
  simp only [q4, q9] at f0 f1
  rw [q5] at s1
  simp only [q9, q5] at f15
  have ar_0_2_1 : w_ar w1 (n_v vs 0) 2 = w_ar ws (n_v vs 0) 2 := congrArg v_ad (s1.2 _ _).symm
  have cr_0_2 := fdq_56 hD hth r0
  have cr_0_19 := fdq_244 hD hth r0
  have ar_3_7_1 : w_ar w1 (n_v vs 3) 7 = w_ar ws (n_v vs 3) 7 := congrArg v_ad (s1.2 _ _).symm
  have cr_3_7 := fdq_60 hD hth r3
  have ar_3_8_1 : w_ar w1 (n_v vs 3) 8 = w_ar ws (n_v vs 3) 8 := congrArg v_ad (s1.2 _ _).symm
  have cr_3_8 := fdq_61 hD hth r3
  have ar_3_9_1 : w_ar w1 (n_v vs 3) 9 = w_ar ws (n_v vs 3) 9 := congrArg v_ad (s1.2 _ _).symm
  have cr_3_9 := fdq_83 hD hth r3
  have ar_3_12_1 : w_ar w1 (n_v vs 3) 12 = w_ar ws (n_v vs 3) 12 := congrArg v_ad (s1.2 _ _).symm
  have ad_11 : v_ad (n_v vs 11) = w_ar ws (n_v vs 0) 19 := congrArg v_ad f0
  have ad_10 : v_ad (n_v vs 10) = w_ar ws (n_v vs 3) 12 := congrArg v_ad f1
  simp only [ad_11] at f11
  have h11 : v_iv (n_v vs 13) = w_ei w1 (w_ar ws (n_v vs 0) 19) (v_iv (n_v vs 12)) := f11
  simp only [ar_0_2_1, ar_3_7_1, ar_3_8_1, ar_3_9_1, ar_3_12_1] at f15
  have fe_3_5_1 : w_fi ws (n_v vs 3) 5 = w_fi w1 (n_v vs 3) 5 := congrArg v_iv (s1.2 _ _)
  have fe_3_6_1 : w_fi ws (n_v vs 3) 6 = w_fi w1 (n_v vs 3) 6 := congrArg v_iv (s1.2 _ _)
  have hE_0_2_1 : ∀ j : Int, w_ei ws (w_ar ws (n_v vs 0) 2) j = w_ei w1 (w_ar ws (n_v vs 0) 2) j := el_kp s1.1 r10 cr_0_2 (by decide)
  have hE_0_19_1 : ∀ j : Int, w_ei ws (w_ar ws (n_v vs 0) 19) j = w_ei w1 (w_ar ws (n_v vs 0) 19) j := el_kp s1.1 r10 cr_0_19 (by decide)
  have hE_3_7_1 : ∀ j : Int, w_ei ws (w_ar ws (n_v vs 3) 7) j = w_ei w1 (w_ar ws (n_v vs 3) 7) j := el_kp s1.1 r10 cr_3_7 (by decide)
  have hE_3_8_1 : ∀ j : Int, w_ei ws (w_ar ws (n_v vs 3) 8) j = w_ei w1 (w_ar ws (n_v vs 3) 8) j := el_kp s1.1 r10 cr_3_8 (by decide)
  have hE_3_9_1 : ∀ j : Int, w_ei ws (w_ar ws (n_v vs 3) 9) j = w_ei w1 (w_ar ws (n_v vs 3) 9) j := el_kp s1.1 r10 cr_3_9 (by decide)
  have hK_3_9 := elq_27 hD hth cr_3_9
  have hE_3_12_1 : ∀ j : Int, 0 ≤ j → (j = v_iv (n_v vs 1) → w_ei ws (w_ar ws (n_v vs 3) 12) j = v_iv (n_v vs 13)) ∧ (j ≠ v_iv (n_v vs 1) → w_ei ws (w_ar ws (n_v vs 3) 12) j = w_ei w1 (w_ar ws (n_v vs 3) 12) j) := fun j hj => ⟨fun h => by unfold w_ei; rw [s1.1, if_pos ⟨ad_10.symm, by rw [h]⟩], fun h => by unfold w_ei; rw [s1.1, if_neg (fun e => h (by have := e.2; omega))]⟩
  have kz_3_5 := fdq_85 hD hth r3
  have kz_3_6 := fdq_62 hD hth r3
  have nf0 : fc_1 PRD (20, [9, 5], [60, 1, 2, 630, 5, 9, 12]) ws (vs) := by
    refine ⟨nf_in hl rfl, sgq_1081 ?_⟩
    · show FIL1 (w_fi ws (n_v vs 9) 5) (w_ei ws (w_ar ws (n_v vs 9) 9)) (w_ei ws (w_ar ws (n_v vs 9) 12)) (v_iv (n_v vs 5))
      simp only [q9, q5]
      exact vc_Em_joinBlocksAt_at_gp_1_0 (v_iv (n_v vs 1)) (v_iv (n_v vs 12)) (v_iv (n_v vs 13)) (w_ei ws (w_ar ws (n_v vs 0) 2)) (w_ei ws (w_ar ws (n_v vs 3) 7)) (w_ei ws (w_ar ws (n_v vs 3) 8)) (w_fi ws (n_v vs 3) 6) (w_fi ws (n_v vs 3) 5) (w_ei ws (w_ar ws (n_v vs 3) 9)) (w_ei w1 (w_ar ws (n_v vs 0) 19)) (w_ei w1 (w_ar ws (n_v vs 0) 2)) (w_ei w1 (w_ar ws (n_v vs 3) 7)) (w_ei w1 (w_ar ws (n_v vs 3) 8)) (w_fi w1 (n_v vs 3) 6) (w_ei w1 (w_ar ws (n_v vs 3) 9)) (w_ei w1 (w_ar ws (n_v vs 3) 12)) (w_fi w1 (n_v vs 3) 5) (w_ei ws (w_ar ws (n_v vs 0) 19)) (w_ei ws (w_ar ws (n_v vs 3) 12)) k1 k12 k13 h11 f15 fe_3_5_1 fe_3_6_1 hE_0_2_1 hE_0_19_1 hE_3_7_1 hE_3_8_1 hE_3_9_1 hK_3_9 hE_3_12_1 kz_3_5 kz_3_6
  refine ⟨(fun _ h => (by cases h)), [], trivial, ?_, (fun _ h => (by cases h))⟩
  rw [List.append_nil]
  exact List.forall_mem_cons.mpr ⟨⟨show (20 : Nat) < 100 from by decide, nf0⟩, (fun _ h => (by cases h))⟩
set_option maxHeartbeats 4000000 in
theorem vc_Em_joinBlocksAt_at_gp_2_0 (x1 : Int) (x2 : Int) (x5 : Int) (x7 : Int) (x8 : Int) (x11 : Int) (block_0 : Int → Int) (tail_0o3 : Int → Int) (head_0o3 : Int → Int) (edges_0o3 : Int) (nodes_0o3 : Int) (near_0o3 : Int → Int) (block_1 : Int → Int) (tail_1o3 : Int → Int) (head_1o3 : Int → Int) (edges_1o3 : Int) (near_1o3 : Int → Int) (first_1o3 : Int → Int) (nodes_1o3 : Int) (first_0o3 : Int → Int) (k1 : 0 ≤ x1 ∧ x1 ≤ 24) (k2 : 0 ≤ x2 ∧ x2 ≤ 72) (k5 : 0 ≤ x5 ∧ x5 ≤ 24) (k7 : 0 ≤ x7 ∧ x7 ≤ 0) (k8 : 0 ≤ x8 ∧ x8 ≤ 72) (k11 : (-1) ≤ x11 ∧ x11 ≤ (-1)) (d1 : x5 + (-4294967296) ≤ x1 ∧ x1 ≤ x5 + 0) (d3 : x1 + (-4294967296) ≤ x5 ∧ x5 ≤ x1 + 0) (f3 : (0 ≤ x1) ∧ ((x1 + 1) ≤ nodes_0o3)) (f10 : x7 = 0) (f11 : x2 ≤ x8) (f12 : JB5 (edges_1o3) (block_1) (tail_1o3) (head_1o3) (x1) (x8) (x7)) (f13 : FIL (nodes_1o3) (near_1o3) (first_1o3) (x1)) (f15 : NOK (nodes_1o3) (edges_1o3) (tail_1o3) (head_1o3) (near_1o3)) (f16 : LBE (edges_1o3) (block_1) (tail_1o3) (head_1o3) (x2)) (fe_3_5_1 : nodes_0o3 = nodes_1o3) (fe_3_6_1 : edges_0o3 = edges_1o3) (hE_0_2_1 : ∀ j : Int, block_0 j = block_1 j) (hE_3_7_1 : ∀ j : Int, tail_0o3 j = tail_1o3 j) (hE_3_8_1 : ∀ j : Int, head_0o3 j = head_1o3 j) (hE_3_9_1 : ∀ j : Int, near_0o3 j = near_1o3 j) (hK_3_9 : ∀ j : Int, 0 ≤ j → j < 25 → 0 ≤ near_0o3 j ∧ near_0o3 j ≤ 33554431) (hE_3_12_1 : ∀ j : Int, 0 ≤ j → (j = x1 → first_0o3 j = x11) ∧ (j ≠ x1 → first_0o3 j = first_1o3 j)) (kz_3_5 : 0 ≤ nodes_0o3 ∧ nodes_0o3 ≤ 25) (kz_3_6 : 0 ≤ edges_0o3 ∧ edges_0o3 ≤ 72) : FIL1 (nodes_0o3) (near_0o3) (first_0o3) (x1) := by
  subst fe_3_5_1
  subst fe_3_6_1
  have e_hE_0_2_1 := funext hE_0_2_1; subst e_hE_0_2_1
  have e_hE_3_7_1 := funext hE_3_7_1; subst e_hE_3_7_1
  have e_hE_3_8_1 := funext hE_3_8_1; subst e_hE_3_8_1
  have e_hE_3_9_1 := funext hE_3_9_1; subst e_hE_3_9_1
  first
    | assumption
    | exact fil_some ‹FIL _ _ _ _› (by omega) hE_3_12_1 (by omega) rfl
    | exact fil_none ‹FIL _ _ _ _› ‹JB5 _ _ _ _ _ _ _› (by omega) ‹NOK _ _ _ _ _› ‹LBE _ _ _ _ _› (by omega) (by omega) (by omega) (by have q := hK_3_9 x1 (by omega) (by omega); omega) hE_3_12_1 (by omega) rfl
  
def o_Em_joinBlocksAt_at_gp_2 : or_T := (122, 13, [(0, (2, 0, 0, [1])), (1, (0, 0, 24, [])), (2, (0, 0, 72, [])), (3, (2, 0, 0, [149])), (5, (0, 0, 24, [])), (7, (0, 0, 0, [])), (8, (0, 0, 72, [])), (10, (2, 0, 0, [145])), (11, (0, -1, -1, []))], [(9, [10, 9], [12]), (24, [3, 9], []), (20, [5, 9], [50, 1, 0, 1005, 2, 6, 0, 2, 0, 0, 1, 0, 0, 6, 4, 2, 1, 0, 0, 1, 2, 1, 5]), (24, [0, 4], []), (24, [1, 5], []), (24, [2, 6], []), (100, [10, 5, 11], []), (8, [7], [0]), (7, [8, 6], [3]), (20, [4, 9, 5, 8, 7], [60, 1, 3, 627, 1006, 2, 1007, 1008]), (20, [9, 5], [60, 1, 2, 629, 5, 9, 12]), (20, [9], [60, 2, 3, 595, 5, 6, 7, 8, 9]), (20, [4, 9, 6], [60, 1, 3, 598, 1006, 2, 1007, 1008])], [], [], [(20, [9, 5], [60, 1, 2, 630, 5, 9, 12])], [], [(1, 5, -4294967296, 0), (5, 1, -4294967296, 0)])
theorem oo_Em_joinBlocksAt_at_gp_2 {kA : Nat → ClassId} : or_ok PRD kA GG o_Em_joinBlocksAt_at_gp_2 := by
  refine or_mk fun A ta ws vs hD hth hl => ?_
  intro t0 r0 t1 k1 t2 k2 t3 r3 t5 k5 t7 k7 t8 k8 t10 r10 t11 k11 d1 d3 f0 f2 f3 f6 f7 f8 ta1 w1 le1 s1 f10 f11 f12 f13 f15 f16
  replace f0 := shm_103 f0
  replace f2 := shm_5 f2
  replace f3 := shm_405 f3
  replace f6 := shm_5 f6
  replace f7 := shm_5 f7
  replace f8 := shm_5 f8
  have s1 : (∀ b j, w_el ws b j = if b = v_ad (n_v vs 10) ∧ j = (v_iv (n_v vs 5)).toNat then v_iv (n_v vs 11) else w_el w1 b j) ∧ ∀ b k, w_fd ws b k = w_fd w1 b k := s1.2
  replace f10 := shm_192 f10
  replace f11 := shm_2 f11
  replace f12 := shm_1080 f12
  replace f13 := shm_1079 f13
  replace f15 := shm_408 f15
  replace f16 := shm_1078 f16
  have q9 : n_v vs 9 = n_v vs 3 := f2.symm
  have q4 : n_v vs 4 = n_v vs 0 := f6.symm
  have q5 : n_v vs 5 = n_v vs 1 := f7.symm
  have q6 : n_v vs 6 = n_v vs 2 := f8.symm
  simp only [q9, q5] at f0 f3
  rw [q5] at s1
  simp only [q6, q9, q4, q5] at f11 f12 f13 f15 f16
  have ar_0_2_1 : w_ar w1 (n_v vs 0) 2 = w_ar ws (n_v vs 0) 2 := congrArg v_ad (s1.2 _ _).symm
  have cr_0_2 := fdq_56 hD hth r0
  have ar_3_7_1 : w_ar w1 (n_v vs 3) 7 = w_ar ws (n_v vs 3) 7 := congrArg v_ad (s1.2 _ _).symm
  have cr_3_7 := fdq_60 hD hth r3
  have ar_3_8_1 : w_ar w1 (n_v vs 3) 8 = w_ar ws (n_v vs 3) 8 := congrArg v_ad (s1.2 _ _).symm
  have cr_3_8 := fdq_61 hD hth r3
  have ar_3_9_1 : w_ar w1 (n_v vs 3) 9 = w_ar ws (n_v vs 3) 9 := congrArg v_ad (s1.2 _ _).symm
  have cr_3_9 := fdq_83 hD hth r3
  have ar_3_12_1 : w_ar w1 (n_v vs 3) 12 = w_ar ws (n_v vs 3) 12 := congrArg v_ad (s1.2 _ _).symm
  have ad_10 : v_ad (n_v vs 10) = w_ar ws (n_v vs 3) 12 := congrArg v_ad f0
  simp only [ar_0_2_1, ar_3_7_1, ar_3_8_1, ar_3_9_1, ar_3_12_1] at f12 f13 f15 f16
  have fe_3_5_1 : w_fi ws (n_v vs 3) 5 = w_fi w1 (n_v vs 3) 5 := congrArg v_iv (s1.2 _ _)
  have fe_3_6_1 : w_fi ws (n_v vs 3) 6 = w_fi w1 (n_v vs 3) 6 := congrArg v_iv (s1.2 _ _)
  have hE_0_2_1 : ∀ j : Int, w_ei ws (w_ar ws (n_v vs 0) 2) j = w_ei w1 (w_ar ws (n_v vs 0) 2) j := el_kp s1.1 r10 cr_0_2 (by decide)
  have hE_3_7_1 : ∀ j : Int, w_ei ws (w_ar ws (n_v vs 3) 7) j = w_ei w1 (w_ar ws (n_v vs 3) 7) j := el_kp s1.1 r10 cr_3_7 (by decide)
  have hE_3_8_1 : ∀ j : Int, w_ei ws (w_ar ws (n_v vs 3) 8) j = w_ei w1 (w_ar ws (n_v vs 3) 8) j := el_kp s1.1 r10 cr_3_8 (by decide)
  have hE_3_9_1 : ∀ j : Int, w_ei ws (w_ar ws (n_v vs 3) 9) j = w_ei w1 (w_ar ws (n_v vs 3) 9) j := el_kp s1.1 r10 cr_3_9 (by decide)
  have hK_3_9 := elq_27 hD hth cr_3_9
  have hE_3_12_1 : ∀ j : Int, 0 ≤ j → (j = v_iv (n_v vs 1) → w_ei ws (w_ar ws (n_v vs 3) 12) j = v_iv (n_v vs 11)) ∧ (j ≠ v_iv (n_v vs 1) → w_ei ws (w_ar ws (n_v vs 3) 12) j = w_ei w1 (w_ar ws (n_v vs 3) 12) j) := fun j hj => ⟨fun h => by unfold w_ei; rw [s1.1, if_pos ⟨ad_10.symm, by rw [h]⟩], fun h => by unfold w_ei; rw [s1.1, if_neg (fun e => h (by have := e.2; omega))]⟩
  have kz_3_5 := fdq_85 hD hth r3
  have kz_3_6 := fdq_62 hD hth r3
  have nf0 : fc_1 PRD (20, [9, 5], [60, 1, 2, 630, 5, 9, 12]) ws (vs) := by
    refine ⟨nf_in hl rfl, sgq_1081 ?_⟩
    · show FIL1 (w_fi ws (n_v vs 9) 5) (w_ei ws (w_ar ws (n_v vs 9) 9)) (w_ei ws (w_ar ws (n_v vs 9) 12)) (v_iv (n_v vs 5))
      simp only [q9, q5]
      exact vc_Em_joinBlocksAt_at_gp_2_0 (v_iv (n_v vs 1)) (v_iv (n_v vs 2)) (v_iv (n_v vs 5)) (v_iv (n_v vs 7)) (v_iv (n_v vs 8)) (v_iv (n_v vs 11)) (w_ei ws (w_ar ws (n_v vs 0) 2)) (w_ei ws (w_ar ws (n_v vs 3) 7)) (w_ei ws (w_ar ws (n_v vs 3) 8)) (w_fi ws (n_v vs 3) 6) (w_fi ws (n_v vs 3) 5) (w_ei ws (w_ar ws (n_v vs 3) 9)) (w_ei w1 (w_ar ws (n_v vs 0) 2)) (w_ei w1 (w_ar ws (n_v vs 3) 7)) (w_ei w1 (w_ar ws (n_v vs 3) 8)) (w_fi w1 (n_v vs 3) 6) (w_ei w1 (w_ar ws (n_v vs 3) 9)) (w_ei w1 (w_ar ws (n_v vs 3) 12)) (w_fi w1 (n_v vs 3) 5) (w_ei ws (w_ar ws (n_v vs 3) 12)) k1 k2 k5 k7 k8 k11 d1 d3 f3 f10 f11 f12 f13 f15 f16 fe_3_5_1 fe_3_6_1 hE_0_2_1 hE_3_7_1 hE_3_8_1 hE_3_9_1 hK_3_9 hE_3_12_1 kz_3_5 kz_3_6
  refine ⟨(fun _ h => (by cases h)), [], trivial, ?_, (fun _ h => (by cases h))⟩
  rw [List.append_nil]
  exact List.forall_mem_cons.mpr ⟨⟨show (20 : Nat) < 100 from by decide, nf0⟩, (fun _ h => (by cases h))⟩
set_option maxHeartbeats 4000000 in
theorem vc_Em_joinBlocksAt_at_gp_3_0 (x1 : Int) (x7 : Int) (x8 : Int) (x10 : Int) (x11 : Int) (block_0 : Int → Int) (tail_0o3 : Int → Int) (head_0o3 : Int → Int) (edges_0o3 : Int) (k1 : 0 ≤ x1 ∧ x1 ≤ 24) (k7 : 0 ≤ x7 ∧ x7 ≤ 72) (k8 : 0 ≤ x8 ∧ x8 ≤ 71) (k10 : (-1) ≤ x10 ∧ x10 ≤ 71) (k11 : 0 ≤ x11 ∧ x11 ≤ 0) (f0 : LEX (edges_0o3) (block_0) (tail_0o3) (head_0o3) (x1) (x8) (x10)) (f2 : JB5 (edges_0o3) (block_0) (tail_0o3) (head_0o3) (x1) (x8) (x7)) (kz_3_6 : 0 ≤ edges_0o3 ∧ edges_0o3 ≤ 72) : JB7 (edges_0o3) (block_0) (tail_0o3) (head_0o3) (x1) (x8) (x7) (x10) (x11) := by
  first
    | exact jb7_start ‹JB5 _ _ _ _ _ _ _› ‹LEX _ _ _ _ _ _ _› (by omega)
    | exact jb7_more (by omega)
    | (have q := jb7_c0 ‹JB7 _ _ _ _ _ _ _ _ _›; exact jb7_more (by omega))
  
def o_Em_joinBlocksAt_at_gp_3 : or_T := (27, 12, [(1, (0, 0, 24, [])), (3, (2, 0, 0, [149])), (7, (0, 0, 72, [])), (8, (0, 0, 71, [])), (10, (0, -1, 71, [])), (11, (0, 0, 0, []))], [(20, [4, 9, 5, 8, 10], [60, 1, 3, 626, 1006, 2, 1007, 1008]), (20, [4, 9, 5, 8, 7], [60, 1, 3, 627, 1006, 2, 1007, 1008]), (24, [3, 9], []), (24, [0, 4], []), (24, [1, 5], [])], [], [], [(20, [4, 9, 5, 8, 7, 10, 11], [60, 1, 3, 628, 1006, 2, 1007, 1008])], [], [])
theorem oo_Em_joinBlocksAt_at_gp_3 {kA : Nat → ClassId} : or_ok PRD kA GG o_Em_joinBlocksAt_at_gp_3 := by
  refine or_mk fun A ta ws vs hD hth hl => ?_
  intro t1 k1 t3 r3 t7 k7 t8 k8 t10 k10 t11 k11 f0 f2 f4 f8 f9
  replace f0 := shm_356 f0
  replace f2 := shm_1080 f2
  replace f4 := shm_5 f4
  replace f8 := shm_5 f8
  replace f9 := shm_5 f9
  have q9 : n_v vs 9 = n_v vs 3 := f4.symm
  have q4 : n_v vs 4 = n_v vs 0 := f8.symm
  have q5 : n_v vs 5 = n_v vs 1 := f9.symm
  simp only [q9, q4, q5] at f0 f2
  have kz_3_6 := fdq_62 hD hth r3
  have nf0 : fc_1 PRD (20, [4, 9, 5, 8, 7, 10, 11], [60, 1, 3, 628, 1006, 2, 1007, 1008]) ws (vs) := by
    refine ⟨nf_in hl rfl, sgq_1082 ?_⟩
    · show JB7 (w_fi ws (n_v vs 9) 6) (w_ei ws (w_ar ws (n_v vs 4) 2)) (w_ei ws (w_ar ws (n_v vs 9) 7)) (w_ei ws (w_ar ws (n_v vs 9) 8)) (v_iv (n_v vs 5)) (v_iv (n_v vs 8)) (v_iv (n_v vs 7)) (v_iv (n_v vs 10)) (v_iv (n_v vs 11))
      simp only [q9, q4, q5]
      exact vc_Em_joinBlocksAt_at_gp_3_0 (v_iv (n_v vs 1)) (v_iv (n_v vs 7)) (v_iv (n_v vs 8)) (v_iv (n_v vs 10)) (v_iv (n_v vs 11)) (w_ei ws (w_ar ws (n_v vs 0) 2)) (w_ei ws (w_ar ws (n_v vs 3) 7)) (w_ei ws (w_ar ws (n_v vs 3) 8)) (w_fi ws (n_v vs 3) 6) k1 k7 k8 k10 k11 f0 f2 kz_3_6
  refine ⟨(fun _ h => (by cases h)), [], trivial, ?_, (fun _ h => (by cases h))⟩
  rw [List.append_nil]
  exact List.forall_mem_cons.mpr ⟨⟨show (20 : Nat) < 100 from by decide, nf0⟩, (fun _ h => (by cases h))⟩
set_option maxHeartbeats 4000000 in
theorem vc_Em_joinBlocksAt_at_gp_4_0 (x1 : Int) (x7 : Int) (x8 : Int) (x10 : Int) (x11 : Int) (x14 : Int) (block_0 : Int → Int) (tail_0o3 : Int → Int) (head_0o3 : Int → Int) (edges_0o3 : Int) (k1 : 0 ≤ x1 ∧ x1 ≤ 24) (k7 : 72 ≤ x7 ∧ x7 ≤ 72) (k8 : 0 ≤ x8 ∧ x8 ≤ 71) (k10 : (-1) ≤ x10 ∧ x10 ≤ 71) (k11 : 72 ≤ x11 ∧ x11 ≤ 72) (k14 : 1 ≤ x14 ∧ x14 ≤ 72) (f0 : x14 = x8 + 1) (f2 : JB7 (edges_0o3) (block_0) (tail_0o3) (head_0o3) (x1) (x8) (x7) (x10) (x11)) (kz_3_6 : 0 ≤ edges_0o3 ∧ edges_0o3 ≤ 72) : JB5 (edges_0o3) (block_0) (tail_0o3) (head_0o3) (x1) (x14) (x7) := by
  first
    | exact jb5_start (by omega) (by omega)
    | exact jb5_next ‹JB7 _ _ _ _ _ _ _ _ _› (by omega) (by omega)
    | exact jb5_some (by omega)
    | (have q := jb7_c0 ‹JB7 _ _ _ _ _ _ _ _ _›; exact jb5_some (by omega))
  
def o_Em_joinBlocksAt_at_gp_4 : or_T := (5, 15, [(1, (0, 0, 24, [])), (3, (2, 0, 0, [149])), (7, (0, 72, 72, [])), (8, (0, 0, 71, [])), (10, (0, -1, 71, [])), (11, (0, 72, 72, [])), (14, (0, 1, 72, []))], [(6, [14, 8], [1]), (20, [4, 12, 5, 8, 7, 10, 11], [60, 1, 3, 628, 1006, 2, 1007, 1008]), (24, [3, 12], []), (24, [0, 4], []), (24, [1, 5], [])], [], [], [(20, [4, 12, 5, 14, 7], [60, 1, 3, 627, 1006, 2, 1007, 1008])], [], [])
theorem oo_Em_joinBlocksAt_at_gp_4 {kA : Nat → ClassId} : or_ok PRD kA GG o_Em_joinBlocksAt_at_gp_4 := by
  refine or_mk fun A ta ws vs hD hth hl => ?_
  intro t1 k1 t3 r3 t7 k7 t8 k8 t10 k10 t11 k11 t14 k14 f0 f2 f4 f8 f9
  replace f0 := shm_4 f0
  replace f2 := shm_1082 f2
  replace f4 := shm_5 f4
  replace f8 := shm_5 f8
  replace f9 := shm_5 f9
  have q12 : n_v vs 12 = n_v vs 3 := f4.symm
  have q4 : n_v vs 4 = n_v vs 0 := f8.symm
  have q5 : n_v vs 5 = n_v vs 1 := f9.symm
  simp only [q12, q4, q5] at f2
  have kz_3_6 := fdq_62 hD hth r3
  have nf0 : fc_1 PRD (20, [4, 12, 5, 14, 7], [60, 1, 3, 627, 1006, 2, 1007, 1008]) ws (vs) := by
    refine ⟨nf_in hl rfl, sgq_1080 ?_⟩
    · show JB5 (w_fi ws (n_v vs 12) 6) (w_ei ws (w_ar ws (n_v vs 4) 2)) (w_ei ws (w_ar ws (n_v vs 12) 7)) (w_ei ws (w_ar ws (n_v vs 12) 8)) (v_iv (n_v vs 5)) (v_iv (n_v vs 14)) (v_iv (n_v vs 7))
      simp only [q12, q4, q5]
      exact vc_Em_joinBlocksAt_at_gp_4_0 (v_iv (n_v vs 1)) (v_iv (n_v vs 7)) (v_iv (n_v vs 8)) (v_iv (n_v vs 10)) (v_iv (n_v vs 11)) (v_iv (n_v vs 14)) (w_ei ws (w_ar ws (n_v vs 0) 2)) (w_ei ws (w_ar ws (n_v vs 3) 7)) (w_ei ws (w_ar ws (n_v vs 3) 8)) (w_fi ws (n_v vs 3) 6) k1 k7 k8 k10 k11 k14 f0 f2 kz_3_6
  refine ⟨(fun _ h => (by cases h)), [], trivial, ?_, (fun _ h => (by cases h))⟩
  rw [List.append_nil]
  exact List.forall_mem_cons.mpr ⟨⟨show (20 : Nat) < 100 from by decide, nf0⟩, (fun _ h => (by cases h))⟩
set_option maxHeartbeats 4000000 in
theorem vc_Em_joinBlocksAt_at_gp_5_0 (x1 : Int) (x7 : Int) (x8 : Int) (x10 : Int) (x11 : Int) (x15 : Int) (block_0 : Int → Int) (tail_0o3 : Int → Int) (head_0o3 : Int → Int) (edges_0o3 : Int) (k1 : 0 ≤ x1 ∧ x1 ≤ 24) (k7 : 0 ≤ x7 ∧ x7 ≤ 72) (k8 : 0 ≤ x8 ∧ x8 ≤ 71) (k10 : (-1) ≤ x10 ∧ x10 ≤ (-1)) (k11 : 0 ≤ x11 ∧ x11 ≤ 71) (k15 : 1 ≤ x15 ∧ x15 ≤ 72) (f0 : x15 = x8 + 1) (f3 : JB7 (edges_0o3) (block_0) (tail_0o3) (head_0o3) (x1) (x8) (x7) (x10) (x11)) (kz_3_6 : 0 ≤ edges_0o3 ∧ edges_0o3 ≤ 72) : JB5 (edges_0o3) (block_0) (tail_0o3) (head_0o3) (x1) (x15) (x7) := by
  first
    | exact jb5_start (by omega) (by omega)
    | exact jb5_next ‹JB7 _ _ _ _ _ _ _ _ _› (by omega) (by omega)
    | exact jb5_some (by omega)
    | (have q := jb7_c0 ‹JB7 _ _ _ _ _ _ _ _ _›; exact jb5_some (by omega))
  
def o_Em_joinBlocksAt_at_gp_5 : or_T := (5, 16, [(1, (0, 0, 24, [])), (3, (2, 0, 0, [149])), (7, (0, 0, 72, [])), (8, (0, 0, 71, [])), (10, (0, -1, -1, [])), (11, (0, 0, 71, [])), (15, (0, 1, 72, []))], [(6, [15, 8], [1]), (20, [4, 12, 5, 8, 7, 10, 11], [60, 1, 3, 628, 1006, 2, 1007, 1008]), (24, [3, 12], []), (24, [0, 4], []), (24, [1, 5], [])], [], [], [(20, [4, 12, 5, 15, 7], [60, 1, 3, 627, 1006, 2, 1007, 1008])], [], [])
theorem oo_Em_joinBlocksAt_at_gp_5 {kA : Nat → ClassId} : or_ok PRD kA GG o_Em_joinBlocksAt_at_gp_5 := by
  refine or_mk fun A ta ws vs hD hth hl => ?_
  intro t1 k1 t3 r3 t7 k7 t8 k8 t10 k10 t11 k11 t15 k15 f0 f3 f5 f9 f10
  replace f0 := shm_4 f0
  replace f3 := shm_1082 f3
  replace f5 := shm_5 f5
  replace f9 := shm_5 f9
  replace f10 := shm_5 f10
  have q12 : n_v vs 12 = n_v vs 3 := f5.symm
  have q4 : n_v vs 4 = n_v vs 0 := f9.symm
  have q5 : n_v vs 5 = n_v vs 1 := f10.symm
  simp only [q12, q4, q5] at f3
  have kz_3_6 := fdq_62 hD hth r3
  have nf0 : fc_1 PRD (20, [4, 12, 5, 15, 7], [60, 1, 3, 627, 1006, 2, 1007, 1008]) ws (vs) := by
    refine ⟨nf_in hl rfl, sgq_1080 ?_⟩
    · show JB5 (w_fi ws (n_v vs 12) 6) (w_ei ws (w_ar ws (n_v vs 4) 2)) (w_ei ws (w_ar ws (n_v vs 12) 7)) (w_ei ws (w_ar ws (n_v vs 12) 8)) (v_iv (n_v vs 5)) (v_iv (n_v vs 15)) (v_iv (n_v vs 7))
      simp only [q12, q4, q5]
      exact vc_Em_joinBlocksAt_at_gp_5_0 (v_iv (n_v vs 1)) (v_iv (n_v vs 7)) (v_iv (n_v vs 8)) (v_iv (n_v vs 10)) (v_iv (n_v vs 11)) (v_iv (n_v vs 15)) (w_ei ws (w_ar ws (n_v vs 0) 2)) (w_ei ws (w_ar ws (n_v vs 3) 7)) (w_ei ws (w_ar ws (n_v vs 3) 8)) (w_fi ws (n_v vs 3) 6) k1 k7 k8 k10 k11 k15 f0 f3 kz_3_6
  refine ⟨(fun _ h => (by cases h)), [], trivial, ?_, (fun _ h => (by cases h))⟩
  rw [List.append_nil]
  exact List.forall_mem_cons.mpr ⟨⟨show (20 : Nat) < 100 from by decide, nf0⟩, (fun _ h => (by cases h))⟩
set_option maxHeartbeats 4000000 in
theorem vc_Em_joinBlocksAt_at_gp_6_0 (x1 : Int) (x7 : Int) (x8 : Int) (x10 : Int) (x11 : Int) (x16 : Int) (block_0 : Int → Int) (tail_0o3 : Int → Int) (head_0o3 : Int → Int) (edges_0o3 : Int) (k1 : 0 ≤ x1 ∧ x1 ≤ 24) (k7 : 72 ≤ x7 ∧ x7 ≤ 72) (k8 : 0 ≤ x8 ∧ x8 ≤ 71) (k10 : 0 ≤ x10 ∧ x10 ≤ 71) (k11 : 0 ≤ x11 ∧ x11 ≤ 71) (k16 : 1 ≤ x16 ∧ x16 ≤ 72) (f0 : x16 = x8 + 1) (f4 : JB7 (edges_0o3) (block_0) (tail_0o3) (head_0o3) (x1) (x8) (x7) (x10) (x11)) (kz_3_6 : 0 ≤ edges_0o3 ∧ edges_0o3 ≤ 72) : JB5 (edges_0o3) (block_0) (tail_0o3) (head_0o3) (x1) (x16) (x7) := by
  first
    | exact jb5_start (by omega) (by omega)
    | exact jb5_next ‹JB7 _ _ _ _ _ _ _ _ _› (by omega) (by omega)
    | exact jb5_some (by omega)
    | (have q := jb7_c0 ‹JB7 _ _ _ _ _ _ _ _ _›; exact jb5_some (by omega))
  
def o_Em_joinBlocksAt_at_gp_6 : or_T := (5, 17, [(1, (0, 0, 24, [])), (3, (2, 0, 0, [149])), (7, (0, 72, 72, [])), (8, (0, 0, 71, [])), (10, (0, 0, 71, [])), (11, (0, 0, 71, [])), (16, (0, 1, 72, []))], [(6, [16, 8], [1]), (20, [4, 12, 5, 8, 7, 10, 11], [60, 1, 3, 628, 1006, 2, 1007, 1008]), (24, [3, 12], []), (24, [0, 4], []), (24, [1, 5], [])], [], [], [(20, [4, 12, 5, 16, 7], [60, 1, 3, 627, 1006, 2, 1007, 1008])], [], [])
theorem oo_Em_joinBlocksAt_at_gp_6 {kA : Nat → ClassId} : or_ok PRD kA GG o_Em_joinBlocksAt_at_gp_6 := by
  refine or_mk fun A ta ws vs hD hth hl => ?_
  intro t1 k1 t3 r3 t7 k7 t8 k8 t10 k10 t11 k11 t16 k16 f0 f4 f6 f10 f11
  replace f0 := shm_4 f0
  replace f4 := shm_1082 f4
  replace f6 := shm_5 f6
  replace f10 := shm_5 f10
  replace f11 := shm_5 f11
  have q12 : n_v vs 12 = n_v vs 3 := f6.symm
  have q4 : n_v vs 4 = n_v vs 0 := f10.symm
  have q5 : n_v vs 5 = n_v vs 1 := f11.symm
  simp only [q12, q4, q5] at f4
  have kz_3_6 := fdq_62 hD hth r3
  have nf0 : fc_1 PRD (20, [4, 12, 5, 16, 7], [60, 1, 3, 627, 1006, 2, 1007, 1008]) ws (vs) := by
    refine ⟨nf_in hl rfl, sgq_1080 ?_⟩
    · show JB5 (w_fi ws (n_v vs 12) 6) (w_ei ws (w_ar ws (n_v vs 4) 2)) (w_ei ws (w_ar ws (n_v vs 12) 7)) (w_ei ws (w_ar ws (n_v vs 12) 8)) (v_iv (n_v vs 5)) (v_iv (n_v vs 16)) (v_iv (n_v vs 7))
      simp only [q12, q4, q5]
      exact vc_Em_joinBlocksAt_at_gp_6_0 (v_iv (n_v vs 1)) (v_iv (n_v vs 7)) (v_iv (n_v vs 8)) (v_iv (n_v vs 10)) (v_iv (n_v vs 11)) (v_iv (n_v vs 16)) (w_ei ws (w_ar ws (n_v vs 0) 2)) (w_ei ws (w_ar ws (n_v vs 3) 7)) (w_ei ws (w_ar ws (n_v vs 3) 8)) (w_fi ws (n_v vs 3) 6) k1 k7 k8 k10 k11 k16 f0 f4 kz_3_6
  refine ⟨(fun _ h => (by cases h)), [], trivial, ?_, (fun _ h => (by cases h))⟩
  rw [List.append_nil]
  exact List.forall_mem_cons.mpr ⟨⟨show (20 : Nat) < 100 from by decide, nf0⟩, (fun _ h => (by cases h))⟩
set_option maxHeartbeats 4000000 in
theorem vc_Em_joinBlocksAt_at_gp_7_0 (x1 : Int) (x7 : Int) (x8 : Int) (x17 : Int) (x20 : Int) (x21 : Int) (after_0 : Int → Int) (block_0 : Int → Int) (tail_0o3 : Int → Int) (head_0o3 : Int → Int) (edges_0o3 : Int) (near_0o3 : Int → Int) (first_0o3 : Int → Int) (nodes_0o3 : Int) (block_1 : Int → Int) (tail_1o3 : Int → Int) (head_1o3 : Int → Int) (edges_1o3 : Int) (near_1o3 : Int → Int) (first_1o3 : Int → Int) (nodes_1o3 : Int) (after_1 : Int → Int) (k1 : 0 ≤ x1 ∧ x1 ≤ 24) (k7 : 0 ≤ x7 ∧ x7 ≤ 71) (k8 : 0 ≤ x8 ∧ x8 ≤ 71) (k17 : 1 ≤ x17 ∧ x17 ≤ 72) (k20 : (-1) ≤ x20 ∧ x20 ≤ 71) (k21 : 1 ≤ x21 ∧ x21 ≤ 72) (d2 : x7 + 1 ≤ x17 ∧ x17 ≤ x7 + 1) (fe_3_5_1 : nodes_0o3 = nodes_1o3) (fe_3_6_1 : edges_0o3 = edges_1o3) (hE_0_2_1 : ∀ j : Int, block_0 j = block_1 j) (hE_0_12_1 : ∀ j : Int, after_0 j = after_1 j) (hE_3_7_1 : ∀ j : Int, tail_0o3 j = tail_1o3 j) (hE_3_8_1 : ∀ j : Int, head_0o3 j = head_1o3 j) (hE_3_9_1 : ∀ j : Int, near_0o3 j = near_1o3 j) (hE_3_12_1 : ∀ j : Int, first_0o3 j = first_1o3 j) (kz_3_5 : 0 ≤ nodes_0o3 ∧ nodes_0o3 ≤ 25) (kz_3_6 : 0 ≤ edges_0o3 ∧ edges_0o3 ≤ 72) : JB7 (edges_0o3) (block_0) (tail_0o3) (head_0o3) (x1) (x8) (x17) (x20) (x21) := by
  subst fe_3_5_1
  subst fe_3_6_1
  have e_hE_0_2_1 := funext hE_0_2_1; subst e_hE_0_2_1
  have e_hE_0_12_1 := funext hE_0_12_1; subst e_hE_0_12_1
  have e_hE_3_7_1 := funext hE_3_7_1; subst e_hE_3_7_1
  have e_hE_3_8_1 := funext hE_3_8_1; subst e_hE_3_8_1
  have e_hE_3_9_1 := funext hE_3_9_1; subst e_hE_3_9_1
  have e_hE_3_12_1 := funext hE_3_12_1; subst e_hE_3_12_1
  first
    | exact jb7_start ‹JB5 _ _ _ _ _ _ _› ‹LEX _ _ _ _ _ _ _› (by omega)
    | exact jb7_more (by omega)
    | (have q := jb7_c0 ‹JB7 _ _ _ _ _ _ _ _ _›; exact jb7_more (by omega))
  
def o_Em_joinBlocksAt_at_gp_7 : or_T := (27, 22, [(0, (2, 0, 0, [1])), (1, (0, 0, 24, [])), (2, (0, 0, 72, [])), (3, (2, 0, 0, [149])), (4, (2, 0, 0, [1])), (5, (0, 0, 24, [])), (6, (0, 1, 72, [])), (7, (0, 0, 71, [])), (8, (0, 0, 71, [])), (9, (0, -1, 71, [])), (10, (0, 0, 71, [])), (11, (0, 0, 71, [])), (12, (2, 0, 0, [149])), (13, (0, 72, 72, [])), (14, (0, -1, -1, [])), (15, (0, 72, 72, [])), (16, (2, 0, 0, [36])), (17, (0, 1, 72, [])), (18, (2, 0, 0, [33])), (19, (0, 1, 143, [])), (20, (0, -1, 71, [])), (21, (0, 1, 72, []))], [(9, [16, 4], [19]), (6, [21, 11], [1]), (7, [20, 9], [1]), (10, [20, 18, 19], []), (9, [18, 4], [12]), (6, [17, 7], [1]), (20, [4, 12, 5, 8, 7, 10, 11], [60, 1, 3, 628, 1006, 2, 1007, 1008]), (20, [12, 5], [60, 1, 2, 629, 5, 9, 12]), (24, [3, 12], []), (20, [5, 12], [50, 1, 0, 1005, 2, 6, 0, 2, 0, 0, 1, 0, 0, 6, 4, 2, 1, 0, 0, 1, 2, 1, 5]), (20, [12], [60, 2, 3, 595, 5, 6, 7, 8, 9]), (20, [4, 12, 6], [60, 1, 3, 598, 1006, 2, 1007, 1008]), (24, [0, 4], []), (24, [1, 5], []), (24, [2, 6], []), (100, [16, 7, 10], []), (7, [7, 15], [2]), (7, [10, 14], [1]), (7, [11, 13], [2]), (20, [4, 12, 5, 8, 7, 10, 11], [60, 1, 3, 628, 1006, 2, 1007, 1008]), (20, [12, 5], [60, 1, 2, 629, 5, 9, 12]), (20, [5, 12], [50, 1, 0, 1005, 2, 6, 0, 2, 0, 0, 1, 0, 0, 6, 4, 2, 1, 0, 0, 1, 2, 1, 5]), (20, [12], [60, 2, 3, 595, 5, 6, 7, 8, 9]), (20, [4, 12, 6], [60, 1, 3, 598, 1006, 2, 1007, 1008])], [], [], [(20, [4, 12, 5, 8, 17, 20, 21], [60, 1, 3, 628, 1006, 2, 1007, 1008])], [], [(21, 11, 1, 1), (21, 7, -4294967296, 1), (17, 7, 1, 1), (1, 2, -4294967296, 23), (1, 5, -4294967296, 0), (2, 6, -4294967296, 0), (5, 1, -4294967296, 0), (5, 2, -4294967296, 23), (6, 2, -4294967296, 0), (8, 2, -4294967296, -1), (8, 6, -4294967296, -1), (9, 2, -4294967296, 70), (11, 7, -4294967296, 0)])
theorem oo_Em_joinBlocksAt_at_gp_7 {kA : Nat → ClassId} : or_ok PRD kA GG o_Em_joinBlocksAt_at_gp_7 := by
  refine or_mk fun A ta ws vs hD hth hl => ?_
  intro t0 r0 t1 k1 t2 k2 t3 r3 t4 r4 t5 k5 t6 k6 t7 k7 t8 k8 t9 k9 t10 k10 t11 k11 t12 r12 t13 k13 t14 k14 t15 k15 t16 r16 t17 k17 t18 r18 t19 k19 t20 k20 t21 k21 d0 d1 d2 d3 d4 d5 d6 d7 d8 d9 d10 d11 d12 f0 f1 f2 f3 f4 f5 f6 f7 f8 f9 f10 f11 f12 f13 f14 ta1 w1 le1 s1 f16 f17 f18 f19 f20 f21 f22 f23
  replace f8 := shm_5 f8
  replace f12 := shm_5 f12
  replace f13 := shm_5 f13
  have s1 : (∀ b j, w_el ws b j = if b = v_ad (n_v vs 16) ∧ j = (v_iv (n_v vs 7)).toNat then v_iv (n_v vs 10) else w_el w1 b j) ∧ ∀ b k, w_fd ws b k = w_fd w1 b k := s1.2
  have q12 : n_v vs 12 = n_v vs 3 := f8.symm
  have q4 : n_v vs 4 = n_v vs 0 := f12.symm
  have q5 : n_v vs 5 = n_v vs 1 := f13.symm
  have cr_0_2 := fdq_56 hD hth r0
  have cr_0_12 := fdq_245 hD hth r0
  have cr_3_7 := fdq_60 hD hth r3
  have cr_3_8 := fdq_61 hD hth r3
  have cr_3_9 := fdq_83 hD hth r3
  have cr_3_12 := fdq_246 hD hth r3
  have fe_3_5_1 : w_fi ws (n_v vs 3) 5 = w_fi w1 (n_v vs 3) 5 := congrArg v_iv (s1.2 _ _)
  have fe_3_6_1 : w_fi ws (n_v vs 3) 6 = w_fi w1 (n_v vs 3) 6 := congrArg v_iv (s1.2 _ _)
  have hE_0_2_1 : ∀ j : Int, w_ei ws (w_ar ws (n_v vs 0) 2) j = w_ei w1 (w_ar ws (n_v vs 0) 2) j := el_kp s1.1 r16 cr_0_2 (by decide)
  have hE_0_12_1 : ∀ j : Int, w_ei ws (w_ar ws (n_v vs 0) 12) j = w_ei w1 (w_ar ws (n_v vs 0) 12) j := el_kp s1.1 r16 cr_0_12 (by decide)
  have hE_3_7_1 : ∀ j : Int, w_ei ws (w_ar ws (n_v vs 3) 7) j = w_ei w1 (w_ar ws (n_v vs 3) 7) j := el_kp s1.1 r16 cr_3_7 (by decide)
  have hE_3_8_1 : ∀ j : Int, w_ei ws (w_ar ws (n_v vs 3) 8) j = w_ei w1 (w_ar ws (n_v vs 3) 8) j := el_kp s1.1 r16 cr_3_8 (by decide)
  have hE_3_9_1 : ∀ j : Int, w_ei ws (w_ar ws (n_v vs 3) 9) j = w_ei w1 (w_ar ws (n_v vs 3) 9) j := el_kp s1.1 r16 cr_3_9 (by decide)
  have hE_3_12_1 : ∀ j : Int, w_ei ws (w_ar ws (n_v vs 3) 12) j = w_ei w1 (w_ar ws (n_v vs 3) 12) j := el_kp s1.1 r16 cr_3_12 (by decide)
  have kz_3_5 := fdq_85 hD hth r3
  have kz_3_6 := fdq_62 hD hth r3
  have nf0 : fc_1 PRD (20, [4, 12, 5, 8, 17, 20, 21], [60, 1, 3, 628, 1006, 2, 1007, 1008]) ws (vs) := by
    refine ⟨nf_in hl rfl, sgq_1082 ?_⟩
    · show JB7 (w_fi ws (n_v vs 12) 6) (w_ei ws (w_ar ws (n_v vs 4) 2)) (w_ei ws (w_ar ws (n_v vs 12) 7)) (w_ei ws (w_ar ws (n_v vs 12) 8)) (v_iv (n_v vs 5)) (v_iv (n_v vs 8)) (v_iv (n_v vs 17)) (v_iv (n_v vs 20)) (v_iv (n_v vs 21))
      simp only [q12, q4, q5]
      exact vc_Em_joinBlocksAt_at_gp_7_0 (v_iv (n_v vs 1)) (v_iv (n_v vs 7)) (v_iv (n_v vs 8)) (v_iv (n_v vs 17)) (v_iv (n_v vs 20)) (v_iv (n_v vs 21)) (w_ei ws (w_ar ws (n_v vs 0) 12)) (w_ei ws (w_ar ws (n_v vs 0) 2)) (w_ei ws (w_ar ws (n_v vs 3) 7)) (w_ei ws (w_ar ws (n_v vs 3) 8)) (w_fi ws (n_v vs 3) 6) (w_ei ws (w_ar ws (n_v vs 3) 9)) (w_ei ws (w_ar ws (n_v vs 3) 12)) (w_fi ws (n_v vs 3) 5) (w_ei w1 (w_ar ws (n_v vs 0) 2)) (w_ei w1 (w_ar ws (n_v vs 3) 7)) (w_ei w1 (w_ar ws (n_v vs 3) 8)) (w_fi w1 (n_v vs 3) 6) (w_ei w1 (w_ar ws (n_v vs 3) 9)) (w_ei w1 (w_ar ws (n_v vs 3) 12)) (w_fi w1 (n_v vs 3) 5) (w_ei w1 (w_ar ws (n_v vs 0) 12)) k1 k7 k8 k17 k20 k21 d2 fe_3_5_1 fe_3_6_1 hE_0_2_1 hE_0_12_1 hE_3_7_1 hE_3_8_1 hE_3_9_1 hE_3_12_1 kz_3_5 kz_3_6
  refine ⟨(fun _ h => (by cases h)), [], trivial, ?_, (fun _ h => (by cases h))⟩
  rw [List.append_nil]
  exact List.forall_mem_cons.mpr ⟨⟨show (20 : Nat) < 100 from by decide, nf0⟩, (fun _ h => (by cases h))⟩
set_option maxHeartbeats 4000000 in
theorem vc_Em_joinBlocksAt_at_gp_8_0 (x1 : Int) (x7 : Int) (x17 : Int) (x21 : Int) (block_0 : Int → Int) (tail_0o3 : Int → Int) (head_0o3 : Int → Int) (edges_0o3 : Int) (near_0o3 : Int → Int) (first_0o3 : Int → Int) (nodes_0o3 : Int) (block_1 : Int → Int) (tail_1o3 : Int → Int) (head_1o3 : Int → Int) (edges_1o3 : Int) (near_1o3 : Int → Int) (first_1o3 : Int → Int) (nodes_1o3 : Int) (k1 : 0 ≤ x1 ∧ x1 ≤ 24) (k7 : 0 ≤ x7 ∧ x7 ≤ 71) (k17 : 1 ≤ x17 ∧ x17 ≤ 72) (k21 : 1 ≤ x21 ∧ x21 ≤ 72) (d3 : x7 + 1 ≤ x17 ∧ x17 ≤ x7 + 1) (fe_3_5_1 : nodes_0o3 = nodes_1o3) (fe_3_6_1 : edges_0o3 = edges_1o3) (hE_0_2_1 : ∀ j : Int, block_0 j = block_1 j) (hE_3_7_1 : ∀ j : Int, tail_0o3 j = tail_1o3 j) (hE_3_8_1 : ∀ j : Int, head_0o3 j = head_1o3 j) (hE_3_9_1 : ∀ j : Int, near_0o3 j = near_1o3 j) (hE_3_12_1 : ∀ j : Int, first_0o3 j = first_1o3 j) (kz_3_5 : 0 ≤ nodes_0o3 ∧ nodes_0o3 ≤ 25) (kz_3_6 : 0 ≤ edges_0o3 ∧ edges_0o3 ≤ 72) : JB5 (edges_0o3) (block_0) (tail_0o3) (head_0o3) (x1) (x21) (x17) := by
  subst fe_3_5_1
  subst fe_3_6_1
  have e_hE_0_2_1 := funext hE_0_2_1; subst e_hE_0_2_1
  have e_hE_3_7_1 := funext hE_3_7_1; subst e_hE_3_7_1
  have e_hE_3_8_1 := funext hE_3_8_1; subst e_hE_3_8_1
  have e_hE_3_9_1 := funext hE_3_9_1; subst e_hE_3_9_1
  have e_hE_3_12_1 := funext hE_3_12_1; subst e_hE_3_12_1
  first
    | exact jb5_start (by omega) (by omega)
    | exact jb5_next ‹JB7 _ _ _ _ _ _ _ _ _› (by omega) (by omega)
    | exact jb5_some (by omega)
    | (have q := jb7_c0 ‹JB7 _ _ _ _ _ _ _ _ _›; exact jb5_some (by omega))
  
def o_Em_joinBlocksAt_at_gp_8 : or_T := (5, 22, [(0, (2, 0, 0, [1])), (1, (0, 0, 24, [])), (3, (2, 0, 0, [149])), (7, (0, 0, 71, [])), (16, (2, 0, 0, [36])), (17, (0, 1, 72, [])), (21, (0, 1, 72, []))], [(24, [3, 12], []), (24, [0, 4], []), (24, [1, 5], []), (100, [16, 7, 10], [])], [], [], [(20, [4, 12, 5, 21, 17], [60, 1, 3, 627, 1006, 2, 1007, 1008])], [], [(17, 7, 1, 1)])
theorem oo_Em_joinBlocksAt_at_gp_8 {kA : Nat → ClassId} : or_ok PRD kA GG o_Em_joinBlocksAt_at_gp_8 := by
  refine or_mk fun A ta ws vs hD hth hl => ?_
  intro t0 r0 t1 k1 t3 r3 t7 k7 t16 r16 t17 k17 t21 k21 d3 f5 f9 f10 ta1 w1 le1 s1
  replace f5 := shm_5 f5
  replace f9 := shm_5 f9
  replace f10 := shm_5 f10
  have s1 : (∀ b j, w_el ws b j = if b = v_ad (n_v vs 16) ∧ j = (v_iv (n_v vs 7)).toNat then v_iv (n_v vs 10) else w_el w1 b j) ∧ ∀ b k, w_fd ws b k = w_fd w1 b k := s1.2
  have q12 : n_v vs 12 = n_v vs 3 := f5.symm
  have q4 : n_v vs 4 = n_v vs 0 := f9.symm
  have q5 : n_v vs 5 = n_v vs 1 := f10.symm
  have cr_0_2 := fdq_56 hD hth r0
  have cr_3_7 := fdq_60 hD hth r3
  have cr_3_8 := fdq_61 hD hth r3
  have cr_3_9 := fdq_83 hD hth r3
  have cr_3_12 := fdq_246 hD hth r3
  have fe_3_5_1 : w_fi ws (n_v vs 3) 5 = w_fi w1 (n_v vs 3) 5 := congrArg v_iv (s1.2 _ _)
  have fe_3_6_1 : w_fi ws (n_v vs 3) 6 = w_fi w1 (n_v vs 3) 6 := congrArg v_iv (s1.2 _ _)
  have hE_0_2_1 : ∀ j : Int, w_ei ws (w_ar ws (n_v vs 0) 2) j = w_ei w1 (w_ar ws (n_v vs 0) 2) j := el_kp s1.1 r16 cr_0_2 (by decide)
  have hE_3_7_1 : ∀ j : Int, w_ei ws (w_ar ws (n_v vs 3) 7) j = w_ei w1 (w_ar ws (n_v vs 3) 7) j := el_kp s1.1 r16 cr_3_7 (by decide)
  have hE_3_8_1 : ∀ j : Int, w_ei ws (w_ar ws (n_v vs 3) 8) j = w_ei w1 (w_ar ws (n_v vs 3) 8) j := el_kp s1.1 r16 cr_3_8 (by decide)
  have hE_3_9_1 : ∀ j : Int, w_ei ws (w_ar ws (n_v vs 3) 9) j = w_ei w1 (w_ar ws (n_v vs 3) 9) j := el_kp s1.1 r16 cr_3_9 (by decide)
  have hE_3_12_1 : ∀ j : Int, w_ei ws (w_ar ws (n_v vs 3) 12) j = w_ei w1 (w_ar ws (n_v vs 3) 12) j := el_kp s1.1 r16 cr_3_12 (by decide)
  have kz_3_5 := fdq_85 hD hth r3
  have kz_3_6 := fdq_62 hD hth r3
  have nf0 : fc_1 PRD (20, [4, 12, 5, 21, 17], [60, 1, 3, 627, 1006, 2, 1007, 1008]) ws (vs) := by
    refine ⟨nf_in hl rfl, sgq_1080 ?_⟩
    · show JB5 (w_fi ws (n_v vs 12) 6) (w_ei ws (w_ar ws (n_v vs 4) 2)) (w_ei ws (w_ar ws (n_v vs 12) 7)) (w_ei ws (w_ar ws (n_v vs 12) 8)) (v_iv (n_v vs 5)) (v_iv (n_v vs 21)) (v_iv (n_v vs 17))
      simp only [q12, q4, q5]
      exact vc_Em_joinBlocksAt_at_gp_8_0 (v_iv (n_v vs 1)) (v_iv (n_v vs 7)) (v_iv (n_v vs 17)) (v_iv (n_v vs 21)) (w_ei ws (w_ar ws (n_v vs 0) 2)) (w_ei ws (w_ar ws (n_v vs 3) 7)) (w_ei ws (w_ar ws (n_v vs 3) 8)) (w_fi ws (n_v vs 3) 6) (w_ei ws (w_ar ws (n_v vs 3) 9)) (w_ei ws (w_ar ws (n_v vs 3) 12)) (w_fi ws (n_v vs 3) 5) (w_ei w1 (w_ar ws (n_v vs 0) 2)) (w_ei w1 (w_ar ws (n_v vs 3) 7)) (w_ei w1 (w_ar ws (n_v vs 3) 8)) (w_fi w1 (n_v vs 3) 6) (w_ei w1 (w_ar ws (n_v vs 3) 9)) (w_ei w1 (w_ar ws (n_v vs 3) 12)) (w_fi w1 (n_v vs 3) 5) k1 k7 k17 k21 d3 fe_3_5_1 fe_3_6_1 hE_0_2_1 hE_3_7_1 hE_3_8_1 hE_3_9_1 hE_3_12_1 kz_3_5 kz_3_6
  refine ⟨(fun _ h => (by cases h)), [], trivial, ?_, (fun _ h => (by cases h))⟩
  rw [List.append_nil]
  exact List.forall_mem_cons.mpr ⟨⟨show (20 : Nat) < 100 from by decide, nf0⟩, (fun _ h => (by cases h))⟩
set_option maxHeartbeats 4000000 in
theorem vc_Em_joinBlocksAt_at_gp_9_0 (x1 : Int) (x7 : Int) (x8 : Int) (x17 : Int) (x20 : Int) (x21 : Int) (after_0 : Int → Int) (block_0 : Int → Int) (tail_0o3 : Int → Int) (head_0o3 : Int → Int) (edges_0o3 : Int) (near_0o3 : Int → Int) (first_0o3 : Int → Int) (nodes_0o3 : Int) (block_1 : Int → Int) (tail_1o3 : Int → Int) (head_1o3 : Int → Int) (edges_1o3 : Int) (near_1o3 : Int → Int) (first_1o3 : Int → Int) (nodes_1o3 : Int) (after_1 : Int → Int) (k1 : 0 ≤ x1 ∧ x1 ≤ 24) (k7 : 0 ≤ x7 ∧ x7 ≤ 71) (k8 : 0 ≤ x8 ∧ x8 ≤ 71) (k17 : 1 ≤ x17 ∧ x17 ≤ 72) (k20 : (-1) ≤ x20 ∧ x20 ≤ 71) (k21 : 1 ≤ x21 ∧ x21 ≤ 72) (d2 : x7 + 1 ≤ x17 ∧ x17 ≤ x7 + 1) (fe_3_5_1 : nodes_0o3 = nodes_1o3) (fe_3_6_1 : edges_0o3 = edges_1o3) (hE_0_2_1 : ∀ j : Int, block_0 j = block_1 j) (hE_0_12_1 : ∀ j : Int, after_0 j = after_1 j) (hE_3_7_1 : ∀ j : Int, tail_0o3 j = tail_1o3 j) (hE_3_8_1 : ∀ j : Int, head_0o3 j = head_1o3 j) (hE_3_9_1 : ∀ j : Int, near_0o3 j = near_1o3 j) (hE_3_12_1 : ∀ j : Int, first_0o3 j = first_1o3 j) (kz_3_5 : 0 ≤ nodes_0o3 ∧ nodes_0o3 ≤ 25) (kz_3_6 : 0 ≤ edges_0o3 ∧ edges_0o3 ≤ 72) : JB7 (edges_0o3) (block_0) (tail_0o3) (head_0o3) (x1) (x8) (x17) (x20) (x21) := by
  subst fe_3_5_1
  subst fe_3_6_1
  have e_hE_0_2_1 := funext hE_0_2_1; subst e_hE_0_2_1
  have e_hE_0_12_1 := funext hE_0_12_1; subst e_hE_0_12_1
  have e_hE_3_7_1 := funext hE_3_7_1; subst e_hE_3_7_1
  have e_hE_3_8_1 := funext hE_3_8_1; subst e_hE_3_8_1
  have e_hE_3_9_1 := funext hE_3_9_1; subst e_hE_3_9_1
  have e_hE_3_12_1 := funext hE_3_12_1; subst e_hE_3_12_1
  first
    | exact jb7_start ‹JB5 _ _ _ _ _ _ _› ‹LEX _ _ _ _ _ _ _› (by omega)
    | exact jb7_more (by omega)
    | (have q := jb7_c0 ‹JB7 _ _ _ _ _ _ _ _ _›; exact jb7_more (by omega))
  
