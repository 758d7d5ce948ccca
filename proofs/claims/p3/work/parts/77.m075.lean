section

def o_Mo_groupItem_at_k1_9 : or_T := (41, 11, [(0, (2, 0, 0, [165])), (1, (0, 0, 7, [])), (2, (0, 1, 1, [])), (7, (0, 0, 2000, [])), (8, (0, 0, 0, [])), (9, (0, 1, 1, [])), (10, (0, 0, 2000, []))], [(9, [10, 0], [13]), (8, [8], [0]), (20, [0, 1, 2, 7], [60, 3, 2, 974, 10, 8, 5, 1, 2]), (20, [0, 7], [60, 6, 1, 948, 10, 11, 12, 13, 14, 15, 1]), (20, [0, 8], [60, 4, 1, 962, 12, 11, 10, 15, 1])], [], [(0, 0, 5, [])], [(20, [0, 9, 10], [60, 1, 1, 1026, 10, 1]), (20, [0, 11], [30, 0, 1, 1, 8, -1, 0, 0]), (20, [0, 11], [30, 0, -1, 1, 8, 1, 0, 0]), (20, [11], [61, 0, 1029])], [], [])
theorem oo_Mo_groupItem_at_k1_9 {kA : Nat → ClassId} : or_ok PRD kA GG o_Mo_groupItem_at_k1_9 := by
  refine or_mk fun A ta ws vs hD hth hl => ?_
  intro t0 r0 t1 k1 t2 k2 t7 k7 t8 k8 t9 k9 t10 k10 f0 f1 f2 f11 f13
  replace f0 := shm_361 f0
  replace f1 := shm_192 f1
  replace f2 := shm_2174 f2
  replace f11 := shm_1439 f11
  replace f13 := shm_1889 f13
  have g0 : v_iv (n_v vs 10) = w_fi ws (n_v vs 0) 13 := congrArg v_iv f0
  have kz_0_8 := fdq_34 hD hth r0
  have kz_0_10 := fdq_43 hD hth r0
  have kz_0_11 := fdq_237 hD hth r0
  have kz_0_12 := fdq_187 hD hth r0
  have kz_0_13 := fdq_238 hD hth r0
  have kz_0_14 := fdq_188 hD hth r0
  have kz_0_15 := fdq_239 hD hth r0
  obtain ⟨x, ex, hx⟩ := iv_ex (ta := ta) (lo := 0) (hi := 5) (z := w_fi ws (n_v vs 0) 8) (by omega) (by omega) (by omega) (by omega)
  have ex2 : v_iv (Value.int x) = w_fi ws (n_v vs 0) 8 := ex
  have ex3 : 0 ≤ v_iv (Value.int x) ∧ v_iv (Value.int x) ≤ 5 := tv_rng hx
  have e_0 : n_v (vs ++ [Value.int x]) 0 = n_v vs 0 := n_v_old (by rw [hl]; decide)
  have e_9 : n_v (vs ++ [Value.int x]) 9 = n_v vs 9 := n_v_old (by rw [hl]; decide)
  have e_10 : n_v (vs ++ [Value.int x]) 10 = n_v vs 10 := n_v_old (by rw [hl]; decide)
  have e_11 : n_v (vs ++ [Value.int x]) 11 = Value.int x := n_v_new hl
  have nf0 : fc_1 PRD (20, [0, 9, 10], [60, 1, 1, 1026, 10, 1]) ws (vs ++ [Value.int x]) := by
    refine ⟨nf_inA hl rfl, sgq_1724 ?_⟩
    · show FSX (w_fi ws (n_v (vs ++ [Value.int x]) 0) 10) (w_ei ws (w_ar ws (n_v (vs ++ [Value.int x]) 0) 1)) (v_iv (n_v (vs ++ [Value.int x]) 9)) (v_iv (n_v (vs ++ [Value.int x]) 10))
      simp only [e_0, e_9, e_10]
      exact vc_Mo_groupItem_at_k1_9_0 (v_iv (n_v vs 1)) (v_iv (n_v vs 2)) (v_iv (n_v vs 7)) (v_iv (n_v vs 8)) (v_iv (n_v vs 9)) (v_iv (n_v vs 10)) (w_fi ws (n_v vs 0) 13) (w_ei ws (w_ar ws (n_v vs 0) 1)) (w_ei ws (w_ar ws (n_v vs 0) 2)) (w_fi ws (n_v vs 0) 10) (w_fi ws (n_v vs 0) 8) (w_fi ws (n_v vs 0) 5) (w_fi ws (n_v vs 0) 15) (w_fi ws (n_v vs 0) 11) (w_fi ws (n_v vs 0) 12) (w_fi ws (n_v vs 0) 14) (v_iv (Value.int x)) k1 k2 k7 k8 k9 k10 g0 f1 f2 f11 f13 kz_0_8 kz_0_10 kz_0_11 kz_0_12 kz_0_13 kz_0_14 kz_0_15 ex2
  have nf1 : fc_1 PRD (20, [0, 11], [30, 0, 1, 1, 8, -1, 0, 0]) ws (vs ++ [Value.int x]) := by
    refine ⟨nf_inA hl rfl, sgq_303 ?_⟩
    · show 1 * w_fi ws (n_v (vs ++ [Value.int x]) 0) 8 + ((-1) * v_iv (n_v (vs ++ [Value.int x]) 11) + 0) ≤ 0
      simp only [e_0, e_11]
      exact vc_Mo_groupItem_at_k1_9_1 (w_fi ws (n_v vs 0) 8) (w_fi ws (n_v vs 0) 5) (v_iv (Value.int x)) kz_0_8 ex2
  have nf2 : fc_1 PRD (20, [0, 11], [30, 0, -1, 1, 8, 1, 0, 0]) ws (vs ++ [Value.int x]) := by
    refine ⟨nf_inA hl rfl, sgq_304 ?_⟩
    · show (-1) * w_fi ws (n_v (vs ++ [Value.int x]) 0) 8 + (1 * v_iv (n_v (vs ++ [Value.int x]) 11) + 0) ≤ 0
      simp only [e_0, e_11]
      exact vc_Mo_groupItem_at_k1_9_2 (w_fi ws (n_v vs 0) 8) (w_fi ws (n_v vs 0) 5) (v_iv (Value.int x)) kz_0_8 ex2
  have nf3 : fc_1 PRD (20, [11], [61, 0, 1029]) ws (vs ++ [Value.int x]) := by
    refine ⟨nf_inA hl rfl, sgq_1725 ?_⟩
    · show ZH0 (v_iv (n_v (vs ++ [Value.int x]) 11))
      rw [e_11]
      exact vc_Mo_groupItem_at_k1_9_3 (v_iv (n_v vs 1)) (v_iv (n_v vs 2)) (v_iv (n_v vs 7)) (w_ei ws (w_ar ws (n_v vs 0) 1)) (w_ei ws (w_ar ws (n_v vs 0) 2)) (w_fi ws (n_v vs 0) 10) (w_fi ws (n_v vs 0) 8) (w_fi ws (n_v vs 0) 5) (v_iv (Value.int x)) k1 k2 k7 f2 kz_0_8 kz_0_10 ex2
  exact ⟨(fun _ h => (by cases h)), [Value.int x], ag_one hx, List.forall_mem_cons.mpr ⟨⟨show (20 : Nat) < 100 from by decide, nf0⟩, List.forall_mem_cons.mpr ⟨⟨show (20 : Nat) < 100 from by decide, nf1⟩, List.forall_mem_cons.mpr ⟨⟨show (20 : Nat) < 100 from by decide, nf2⟩, List.forall_mem_cons.mpr ⟨⟨show (20 : Nat) < 100 from by decide, nf3⟩, (fun _ h => (by cases h))⟩⟩⟩⟩, (fun _ h => (by cases h))⟩
set_option maxHeartbeats 4000000 in
theorem vc_Mo_groupItem_at_k1_10_0 (x3 : Int) (x7 : Int) (r_0 : Int) (from_0 : Int) (pos_0 : Int) (k3 : 0 ≤ x3 ∧ x3 ≤ 2000) (k7 : 0 ≤ x7 ∧ x7 ≤ 2000) (f3 : 1 * x3 + ((-1) * x7 + 0) ≤ 0) (f8 : 1 * from_0 + ((-1) * pos_0 + 0) ≤ 0) (f10 : 1 * x7 + ((-1) * from_0 + 0) ≤ 0) (kz_0_11 : 0 ≤ pos_0 ∧ pos_0 ≤ 2000) (kz_0_15 : 0 ≤ from_0 ∧ from_0 ≤ 2000) : 1 * x3 + ((-1) * pos_0 + 0) ≤ 0 := by
  first
    | omega
    | (have q1 := (hE_0_2_1 (r_0 + 2) (by omega)).2 (by omega)
       have q2 := (hE_0_2_2 (r_0 + 2) (by omega)).2 (by omega)
       omega)
    | (have q1 := (hE_0_2_1 (r_0 + 1) (by omega)).2 (by omega)
       have q2 := (hE_0_2_2 (r_0 + 1) (by omega)).2 (by omega)
       omega)
    | (have q1 := (hE_0_2_1 (r_0 + 2) (by omega)).2 (by omega)
       omega)
    | (have q1 := (hE_0_2_1 (r_0 + 1) (by omega)).2 (by omega)
       omega)
    | (have q1 := (hE_0_2_1 (r_0 + 2) (by omega)).2 (by omega)
       have q2 := (hE_0_2_2 (r_0 + 2) (by omega)).2 (by omega)
       have q3 := (hE_0_2_3 (r_0 + 2) (by omega)).1 (by omega)
       omega)
    | (have q1 := (hE_0_2_1 (r_0 + 2) (by omega)).2 (by omega)
       have q2 := (hE_0_2_2 (r_0 + 2) (by omega)).2 (by omega)
       have q3 := (hE_0_2_3 (r_0 + 2) (by omega)).2 (by omega)
       omega)
    | (have q1 := (hE_0_2_1 (r_0 + 2) (by omega)).2 (by omega)
       have q2 := (hE_0_2_2 (r_0 + 2) (by omega)).2 (by omega)
       have q3 := (hE_0_2_3 (r_0 + 2) (by omega)).1 (by omega)
       have q4 : x13 = r_0 + 2 := by omega
       simp only [q4] at *
       omega)
set_option maxHeartbeats 4000000 in
theorem vc_Mo_groupItem_at_k1_10_1 (x3 : Int) (r_0 : Int) (pos_0 : Int) (fault_0 : Int) (k3 : 0 ≤ x3 ∧ x3 ≤ 2000) (f14 : (-1) * fault_0 + 0 ≤ (-1)) (kz_0_8 : 0 ≤ fault_0 ∧ fault_0 ≤ 5) (kz_0_11 : 0 ≤ pos_0 ∧ pos_0 ≤ 2000) : (1 ≤ fault_0) ∨ ((x3 + 1) ≤ pos_0) := by
  first
    | omega
    | (have q1 := (hE_0_2_1 (r_0 + 2) (by omega)).2 (by omega)
       have q2 := (hE_0_2_2 (r_0 + 2) (by omega)).2 (by omega)
       omega)
    | (have q1 := (hE_0_2_1 (r_0 + 1) (by omega)).2 (by omega)
       have q2 := (hE_0_2_2 (r_0 + 1) (by omega)).2 (by omega)
       omega)
    | (have q1 := (hE_0_2_1 (r_0 + 2) (by omega)).2 (by omega)
       omega)
    | (have q1 := (hE_0_2_1 (r_0 + 1) (by omega)).2 (by omega)
       omega)
    | (have q1 := (hE_0_2_1 (r_0 + 2) (by omega)).2 (by omega)
       have q2 := (hE_0_2_2 (r_0 + 2) (by omega)).2 (by omega)
       have q3 := (hE_0_2_3 (r_0 + 2) (by omega)).1 (by omega)
       omega)
    | (have q1 := (hE_0_2_1 (r_0 + 2) (by omega)).2 (by omega)
       have q2 := (hE_0_2_2 (r_0 + 2) (by omega)).2 (by omega)
       have q3 := (hE_0_2_3 (r_0 + 2) (by omega)).2 (by omega)
       omega)
    | (have q1 := (hE_0_2_1 (r_0 + 2) (by omega)).2 (by omega)
       have q2 := (hE_0_2_2 (r_0 + 2) (by omega)).2 (by omega)
       have q3 := (hE_0_2_3 (r_0 + 2) (by omega)).1 (by omega)
       have q4 : x13 = r_0 + 2 := by omega
       simp only [q4] at *
       omega)
set_option maxHeartbeats 4000000 in
theorem vc_Mo_groupItem_at_k1_10_2 (x1 : Int) (x2 : Int) (x9 : Int) (x10 : Int) (x11 : Int) (place_0 : Int) (tape_0 : Int → Int) (limit_0 : Int) (all_0 : Int → Int) (r_0 : Int) (from_0 : Int) (pos_0 : Int) (kind_0 : Int) (value_0 : Int) (fault_0 : Int) (faultPlace_0 : Int) (k1 : 0 ≤ x1 ∧ x1 ≤ 7) (k2 : 1 ≤ x2 ∧ x2 ≤ 1) (k9 : 1 ≤ x9 ∧ x9 ≤ 1) (k10 : 0 ≤ x10 ∧ x10 ≤ 2000) (k11 : 0 ≤ x11 ∧ x11 ≤ 5) (g0 : x10 = place_0) (f1 : FSX (limit_0) (tape_0) (x9) (x10)) (f2 : ZH0 (x11)) (f15 : ((1 ≤ x11) ∧ (fault_0 = x11)) ∨ ((x11 = 0) ∧ ((fault_0 = x9) ∧ (faultPlace_0 = x10)))) (kz_0_8 : 0 ≤ fault_0 ∧ fault_0 ≤ 5) (kz_0_9 : 0 ≤ faultPlace_0 ∧ faultPlace_0 ≤ 2000) (kz_0_10 : 0 ≤ limit_0 ∧ limit_0 ≤ 2000) (kz_0_11 : 0 ≤ pos_0 ∧ pos_0 ≤ 2000) (kz_0_12 : 0 ≤ kind_0 ∧ kind_0 ≤ 4) (kz_0_13 : 0 ≤ place_0 ∧ place_0 ≤ 2000) (kz_0_14 : (-49) ≤ value_0 ∧ value_0 ≤ 1048575) (kz_0_15 : 0 ≤ from_0 ∧ from_0 ≤ 2000) : zOS0 (limit_0) (pos_0) (kind_0) (place_0) (value_0) (from_0) (fault_0) (faultPlace_0) (r_0) (tape_0) (all_0) (x1) (x2) := by
  first | subst g0 | skip
  first
    | assumption
    | (refine Or.inl (fs_w ?_ ?_ (by assumption)) <;> assumption)
def o_Mo_groupItem_at_k1_10 : or_T := (44, 12, [(0, (2, 0, 0, [165])), (1, (0, 0, 7, [])), (2, (0, 1, 1, [])), (3, (0, 0, 2000, [])), (7, (0, 0, 2000, [])), (9, (0, 1, 1, [])), (10, (0, 0, 2000, [])), (11, (0, 0, 5, []))], [(9, [10, 0], [13]), (20, [0, 9, 10], [60, 1, 1, 1026, 10, 1]), (20, [11], [61, 0, 1029]), (20, [3, 7], [30, 0, 1, 0, 0, -1, 0, 0]), (20, [0, 0], [30, 0, 1, 1, 15, -1, 1, 11]), (20, [7, 0], [30, 0, 1, 0, 0, -1, 1, 15]), (20, [0], [30, -1, -1, 1, 8]), (20, [11, 0, 9, 10], [50, 2, 0, 1008, 1009, 3, 15, 2, 6, 0, 2, 0, 1, 1, 0, 1, 3, 2, 1, 8, 1, 0, 2, 6, 1, 2, 1, 0, 0, 0, 2, 7, 1, 3, 2, 1, 8, 1, 2, 1, 3, 2, 1, 9, 1, 3])], [], [], [(20, [3, 0], [30, 0, 1, 0, 0, -1, 1, 11]), (20, [0, 3], [50, 2, 0, 8, 11, 3, 7, 0, 2, 0, 1, 2, 0, 8, 0, 6, 4, 2, 1, 1, 0, 1, 2, 0, 11]), (20, [0, 1, 2], [60, 9, 2, 1007, 10, 11, 12, 13, 14, 15, 8, 9, 5, 1, 2])], [], [])
theorem oo_Mo_groupItem_at_k1_10 {kA : Nat → ClassId} : or_ok PRD kA GG o_Mo_groupItem_at_k1_10 := by
  refine or_mk fun A ta ws vs hD hth hl => ?_
  intro t0 r0 t1 k1 t2 k2 t3 k3 t7 k7 t9 k9 t10 k10 t11 k11 f0 f1 f2 f3 f8 f10 f14 f15
  replace f0 := shm_361 f0
  have g0 : v_iv (n_v vs 10) = w_fi ws (n_v vs 0) 13 := congrArg v_iv f0
  have kz_0_8 := fdq_34 hD hth r0
  have kz_0_9 := fdq_44 hD hth r0
  have kz_0_10 := fdq_43 hD hth r0
  have kz_0_11 := fdq_237 hD hth r0
  have kz_0_12 := fdq_187 hD hth r0
  have kz_0_13 := fdq_238 hD hth r0
  have kz_0_14 := fdq_188 hD hth r0
  have kz_0_15 := fdq_239 hD hth r0
  have nf0 : fc_1 PRD (20, [3, 0], [30, 0, 1, 0, 0, -1, 1, 11]) ws (vs) := ⟨nf_in hl rfl, sgq_1431 (vc_Mo_groupItem_at_k1_10_0 (v_iv (n_v vs 3)) (v_iv (n_v vs 7)) (w_fi ws (n_v vs 0) 5) (w_fi ws (n_v vs 0) 15) (w_fi ws (n_v vs 0) 11) k3 k7 (shm_201 f3) (shm_1437 f8) (shm_1436 f10) kz_0_11 kz_0_15)⟩
  have nf1 : fc_1 PRD (20, [0, 3], [50, 2, 0, 8, 11, 3, 7, 0, 2, 0, 1, 2, 0, 8, 0, 6, 4, 2, 1, 1, 0, 1, 2, 0, 11]) ws (vs) := ⟨nf_in hl rfl, sgq_1726 (vc_Mo_groupItem_at_k1_10_1 (v_iv (n_v vs 3)) (w_fi ws (n_v vs 0) 5) (w_fi ws (n_v vs 0) 11) (w_fi ws (n_v vs 0) 8) k3 (shm_305 f14) kz_0_8 kz_0_11)⟩
  have nf2 : fc_1 PRD (20, [0, 1, 2], [60, 9, 2, 1007, 10, 11, 12, 13, 14, 15, 8, 9, 5, 1, 2]) ws (vs) := ⟨nf_in hl rfl, sgq_1727 (vc_Mo_groupItem_at_k1_10_2 (v_iv (n_v vs 1)) (v_iv (n_v vs 2)) (v_iv (n_v vs 9)) (v_iv (n_v vs 10)) (v_iv (n_v vs 11)) (w_fi ws (n_v vs 0) 13) (w_ei ws (w_ar ws (n_v vs 0) 1)) (w_fi ws (n_v vs 0) 10) (w_ei ws (w_ar ws (n_v vs 0) 2)) (w_fi ws (n_v vs 0) 5) (w_fi ws (n_v vs 0) 15) (w_fi ws (n_v vs 0) 11) (w_fi ws (n_v vs 0) 12) (w_fi ws (n_v vs 0) 14) (w_fi ws (n_v vs 0) 8) (w_fi ws (n_v vs 0) 9) k1 k2 k9 k10 k11 g0 (shm_1724 f1) (shm_1725 f2) (shm_306 f15) kz_0_8 kz_0_9 kz_0_10 kz_0_11 kz_0_12 kz_0_13 kz_0_14 kz_0_15)⟩
  refine ⟨(fun _ h => (by cases h)), [], trivial, ?_, (fun _ h => (by cases h))⟩
  rw [List.append_nil]
  exact List.forall_mem_cons.mpr ⟨⟨show (20 : Nat) < 100 from by decide, nf0⟩, List.forall_mem_cons.mpr ⟨⟨show (20 : Nat) < 100 from by decide, nf1⟩, List.forall_mem_cons.mpr ⟨⟨show (20 : Nat) < 100 from by decide, nf2⟩, (fun _ h => (by cases h))⟩⟩⟩
set_option maxHeartbeats 4000000 in
theorem vc_Mo_groupItem_at_k1_11_0 (x1 : Int) (x2 : Int) (x7 : Int) (x8 : Int) (from_0 : Int) (pos_0 : Int) (kind_0 : Int) (all_0 : Int → Int) (r_0 : Int) (tape_0 : Int → Int) (limit_0 : Int) (place_0 : Int) (value_0 : Int) (fault_0 : Int) (k1 : 0 ≤ x1 ∧ x1 ≤ 7) (k2 : 1 ≤ x2 ∧ x2 ≤ 1) (k7 : 0 ≤ x7 ∧ x7 ≤ 7) (k8 : 0 ≤ x8 ∧ x8 ≤ 8) (f11 : zMG (limit_0) (pos_0) (kind_0) (place_0) (value_0) (from_0) (fault_0) (r_0) (tape_0) (all_0) (x7) (x8) (x1) (x2)) (kz_0_8 : 0 ≤ fault_0 ∧ fault_0 ≤ 5) (kz_0_10 : 0 ≤ limit_0 ∧ limit_0 ≤ 2000) (kz_0_11 : 0 ≤ pos_0 ∧ pos_0 ≤ 2000) (kz_0_12 : 0 ≤ kind_0 ∧ kind_0 ≤ 4) (kz_0_13 : 0 ≤ place_0 ∧ place_0 ≤ 2000) (kz_0_14 : (-49) ≤ value_0 ∧ value_0 ≤ 1048575) (kz_0_15 : 0 ≤ from_0 ∧ from_0 ≤ 2000) : HST (limit_0) (tape_0) (x7) (x1) := by
  first
    | assumption
    | exact mg_hst ‹zMG _ _ _ _ _ _ _ _ _ _ _ _ _ _›
set_option maxHeartbeats 4000000 in
theorem vc_Mo_groupItem_at_k1_11_1 (pos_0 : Int) (r_0 : Int) (gx : Int) (kz_0_11 : 0 ≤ pos_0 ∧ pos_0 ≤ 2000) (ex2 : gx = pos_0) : 1 * gx + ((-1) * pos_0 + 0) ≤ 0 := by
  first
    | omega
    | (have q1 := (hE_0_2_1 (r_0 + 2) (by omega)).2 (by omega)
       have q2 := (hE_0_2_2 (r_0 + 2) (by omega)).2 (by omega)
       omega)
    | (have q1 := (hE_0_2_1 (r_0 + 1) (by omega)).2 (by omega)
       have q2 := (hE_0_2_2 (r_0 + 1) (by omega)).2 (by omega)
       omega)
    | (have q1 := (hE_0_2_1 (r_0 + 2) (by omega)).2 (by omega)
       omega)
    | (have q1 := (hE_0_2_1 (r_0 + 1) (by omega)).2 (by omega)
       omega)
    | (have q1 := (hE_0_2_1 (r_0 + 2) (by omega)).2 (by omega)
       have q2 := (hE_0_2_2 (r_0 + 2) (by omega)).2 (by omega)
       have q3 := (hE_0_2_3 (r_0 + 2) (by omega)).1 (by omega)
       omega)
    | (have q1 := (hE_0_2_1 (r_0 + 2) (by omega)).2 (by omega)
       have q2 := (hE_0_2_2 (r_0 + 2) (by omega)).2 (by omega)
       have q3 := (hE_0_2_3 (r_0 + 2) (by omega)).2 (by omega)
       omega)
    | (have q1 := (hE_0_2_1 (r_0 + 2) (by omega)).2 (by omega)
       have q2 := (hE_0_2_2 (r_0 + 2) (by omega)).2 (by omega)
       have q3 := (hE_0_2_3 (r_0 + 2) (by omega)).1 (by omega)
       have q4 : x13 = r_0 + 2 := by omega
       simp only [q4] at *
       omega)
set_option maxHeartbeats 4000000 in
theorem vc_Mo_groupItem_at_k1_11_2 (pos_0 : Int) (r_0 : Int) (gx : Int) (kz_0_11 : 0 ≤ pos_0 ∧ pos_0 ≤ 2000) (ex2 : gx = pos_0) : gx = pos_0 := by
  first
    | omega
    | (have q1 := (hE_0_2_1 (r_0 + 2) (by omega)).2 (by omega)
       have q2 := (hE_0_2_2 (r_0 + 2) (by omega)).2 (by omega)
       omega)
    | (have q1 := (hE_0_2_1 (r_0 + 1) (by omega)).2 (by omega)
       have q2 := (hE_0_2_2 (r_0 + 1) (by omega)).2 (by omega)
       omega)
    | (have q1 := (hE_0_2_1 (r_0 + 2) (by omega)).2 (by omega)
       omega)
    | (have q1 := (hE_0_2_1 (r_0 + 1) (by omega)).2 (by omega)
       omega)
    | (have q1 := (hE_0_2_1 (r_0 + 2) (by omega)).2 (by omega)
       have q2 := (hE_0_2_2 (r_0 + 2) (by omega)).2 (by omega)
       have q3 := (hE_0_2_3 (r_0 + 2) (by omega)).1 (by omega)
       omega)
    | (have q1 := (hE_0_2_1 (r_0 + 2) (by omega)).2 (by omega)
       have q2 := (hE_0_2_2 (r_0 + 2) (by omega)).2 (by omega)
       have q3 := (hE_0_2_3 (r_0 + 2) (by omega)).2 (by omega)
       omega)
    | (have q1 := (hE_0_2_1 (r_0 + 2) (by omega)).2 (by omega)
       have q2 := (hE_0_2_2 (r_0 + 2) (by omega)).2 (by omega)
       have q3 := (hE_0_2_3 (r_0 + 2) (by omega)).1 (by omega)
       have q4 : x13 = r_0 + 2 := by omega
       simp only [q4] at *
       omega)
set_option maxHeartbeats 4000000 in
theorem vc_Mo_groupItem_at_k1_11_3 (x1 : Int) (x2 : Int) (x7 : Int) (x8 : Int) (from_0 : Int) (pos_0 : Int) (kind_0 : Int) (all_0 : Int → Int) (r_0 : Int) (tape_0 : Int → Int) (limit_0 : Int) (place_0 : Int) (value_0 : Int) (fault_0 : Int) (k1 : 0 ≤ x1 ∧ x1 ≤ 7) (k2 : 1 ≤ x2 ∧ x2 ≤ 1) (k7 : 0 ≤ x7 ∧ x7 ≤ 7) (k8 : 0 ≤ x8 ∧ x8 ≤ 8) (f11 : zMG (limit_0) (pos_0) (kind_0) (place_0) (value_0) (from_0) (fault_0) (r_0) (tape_0) (all_0) (x7) (x8) (x1) (x2)) (kz_0_8 : 0 ≤ fault_0 ∧ fault_0 ≤ 5) (kz_0_10 : 0 ≤ limit_0 ∧ limit_0 ≤ 2000) (kz_0_11 : 0 ≤ pos_0 ∧ pos_0 ≤ 2000) (kz_0_12 : 0 ≤ kind_0 ∧ kind_0 ≤ 4) (kz_0_13 : 0 ≤ place_0 ∧ place_0 ≤ 2000) (kz_0_14 : (-49) ≤ value_0 ∧ value_0 ≤ 1048575) (kz_0_15 : 0 ≤ from_0 ∧ from_0 ≤ 2000) : ZLM (limit_0) (pos_0) := by
  exact (mg_tk ‹zMG _ _ _ _ _ _ _ _ _ _ _ _ _ _›).1.1
set_option maxHeartbeats 4000000 in
theorem vc_Mo_groupItem_at_k1_11_4 (x3 : Int) (pos_0 : Int) (r_0 : Int) (gx : Int) (k3 : 0 ≤ x3 ∧ x3 ≤ 2000) (f6 : 1 * x3 + ((-1) * pos_0 + 0) ≤ (-1)) (kz_0_11 : 0 ≤ pos_0 ∧ pos_0 ≤ 2000) (ex2 : gx = pos_0) : 1 * x3 + ((-1) * gx + 0) ≤ (-1) := by
  first
    | omega
    | (have q1 := (hE_0_2_1 (r_0 + 2) (by omega)).2 (by omega)
       have q2 := (hE_0_2_2 (r_0 + 2) (by omega)).2 (by omega)
       omega)
    | (have q1 := (hE_0_2_1 (r_0 + 1) (by omega)).2 (by omega)
       have q2 := (hE_0_2_2 (r_0 + 1) (by omega)).2 (by omega)
       omega)
    | (have q1 := (hE_0_2_1 (r_0 + 2) (by omega)).2 (by omega)
       omega)
    | (have q1 := (hE_0_2_1 (r_0 + 1) (by omega)).2 (by omega)
       omega)
    | (have q1 := (hE_0_2_1 (r_0 + 2) (by omega)).2 (by omega)
       have q2 := (hE_0_2_2 (r_0 + 2) (by omega)).2 (by omega)
       have q3 := (hE_0_2_3 (r_0 + 2) (by omega)).1 (by omega)
       omega)
    | (have q1 := (hE_0_2_1 (r_0 + 2) (by omega)).2 (by omega)
       have q2 := (hE_0_2_2 (r_0 + 2) (by omega)).2 (by omega)
       have q3 := (hE_0_2_3 (r_0 + 2) (by omega)).2 (by omega)
       omega)
    | (have q1 := (hE_0_2_1 (r_0 + 2) (by omega)).2 (by omega)
       have q2 := (hE_0_2_2 (r_0 + 2) (by omega)).2 (by omega)
       have q3 := (hE_0_2_3 (r_0 + 2) (by omega)).1 (by omega)
       have q4 : x13 = r_0 + 2 := by omega
       simp only [q4] at *
       omega)
set_option maxHeartbeats 4000000 in
theorem vc_Mo_groupItem_at_k1_11_5 (x1 : Int) (x2 : Int) (x7 : Int) (x8 : Int) (x9 : Int) (x10 : Int) (x11 : Int) (from_0 : Int) (pos_0 : Int) (kind_0 : Int) (all_0 : Int → Int) (r_0 : Int) (tape_0 : Int → Int) (limit_0 : Int) (place_0 : Int) (value_0 : Int) (fault_0 : Int) (gx : Int) (k1 : 0 ≤ x1 ∧ x1 ≤ 7) (k2 : 1 ≤ x2 ∧ x2 ≤ 1) (k7 : 0 ≤ x7 ∧ x7 ≤ 7) (k8 : 0 ≤ x8 ∧ x8 ≤ 8) (k9 : 0 ≤ x9 ∧ x9 ≤ 2000) (k10 : 0 ≤ x10 ∧ x10 ≤ 2000) (k11 : (-2000) ≤ x11 ∧ x11 ≤ 8) (d0 : x11 + 0 ≤ x8 ∧ x8 ≤ x11 + 4294967296) (f1 : x11 = x9 - x10) (g2 : x10 = from_0) (g3 : x9 = pos_0) (f11 : zMG (limit_0) (pos_0) (kind_0) (place_0) (value_0) (from_0) (fault_0) (r_0) (tape_0) (all_0) (x7) (x8) (x1) (x2)) (kz_0_8 : 0 ≤ fault_0 ∧ fault_0 ≤ 5) (kz_0_10 : 0 ≤ limit_0 ∧ limit_0 ≤ 2000) (kz_0_11 : 0 ≤ pos_0 ∧ pos_0 ≤ 2000) (kz_0_12 : 0 ≤ kind_0 ∧ kind_0 ≤ 4) (kz_0_13 : 0 ≤ place_0 ∧ place_0 ≤ 2000) (kz_0_14 : (-49) ≤ value_0 ∧ value_0 ≤ 1048575) (kz_0_15 : 0 ≤ from_0 ∧ from_0 ≤ 2000) (ex2 : gx = pos_0) : zTS7p (limit_0) (fault_0) (r_0) (tape_0) (all_0) (x7) (x2) (gx) := by
  first | subst g2 | skip
  first | subst g3 | skip
  first | subst ex2 | skip
  exact mg_end ‹zMG _ _ _ _ _ _ _ _ _ _ _ _ _ _› (by omega) (by omega)
set_option maxHeartbeats 4000000 in
theorem vc_Mo_groupItem_at_k1_11_6 (x3 : Int) (pos_0 : Int) (r_0 : Int) (gx : Int) (k3 : 0 ≤ x3 ∧ x3 ≤ 2000) (f6 : 1 * x3 + ((-1) * pos_0 + 0) ≤ (-1)) (kz_0_11 : 0 ≤ pos_0 ∧ pos_0 ≤ 2000) (ex2 : gx = pos_0) : 1 * x3 + ((-1) * gx + 0) ≤ (-1) := by
  first
    | omega
    | (have q1 := (hE_0_2_1 (r_0 + 2) (by omega)).2 (by omega)
       have q2 := (hE_0_2_2 (r_0 + 2) (by omega)).2 (by omega)
       omega)
    | (have q1 := (hE_0_2_1 (r_0 + 1) (by omega)).2 (by omega)
       have q2 := (hE_0_2_2 (r_0 + 1) (by omega)).2 (by omega)
       omega)
    | (have q1 := (hE_0_2_1 (r_0 + 2) (by omega)).2 (by omega)
       omega)
    | (have q1 := (hE_0_2_1 (r_0 + 1) (by omega)).2 (by omega)
       omega)
    | (have q1 := (hE_0_2_1 (r_0 + 2) (by omega)).2 (by omega)
       have q2 := (hE_0_2_2 (r_0 + 2) (by omega)).2 (by omega)
       have q3 := (hE_0_2_3 (r_0 + 2) (by omega)).1 (by omega)
       omega)
    | (have q1 := (hE_0_2_1 (r_0 + 2) (by omega)).2 (by omega)
       have q2 := (hE_0_2_2 (r_0 + 2) (by omega)).2 (by omega)
       have q3 := (hE_0_2_3 (r_0 + 2) (by omega)).2 (by omega)
       omega)
    | (have q1 := (hE_0_2_1 (r_0 + 2) (by omega)).2 (by omega)
       have q2 := (hE_0_2_2 (r_0 + 2) (by omega)).2 (by omega)
       have q3 := (hE_0_2_3 (r_0 + 2) (by omega)).1 (by omega)
       have q4 : x13 = r_0 + 2 := by omega
       simp only [q4] at *
       omega)
def o_Mo_groupItem_at_k1_11 : or_T := (161, 12, [(0, (2, 0, 0, [165])), (1, (0, 0, 7, [])), (2, (0, 1, 1, [])), (3, (0, 0, 2000, [])), (7, (0, 0, 7, [])), (8, (0, 0, 8, [])), (9, (0, 0, 2000, [])), (10, (0, 0, 2000, [])), (11, (0, -2000, 8, []))], [(2, [11, 9, 10], []), (9, [10, 4], [15]), (9, [9, 4], [11]), (20, [3, 4], [30, -1, 1, 0, 0, -1, 1, 11]), (20, [4, 7, 8, 5, 6], [60, 8, 2, 1006, 10, 11, 12, 13, 14, 15, 8, 5, 1, 2]), (24, [0, 4], []), (24, [1, 5], []), (24, [2, 6], [])], [], [(0, 0, 2000, [])], [(20, [4, 7, 5], [60, 1, 1, 1028, 10, 1]), (20, [12, 4], [30, 0, 1, 0, 0, -1, 1, 11]), (20, [12, 4], [50, 1, 0, 1011, 1, 2, 1, 0, 2, 1, 11]), (20, [4], [60, 2, 0, 947, 10, 11]), (23, [3, 12], [-1, 1, -1]), (20, [4, 7, 6, 12], [60, 3, 2, 978, 10, 8, 5, 1, 2]), (20, [3, 12], [30, -1, 1, 0, 0, -1, 0, 0])], [], [(8, 11, 0, 4294967296)])
theorem oo_Mo_groupItem_at_k1_11 {kA : Nat → ClassId} : or_ok PRD kA GG o_Mo_groupItem_at_k1_11 := by
  refine or_mk fun A ta ws vs hD hth hl => ?_
  intro t0 r0 t1 k1 t2 k2 t3 k3 t7 k7 t8 k8 t9 k9 t10 k10 t11 k11 d0 f1 f2 f3 f6 f11 f12 f13 f14
  replace f1 := shm_14 f1
  replace f2 := shm_177 f2
  replace f3 := shm_116 f3
  replace f6 := shm_2005 f6
  replace f11 := shm_2175 f11
  replace f12 := shm_5 f12
  replace f13 := shm_5 f13
  replace f14 := shm_5 f14
  have q4 : n_v vs 4 = n_v vs 0 := f12.symm
  have q5 : n_v vs 5 = n_v vs 1 := f13.symm
  have q6 : n_v vs 6 = n_v vs 2 := f14.symm
  simp only [q4, q5, q6] at f2 f3 f6 f11
  have g2 : v_iv (n_v vs 10) = w_fi ws (n_v vs 0) 15 := congrArg v_iv f2
  have g3 : v_iv (n_v vs 9) = w_fi ws (n_v vs 0) 11 := congrArg v_iv f3
  have kz_0_8 := fdq_34 hD hth r0
  have kz_0_10 := fdq_43 hD hth r0
  have kz_0_11 := fdq_237 hD hth r0
  have kz_0_12 := fdq_187 hD hth r0
  have kz_0_13 := fdq_238 hD hth r0
  have kz_0_14 := fdq_188 hD hth r0
  have kz_0_15 := fdq_239 hD hth r0
  obtain ⟨x, ex, hx⟩ := iv_ex (ta := ta) (lo := 0) (hi := 2000) (z := w_fi ws (n_v vs 0) 11) (by omega) (by omega) (by omega) (by omega)
  have ex2 : v_iv (Value.int x) = w_fi ws (n_v vs 0) 11 := ex
  have ex3 : 0 ≤ v_iv (Value.int x) ∧ v_iv (Value.int x) ≤ 2000 := tv_rng hx
  have e_3 : n_v (vs ++ [Value.int x]) 3 = n_v vs 3 := n_v_old (by rw [hl]; decide)
  have e_4 : n_v (vs ++ [Value.int x]) 4 = n_v vs 4 := n_v_old (by rw [hl]; decide)
  have e_5 : n_v (vs ++ [Value.int x]) 5 = n_v vs 5 := n_v_old (by rw [hl]; decide)
  have e_6 : n_v (vs ++ [Value.int x]) 6 = n_v vs 6 := n_v_old (by rw [hl]; decide)
  have e_7 : n_v (vs ++ [Value.int x]) 7 = n_v vs 7 := n_v_old (by rw [hl]; decide)
  have e_12 : n_v (vs ++ [Value.int x]) 12 = Value.int x := n_v_new hl
  have nf0 : fc_1 PRD (20, [4, 7, 5], [60, 1, 1, 1028, 10, 1]) ws (vs ++ [Value.int x]) := by
    refine ⟨nf_inA hl rfl, sgq_2176 ?_⟩
    · show HST (w_fi ws (n_v (vs ++ [Value.int x]) 4) 10) (w_ei ws (w_ar ws (n_v (vs ++ [Value.int x]) 4) 1)) (v_iv (n_v (vs ++ [Value.int x]) 7)) (v_iv (n_v (vs ++ [Value.int x]) 5))
      simp only [e_4, e_5, e_7, q4, q5]
      exact vc_Mo_groupItem_at_k1_11_0 (v_iv (n_v vs 1)) (v_iv (n_v vs 2)) (v_iv (n_v vs 7)) (v_iv (n_v vs 8)) (w_fi ws (n_v vs 0) 15) (w_fi ws (n_v vs 0) 11) (w_fi ws (n_v vs 0) 12) (w_ei ws (w_ar ws (n_v vs 0) 2)) (w_fi ws (n_v vs 0) 5) (w_ei ws (w_ar ws (n_v vs 0) 1)) (w_fi ws (n_v vs 0) 10) (w_fi ws (n_v vs 0) 13) (w_fi ws (n_v vs 0) 14) (w_fi ws (n_v vs 0) 8) k1 k2 k7 k8 f11 kz_0_8 kz_0_10 kz_0_11 kz_0_12 kz_0_13 kz_0_14 kz_0_15
  have nf1 : fc_1 PRD (20, [12, 4], [30, 0, 1, 0, 0, -1, 1, 11]) ws (vs ++ [Value.int x]) := by
    refine ⟨nf_inA hl rfl, sgq_1431 ?_⟩
    · show 1 * v_iv (n_v (vs ++ [Value.int x]) 12) + ((-1) * w_fi ws (n_v (vs ++ [Value.int x]) 4) 11 + 0) ≤ 0
      simp only [e_4, e_12, q4]
      exact vc_Mo_groupItem_at_k1_11_1 (w_fi ws (n_v vs 0) 11) (w_fi ws (n_v vs 0) 5) (v_iv (Value.int x)) kz_0_11 ex2
  have nf2 : fc_1 PRD (20, [12, 4], [50, 1, 0, 1011, 1, 2, 1, 0, 2, 1, 11]) ws (vs ++ [Value.int x]) := by
    refine ⟨nf_inA hl rfl, sgq_1432 ?_⟩
    · show v_iv (n_v (vs ++ [Value.int x]) 12) = w_fi ws (n_v (vs ++ [Value.int x]) 4) 11
      simp only [e_4, e_12, q4]
      exact vc_Mo_groupItem_at_k1_11_2 (w_fi ws (n_v vs 0) 11) (w_fi ws (n_v vs 0) 5) (v_iv (Value.int x)) kz_0_11 ex2
  have nf3 : fc_1 PRD (20, [4], [60, 2, 0, 947, 10, 11]) ws (vs ++ [Value.int x]) := by
    refine ⟨nf_inA hl rfl, sgq_1433 ?_⟩
    · show ZLM (w_fi ws (n_v (vs ++ [Value.int x]) 4) 10) (w_fi ws (n_v (vs ++ [Value.int x]) 4) 11)
      simp only [e_4, q4]
      exact vc_Mo_groupItem_at_k1_11_3 (v_iv (n_v vs 1)) (v_iv (n_v vs 2)) (v_iv (n_v vs 7)) (v_iv (n_v vs 8)) (w_fi ws (n_v vs 0) 15) (w_fi ws (n_v vs 0) 11) (w_fi ws (n_v vs 0) 12) (w_ei ws (w_ar ws (n_v vs 0) 2)) (w_fi ws (n_v vs 0) 5) (w_ei ws (w_ar ws (n_v vs 0) 1)) (w_fi ws (n_v vs 0) 10) (w_fi ws (n_v vs 0) 13) (w_fi ws (n_v vs 0) 14) (w_fi ws (n_v vs 0) 8) k1 k2 k7 k8 f11 kz_0_8 kz_0_10 kz_0_11 kz_0_12 kz_0_13 kz_0_14 kz_0_15
  have nf4 : fc_1 PRD (23, [3, 12], [-1, 1, -1]) ws (vs ++ [Value.int x]) := by
    refine ⟨nf_inA hl rfl, sgq_193 ?_⟩
    · show 1 * v_iv (n_v (vs ++ [Value.int x]) 3) + ((-1) * v_iv (n_v (vs ++ [Value.int x]) 12) + 0) ≤ (-1)
      simp only [e_3, e_12]
      exact vc_Mo_groupItem_at_k1_11_4 (v_iv (n_v vs 3)) (w_fi ws (n_v vs 0) 11) (w_fi ws (n_v vs 0) 5) (v_iv (Value.int x)) k3 f6 kz_0_11 ex2
  have nf5 : fc_1 PRD (20, [4, 7, 6, 12], [60, 3, 2, 978, 10, 8, 5, 1, 2]) ws (vs ++ [Value.int x]) := by
    refine ⟨nf_inA hl rfl, sgq_2177 ?_⟩
    · show zTS7p (w_fi ws (n_v (vs ++ [Value.int x]) 4) 10) (w_fi ws (n_v (vs ++ [Value.int x]) 4) 8) (w_fi ws (n_v (vs ++ [Value.int x]) 4) 5) (w_ei ws (w_ar ws (n_v (vs ++ [Value.int x]) 4) 1)) (w_ei ws (w_ar ws (n_v (vs ++ [Value.int x]) 4) 2)) (v_iv (n_v (vs ++ [Value.int x]) 7)) (v_iv (n_v (vs ++ [Value.int x]) 6)) (v_iv (n_v (vs ++ [Value.int x]) 12))
      simp only [e_4, e_6, e_7, e_12, q4, q6]
      exact vc_Mo_groupItem_at_k1_11_5 (v_iv (n_v vs 1)) (v_iv (n_v vs 2)) (v_iv (n_v vs 7)) (v_iv (n_v vs 8)) (v_iv (n_v vs 9)) (v_iv (n_v vs 10)) (v_iv (n_v vs 11)) (w_fi ws (n_v vs 0) 15) (w_fi ws (n_v vs 0) 11) (w_fi ws (n_v vs 0) 12) (w_ei ws (w_ar ws (n_v vs 0) 2)) (w_fi ws (n_v vs 0) 5) (w_ei ws (w_ar ws (n_v vs 0) 1)) (w_fi ws (n_v vs 0) 10) (w_fi ws (n_v vs 0) 13) (w_fi ws (n_v vs 0) 14) (w_fi ws (n_v vs 0) 8) (v_iv (Value.int x)) k1 k2 k7 k8 k9 k10 k11 d0 f1 g2 g3 f11 kz_0_8 kz_0_10 kz_0_11 kz_0_12 kz_0_13 kz_0_14 kz_0_15 ex2
  have nf6 : fc_1 PRD (20, [3, 12], [30, -1, 1, 0, 0, -1, 0, 0]) ws (vs ++ [Value.int x]) := by
    refine ⟨nf_inA hl rfl, sgq_2151 ?_⟩
    · show 1 * v_iv (n_v (vs ++ [Value.int x]) 3) + ((-1) * v_iv (n_v (vs ++ [Value.int x]) 12) + 0) ≤ (-1)
      simp only [e_3, e_12]
      exact vc_Mo_groupItem_at_k1_11_6 (v_iv (n_v vs 3)) (w_fi ws (n_v vs 0) 11) (w_fi ws (n_v vs 0) 5) (v_iv (Value.int x)) k3 f6 kz_0_11 ex2
  exact ⟨(fun _ h => (by cases h)), [Value.int x], ag_one hx, List.forall_mem_cons.mpr ⟨⟨show (20 : Nat) < 100 from by decide, nf0⟩, List.forall_mem_cons.mpr ⟨⟨show (20 : Nat) < 100 from by decide, nf1⟩, List.forall_mem_cons.mpr ⟨⟨show (20 : Nat) < 100 from by decide, nf2⟩, List.forall_mem_cons.mpr ⟨⟨show (20 : Nat) < 100 from by decide, nf3⟩, List.forall_mem_cons.mpr ⟨⟨show (23 : Nat) < 100 from by decide, nf4⟩, List.forall_mem_cons.mpr ⟨⟨show (20 : Nat) < 100 from by decide, nf5⟩, List.forall_mem_cons.mpr ⟨⟨show (20 : Nat) < 100 from by decide, nf6⟩, (fun _ h => (by cases h))⟩⟩⟩⟩⟩⟩⟩, (fun _ h => (by cases h))⟩
set_option maxHeartbeats 4000000 in
theorem vc_Mo_groupItem_at_k1_12_0 (x3 : Int) (r_0 : Int) (gx : Int) (k3 : 0 ≤ x3 ∧ x3 ≤ 2000) (ex2 : gx = x3) : 1 * gx + ((-1) * x3 + 0) ≤ 0 := by
  first
    | omega
    | (have q1 := (hE_0_2_1 (r_0 + 2) (by omega)).2 (by omega)
       have q2 := (hE_0_2_2 (r_0 + 2) (by omega)).2 (by omega)
       omega)
    | (have q1 := (hE_0_2_1 (r_0 + 1) (by omega)).2 (by omega)
       have q2 := (hE_0_2_2 (r_0 + 1) (by omega)).2 (by omega)
       omega)
    | (have q1 := (hE_0_2_1 (r_0 + 2) (by omega)).2 (by omega)
       omega)
    | (have q1 := (hE_0_2_1 (r_0 + 1) (by omega)).2 (by omega)
       omega)
    | (have q1 := (hE_0_2_1 (r_0 + 2) (by omega)).2 (by omega)
       have q2 := (hE_0_2_2 (r_0 + 2) (by omega)).2 (by omega)
       have q3 := (hE_0_2_3 (r_0 + 2) (by omega)).1 (by omega)
       omega)
    | (have q1 := (hE_0_2_1 (r_0 + 2) (by omega)).2 (by omega)
       have q2 := (hE_0_2_2 (r_0 + 2) (by omega)).2 (by omega)
       have q3 := (hE_0_2_3 (r_0 + 2) (by omega)).2 (by omega)
       omega)
    | (have q1 := (hE_0_2_1 (r_0 + 2) (by omega)).2 (by omega)
       have q2 := (hE_0_2_2 (r_0 + 2) (by omega)).2 (by omega)
       have q3 := (hE_0_2_3 (r_0 + 2) (by omega)).1 (by omega)
       have q4 : x13 = r_0 + 2 := by omega
       simp only [q4] at *
       omega)
set_option maxHeartbeats 4000000 in
theorem vc_Mo_groupItem_at_k1_12_1 (x3 : Int) (r_0 : Int) (gx : Int) (k3 : 0 ≤ x3 ∧ x3 ≤ 2000) (ex2 : gx = x3) : (-1) * gx + (1 * x3 + 0) ≤ 0 := by
  first
    | omega
    | (have q1 := (hE_0_2_1 (r_0 + 2) (by omega)).2 (by omega)
       have q2 := (hE_0_2_2 (r_0 + 2) (by omega)).2 (by omega)
       omega)
    | (have q1 := (hE_0_2_1 (r_0 + 1) (by omega)).2 (by omega)
       have q2 := (hE_0_2_2 (r_0 + 1) (by omega)).2 (by omega)
       omega)
    | (have q1 := (hE_0_2_1 (r_0 + 2) (by omega)).2 (by omega)
       omega)
    | (have q1 := (hE_0_2_1 (r_0 + 1) (by omega)).2 (by omega)
       omega)
    | (have q1 := (hE_0_2_1 (r_0 + 2) (by omega)).2 (by omega)
       have q2 := (hE_0_2_2 (r_0 + 2) (by omega)).2 (by omega)
       have q3 := (hE_0_2_3 (r_0 + 2) (by omega)).1 (by omega)
       omega)
    | (have q1 := (hE_0_2_1 (r_0 + 2) (by omega)).2 (by omega)
       have q2 := (hE_0_2_2 (r_0 + 2) (by omega)).2 (by omega)
       have q3 := (hE_0_2_3 (r_0 + 2) (by omega)).2 (by omega)
       omega)
    | (have q1 := (hE_0_2_1 (r_0 + 2) (by omega)).2 (by omega)
       have q2 := (hE_0_2_2 (r_0 + 2) (by omega)).2 (by omega)
       have q3 := (hE_0_2_3 (r_0 + 2) (by omega)).1 (by omega)
       have q4 : x13 = r_0 + 2 := by omega
       simp only [q4] at *
       omega)
set_option maxHeartbeats 4000000 in
theorem vc_Mo_groupItem_at_k1_12_2 (x7 : Int) (r_0 : Int) (gy : Int) (k7 : 0 ≤ x7 ∧ x7 ≤ 7) (ey2 : gy = x7) : 1 * gy + ((-1) * x7 + 0) ≤ 0 := by
  first
    | omega
    | (have q1 := (hE_0_2_1 (r_0 + 2) (by omega)).2 (by omega)
       have q2 := (hE_0_2_2 (r_0 + 2) (by omega)).2 (by omega)
       omega)
    | (have q1 := (hE_0_2_1 (r_0 + 1) (by omega)).2 (by omega)
       have q2 := (hE_0_2_2 (r_0 + 1) (by omega)).2 (by omega)
       omega)
    | (have q1 := (hE_0_2_1 (r_0 + 2) (by omega)).2 (by omega)
       omega)
    | (have q1 := (hE_0_2_1 (r_0 + 1) (by omega)).2 (by omega)
       omega)
    | (have q1 := (hE_0_2_1 (r_0 + 2) (by omega)).2 (by omega)
       have q2 := (hE_0_2_2 (r_0 + 2) (by omega)).2 (by omega)
       have q3 := (hE_0_2_3 (r_0 + 2) (by omega)).1 (by omega)
       omega)
    | (have q1 := (hE_0_2_1 (r_0 + 2) (by omega)).2 (by omega)
       have q2 := (hE_0_2_2 (r_0 + 2) (by omega)).2 (by omega)
       have q3 := (hE_0_2_3 (r_0 + 2) (by omega)).2 (by omega)
       omega)
    | (have q1 := (hE_0_2_1 (r_0 + 2) (by omega)).2 (by omega)
       have q2 := (hE_0_2_2 (r_0 + 2) (by omega)).2 (by omega)
       have q3 := (hE_0_2_3 (r_0 + 2) (by omega)).1 (by omega)
       have q4 : x13 = r_0 + 2 := by omega
       simp only [q4] at *
       omega)
set_option maxHeartbeats 4000000 in
theorem vc_Mo_groupItem_at_k1_12_3 (x7 : Int) (r_0 : Int) (gy : Int) (k7 : 0 ≤ x7 ∧ x7 ≤ 7) (ey2 : gy = x7) : (-1) * gy + (1 * x7 + 0) ≤ 0 := by
  first
    | omega
    | (have q1 := (hE_0_2_1 (r_0 + 2) (by omega)).2 (by omega)
       have q2 := (hE_0_2_2 (r_0 + 2) (by omega)).2 (by omega)
       omega)
    | (have q1 := (hE_0_2_1 (r_0 + 1) (by omega)).2 (by omega)
       have q2 := (hE_0_2_2 (r_0 + 1) (by omega)).2 (by omega)
       omega)
    | (have q1 := (hE_0_2_1 (r_0 + 2) (by omega)).2 (by omega)
       omega)
    | (have q1 := (hE_0_2_1 (r_0 + 1) (by omega)).2 (by omega)
       omega)
    | (have q1 := (hE_0_2_1 (r_0 + 2) (by omega)).2 (by omega)
       have q2 := (hE_0_2_2 (r_0 + 2) (by omega)).2 (by omega)
       have q3 := (hE_0_2_3 (r_0 + 2) (by omega)).1 (by omega)
       omega)
    | (have q1 := (hE_0_2_1 (r_0 + 2) (by omega)).2 (by omega)
       have q2 := (hE_0_2_2 (r_0 + 2) (by omega)).2 (by omega)
       have q3 := (hE_0_2_3 (r_0 + 2) (by omega)).2 (by omega)
       omega)
    | (have q1 := (hE_0_2_1 (r_0 + 2) (by omega)).2 (by omega)
       have q2 := (hE_0_2_2 (r_0 + 2) (by omega)).2 (by omega)
       have q3 := (hE_0_2_3 (r_0 + 2) (by omega)).1 (by omega)
       have q4 : x13 = r_0 + 2 := by omega
       simp only [q4] at *
       omega)
set_option maxHeartbeats 4000000 in
theorem vc_Mo_groupItem_at_k1_12_4 (x2 : Int) (r_0 : Int) (gu : Int) (k2 : 1 ≤ x2 ∧ x2 ≤ 1) (eu2 : gu = x2) : 1 * gu + ((-1) * x2 + 0) ≤ 0 := by
  first
    | omega
    | (have q1 := (hE_0_2_1 (r_0 + 2) (by omega)).2 (by omega)
       have q2 := (hE_0_2_2 (r_0 + 2) (by omega)).2 (by omega)
       omega)
    | (have q1 := (hE_0_2_1 (r_0 + 1) (by omega)).2 (by omega)
       have q2 := (hE_0_2_2 (r_0 + 1) (by omega)).2 (by omega)
       omega)
    | (have q1 := (hE_0_2_1 (r_0 + 2) (by omega)).2 (by omega)
       omega)
    | (have q1 := (hE_0_2_1 (r_0 + 1) (by omega)).2 (by omega)
       omega)
    | (have q1 := (hE_0_2_1 (r_0 + 2) (by omega)).2 (by omega)
       have q2 := (hE_0_2_2 (r_0 + 2) (by omega)).2 (by omega)
       have q3 := (hE_0_2_3 (r_0 + 2) (by omega)).1 (by omega)
       omega)
    | (have q1 := (hE_0_2_1 (r_0 + 2) (by omega)).2 (by omega)
       have q2 := (hE_0_2_2 (r_0 + 2) (by omega)).2 (by omega)
       have q3 := (hE_0_2_3 (r_0 + 2) (by omega)).2 (by omega)
       omega)
    | (have q1 := (hE_0_2_1 (r_0 + 2) (by omega)).2 (by omega)
       have q2 := (hE_0_2_2 (r_0 + 2) (by omega)).2 (by omega)
       have q3 := (hE_0_2_3 (r_0 + 2) (by omega)).1 (by omega)
       have q4 : x13 = r_0 + 2 := by omega
       simp only [q4] at *
       omega)
set_option maxHeartbeats 4000000 in
theorem vc_Mo_groupItem_at_k1_12_5 (x2 : Int) (r_0 : Int) (gu : Int) (k2 : 1 ≤ x2 ∧ x2 ≤ 1) (eu2 : gu = x2) : (-1) * gu + (1 * x2 + 0) ≤ 0 := by
  first
    | omega
    | (have q1 := (hE_0_2_1 (r_0 + 2) (by omega)).2 (by omega)
       have q2 := (hE_0_2_2 (r_0 + 2) (by omega)).2 (by omega)
       omega)
    | (have q1 := (hE_0_2_1 (r_0 + 1) (by omega)).2 (by omega)
       have q2 := (hE_0_2_2 (r_0 + 1) (by omega)).2 (by omega)
       omega)
    | (have q1 := (hE_0_2_1 (r_0 + 2) (by omega)).2 (by omega)
       omega)
    | (have q1 := (hE_0_2_1 (r_0 + 1) (by omega)).2 (by omega)
       omega)
    | (have q1 := (hE_0_2_1 (r_0 + 2) (by omega)).2 (by omega)
       have q2 := (hE_0_2_2 (r_0 + 2) (by omega)).2 (by omega)
       have q3 := (hE_0_2_3 (r_0 + 2) (by omega)).1 (by omega)
       omega)
    | (have q1 := (hE_0_2_1 (r_0 + 2) (by omega)).2 (by omega)
       have q2 := (hE_0_2_2 (r_0 + 2) (by omega)).2 (by omega)
       have q3 := (hE_0_2_3 (r_0 + 2) (by omega)).2 (by omega)
       omega)
    | (have q1 := (hE_0_2_1 (r_0 + 2) (by omega)).2 (by omega)
       have q2 := (hE_0_2_2 (r_0 + 2) (by omega)).2 (by omega)
       have q3 := (hE_0_2_3 (r_0 + 2) (by omega)).1 (by omega)
       have q4 : x13 = r_0 + 2 := by omega
       simp only [q4] at *
       omega)
set_option maxHeartbeats 4000000 in
theorem vc_Mo_groupItem_at_k1_12_6 (r_0 : Int) (from_0 : Int) (pos_0 : Int) (f10 : 1 * from_0 + ((-1) * pos_0 + 0) ≤ 0) (kz_0_11 : 0 ≤ pos_0 ∧ pos_0 ≤ 2000) (kz_0_15 : 0 ≤ from_0 ∧ from_0 ≤ 2000) : 1 * from_0 + ((-1) * pos_0 + 0) ≤ 0 := by
  first
    | omega
    | (have q1 := (hE_0_2_1 (r_0 + 2) (by omega)).2 (by omega)
       have q2 := (hE_0_2_2 (r_0 + 2) (by omega)).2 (by omega)
       omega)
    | (have q1 := (hE_0_2_1 (r_0 + 1) (by omega)).2 (by omega)
       have q2 := (hE_0_2_2 (r_0 + 1) (by omega)).2 (by omega)
       omega)
    | (have q1 := (hE_0_2_1 (r_0 + 2) (by omega)).2 (by omega)
       omega)
    | (have q1 := (hE_0_2_1 (r_0 + 1) (by omega)).2 (by omega)
       omega)
    | (have q1 := (hE_0_2_1 (r_0 + 2) (by omega)).2 (by omega)
       have q2 := (hE_0_2_2 (r_0 + 2) (by omega)).2 (by omega)
       have q3 := (hE_0_2_3 (r_0 + 2) (by omega)).1 (by omega)
       omega)
    | (have q1 := (hE_0_2_1 (r_0 + 2) (by omega)).2 (by omega)
       have q2 := (hE_0_2_2 (r_0 + 2) (by omega)).2 (by omega)
       have q3 := (hE_0_2_3 (r_0 + 2) (by omega)).2 (by omega)
       omega)
    | (have q1 := (hE_0_2_1 (r_0 + 2) (by omega)).2 (by omega)
       have q2 := (hE_0_2_2 (r_0 + 2) (by omega)).2 (by omega)
       have q3 := (hE_0_2_3 (r_0 + 2) (by omega)).1 (by omega)
       have q4 : x13 = r_0 + 2 := by omega
       simp only [q4] at *
       omega)
set_option maxHeartbeats 4000000 in
theorem vc_Mo_groupItem_at_k1_12_7 (r_0 : Int) (from_0 : Int) (pos_0 : Int) (kind_0 : Int) (f11 : ((kind_0 = 1) → (pos_0 ≤ (from_0 + 8))) ∧ ((kind_0 = 0) ∨ ((from_0 + 1) ≤ pos_0))) (kz_0_11 : 0 ≤ pos_0 ∧ pos_0 ≤ 2000) (kz_0_12 : 0 ≤ kind_0 ∧ kind_0 ≤ 4) (kz_0_15 : 0 ≤ from_0 ∧ from_0 ≤ 2000) : ((kind_0 = 1) → (pos_0 ≤ (from_0 + 8))) ∧ ((kind_0 = 0) ∨ ((from_0 + 1) ≤ pos_0)) := by
  first
    | omega
    | (have q1 := (hE_0_2_1 (r_0 + 2) (by omega)).2 (by omega)
       have q2 := (hE_0_2_2 (r_0 + 2) (by omega)).2 (by omega)
       omega)
    | (have q1 := (hE_0_2_1 (r_0 + 1) (by omega)).2 (by omega)
       have q2 := (hE_0_2_2 (r_0 + 1) (by omega)).2 (by omega)
       omega)
    | (have q1 := (hE_0_2_1 (r_0 + 2) (by omega)).2 (by omega)
       omega)
    | (have q1 := (hE_0_2_1 (r_0 + 1) (by omega)).2 (by omega)
       omega)
    | (have q1 := (hE_0_2_1 (r_0 + 2) (by omega)).2 (by omega)
       have q2 := (hE_0_2_2 (r_0 + 2) (by omega)).2 (by omega)
       have q3 := (hE_0_2_3 (r_0 + 2) (by omega)).1 (by omega)
       omega)
    | (have q1 := (hE_0_2_1 (r_0 + 2) (by omega)).2 (by omega)
       have q2 := (hE_0_2_2 (r_0 + 2) (by omega)).2 (by omega)
       have q3 := (hE_0_2_3 (r_0 + 2) (by omega)).2 (by omega)
       omega)
    | (have q1 := (hE_0_2_1 (r_0 + 2) (by omega)).2 (by omega)
       have q2 := (hE_0_2_2 (r_0 + 2) (by omega)).2 (by omega)
       have q3 := (hE_0_2_3 (r_0 + 2) (by omega)).1 (by omega)
       have q4 : x13 = r_0 + 2 := by omega
       simp only [q4] at *
       omega)
set_option maxHeartbeats 4000000 in
theorem vc_Mo_groupItem_at_k1_12_8 (x3 : Int) (x12 : Int) (r_0 : Int) (from_0 : Int) (pos_0 : Int) (gx : Int) (k3 : 0 ≤ x3 ∧ x3 ≤ 2000) (k12 : 0 ≤ x12 ∧ x12 ≤ 2000) (f1 : 1 * x3 + ((-1) * x12 + 0) ≤ (-1)) (f10 : 1 * from_0 + ((-1) * pos_0 + 0) ≤ 0) (f12 : 1 * x12 + ((-1) * from_0 + 0) ≤ 0) (kz_0_11 : 0 ≤ pos_0 ∧ pos_0 ≤ 2000) (kz_0_15 : 0 ≤ from_0 ∧ from_0 ≤ 2000) (ex2 : gx = x3) : 1 * gx + ((-1) * pos_0 + 0) ≤ 0 := by
  first
    | omega
    | (have q1 := (hE_0_2_1 (r_0 + 2) (by omega)).2 (by omega)
       have q2 := (hE_0_2_2 (r_0 + 2) (by omega)).2 (by omega)
       omega)
    | (have q1 := (hE_0_2_1 (r_0 + 1) (by omega)).2 (by omega)
       have q2 := (hE_0_2_2 (r_0 + 1) (by omega)).2 (by omega)
       omega)
    | (have q1 := (hE_0_2_1 (r_0 + 2) (by omega)).2 (by omega)
       omega)
    | (have q1 := (hE_0_2_1 (r_0 + 1) (by omega)).2 (by omega)
       omega)
    | (have q1 := (hE_0_2_1 (r_0 + 2) (by omega)).2 (by omega)
       have q2 := (hE_0_2_2 (r_0 + 2) (by omega)).2 (by omega)
       have q3 := (hE_0_2_3 (r_0 + 2) (by omega)).1 (by omega)
       omega)
    | (have q1 := (hE_0_2_1 (r_0 + 2) (by omega)).2 (by omega)
       have q2 := (hE_0_2_2 (r_0 + 2) (by omega)).2 (by omega)
       have q3 := (hE_0_2_3 (r_0 + 2) (by omega)).2 (by omega)
       omega)
    | (have q1 := (hE_0_2_1 (r_0 + 2) (by omega)).2 (by omega)
       have q2 := (hE_0_2_2 (r_0 + 2) (by omega)).2 (by omega)
       have q3 := (hE_0_2_3 (r_0 + 2) (by omega)).1 (by omega)
       have q4 : x13 = r_0 + 2 := by omega
       simp only [q4] at *
       omega)
set_option maxHeartbeats 4000000 in
theorem vc_Mo_groupItem_at_k1_12_9 (x3 : Int) (x12 : Int) (fault_0 : Int) (r_0 : Int) (from_0 : Int) (pos_0 : Int) (kind_0 : Int) (gx : Int) (k3 : 0 ≤ x3 ∧ x3 ≤ 2000) (k12 : 0 ≤ x12 ∧ x12 ≤ 2000) (f1 : 1 * x3 + ((-1) * x12 + 0) ≤ (-1)) (f10 : 1 * from_0 + ((-1) * pos_0 + 0) ≤ 0) (f12 : 1 * x12 + ((-1) * from_0 + 0) ≤ 0) (kz_0_8 : 0 ≤ fault_0 ∧ fault_0 ≤ 5) (kz_0_11 : 0 ≤ pos_0 ∧ pos_0 ≤ 2000) (kz_0_12 : 0 ≤ kind_0 ∧ kind_0 ≤ 4) (kz_0_15 : 0 ≤ from_0 ∧ from_0 ≤ 2000) (ex2 : gx = x3) : (1 ≤ fault_0) ∨ ((kind_0 = 0) ∨ ((gx + 1) ≤ pos_0)) := by
  first
    | omega
    | (have q1 := (hE_0_2_1 (r_0 + 2) (by omega)).2 (by omega)
       have q2 := (hE_0_2_2 (r_0 + 2) (by omega)).2 (by omega)
       omega)
    | (have q1 := (hE_0_2_1 (r_0 + 1) (by omega)).2 (by omega)
       have q2 := (hE_0_2_2 (r_0 + 1) (by omega)).2 (by omega)
       omega)
    | (have q1 := (hE_0_2_1 (r_0 + 2) (by omega)).2 (by omega)
       omega)
    | (have q1 := (hE_0_2_1 (r_0 + 1) (by omega)).2 (by omega)
       omega)
    | (have q1 := (hE_0_2_1 (r_0 + 2) (by omega)).2 (by omega)
       have q2 := (hE_0_2_2 (r_0 + 2) (by omega)).2 (by omega)
       have q3 := (hE_0_2_3 (r_0 + 2) (by omega)).1 (by omega)
       omega)
    | (have q1 := (hE_0_2_1 (r_0 + 2) (by omega)).2 (by omega)
       have q2 := (hE_0_2_2 (r_0 + 2) (by omega)).2 (by omega)
       have q3 := (hE_0_2_3 (r_0 + 2) (by omega)).2 (by omega)
       omega)
    | (have q1 := (hE_0_2_1 (r_0 + 2) (by omega)).2 (by omega)
       have q2 := (hE_0_2_2 (r_0 + 2) (by omega)).2 (by omega)
       have q3 := (hE_0_2_3 (r_0 + 2) (by omega)).1 (by omega)
       have q4 : x13 = r_0 + 2 := by omega
       simp only [q4] at *
       omega)
set_option maxHeartbeats 4000000 in
theorem vc_Mo_groupItem_at_k1_12_10 (x2 : Int) (x3 : Int) (x7 : Int) (x12 : Int) (tape_0 : Int → Int) (limit_0 : Int) (all_0 : Int → Int) (fault_0 : Int) (r_0 : Int) (from_0 : Int) (pos_0 : Int) (kind_0 : Int) (place_0 : Int) (value_0 : Int) (faultPlace_0 : Int) (gx : Int) (gy : Int) (gu : Int) (k2 : 1 ≤ x2 ∧ x2 ≤ 1) (k3 : 0 ≤ x3 ∧ x3 ≤ 2000) (k7 : 0 ≤ x7 ∧ x7 ≤ 7) (k12 : 0 ≤ x12 ∧ x12 ≤ 2000) (f2 : zTS7p (limit_0) (fault_0) (r_0) (tape_0) (all_0) (x7) (x2) (x12)) (f13 : TKR (limit_0) (pos_0) (kind_0) (place_0) (value_0) (from_0) (tape_0) (x12)) (kz_0_8 : 0 ≤ fault_0 ∧ fault_0 ≤ 5) (kz_0_9 : 0 ≤ faultPlace_0 ∧ faultPlace_0 ≤ 2000) (kz_0_10 : 0 ≤ limit_0 ∧ limit_0 ≤ 2000) (kz_0_11 : 0 ≤ pos_0 ∧ pos_0 ≤ 2000) (kz_0_12 : 0 ≤ kind_0 ∧ kind_0 ≤ 4) (kz_0_13 : 0 ≤ place_0 ∧ place_0 ≤ 2000) (kz_0_14 : (-49) ≤ value_0 ∧ value_0 ≤ 1048575) (kz_0_15 : 0 ≤ from_0 ∧ from_0 ≤ 2000) (ex2 : gx = x3) (ey2 : gy = x7) (eu2 : gu = x2) : zONo (limit_0) (pos_0) (kind_0) (place_0) (value_0) (from_0) (fault_0) (faultPlace_0) (r_0) (tape_0) (all_0) (gy) (gu) := by
  first | subst ex2 | skip
  first | subst ey2 | skip
  first | subst eu2 | skip
  exact Or.inr (no_7 (rsq_of ‹zTS7p _ _ _ _ _ _ _ _› ‹TKR _ _ _ _ _ _ _ _›))
def o_Mo_groupItem_at_k1_12 : or_T := (167, 14, [(0, (2, 0, 0, [165])), (2, (0, 1, 1, [])), (3, (0, 0, 2000, [])), (7, (0, 0, 7, [])), (12, (0, 0, 2000, []))], [(23, [3, 12], [-1, 1, -1]), (20, [4, 7, 6, 12], [60, 3, 2, 978, 10, 8, 5, 1, 2]), (24, [0, 4], []), (24, [2, 6], []), (20, [4, 4], [30, 0, 1, 1, 15, -1, 1, 11]), (20, [4], [50, 3, 0, 12, 11, 15, 2, 21, 4, 7, 1, 3, 2, 0, 12, 0, 1, 0, 3, 2, 0, 11, 4, 3, 2, 0, 15, 0, 8, 3, 7, 1, 3, 2, 0, 12, 0, 0, 0, 7, 4, 3, 2, 0, 15, 0, 1, 2, 0, 11]), (20, [12, 4], [30, 0, 1, 0, 0, -1, 1, 15]), (20, [4, 12], [60, 6, 1, 948, 10, 11, 12, 13, 14, 15, 1])], [], [(0, 0, 2000, []), (0, 0, 7, []), (0, 0, 4, [])], [(23, [14, 3], [0, 1, -1]), (23, [14, 3], [0, -1, 1]), (23, [15, 7], [0, 1, -1]), (23, [15, 7], [0, -1, 1]), (23, [16, 6], [0, 1, -1]), (23, [16, 6], [0, -1, 1]), (20, [4, 4], [30, 0, 1, 1, 15, -1, 1, 11]), (20, [4], [50, 3, 0, 12, 11, 15, 2, 21, 4, 7, 1, 3, 2, 0, 12, 0, 1, 0, 3, 2, 0, 11, 4, 3, 2, 0, 15, 0, 8, 3, 7, 1, 3, 2, 0, 12, 0, 0, 0, 7, 4, 3, 2, 0, 15, 0, 1, 2, 0, 11]), (20, [14, 4], [30, 0, 1, 0, 0, -1, 1, 11]), (20, [4, 14], [50, 3, 0, 8, 12, 11, 3, 7, 0, 2, 0, 1, 2, 0, 8, 3, 7, 1, 3, 2, 0, 12, 0, 0, 0, 6, 4, 2, 1, 1, 0, 1, 2, 0, 11]), (20, [4, 15, 16], [60, 9, 2, 1021, 10, 11, 12, 13, 14, 15, 8, 9, 5, 1, 2])], [], [])
theorem oo_Mo_groupItem_at_k1_12 {kA : Nat → ClassId} : or_ok PRD kA GG o_Mo_groupItem_at_k1_12 := by
  refine or_mk fun A ta ws vs hD hth hl => ?_
  intro t0 r0 t2 k2 t3 k3 t7 k7 t12 k12 f1 f2 f7 f9 f10 f11 f12 f13
  replace f1 := shm_193 f1
  replace f2 := shm_2177 f2
  replace f7 := shm_5 f7
  replace f9 := shm_5 f9
  replace f10 := shm_1437 f10
  replace f11 := shm_1438 f11
  replace f12 := shm_1436 f12
  replace f13 := shm_1439 f13
  have q4 : n_v vs 4 = n_v vs 0 := f7.symm
  have q6 : n_v vs 6 = n_v vs 2 := f9.symm
  simp only [q4, q6] at f2 f10 f11 f12 f13
  have kz_0_8 := fdq_34 hD hth r0
  have kz_0_9 := fdq_44 hD hth r0
  have kz_0_10 := fdq_43 hD hth r0
  have kz_0_11 := fdq_237 hD hth r0
  have kz_0_12 := fdq_187 hD hth r0
  have kz_0_13 := fdq_238 hD hth r0
  have kz_0_14 := fdq_188 hD hth r0
  have kz_0_15 := fdq_239 hD hth r0
  obtain ⟨x, ex, hx⟩ := iv_ex (ta := ta) (lo := 0) (hi := 2000) (z := v_iv (n_v vs 3)) (by omega) (by omega) (by omega) (by omega)
  have ex2 : v_iv (Value.int x) = v_iv (n_v vs 3) := ex
  have ex3 : 0 ≤ v_iv (Value.int x) ∧ v_iv (Value.int x) ≤ 2000 := tv_rng hx
  obtain ⟨y, ey, hy⟩ := iv_ex (ta := ta) (lo := 0) (hi := 7) (z := v_iv (n_v vs 7)) (by omega) (by omega) (by omega) (by omega)
  have ey2 : v_iv (Value.int y) = v_iv (n_v vs 7) := ey
  have ey3 : 0 ≤ v_iv (Value.int y) ∧ v_iv (Value.int y) ≤ 7 := tv_rng hy
  obtain ⟨u, eu, hu⟩ := iv_ex (ta := ta) (lo := 0) (hi := 4) (z := v_iv (n_v vs 2)) (by omega) (by omega) (by omega) (by omega)
  have eu2 : v_iv (Value.int u) = v_iv (n_v vs 2) := eu
  have eu3 : 0 ≤ v_iv (Value.int u) ∧ v_iv (Value.int u) ≤ 4 := tv_rng hu
  have e_3 : n_v (vs ++ [Value.int x, Value.int y, Value.int u]) 3 = n_v vs 3 := n_v_old (by rw [hl]; decide)
  have e_4 : n_v (vs ++ [Value.int x, Value.int y, Value.int u]) 4 = n_v vs 4 := n_v_old (by rw [hl]; decide)
  have e_6 : n_v (vs ++ [Value.int x, Value.int y, Value.int u]) 6 = n_v vs 6 := n_v_old (by rw [hl]; decide)
  have e_7 : n_v (vs ++ [Value.int x, Value.int y, Value.int u]) 7 = n_v vs 7 := n_v_old (by rw [hl]; decide)
  have e_14 : n_v (vs ++ [Value.int x, Value.int y, Value.int u]) 14 = Value.int x := n_v_newk (k := 0) hl rfl
  have e_15 : n_v (vs ++ [Value.int x, Value.int y, Value.int u]) 15 = Value.int y := n_v_newk (k := 1) hl rfl
  have e_16 : n_v (vs ++ [Value.int x, Value.int y, Value.int u]) 16 = Value.int u := n_v_newk (k := 2) hl rfl
  have nf0 : fc_1 PRD (23, [14, 3], [0, 1, -1]) ws (vs ++ [Value.int x, Value.int y, Value.int u]) := by
    refine ⟨nf_inA hl rfl, sgq_7 ?_⟩
    · show 1 * v_iv (n_v (vs ++ [Value.int x, Value.int y, Value.int u]) 14) + ((-1) * v_iv (n_v (vs ++ [Value.int x, Value.int y, Value.int u]) 3) + 0) ≤ 0
      simp only [e_3, e_14]
      exact vc_Mo_groupItem_at_k1_12_0 (v_iv (n_v vs 3)) (w_fi ws (n_v vs 0) 5) (v_iv (Value.int x)) k3 ex2
  have nf1 : fc_1 PRD (23, [14, 3], [0, -1, 1]) ws (vs ++ [Value.int x, Value.int y, Value.int u]) := by
    refine ⟨nf_inA hl rfl, sgq_22 ?_⟩
    · show (-1) * v_iv (n_v (vs ++ [Value.int x, Value.int y, Value.int u]) 14) + (1 * v_iv (n_v (vs ++ [Value.int x, Value.int y, Value.int u]) 3) + 0) ≤ 0
      simp only [e_3, e_14]
      exact vc_Mo_groupItem_at_k1_12_1 (v_iv (n_v vs 3)) (w_fi ws (n_v vs 0) 5) (v_iv (Value.int x)) k3 ex2
  have nf2 : fc_1 PRD (23, [15, 7], [0, 1, -1]) ws (vs ++ [Value.int x, Value.int y, Value.int u]) := by
    refine ⟨nf_inA hl rfl, sgq_7 ?_⟩
    · show 1 * v_iv (n_v (vs ++ [Value.int x, Value.int y, Value.int u]) 15) + ((-1) * v_iv (n_v (vs ++ [Value.int x, Value.int y, Value.int u]) 7) + 0) ≤ 0
      simp only [e_7, e_15]
      exact vc_Mo_groupItem_at_k1_12_2 (v_iv (n_v vs 7)) (w_fi ws (n_v vs 0) 5) (v_iv (Value.int y)) k7 ey2
  have nf3 : fc_1 PRD (23, [15, 7], [0, -1, 1]) ws (vs ++ [Value.int x, Value.int y, Value.int u]) := by
    refine ⟨nf_inA hl rfl, sgq_22 ?_⟩
    · show (-1) * v_iv (n_v (vs ++ [Value.int x, Value.int y, Value.int u]) 15) + (1 * v_iv (n_v (vs ++ [Value.int x, Value.int y, Value.int u]) 7) + 0) ≤ 0
      simp only [e_7, e_15]
      exact vc_Mo_groupItem_at_k1_12_3 (v_iv (n_v vs 7)) (w_fi ws (n_v vs 0) 5) (v_iv (Value.int y)) k7 ey2
  have nf4 : fc_1 PRD (23, [16, 6], [0, 1, -1]) ws (vs ++ [Value.int x, Value.int y, Value.int u]) := by
    refine ⟨nf_inA hl rfl, sgq_7 ?_⟩
    · show 1 * v_iv (n_v (vs ++ [Value.int x, Value.int y, Value.int u]) 16) + ((-1) * v_iv (n_v (vs ++ [Value.int x, Value.int y, Value.int u]) 6) + 0) ≤ 0
      simp only [e_6, e_16, q6]
      exact vc_Mo_groupItem_at_k1_12_4 (v_iv (n_v vs 2)) (w_fi ws (n_v vs 0) 5) (v_iv (Value.int u)) k2 eu2
  have nf5 : fc_1 PRD (23, [16, 6], [0, -1, 1]) ws (vs ++ [Value.int x, Value.int y, Value.int u]) := by
    refine ⟨nf_inA hl rfl, sgq_22 ?_⟩
    · show (-1) * v_iv (n_v (vs ++ [Value.int x, Value.int y, Value.int u]) 16) + (1 * v_iv (n_v (vs ++ [Value.int x, Value.int y, Value.int u]) 6) + 0) ≤ 0
      simp only [e_6, e_16, q6]
      exact vc_Mo_groupItem_at_k1_12_5 (v_iv (n_v vs 2)) (w_fi ws (n_v vs 0) 5) (v_iv (Value.int u)) k2 eu2
  have nf6 : fc_1 PRD (20, [4, 4], [30, 0, 1, 1, 15, -1, 1, 11]) ws (vs ++ [Value.int x, Value.int y, Value.int u]) := by
    refine ⟨nf_inA hl rfl, sgq_1437 ?_⟩
    · show 1 * w_fi ws (n_v (vs ++ [Value.int x, Value.int y, Value.int u]) 4) 15 + ((-1) * w_fi ws (n_v (vs ++ [Value.int x, Value.int y, Value.int u]) 4) 11 + 0) ≤ 0
      simp only [e_4, q4]
      exact vc_Mo_groupItem_at_k1_12_6 (w_fi ws (n_v vs 0) 5) (w_fi ws (n_v vs 0) 15) (w_fi ws (n_v vs 0) 11) f10 kz_0_11 kz_0_15
  have nf7 : fc_1 PRD (20, [4], [50, 3, 0, 12, 11, 15, 2, 21, 4, 7, 1, 3, 2, 0, 12, 0, 1, 0, 3, 2, 0, 11, 4, 3, 2, 0, 15, 0, 8, 3, 7, 1, 3, 2, 0, 12, 0, 0, 0, 7, 4, 3, 2, 0, 15, 0, 1, 2, 0, 11]) ws (vs ++ [Value.int x, Value.int y, Value.int u]) := by
    refine ⟨nf_inA hl rfl, sgq_1438 ?_⟩
    · show ((w_fi ws (n_v (vs ++ [Value.int x, Value.int y, Value.int u]) 4) 12 = 1) → (w_fi ws (n_v (vs ++ [Value.int x, Value.int y, Value.int u]) 4) 11 ≤ (w_fi ws (n_v (vs ++ [Value.int x, Value.int y, Value.int u]) 4) 15 + 8))) ∧ ((w_fi ws (n_v (vs ++ [Value.int x, Value.int y, Value.int u]) 4) 12 = 0) ∨ ((w_fi ws (n_v (vs ++ [Value.int x, Value.int y, Value.int u]) 4) 15 + 1) ≤ w_fi ws (n_v (vs ++ [Value.int x, Value.int y, Value.int u]) 4) 11))
      simp only [e_4, q4]
      exact vc_Mo_groupItem_at_k1_12_7 (w_fi ws (n_v vs 0) 5) (w_fi ws (n_v vs 0) 15) (w_fi ws (n_v vs 0) 11) (w_fi ws (n_v vs 0) 12) f11 kz_0_11 kz_0_12 kz_0_15
  have nf8 : fc_1 PRD (20, [14, 4], [30, 0, 1, 0, 0, -1, 1, 11]) ws (vs ++ [Value.int x, Value.int y, Value.int u]) := by
    refine ⟨nf_inA hl rfl, sgq_1431 ?_⟩
    · show 1 * v_iv (n_v (vs ++ [Value.int x, Value.int y, Value.int u]) 14) + ((-1) * w_fi ws (n_v (vs ++ [Value.int x, Value.int y, Value.int u]) 4) 11 + 0) ≤ 0
      simp only [e_4, e_14, q4]
      exact vc_Mo_groupItem_at_k1_12_8 (v_iv (n_v vs 3)) (v_iv (n_v vs 12)) (w_fi ws (n_v vs 0) 5) (w_fi ws (n_v vs 0) 15) (w_fi ws (n_v vs 0) 11) (v_iv (Value.int x)) k3 k12 f1 f10 f12 kz_0_11 kz_0_15 ex2
  have nf9 : fc_1 PRD (20, [4, 14], [50, 3, 0, 8, 12, 11, 3, 7, 0, 2, 0, 1, 2, 0, 8, 3, 7, 1, 3, 2, 0, 12, 0, 0, 0, 6, 4, 2, 1, 1, 0, 1, 2, 0, 11]) ws (vs ++ [Value.int x, Value.int y, Value.int u]) := by
    refine ⟨nf_inA hl rfl, sgq_1722 ?_⟩
    · show (1 ≤ w_fi ws (n_v (vs ++ [Value.int x, Value.int y, Value.int u]) 4) 8) ∨ ((w_fi ws (n_v (vs ++ [Value.int x, Value.int y, Value.int u]) 4) 12 = 0) ∨ ((v_iv (n_v (vs ++ [Value.int x, Value.int y, Value.int u]) 14) + 1) ≤ w_fi ws (n_v (vs ++ [Value.int x, Value.int y, Value.int u]) 4) 11))
      simp only [e_4, e_14, q4]
      exact vc_Mo_groupItem_at_k1_12_9 (v_iv (n_v vs 3)) (v_iv (n_v vs 12)) (w_fi ws (n_v vs 0) 8) (w_fi ws (n_v vs 0) 5) (w_fi ws (n_v vs 0) 15) (w_fi ws (n_v vs 0) 11) (w_fi ws (n_v vs 0) 12) (v_iv (Value.int x)) k3 k12 f1 f10 f12 kz_0_8 kz_0_11 kz_0_12 kz_0_15 ex2
  have nf10 : fc_1 PRD (20, [4, 15, 16], [60, 9, 2, 1021, 10, 11, 12, 13, 14, 15, 8, 9, 5, 1, 2]) ws (vs ++ [Value.int x, Value.int y, Value.int u]) := by
    refine ⟨nf_inA hl rfl, sgq_1729 ?_⟩
    · show zONo (w_fi ws (n_v (vs ++ [Value.int x, Value.int y, Value.int u]) 4) 10) (w_fi ws (n_v (vs ++ [Value.int x, Value.int y, Value.int u]) 4) 11) (w_fi ws (n_v (vs ++ [Value.int x, Value.int y, Value.int u]) 4) 12) (w_fi ws (n_v (vs ++ [Value.int x, Value.int y, Value.int u]) 4) 13) (w_fi ws (n_v (vs ++ [Value.int x, Value.int y, Value.int u]) 4) 14) (w_fi ws (n_v (vs ++ [Value.int x, Value.int y, Value.int u]) 4) 15) (w_fi ws (n_v (vs ++ [Value.int x, Value.int y, Value.int u]) 4) 8) (w_fi ws (n_v (vs ++ [Value.int x, Value.int y, Value.int u]) 4) 9) (w_fi ws (n_v (vs ++ [Value.int x, Value.int y, Value.int u]) 4) 5) (w_ei ws (w_ar ws (n_v (vs ++ [Value.int x, Value.int y, Value.int u]) 4) 1)) (w_ei ws (w_ar ws (n_v (vs ++ [Value.int x, Value.int y, Value.int u]) 4) 2)) (v_iv (n_v (vs ++ [Value.int x, Value.int y, Value.int u]) 15)) (v_iv (n_v (vs ++ [Value.int x, Value.int y, Value.int u]) 16))
      simp only [e_4, e_15, e_16, q4]
      exact vc_Mo_groupItem_at_k1_12_10 (v_iv (n_v vs 2)) (v_iv (n_v vs 3)) (v_iv (n_v vs 7)) (v_iv (n_v vs 12)) (w_ei ws (w_ar ws (n_v vs 0) 1)) (w_fi ws (n_v vs 0) 10) (w_ei ws (w_ar ws (n_v vs 0) 2)) (w_fi ws (n_v vs 0) 8) (w_fi ws (n_v vs 0) 5) (w_fi ws (n_v vs 0) 15) (w_fi ws (n_v vs 0) 11) (w_fi ws (n_v vs 0) 12) (w_fi ws (n_v vs 0) 13) (w_fi ws (n_v vs 0) 14) (w_fi ws (n_v vs 0) 9) (v_iv (Value.int x)) (v_iv (Value.int y)) (v_iv (Value.int u)) k2 k3 k7 k12 f2 f13 kz_0_8 kz_0_9 kz_0_10 kz_0_11 kz_0_12 kz_0_13 kz_0_14 kz_0_15 ex2 ey2 eu2
  exact ⟨(fun _ h => (by cases h)), [Value.int x, Value.int y, Value.int u], ag_three hx hy hu, List.forall_mem_cons.mpr ⟨⟨show (23 : Nat) < 100 from by decide, nf0⟩, List.forall_mem_cons.mpr ⟨⟨show (23 : Nat) < 100 from by decide, nf1⟩, List.forall_mem_cons.mpr ⟨⟨show (23 : Nat) < 100 from by decide, nf2⟩, List.forall_mem_cons.mpr ⟨⟨show (23 : Nat) < 100 from by decide, nf3⟩, List.forall_mem_cons.mpr ⟨⟨show (23 : Nat) < 100 from by decide, nf4⟩, List.forall_mem_cons.mpr ⟨⟨show (23 : Nat) < 100 from by decide, nf5⟩, List.forall_mem_cons.mpr ⟨⟨show (20 : Nat) < 100 from by decide, nf6⟩, List.forall_mem_cons.mpr ⟨⟨show (20 : Nat) < 100 from by decide, nf7⟩, List.forall_mem_cons.mpr ⟨⟨show (20 : Nat) < 100 from by decide, nf8⟩, List.forall_mem_cons.mpr ⟨⟨show (20 : Nat) < 100 from by decide, nf9⟩, List.forall_mem_cons.mpr ⟨⟨show (20 : Nat) < 100 from by decide, nf10⟩, (fun _ h => (by cases h))⟩⟩⟩⟩⟩⟩⟩⟩⟩⟩⟩, (fun _ h => (by cases h))⟩
set_option maxHeartbeats 4000000 in
theorem vc_Mo_groupItem_at_k1_13_0 (r_0 : Int) (from_0 : Int) (pos_0 : Int) (f15 : 1 * from_0 + ((-1) * pos_0 + 0) ≤ 0) (kz_0_11 : 0 ≤ pos_0 ∧ pos_0 ≤ 2000) (kz_0_15 : 0 ≤ from_0 ∧ from_0 ≤ 2000) : 1 * from_0 + ((-1) * pos_0 + 0) ≤ 0 := by
  first
    | omega
    | (have q1 := (hE_0_2_1 (r_0 + 2) (by omega)).2 (by omega)
       have q2 := (hE_0_2_2 (r_0 + 2) (by omega)).2 (by omega)
       omega)
    | (have q1 := (hE_0_2_1 (r_0 + 1) (by omega)).2 (by omega)
       have q2 := (hE_0_2_2 (r_0 + 1) (by omega)).2 (by omega)
       omega)
    | (have q1 := (hE_0_2_1 (r_0 + 2) (by omega)).2 (by omega)
       omega)
    | (have q1 := (hE_0_2_1 (r_0 + 1) (by omega)).2 (by omega)
       omega)
    | (have q1 := (hE_0_2_1 (r_0 + 2) (by omega)).2 (by omega)
       have q2 := (hE_0_2_2 (r_0 + 2) (by omega)).2 (by omega)
       have q3 := (hE_0_2_3 (r_0 + 2) (by omega)).1 (by omega)
       omega)
    | (have q1 := (hE_0_2_1 (r_0 + 2) (by omega)).2 (by omega)
       have q2 := (hE_0_2_2 (r_0 + 2) (by omega)).2 (by omega)
       have q3 := (hE_0_2_3 (r_0 + 2) (by omega)).2 (by omega)
       omega)
    | (have q1 := (hE_0_2_1 (r_0 + 2) (by omega)).2 (by omega)
       have q2 := (hE_0_2_2 (r_0 + 2) (by omega)).2 (by omega)
       have q3 := (hE_0_2_3 (r_0 + 2) (by omega)).1 (by omega)
       have q4 : x13 = r_0 + 2 := by omega
       simp only [q4] at *
       omega)
set_option maxHeartbeats 4000000 in
theorem vc_Mo_groupItem_at_k1_13_1 (r_0 : Int) (from_0 : Int) (pos_0 : Int) (kind_0 : Int) (f16 : ((kind_0 = 1) → (pos_0 ≤ (from_0 + 8))) ∧ ((kind_0 = 0) ∨ ((from_0 + 1) ≤ pos_0))) (kz_0_11 : 0 ≤ pos_0 ∧ pos_0 ≤ 2000) (kz_0_12 : 0 ≤ kind_0 ∧ kind_0 ≤ 4) (kz_0_15 : 0 ≤ from_0 ∧ from_0 ≤ 2000) : ((kind_0 = 1) → (pos_0 ≤ (from_0 + 8))) ∧ ((kind_0 = 0) ∨ ((from_0 + 1) ≤ pos_0)) := by
  first
    | omega
    | (have q1 := (hE_0_2_1 (r_0 + 2) (by omega)).2 (by omega)
       have q2 := (hE_0_2_2 (r_0 + 2) (by omega)).2 (by omega)
       omega)
    | (have q1 := (hE_0_2_1 (r_0 + 1) (by omega)).2 (by omega)
       have q2 := (hE_0_2_2 (r_0 + 1) (by omega)).2 (by omega)
       omega)
    | (have q1 := (hE_0_2_1 (r_0 + 2) (by omega)).2 (by omega)
       omega)
    | (have q1 := (hE_0_2_1 (r_0 + 1) (by omega)).2 (by omega)
       omega)
    | (have q1 := (hE_0_2_1 (r_0 + 2) (by omega)).2 (by omega)
       have q2 := (hE_0_2_2 (r_0 + 2) (by omega)).2 (by omega)
       have q3 := (hE_0_2_3 (r_0 + 2) (by omega)).1 (by omega)
       omega)
    | (have q1 := (hE_0_2_1 (r_0 + 2) (by omega)).2 (by omega)
       have q2 := (hE_0_2_2 (r_0 + 2) (by omega)).2 (by omega)
       have q3 := (hE_0_2_3 (r_0 + 2) (by omega)).2 (by omega)
       omega)
    | (have q1 := (hE_0_2_1 (r_0 + 2) (by omega)).2 (by omega)
       have q2 := (hE_0_2_2 (r_0 + 2) (by omega)).2 (by omega)
       have q3 := (hE_0_2_3 (r_0 + 2) (by omega)).1 (by omega)
       have q4 : x13 = r_0 + 2 := by omega
       simp only [q4] at *
       omega)
set_option maxHeartbeats 4000000 in
theorem vc_Mo_groupItem_at_k1_13_2 (x3 : Int) (x14 : Int) (r_0 : Int) (pos_0 : Int) (fault_0 : Int) (gx : Int) (k3 : 0 ≤ x3 ∧ x3 ≤ 2000) (k14 : 0 ≤ x14 ∧ x14 ≤ 2000) (f0 : 1 * x14 + ((-1) * x3 + 0) ≤ 0) (f1 : (-1) * x14 + (1 * x3 + 0) ≤ 0) (f17 : 1 * x14 + ((-1) * pos_0 + 0) ≤ 0) (kz_0_8 : 0 ≤ fault_0 ∧ fault_0 ≤ 5) (kz_0_11 : 0 ≤ pos_0 ∧ pos_0 ≤ 2000) (ex2 : gx = 2005 + ((-1) * pos_0 + ((-1) * fault_0 + 0))) : 1 * x3 + ((-1) * pos_0 + 0) ≤ 0 := by
  first
    | omega
    | (have q1 := (hE_0_2_1 (r_0 + 2) (by omega)).2 (by omega)
       have q2 := (hE_0_2_2 (r_0 + 2) (by omega)).2 (by omega)
       omega)
    | (have q1 := (hE_0_2_1 (r_0 + 1) (by omega)).2 (by omega)
       have q2 := (hE_0_2_2 (r_0 + 1) (by omega)).2 (by omega)
       omega)
    | (have q1 := (hE_0_2_1 (r_0 + 2) (by omega)).2 (by omega)
       omega)
    | (have q1 := (hE_0_2_1 (r_0 + 1) (by omega)).2 (by omega)
       omega)
    | (have q1 := (hE_0_2_1 (r_0 + 2) (by omega)).2 (by omega)
       have q2 := (hE_0_2_2 (r_0 + 2) (by omega)).2 (by omega)
       have q3 := (hE_0_2_3 (r_0 + 2) (by omega)).1 (by omega)
       omega)
    | (have q1 := (hE_0_2_1 (r_0 + 2) (by omega)).2 (by omega)
       have q2 := (hE_0_2_2 (r_0 + 2) (by omega)).2 (by omega)
       have q3 := (hE_0_2_3 (r_0 + 2) (by omega)).2 (by omega)
       omega)
    | (have q1 := (hE_0_2_1 (r_0 + 2) (by omega)).2 (by omega)
       have q2 := (hE_0_2_2 (r_0 + 2) (by omega)).2 (by omega)
       have q3 := (hE_0_2_3 (r_0 + 2) (by omega)).1 (by omega)
       have q4 : x13 = r_0 + 2 := by omega
       simp only [q4] at *
       omega)
set_option maxHeartbeats 4000000 in
theorem vc_Mo_groupItem_at_k1_13_3 (x3 : Int) (x14 : Int) (r_0 : Int) (pos_0 : Int) (fault_0 : Int) (gx : Int) (k3 : 0 ≤ x3 ∧ x3 ≤ 2000) (k14 : 0 ≤ x14 ∧ x14 ≤ 2000) (f0 : 1 * x14 + ((-1) * x3 + 0) ≤ 0) (f1 : (-1) * x14 + (1 * x3 + 0) ≤ 0) (f17 : 1 * x14 + ((-1) * pos_0 + 0) ≤ 0) (f18 : (1 ≤ fault_0) ∨ ((x14 + 1) ≤ pos_0)) (kz_0_8 : 0 ≤ fault_0 ∧ fault_0 ≤ 5) (kz_0_11 : 0 ≤ pos_0 ∧ pos_0 ≤ 2000) (ex2 : gx = 2005 + ((-1) * pos_0 + ((-1) * fault_0 + 0))) : (1 ≤ fault_0) ∨ ((x3 + 1) ≤ pos_0) := by
  first
    | omega
    | (have q1 := (hE_0_2_1 (r_0 + 2) (by omega)).2 (by omega)
       have q2 := (hE_0_2_2 (r_0 + 2) (by omega)).2 (by omega)
       omega)
    | (have q1 := (hE_0_2_1 (r_0 + 1) (by omega)).2 (by omega)
       have q2 := (hE_0_2_2 (r_0 + 1) (by omega)).2 (by omega)
       omega)
    | (have q1 := (hE_0_2_1 (r_0 + 2) (by omega)).2 (by omega)
       omega)
    | (have q1 := (hE_0_2_1 (r_0 + 1) (by omega)).2 (by omega)
       omega)
    | (have q1 := (hE_0_2_1 (r_0 + 2) (by omega)).2 (by omega)
       have q2 := (hE_0_2_2 (r_0 + 2) (by omega)).2 (by omega)
       have q3 := (hE_0_2_3 (r_0 + 2) (by omega)).1 (by omega)
       omega)
    | (have q1 := (hE_0_2_1 (r_0 + 2) (by omega)).2 (by omega)
       have q2 := (hE_0_2_2 (r_0 + 2) (by omega)).2 (by omega)
       have q3 := (hE_0_2_3 (r_0 + 2) (by omega)).2 (by omega)
       omega)
    | (have q1 := (hE_0_2_1 (r_0 + 2) (by omega)).2 (by omega)
       have q2 := (hE_0_2_2 (r_0 + 2) (by omega)).2 (by omega)
       have q3 := (hE_0_2_3 (r_0 + 2) (by omega)).1 (by omega)
       have q4 : x13 = r_0 + 2 := by omega
       simp only [q4] at *
       omega)
set_option maxHeartbeats 4000000 in
theorem vc_Mo_groupItem_at_k1_13_4 (x7 : Int) (all_0 : Int → Int) (r_0 : Int) (k7 : 0 ≤ x7 ∧ x7 ≤ 7) (f9 : (x7 + 1) ≤ all_0 ((r_0 + 2))) : (x7 + 1) ≤ all_0 ((r_0 + 2)) := by
  first
    | omega
    | (have q1 := (hE_0_2_1 (r_0 + 2) (by omega)).2 (by omega)
       have q2 := (hE_0_2_2 (r_0 + 2) (by omega)).2 (by omega)
       omega)
    | (have q1 := (hE_0_2_1 (r_0 + 1) (by omega)).2 (by omega)
       have q2 := (hE_0_2_2 (r_0 + 1) (by omega)).2 (by omega)
       omega)
    | (have q1 := (hE_0_2_1 (r_0 + 2) (by omega)).2 (by omega)
       omega)
    | (have q1 := (hE_0_2_1 (r_0 + 1) (by omega)).2 (by omega)
       omega)
    | (have q1 := (hE_0_2_1 (r_0 + 2) (by omega)).2 (by omega)
       have q2 := (hE_0_2_2 (r_0 + 2) (by omega)).2 (by omega)
       have q3 := (hE_0_2_3 (r_0 + 2) (by omega)).1 (by omega)
       omega)
    | (have q1 := (hE_0_2_1 (r_0 + 2) (by omega)).2 (by omega)
       have q2 := (hE_0_2_2 (r_0 + 2) (by omega)).2 (by omega)
       have q3 := (hE_0_2_3 (r_0 + 2) (by omega)).2 (by omega)
       omega)
    | (have q1 := (hE_0_2_1 (r_0 + 2) (by omega)).2 (by omega)
       have q2 := (hE_0_2_2 (r_0 + 2) (by omega)).2 (by omega)
       have q3 := (hE_0_2_3 (r_0 + 2) (by omega)).1 (by omega)
       have q4 : x13 = r_0 + 2 := by omega
       simp only [q4] at *
       omega)
set_option maxHeartbeats 4000000 in
theorem vc_Mo_groupItem_at_k1_13_5 (x1 : Int) (x7 : Int) (r_0 : Int) (k1 : 0 ≤ x1 ∧ x1 ≤ 7) (k7 : 0 ≤ x7 ∧ x7 ≤ 7) (f31 : 1 * x1 + ((-1) * x7 + 0) ≤ (-1)) : 1 * x1 + ((-1) * x7 + 0) ≤ (-1) := by
  first
    | omega
    | (have q1 := (hE_0_2_1 (r_0 + 2) (by omega)).2 (by omega)
       have q2 := (hE_0_2_2 (r_0 + 2) (by omega)).2 (by omega)
       omega)
    | (have q1 := (hE_0_2_1 (r_0 + 1) (by omega)).2 (by omega)
       have q2 := (hE_0_2_2 (r_0 + 1) (by omega)).2 (by omega)
       omega)
    | (have q1 := (hE_0_2_1 (r_0 + 2) (by omega)).2 (by omega)
       omega)
    | (have q1 := (hE_0_2_1 (r_0 + 1) (by omega)).2 (by omega)
       omega)
    | (have q1 := (hE_0_2_1 (r_0 + 2) (by omega)).2 (by omega)
       have q2 := (hE_0_2_2 (r_0 + 2) (by omega)).2 (by omega)
       have q3 := (hE_0_2_3 (r_0 + 2) (by omega)).1 (by omega)
       omega)
    | (have q1 := (hE_0_2_1 (r_0 + 2) (by omega)).2 (by omega)
       have q2 := (hE_0_2_2 (r_0 + 2) (by omega)).2 (by omega)
       have q3 := (hE_0_2_3 (r_0 + 2) (by omega)).2 (by omega)
       omega)
    | (have q1 := (hE_0_2_1 (r_0 + 2) (by omega)).2 (by omega)
       have q2 := (hE_0_2_2 (r_0 + 2) (by omega)).2 (by omega)
       have q3 := (hE_0_2_3 (r_0 + 2) (by omega)).1 (by omega)
       have q4 : x13 = r_0 + 2 := by omega
       simp only [q4] at *
       omega)
set_option maxHeartbeats 4000000 in
theorem vc_Mo_groupItem_at_k1_13_6 (all_0 : Int → Int) (r_0 : Int) (now_0 : Int → Int) (latest_0 : Int → Int) (f11 : RWS (r_0) (all_0) (now_0) (latest_0)) : RWS (r_0) (all_0) (now_0) (latest_0) := by
  first
    | assumption
set_option maxHeartbeats 4000000 in
theorem vc_Mo_groupItem_at_k1_13_7 (x2 : Int) (x3 : Int) (x7 : Int) (x14 : Int) (x15 : Int) (x16 : Int) (tape_0 : Int → Int) (limit_0 : Int) (all_0 : Int → Int) (r_0 : Int) (from_0 : Int) (pos_0 : Int) (kind_0 : Int) (fault_0 : Int) (place_0 : Int) (value_0 : Int) (faultPlace_0 : Int) (k2 : 1 ≤ x2 ∧ x2 ≤ 1) (k3 : 0 ≤ x3 ∧ x3 ≤ 2000) (k7 : 0 ≤ x7 ∧ x7 ≤ 7) (k14 : 0 ≤ x14 ∧ x14 ≤ 2000) (k15 : 0 ≤ x15 ∧ x15 ≤ 7) (k16 : 0 ≤ x16 ∧ x16 ≤ 4) (f0 : 1 * x14 + ((-1) * x3 + 0) ≤ 0) (f1 : (-1) * x14 + (1 * x3 + 0) ≤ 0) (f2 : 1 * x15 + ((-1) * x7 + 0) ≤ 0) (f3 : (-1) * x15 + (1 * x7 + 0) ≤ 0) (f4 : 1 * x16 + ((-1) * x2 + 0) ≤ 0) (f5 : (-1) * x16 + (1 * x2 + 0) ≤ 0) (f19 : zOP0 (limit_0) (pos_0) (kind_0) (place_0) (value_0) (from_0) (fault_0) (faultPlace_0) (r_0) (tape_0) (all_0) (x15) (x16)) (kz_0_8 : 0 ≤ fault_0 ∧ fault_0 ≤ 5) (kz_0_9 : 0 ≤ faultPlace_0 ∧ faultPlace_0 ≤ 2000) (kz_0_10 : 0 ≤ limit_0 ∧ limit_0 ≤ 2000) (kz_0_11 : 0 ≤ pos_0 ∧ pos_0 ≤ 2000) (kz_0_12 : 0 ≤ kind_0 ∧ kind_0 ≤ 4) (kz_0_13 : 0 ≤ place_0 ∧ place_0 ≤ 2000) (kz_0_14 : (-49) ≤ value_0 ∧ value_0 ≤ 1048575) (kz_0_15 : 0 ≤ from_0 ∧ from_0 ≤ 2000) : zOP0 (limit_0) (pos_0) (kind_0) (place_0) (value_0) (from_0) (fault_0) (faultPlace_0) (r_0) (tape_0) (all_0) (x7) (x2) := by
  first | (have el_x14 : x14 = x3 := by omega); subst el_x14 | skip
  first | (have el_x15 : x15 = x7 := by omega); subst el_x15 | skip
  first | (have el_x16 : x16 = x2 := by omega); subst el_x16 | skip
  first
    | assumption
    | exact op0_of ‹zOS0 _ _ _ _ _ _ _ _ _ _ _ _ _› (by omega)
set_option maxHeartbeats 4000000 in
theorem vc_Mo_groupItem_at_k1_13_8 (x1 : Int) (x7 : Int) (tape_0 : Int → Int) (limit_0 : Int) (k1 : 0 ≤ x1 ∧ x1 ≤ 7) (k7 : 0 ≤ x7 ∧ x7 ≤ 7) (f6 : HST (limit_0) (tape_0) (x7) (x1)) (kz_0_10 : 0 ≤ limit_0 ∧ limit_0 ≤ 2000) : HST (limit_0) (tape_0) (x7) (x1) := by
  assumption
set_option maxHeartbeats 4000000 in
theorem vc_Mo_groupItem_at_k1_13_12 (r_0 : Int) (pos_0 : Int) (fault_0 : Int) (gx : Int) (kz_0_8 : 0 ≤ fault_0 ∧ fault_0 ≤ 5) (kz_0_11 : 0 ≤ pos_0 ∧ pos_0 ≤ 2000) (ex2 : gx = 2005 + ((-1) * pos_0 + ((-1) * fault_0 + 0))) : 1 * gx + (1 * pos_0 + (1 * fault_0 + 0)) ≤ 2005 := by
  first
    | omega
    | (have q1 := (hE_0_2_1 (r_0 + 2) (by omega)).2 (by omega)
       have q2 := (hE_0_2_2 (r_0 + 2) (by omega)).2 (by omega)
       omega)
    | (have q1 := (hE_0_2_1 (r_0 + 1) (by omega)).2 (by omega)
       have q2 := (hE_0_2_2 (r_0 + 1) (by omega)).2 (by omega)
       omega)
    | (have q1 := (hE_0_2_1 (r_0 + 2) (by omega)).2 (by omega)
       omega)
    | (have q1 := (hE_0_2_1 (r_0 + 1) (by omega)).2 (by omega)
       omega)
    | (have q1 := (hE_0_2_1 (r_0 + 2) (by omega)).2 (by omega)
       have q2 := (hE_0_2_2 (r_0 + 2) (by omega)).2 (by omega)
       have q3 := (hE_0_2_3 (r_0 + 2) (by omega)).1 (by omega)
       omega)
    | (have q1 := (hE_0_2_1 (r_0 + 2) (by omega)).2 (by omega)
       have q2 := (hE_0_2_2 (r_0 + 2) (by omega)).2 (by omega)
       have q3 := (hE_0_2_3 (r_0 + 2) (by omega)).2 (by omega)
       omega)
    | (have q1 := (hE_0_2_1 (r_0 + 2) (by omega)).2 (by omega)
       have q2 := (hE_0_2_2 (r_0 + 2) (by omega)).2 (by omega)
       have q3 := (hE_0_2_3 (r_0 + 2) (by omega)).1 (by omega)
       have q4 : x13 = r_0 + 2 := by omega
       simp only [q4] at *
       omega)
set_option maxHeartbeats 4000000 in
theorem vc_Mo_groupItem_at_k1_13_13 (r_0 : Int) (pos_0 : Int) (fault_0 : Int) (gx : Int) (kz_0_8 : 0 ≤ fault_0 ∧ fault_0 ≤ 5) (kz_0_11 : 0 ≤ pos_0 ∧ pos_0 ≤ 2000) (ex2 : gx = 2005 + ((-1) * pos_0 + ((-1) * fault_0 + 0))) : (-1) * gx + ((-1) * pos_0 + ((-1) * fault_0 + 0)) ≤ (-2005) := by
  first
    | omega
    | (have q1 := (hE_0_2_1 (r_0 + 2) (by omega)).2 (by omega)
       have q2 := (hE_0_2_2 (r_0 + 2) (by omega)).2 (by omega)
       omega)
    | (have q1 := (hE_0_2_1 (r_0 + 1) (by omega)).2 (by omega)
       have q2 := (hE_0_2_2 (r_0 + 1) (by omega)).2 (by omega)
       omega)
    | (have q1 := (hE_0_2_1 (r_0 + 2) (by omega)).2 (by omega)
       omega)
    | (have q1 := (hE_0_2_1 (r_0 + 1) (by omega)).2 (by omega)
       omega)
    | (have q1 := (hE_0_2_1 (r_0 + 2) (by omega)).2 (by omega)
       have q2 := (hE_0_2_2 (r_0 + 2) (by omega)).2 (by omega)
       have q3 := (hE_0_2_3 (r_0 + 2) (by omega)).1 (by omega)
       omega)
    | (have q1 := (hE_0_2_1 (r_0 + 2) (by omega)).2 (by omega)
       have q2 := (hE_0_2_2 (r_0 + 2) (by omega)).2 (by omega)
       have q3 := (hE_0_2_3 (r_0 + 2) (by omega)).2 (by omega)
       omega)
    | (have q1 := (hE_0_2_1 (r_0 + 2) (by omega)).2 (by omega)
       have q2 := (hE_0_2_2 (r_0 + 2) (by omega)).2 (by omega)
       have q3 := (hE_0_2_3 (r_0 + 2) (by omega)).1 (by omega)
       have q4 : x13 = r_0 + 2 := by omega
       simp only [q4] at *
       omega)
def o_Mo_groupItem_at_k1_13 : or_T := (170, 17, [(0, (2, 0, 0, [165])), (1, (0, 0, 7, [])), (2, (0, 1, 1, [])), (3, (0, 0, 2000, [])), (7, (0, 0, 7, [])), (14, (0, 0, 2000, [])), (15, (0, 0, 7, [])), (16, (0, 0, 4, []))], [(23, [14, 3], [0, 1, -1]), (23, [14, 3], [0, -1, 1]), (23, [15, 7], [0, 1, -1]), (23, [15, 7], [0, -1, 1]), (23, [16, 6], [0, 1, -1]), (23, [16, 6], [0, -1, 1]), (20, [4, 7, 5], [60, 1, 1, 1028, 10, 1]), (20, [7, 4], [50, 1, 1, 1005, 1002, 0, 6, 4, 2, 1, 0, 0, 1, 3, 1, 2, 4, 3, 2, 1, 5, 0, 2]), (20, [4], [60, 1, 3, 199, 5, 2, 3, 4]), (24, [0, 4], []), (24, [1, 5], []), (24, [2, 6], []), (20, [4, 4], [30, 0, 1, 1, 15, -1, 1, 11]), (20, [4], [50, 3, 0, 12, 11, 15, 2, 21, 4, 7, 1, 3, 2, 0, 12, 0, 1, 0, 3, 2, 0, 11, 4, 3, 2, 0, 15, 0, 8, 3, 7, 1, 3, 2, 0, 12, 0, 0, 0, 7, 4, 3, 2, 0, 15, 0, 1, 2, 0, 11]), (20, [14, 4], [30, 0, 1, 0, 0, -1, 1, 11]), (20, [4, 14], [50, 2, 0, 8, 11, 3, 7, 0, 2, 0, 1, 2, 0, 8, 0, 6, 4, 2, 1, 1, 0, 1, 2, 0, 11]), (20, [4, 15, 16], [60, 9, 2, 1023, 10, 11, 12, 13, 14, 15, 8, 9, 5, 1, 2]), (102, [16], [0, 165008, 165009, 165011, 165012, 165013, 165014, 165015]), (102, [12], [0, 165011, 165012, 165013, 165014, 165015]), (23, [5, 7], [-1, 1, -1])], [], [(0, 0, 2005, [])], [(20, [4, 4], [30, 0, 1, 1, 15, -1, 1, 11]), (20, [4], [50, 3, 0, 12, 11, 15, 2, 21, 4, 7, 1, 3, 2, 0, 12, 0, 1, 0, 3, 2, 0, 11, 4, 3, 2, 0, 15, 0, 8, 3, 7, 1, 3, 2, 0, 12, 0, 0, 0, 7, 4, 3, 2, 0, 15, 0, 1, 2, 0, 11]), (20, [3, 4], [30, 0, 1, 0, 0, -1, 1, 11]), (20, [4, 3], [50, 2, 0, 8, 11, 3, 7, 0, 2, 0, 1, 2, 0, 8, 0, 6, 4, 2, 1, 1, 0, 1, 2, 0, 11]), (20, [7, 4], [50, 1, 1, 1005, 1002, 0, 6, 4, 2, 1, 0, 0, 1, 3, 1, 2, 4, 3, 2, 1, 5, 0, 2]), (23, [5, 7], [-1, 1, -1]), (20, [4], [60, 1, 3, 199, 5, 2, 3, 4]), (20, [4, 7, 6], [60, 9, 2, 1023, 10, 11, 12, 13, 14, 15, 8, 9, 5, 1, 2]), (20, [4, 7, 5], [60, 1, 1, 1028, 10, 1]), (24, [0, 4], []), (24, [1, 5], []), (24, [2, 6], []), (20, [17, 4, 4], [30, 2005, 1, 0, 0, 1, 1, 11, 1, 1, 8]), (20, [17, 4, 4], [30, -2005, -1, 0, 0, -1, 1, 11, -1, 1, 8])], [], [])
theorem oo_Mo_groupItem_at_k1_13 {kA : Nat → ClassId} : or_ok PRD kA GG o_Mo_groupItem_at_k1_13 := by
  refine or_mk fun A ta ws vs hD hth hl => ?_
  intro t0 r0 t1 k1 t2 k2 t3 k3 t7 k7 t14 k14 t15 k15 t16 k16 f0 f1 f2 f3 f4 f5 f6 f9 f11 f12 f13 f14 f15 f16 f17 f18 f19 ta1 w1 le1 s1 ta2 w2 le2 s2 f31
  replace f0 := shm_7 f0
  replace f1 := shm_22 f1
  replace f2 := shm_7 f2
  replace f3 := shm_22 f3
  replace f4 := shm_7 f4
  replace f5 := shm_22 f5
  replace f6 := shm_2176 f6
  replace f9 := shm_1009 f9
  replace f11 := shm_980 f11
  replace f12 := shm_5 f12
  replace f13 := shm_5 f13
  replace f14 := shm_5 f14
  replace f15 := shm_1437 f15
  replace f16 := shm_1438 f16
  replace f17 := shm_1431 f17
  replace f18 := shm_1726 f18
  replace f19 := shm_1730 f19
  replace f31 := shm_193 f31
  have q4 : n_v vs 4 = n_v vs 0 := f12.symm
  have q5 : n_v vs 5 = n_v vs 1 := f13.symm
  have q6 : n_v vs 6 = n_v vs 2 := f14.symm
  simp only [q6, q4, q5] at f4 f5 f6 f9 f11 f15 f16 f17 f18 f19 f31
  have kz_0_8 := fdq_34 hD hth r0
  have kz_0_9 := fdq_44 hD hth r0
  have kz_0_10 := fdq_43 hD hth r0
  have kz_0_11 := fdq_237 hD hth r0
  have kz_0_12 := fdq_187 hD hth r0
  have kz_0_13 := fdq_238 hD hth r0
  have kz_0_14 := fdq_188 hD hth r0
  have kz_0_15 := fdq_239 hD hth r0
  obtain ⟨x, ex, hx⟩ := iv_ex (ta := ta) (lo := 0) (hi := 2005) (z := 2005 + ((-1) * w_fi ws (n_v vs 0) 11 + ((-1) * w_fi ws (n_v vs 0) 8 + 0))) (by omega) (by omega) (by omega) (by omega)
  have ex2 : v_iv (Value.int x) = 2005 + ((-1) * w_fi ws (n_v vs 0) 11 + ((-1) * w_fi ws (n_v vs 0) 8 + 0)) := ex
  have ex3 : 0 ≤ v_iv (Value.int x) ∧ v_iv (Value.int x) ≤ 2005 := tv_rng hx
  have e_0 : n_v (vs ++ [Value.int x]) 0 = n_v vs 0 := n_v_old (by rw [hl]; decide)
  have e_1 : n_v (vs ++ [Value.int x]) 1 = n_v vs 1 := n_v_old (by rw [hl]; decide)
  have e_2 : n_v (vs ++ [Value.int x]) 2 = n_v vs 2 := n_v_old (by rw [hl]; decide)
  have e_3 : n_v (vs ++ [Value.int x]) 3 = n_v vs 3 := n_v_old (by rw [hl]; decide)
  have e_4 : n_v (vs ++ [Value.int x]) 4 = n_v vs 4 := n_v_old (by rw [hl]; decide)
  have e_5 : n_v (vs ++ [Value.int x]) 5 = n_v vs 5 := n_v_old (by rw [hl]; decide)
  have e_6 : n_v (vs ++ [Value.int x]) 6 = n_v vs 6 := n_v_old (by rw [hl]; decide)
  have e_7 : n_v (vs ++ [Value.int x]) 7 = n_v vs 7 := n_v_old (by rw [hl]; decide)
  have e_17 : n_v (vs ++ [Value.int x]) 17 = Value.int x := n_v_new hl
  have nf0 : fc_1 PRD (20, [4, 4], [30, 0, 1, 1, 15, -1, 1, 11]) ws (vs ++ [Value.int x]) := by
    refine ⟨nf_inA hl rfl, sgq_1437 ?_⟩
    · show 1 * w_fi ws (n_v (vs ++ [Value.int x]) 4) 15 + ((-1) * w_fi ws (n_v (vs ++ [Value.int x]) 4) 11 + 0) ≤ 0
      simp only [e_4, q4]
      exact vc_Mo_groupItem_at_k1_13_0 (w_fi ws (n_v vs 0) 5) (w_fi ws (n_v vs 0) 15) (w_fi ws (n_v vs 0) 11) f15 kz_0_11 kz_0_15
  have nf1 : fc_1 PRD (20, [4], [50, 3, 0, 12, 11, 15, 2, 21, 4, 7, 1, 3, 2, 0, 12, 0, 1, 0, 3, 2, 0, 11, 4, 3, 2, 0, 15, 0, 8, 3, 7, 1, 3, 2, 0, 12, 0, 0, 0, 7, 4, 3, 2, 0, 15, 0, 1, 2, 0, 11]) ws (vs ++ [Value.int x]) := by
    refine ⟨nf_inA hl rfl, sgq_1438 ?_⟩
    · show ((w_fi ws (n_v (vs ++ [Value.int x]) 4) 12 = 1) → (w_fi ws (n_v (vs ++ [Value.int x]) 4) 11 ≤ (w_fi ws (n_v (vs ++ [Value.int x]) 4) 15 + 8))) ∧ ((w_fi ws (n_v (vs ++ [Value.int x]) 4) 12 = 0) ∨ ((w_fi ws (n_v (vs ++ [Value.int x]) 4) 15 + 1) ≤ w_fi ws (n_v (vs ++ [Value.int x]) 4) 11))
      simp only [e_4, q4]
      exact vc_Mo_groupItem_at_k1_13_1 (w_fi ws (n_v vs 0) 5) (w_fi ws (n_v vs 0) 15) (w_fi ws (n_v vs 0) 11) (w_fi ws (n_v vs 0) 12) f16 kz_0_11 kz_0_12 kz_0_15
  have nf2 : fc_1 PRD (20, [3, 4], [30, 0, 1, 0, 0, -1, 1, 11]) ws (vs ++ [Value.int x]) := by
    refine ⟨nf_inA hl rfl, sgq_1431 ?_⟩
    · show 1 * v_iv (n_v (vs ++ [Value.int x]) 3) + ((-1) * w_fi ws (n_v (vs ++ [Value.int x]) 4) 11 + 0) ≤ 0
      simp only [e_3, e_4, q4]
      exact vc_Mo_groupItem_at_k1_13_2 (v_iv (n_v vs 3)) (v_iv (n_v vs 14)) (w_fi ws (n_v vs 0) 5) (w_fi ws (n_v vs 0) 11) (w_fi ws (n_v vs 0) 8) (v_iv (Value.int x)) k3 k14 f0 f1 f17 kz_0_8 kz_0_11 ex2
  have nf3 : fc_1 PRD (20, [4, 3], [50, 2, 0, 8, 11, 3, 7, 0, 2, 0, 1, 2, 0, 8, 0, 6, 4, 2, 1, 1, 0, 1, 2, 0, 11]) ws (vs ++ [Value.int x]) := by
    refine ⟨nf_inA hl rfl, sgq_1726 ?_⟩
    · show (1 ≤ w_fi ws (n_v (vs ++ [Value.int x]) 4) 8) ∨ ((v_iv (n_v (vs ++ [Value.int x]) 3) + 1) ≤ w_fi ws (n_v (vs ++ [Value.int x]) 4) 11)
      simp only [e_3, e_4, q4]
      exact vc_Mo_groupItem_at_k1_13_3 (v_iv (n_v vs 3)) (v_iv (n_v vs 14)) (w_fi ws (n_v vs 0) 5) (w_fi ws (n_v vs 0) 11) (w_fi ws (n_v vs 0) 8) (v_iv (Value.int x)) k3 k14 f0 f1 f17 f18 kz_0_8 kz_0_11 ex2
  have nf4 : fc_1 PRD (20, [7, 4], [50, 1, 1, 1005, 1002, 0, 6, 4, 2, 1, 0, 0, 1, 3, 1, 2, 4, 3, 2, 1, 5, 0, 2]) ws (vs ++ [Value.int x]) := by
    refine ⟨nf_inA hl rfl, sgq_1009 ?_⟩
    · show (v_iv (n_v (vs ++ [Value.int x]) 7) + 1) ≤ w_ei ws (w_ar ws (n_v (vs ++ [Value.int x]) 4) 2) ((w_fi ws (n_v (vs ++ [Value.int x]) 4) 5 + 2))
      simp only [e_4, e_7, q4]
      exact vc_Mo_groupItem_at_k1_13_4 (v_iv (n_v vs 7)) (w_ei ws (w_ar ws (n_v vs 0) 2)) (w_fi ws (n_v vs 0) 5) k7 f9
  have nf5 : fc_1 PRD (23, [5, 7], [-1, 1, -1]) ws (vs ++ [Value.int x]) := by
    refine ⟨nf_inA hl rfl, sgq_193 ?_⟩
    · show 1 * v_iv (n_v (vs ++ [Value.int x]) 5) + ((-1) * v_iv (n_v (vs ++ [Value.int x]) 7) + 0) ≤ (-1)
      simp only [e_5, e_7, q5]
      exact vc_Mo_groupItem_at_k1_13_5 (v_iv (n_v vs 1)) (v_iv (n_v vs 7)) (w_fi ws (n_v vs 0) 5) k1 k7 f31
  have nf6 : fc_1 PRD (20, [4], [60, 1, 3, 199, 5, 2, 3, 4]) ws (vs ++ [Value.int x]) := by
    refine ⟨nf_inA hl rfl, sgq_980 ?_⟩
    · show RWS (w_fi ws (n_v (vs ++ [Value.int x]) 4) 5) (w_ei ws (w_ar ws (n_v (vs ++ [Value.int x]) 4) 2)) (w_ei ws (w_ar ws (n_v (vs ++ [Value.int x]) 4) 3)) (w_ei ws (w_ar ws (n_v (vs ++ [Value.int x]) 4) 4))
      simp only [e_4, q4]
      exact vc_Mo_groupItem_at_k1_13_6 (w_ei ws (w_ar ws (n_v vs 0) 2)) (w_fi ws (n_v vs 0) 5) (w_ei ws (w_ar ws (n_v vs 0) 3)) (w_ei ws (w_ar ws (n_v vs 0) 4)) f11
  have nf7 : fc_1 PRD (20, [4, 7, 6], [60, 9, 2, 1023, 10, 11, 12, 13, 14, 15, 8, 9, 5, 1, 2]) ws (vs ++ [Value.int x]) := by
    refine ⟨nf_inA hl rfl, sgq_1730 ?_⟩
    · show zOP0 (w_fi ws (n_v (vs ++ [Value.int x]) 4) 10) (w_fi ws (n_v (vs ++ [Value.int x]) 4) 11) (w_fi ws (n_v (vs ++ [Value.int x]) 4) 12) (w_fi ws (n_v (vs ++ [Value.int x]) 4) 13) (w_fi ws (n_v (vs ++ [Value.int x]) 4) 14) (w_fi ws (n_v (vs ++ [Value.int x]) 4) 15) (w_fi ws (n_v (vs ++ [Value.int x]) 4) 8) (w_fi ws (n_v (vs ++ [Value.int x]) 4) 9) (w_fi ws (n_v (vs ++ [Value.int x]) 4) 5) (w_ei ws (w_ar ws (n_v (vs ++ [Value.int x]) 4) 1)) (w_ei ws (w_ar ws (n_v (vs ++ [Value.int x]) 4) 2)) (v_iv (n_v (vs ++ [Value.int x]) 7)) (v_iv (n_v (vs ++ [Value.int x]) 6))
      simp only [e_4, e_6, e_7, q4, q6]
      exact vc_Mo_groupItem_at_k1_13_7 (v_iv (n_v vs 2)) (v_iv (n_v vs 3)) (v_iv (n_v vs 7)) (v_iv (n_v vs 14)) (v_iv (n_v vs 15)) (v_iv (n_v vs 16)) (w_ei ws (w_ar ws (n_v vs 0) 1)) (w_fi ws (n_v vs 0) 10) (w_ei ws (w_ar ws (n_v vs 0) 2)) (w_fi ws (n_v vs 0) 5) (w_fi ws (n_v vs 0) 15) (w_fi ws (n_v vs 0) 11) (w_fi ws (n_v vs 0) 12) (w_fi ws (n_v vs 0) 8) (w_fi ws (n_v vs 0) 13) (w_fi ws (n_v vs 0) 14) (w_fi ws (n_v vs 0) 9) k2 k3 k7 k14 k15 k16 f0 f1 f2 f3 f4 f5 f19 kz_0_8 kz_0_9 kz_0_10 kz_0_11 kz_0_12 kz_0_13 kz_0_14 kz_0_15
  have nf8 : fc_1 PRD (20, [4, 7, 5], [60, 1, 1, 1028, 10, 1]) ws (vs ++ [Value.int x]) := by
    refine ⟨nf_inA hl rfl, sgq_2176 ?_⟩
    · show HST (w_fi ws (n_v (vs ++ [Value.int x]) 4) 10) (w_ei ws (w_ar ws (n_v (vs ++ [Value.int x]) 4) 1)) (v_iv (n_v (vs ++ [Value.int x]) 7)) (v_iv (n_v (vs ++ [Value.int x]) 5))
      simp only [e_4, e_5, e_7, q4, q5]
      exact vc_Mo_groupItem_at_k1_13_8 (v_iv (n_v vs 1)) (v_iv (n_v vs 7)) (w_ei ws (w_ar ws (n_v vs 0) 1)) (w_fi ws (n_v vs 0) 10) k1 k7 f6 kz_0_10
  have nf9 : fc_1 PRD (24, [0, 4], []) ws (vs ++ [Value.int x]) := by
    refine ⟨nf_inA hl rfl, sgq_5 ?_⟩
    · show n_v (vs ++ [Value.int x]) 0 = n_v (vs ++ [Value.int x]) 4
      first | rfl | simp only [e_0, e_4, q4, q5, q6]
  have nf10 : fc_1 PRD (24, [1, 5], []) ws (vs ++ [Value.int x]) := by
    refine ⟨nf_inA hl rfl, sgq_5 ?_⟩
    · show n_v (vs ++ [Value.int x]) 1 = n_v (vs ++ [Value.int x]) 5
      first | rfl | simp only [e_1, e_5, q4, q5, q6]
  have nf11 : fc_1 PRD (24, [2, 6], []) ws (vs ++ [Value.int x]) := by
    refine ⟨nf_inA hl rfl, sgq_5 ?_⟩
    · show n_v (vs ++ [Value.int x]) 2 = n_v (vs ++ [Value.int x]) 6
      first | rfl | simp only [e_2, e_6, q4, q5, q6]
  have nf12 : fc_1 PRD (20, [17, 4, 4], [30, 2005, 1, 0, 0, 1, 1, 11, 1, 1, 8]) ws (vs ++ [Value.int x]) := by
    refine ⟨nf_inA hl rfl, sgq_2178 ?_⟩
    · show 1 * v_iv (n_v (vs ++ [Value.int x]) 17) + (1 * w_fi ws (n_v (vs ++ [Value.int x]) 4) 11 + (1 * w_fi ws (n_v (vs ++ [Value.int x]) 4) 8 + 0)) ≤ 2005
      simp only [e_4, e_17, q4]
      exact vc_Mo_groupItem_at_k1_13_12 (w_fi ws (n_v vs 0) 5) (w_fi ws (n_v vs 0) 11) (w_fi ws (n_v vs 0) 8) (v_iv (Value.int x)) kz_0_8 kz_0_11 ex2
  have nf13 : fc_1 PRD (20, [17, 4, 4], [30, -2005, -1, 0, 0, -1, 1, 11, -1, 1, 8]) ws (vs ++ [Value.int x]) := by
    refine ⟨nf_inA hl rfl, sgq_2179 ?_⟩
    · show (-1) * v_iv (n_v (vs ++ [Value.int x]) 17) + ((-1) * w_fi ws (n_v (vs ++ [Value.int x]) 4) 11 + ((-1) * w_fi ws (n_v (vs ++ [Value.int x]) 4) 8 + 0)) ≤ (-2005)
      simp only [e_4, e_17, q4]
      exact vc_Mo_groupItem_at_k1_13_13 (w_fi ws (n_v vs 0) 5) (w_fi ws (n_v vs 0) 11) (w_fi ws (n_v vs 0) 8) (v_iv (Value.int x)) kz_0_8 kz_0_11 ex2
  exact ⟨(fun _ h => (by cases h)), [Value.int x], ag_one hx, List.forall_mem_cons.mpr ⟨⟨show (20 : Nat) < 100 from by decide, nf0⟩, List.forall_mem_cons.mpr ⟨⟨show (20 : Nat) < 100 from by decide, nf1⟩, List.forall_mem_cons.mpr ⟨⟨show (20 : Nat) < 100 from by decide, nf2⟩, List.forall_mem_cons.mpr ⟨⟨show (20 : Nat) < 100 from by decide, nf3⟩, List.forall_mem_cons.mpr ⟨⟨show (20 : Nat) < 100 from by decide, nf4⟩, List.forall_mem_cons.mpr ⟨⟨show (23 : Nat) < 100 from by decide, nf5⟩, List.forall_mem_cons.mpr ⟨⟨show (20 : Nat) < 100 from by decide, nf6⟩, List.forall_mem_cons.mpr ⟨⟨show (20 : Nat) < 100 from by decide, nf7⟩, List.forall_mem_cons.mpr ⟨⟨show (20 : Nat) < 100 from by decide, nf8⟩, List.forall_mem_cons.mpr ⟨⟨show (24 : Nat) < 100 from by decide, nf9⟩, List.forall_mem_cons.mpr ⟨⟨show (24 : Nat) < 100 from by decide, nf10⟩, List.forall_mem_cons.mpr ⟨⟨show (24 : Nat) < 100 from by decide, nf11⟩, List.forall_mem_cons.mpr ⟨⟨show (20 : Nat) < 100 from by decide, nf12⟩, List.forall_mem_cons.mpr ⟨⟨show (20 : Nat) < 100 from by decide, nf13⟩, (fun _ h => (by cases h))⟩⟩⟩⟩⟩⟩⟩⟩⟩⟩⟩⟩⟩⟩, (fun _ h => (by cases h))⟩
set_option maxHeartbeats 4000000 in
theorem vc_Mo_groupItem_at_k1_14_r0 (x8 : Int) (x9 : Int) (x10 : Int) (x11 : Int) (x13 : Int) (r_0 : Int) (from_0 : Int) (pos_0 : Int) (kind_0 : Int) (k8 : 0 ≤ x8 ∧ x8 ≤ 8) (k9 : 1 ≤ x9 ∧ x9 ≤ 2000) (k10 : 0 ≤ x10 ∧ x10 ≤ 2000) (k11 : 1 ≤ x11 ∧ x11 ≤ 2000) (d1 : x11 + (-4294967296) ≤ x8 ∧ x8 ≤ x11 + (-1)) (f4 : x11 = x9 - x10) (g5 : x10 = from_0) (g6 : x9 = pos_0) (f8 : ((kind_0 = 1) → (pos_0 ≤ (from_0 + 8))) ∧ ((kind_0 = 0) ∨ ((from_0 + 1) ≤ pos_0))) (f10 : kind_0 = 1) (kz_0_11 : 0 ≤ pos_0 ∧ pos_0 ≤ 2000) (kz_0_12 : 0 ≤ kind_0 ∧ kind_0 ≤ 4) (kz_0_15 : 0 ≤ from_0 ∧ from_0 ≤ 2000) : 0 ≤ x8 ∧ x8 ≤ 7 := by
  first
    | omega
    | (have q1 := (hE_0_2_1 (r_0 + 2) (by omega)).2 (by omega)
       have q2 := (hE_0_2_2 (r_0 + 2) (by omega)).2 (by omega)
       omega)
    | (have q1 := (hE_0_2_1 (r_0 + 1) (by omega)).2 (by omega)
       have q2 := (hE_0_2_2 (r_0 + 1) (by omega)).2 (by omega)
       omega)
    | (have q1 := (hE_0_2_1 (r_0 + 2) (by omega)).2 (by omega)
       omega)
    | (have q1 := (hE_0_2_1 (r_0 + 1) (by omega)).2 (by omega)
       omega)
    | (have q1 := (hE_0_2_1 (r_0 + 2) (by omega)).2 (by omega)
       have q2 := (hE_0_2_2 (r_0 + 2) (by omega)).2 (by omega)
       have q3 := (hE_0_2_3 (r_0 + 2) (by omega)).1 (by omega)
       omega)
    | (have q1 := (hE_0_2_1 (r_0 + 2) (by omega)).2 (by omega)
       have q2 := (hE_0_2_2 (r_0 + 2) (by omega)).2 (by omega)
       have q3 := (hE_0_2_3 (r_0 + 2) (by omega)).2 (by omega)
       omega)
    | (have q1 := (hE_0_2_1 (r_0 + 2) (by omega)).2 (by omega)
       have q2 := (hE_0_2_2 (r_0 + 2) (by omega)).2 (by omega)
       have q3 := (hE_0_2_3 (r_0 + 2) (by omega)).1 (by omega)
       have q4 : x13 = r_0 + 2 := by omega
       simp only [q4] at *
       omega)
def o_Mo_groupItem_at_k1_14 : or_T := (141, 19, [(0, (2, 0, 0, [165])), (1, (0, 0, 7, [])), (2, (0, 1, 1, [])), (3, (0, 0, 2000, [])), (4, (2, 0, 0, [165])), (5, (0, 0, 7, [])), (6, (0, 1, 1, [])), (7, (0, 0, 7, [])), (8, (0, 0, 8, [])), (9, (0, 1, 2000, [])), (10, (0, 0, 2000, [])), (11, (0, 1, 2000, [])), (12, (2, 0, 0, [167])), (13, (0, 0, 66297, [])), (14, (0, 459, 459, [])), (15, (0, 459, 66756, []))], [(1, [15, 13, 14], []), (9, [13, 4], [5]), (9, [12, 4], [2]), (7, [8, 11], [2]), (2, [11, 9, 10], []), (9, [10, 4], [15]), (9, [9, 4], [11]), (20, [4, 4], [30, 0, 1, 1, 15, -1, 1, 11]), (20, [4], [50, 3, 0, 12, 11, 15, 2, 21, 4, 7, 1, 3, 2, 0, 12, 0, 1, 0, 3, 2, 0, 11, 4, 3, 2, 0, 15, 0, 8, 3, 7, 1, 3, 2, 0, 12, 0, 0, 0, 7, 4, 3, 2, 0, 15, 0, 1, 2, 0, 11]), (20, [3, 4], [30, -1, 1, 0, 0, -1, 1, 11]), (20, [4], [50, 1, 0, 12, 1, 3, 2, 0, 12, 0, 1]), (20, [7, 4], [50, 1, 1, 1005, 1002, 0, 6, 4, 2, 1, 0, 0, 1, 3, 1, 2, 4, 3, 2, 1, 5, 0, 2]), (23, [5, 7], [-1, 1, -1]), (20, [4], [60, 1, 3, 199, 5, 2, 3, 4]), (20, [4, 7, 8, 5, 6], [60, 8, 2, 1006, 10, 11, 12, 13, 14, 15, 8, 5, 1, 2]), (24, [0, 4], []), (24, [1, 5], []), (24, [2, 6], [])], [(8, (0, 0, 7, []))], [], [], [], [(15, 13, 459, 459), (8, 11, -4294967296, -1), (11, 9, -2000, 0), (1, 5, -4294967296, 0), (5, 1, -4294967296, 0)])
theorem oo_Mo_groupItem_at_k1_14 {kA : Nat → ClassId} : or_ok PRD kA GG o_Mo_groupItem_at_k1_14 := by
  refine or_mk fun A ta ws vs hD hth hl => ?_
  intro t0 r0 t1 k1 t2 k2 t3 k3 t4 r4 t5 k5 t6 k6 t7 k7 t8 k8 t9 k9 t10 k10 t11 k11 t12 r12 t13 k13 t14 k14 t15 k15 d0 d1 d2 d3 d4 f0 f1 f2 f3 f4 f5 f6 f7 f8 f9 f10 f11 f12 f13 f14 f15 f16 f17
  replace f5 := shm_177 f5
  replace f6 := shm_116 f6
  replace f8 := shm_1438 f8
  replace f10 := shm_1890 f10
  replace f15 := shm_5 f15
  have q4 : n_v vs 4 = n_v vs 0 := f15.symm
  simp only [q4] at f5 f6 f8 f10
  have g5 : v_iv (n_v vs 10) = w_fi ws (n_v vs 0) 15 := congrArg v_iv f5
  have g6 : v_iv (n_v vs 9) = w_fi ws (n_v vs 0) 11 := congrArg v_iv f6
  have kz_0_11 := fdq_237 hD hth r0
  have kz_0_12 := fdq_187 hD hth r0
  have kz_0_15 := fdq_239 hD hth r0
  have hrf0 : 0 ≤ v_iv (n_v vs 8) ∧ v_iv (n_v vs 8) ≤ 7 := vc_Mo_groupItem_at_k1_14_r0 (v_iv (n_v vs 8)) (v_iv (n_v vs 9)) (v_iv (n_v vs 10)) (v_iv (n_v vs 11)) (v_iv (n_v vs 13)) (w_fi ws (n_v vs 0) 5) (w_fi ws (n_v vs 0) 15) (w_fi ws (n_v vs 0) 11) (w_fi ws (n_v vs 0) 12) k8 k9 k10 k11 d1 (shm_14 f4) g5 g6 f8 f10 kz_0_11 kz_0_12 kz_0_15
  have rf8 : tv_ok ta (0, 0, 7, []) (n_v vs 8) := tv_in t8 (by first | omega | grind) (by first | omega | grind)
  refine ⟨List.forall_mem_cons.mpr ⟨rf8, (fun _ h => (by cases h))⟩, [], trivial, ?_, (fun _ h => (by cases h))⟩
  rw [List.append_nil]
  exact (fun _ h => (by cases h))
def o_Mo_groupItem_at_k1_15 : or_T := (153, 22, [(7, (0, 0, 7, [])), (8, (0, 0, 7, [])), (13, (5, 0, 66297, [539])), (14, (0, 459, 459, [])), (15, (0, 459, 66756, [])), (16, (0, 8, 8, [])), (17, (0, 0, 56, [])), (18, (0, 459, 66812, [])), (19, (0, 459, 66819, [])), (21, (0, -1, -1, []))], [(1, [19, 18, 8], []), (1, [18, 15, 17], []), (3, [17, 16, 7], []), (1, [15, 13, 14], [])], [], [], [(18, [19, 21], [1])], [], [(19, 8, 459, 66812), (19, 18, 0, 7), (19, 17, 459, 66763), (19, 15, 0, 63), (19, 13, 459, 522), (18, 17, 459, 66756), (18, 15, 0, 56), (18, 13, 459, 515), (15, 13, 459, 459)])
theorem oo_Mo_groupItem_at_k1_15 {kA : Nat → ClassId} : or_ok PRD kA GG o_Mo_groupItem_at_k1_15 := by
  refine or_mk fun A ta ws vs hD hth hl => ?_
  intro t7 k7 t8 k8 t13 t14 k14 t15 k15 t16 k16 t17 k17 t18 k18 t19 k19 t21 k21 d0 d1 d2 d3 d4 d5 d6 d7 d8 f0 f1 f2 f3
  obtain ⟨k13, q13_⟩ : (0 ≤ v_iv (n_v vs 13) ∧ v_iv (n_v vs 13) ≤ 66297) ∧ ∃ q : Int, v_iv (n_v vs 13) = 539 * q := tv_dvk t13
  obtain ⟨q13, hq13⟩ := q13_
  replace f0 := shm_12 f0
  replace f1 := shm_12 f1
  replace f2 := shm_38 f2
  rw [show v_iv (n_v vs 16) = 8 from by omega] at f2
  replace f3 := shm_12 f3
  have nf0 : fc_1 PRD (18, [19, 21], [1]) ws (vs) := by
    refine ⟨nf_in hl rfl, sgq_1302 ?_⟩
    · show pl_ok 1 (v_iv (n_v vs 19)).toNat (v_iv (n_v vs 21))
      exact pl_in pl_M1 (lo := 459) (hi := 522) (a := (-1)) (b := (-1)) (by decide +kernel) (by omega) (by omega) (by omega) (by omega)
  refine ⟨(fun _ h => (by cases h)), [], trivial, ?_, (fun _ h => (by cases h))⟩
  rw [List.append_nil]
  exact List.forall_mem_cons.mpr ⟨⟨show (18 : Nat) < 100 from by decide, nf0⟩, (fun _ h => (by cases h))⟩

set_option maxHeartbeats 4000000 in
theorem vc_Mo_groupItem_at_k1_16_0 (x7 : Int) (x8 : Int) (x13 : Int) (x15 : Int) (x17 : Int) (x18 : Int) (x19 : Int) (x21 : Int) (x22 : Int) (r_0 : Int) (from_0 : Int) (pos_0 : Int) (tape_0 : Int → Int) (limit_0 : Int) (kind_0 : Int) (tape_1 : Int → Int) (limit_1 : Int) (from_1 : Int) (pos_1 : Int) (kind_1 : Int) (all_1 : Int → Int) (r_1 : Int) (now_1 : Int → Int) (latest_1 : Int → Int) (place_1 : Int) (value_1 : Int) (fault_1 : Int) (fault_0 : Int) (place_0 : Int) (value_0 : Int) (all_0 : Int → Int) (now_0 : Int → Int) (latest_0 : Int → Int) (k7 : 0 ≤ x7 ∧ x7 ≤ 7) (k8 : 0 ≤ x8 ∧ x8 ≤ 7) (k13 : 0 ≤ x13 ∧ x13 ≤ 66297) (k15 : 459 ≤ x15 ∧ x15 ≤ 66756) (k17 : 0 ≤ x17 ∧ x17 ≤ 56) (k18 : 459 ≤ x18 ∧ x18 ≤ 66812) (k19 : 459 ≤ x19 ∧ x19 ≤ 66819) (k21 : (-1) ≤ x21 ∧ x21 ≤ (-1)) (k22 : 1 ≤ x22 ∧ x22 ≤ 8) (d0 : x8 + 1 ≤ x22 ∧ x22 ≤ x8 + 1) (d9 : x15 + 0 ≤ x19 ∧ x19 ≤ x15 + 63) (d14 : x13 + 459 ≤ x15 ∧ x15 ≤ x13 + 459) (g0 : x13 = r_0) (f19 : x19 = x18 + x8) (f20 : x18 = x15 + x17) (f21 : x17 = 8 * x7) (f29 : (x7 + 1) ≤ all_1 ((r_1 + 2))) (fe_0_5_1 : r_0 = r_1) (fe_0_8_1 : fault_0 = fault_1) (fe_0_10_1 : limit_0 = limit_1) (fe_0_11_1 : pos_0 = pos_1) (fe_0_12_1 : kind_0 = kind_1) (fe_0_13_1 : place_0 = place_1) (fe_0_14_1 : value_0 = value_1) (fe_0_15_1 : from_0 = from_1) (hE_0_1_1 : ∀ j : Int, tape_0 j = tape_1 j) (hE_0_2_1 : ∀ j : Int, 0 ≤ j → (j = x19 → all_0 j = x21) ∧ (j ≠ x19 → all_0 j = all_1 j)) (hE_0_3_1 : ∀ j : Int, now_0 j = now_1 j) (hE_0_4_1 : ∀ j : Int, latest_0 j = latest_1 j) (kz_0_8 : 0 ≤ fault_0 ∧ fault_0 ≤ 5) (kz_0_10 : 0 ≤ limit_0 ∧ limit_0 ≤ 2000) (kz_0_11 : 0 ≤ pos_0 ∧ pos_0 ≤ 2000) (kz_0_12 : 0 ≤ kind_0 ∧ kind_0 ≤ 4) (kz_0_13 : 0 ≤ place_0 ∧ place_0 ≤ 2000) (kz_0_14 : (-49) ≤ value_0 ∧ value_0 ≤ 1048575) (kz_0_15 : 0 ≤ from_0 ∧ from_0 ≤ 2000) : (x7 + 1) ≤ all_0 ((r_0 + 2)) := by
  subst fe_0_5_1
  subst fe_0_8_1
  subst fe_0_10_1
  subst fe_0_11_1
  subst fe_0_12_1
  subst fe_0_13_1
  subst fe_0_14_1
  subst fe_0_15_1
  have e_hE_0_1_1 := funext hE_0_1_1; subst e_hE_0_1_1
  have e_hE_0_3_1 := funext hE_0_3_1; subst e_hE_0_3_1
  have e_hE_0_4_1 := funext hE_0_4_1; subst e_hE_0_4_1
  first
    | omega
    | (have q1 := (hE_0_2_1 (r_0 + 2) (by omega)).2 (by omega)
       have q2 := (hE_0_2_2 (r_0 + 2) (by omega)).2 (by omega)
       omega)
    | (have q1 := (hE_0_2_1 (r_0 + 1) (by omega)).2 (by omega)
       have q2 := (hE_0_2_2 (r_0 + 1) (by omega)).2 (by omega)
       omega)
    | (have q1 := (hE_0_2_1 (r_0 + 2) (by omega)).2 (by omega)
       omega)
    | (have q1 := (hE_0_2_1 (r_0 + 1) (by omega)).2 (by omega)
       omega)
    | (have q1 := (hE_0_2_1 (r_0 + 2) (by omega)).2 (by omega)
       have q2 := (hE_0_2_2 (r_0 + 2) (by omega)).2 (by omega)
       have q3 := (hE_0_2_3 (r_0 + 2) (by omega)).1 (by omega)
       omega)
    | (have q1 := (hE_0_2_1 (r_0 + 2) (by omega)).2 (by omega)
       have q2 := (hE_0_2_2 (r_0 + 2) (by omega)).2 (by omega)
       have q3 := (hE_0_2_3 (r_0 + 2) (by omega)).2 (by omega)
       omega)
    | (have q1 := (hE_0_2_1 (r_0 + 2) (by omega)).2 (by omega)
       have q2 := (hE_0_2_2 (r_0 + 2) (by omega)).2 (by omega)
       have q3 := (hE_0_2_3 (r_0 + 2) (by omega)).1 (by omega)
       have q4 : x13 = r_0 + 2 := by omega
       simp only [q4] at *
       omega)
set_option maxHeartbeats 4000000 in
theorem vc_Mo_groupItem_at_k1_16_1 (x7 : Int) (x8 : Int) (x13 : Int) (x15 : Int) (x17 : Int) (x18 : Int) (x19 : Int) (x21 : Int) (x22 : Int) (r_0 : Int) (from_0 : Int) (pos_0 : Int) (tape_0 : Int → Int) (limit_0 : Int) (kind_0 : Int) (tape_1 : Int → Int) (limit_1 : Int) (from_1 : Int) (pos_1 : Int) (kind_1 : Int) (all_1 : Int → Int) (r_1 : Int) (now_1 : Int → Int) (latest_1 : Int → Int) (place_1 : Int) (value_1 : Int) (fault_1 : Int) (fault_0 : Int) (place_0 : Int) (value_0 : Int) (all_0 : Int → Int) (now_0 : Int → Int) (latest_0 : Int → Int) (k7 : 0 ≤ x7 ∧ x7 ≤ 7) (k8 : 0 ≤ x8 ∧ x8 ≤ 7) (k13 : 0 ≤ x13 ∧ x13 ≤ 66297) (k15 : 459 ≤ x15 ∧ x15 ≤ 66756) (k17 : 0 ≤ x17 ∧ x17 ≤ 56) (k18 : 459 ≤ x18 ∧ x18 ≤ 66812) (k19 : 459 ≤ x19 ∧ x19 ≤ 66819) (k21 : (-1) ≤ x21 ∧ x21 ≤ (-1)) (k22 : 1 ≤ x22 ∧ x22 ≤ 8) (d0 : x8 + 1 ≤ x22 ∧ x22 ≤ x8 + 1) (d9 : x15 + 0 ≤ x19 ∧ x19 ≤ x15 + 63) (d14 : x13 + 459 ≤ x15 ∧ x15 ≤ x13 + 459) (g0 : x13 = r_0) (f19 : x19 = x18 + x8) (f20 : x18 = x15 + x17) (f21 : x17 = 8 * x7) (f31 : RWS (r_1) (all_1) (now_1) (latest_1)) (fe_0_5_1 : r_0 = r_1) (fe_0_8_1 : fault_0 = fault_1) (fe_0_10_1 : limit_0 = limit_1) (fe_0_11_1 : pos_0 = pos_1) (fe_0_12_1 : kind_0 = kind_1) (fe_0_13_1 : place_0 = place_1) (fe_0_14_1 : value_0 = value_1) (fe_0_15_1 : from_0 = from_1) (hE_0_1_1 : ∀ j : Int, tape_0 j = tape_1 j) (hE_0_2_1 : ∀ j : Int, 0 ≤ j → (j = x19 → all_0 j = x21) ∧ (j ≠ x19 → all_0 j = all_1 j)) (hE_0_3_1 : ∀ j : Int, now_0 j = now_1 j) (hE_0_4_1 : ∀ j : Int, latest_0 j = latest_1 j) (kz_0_8 : 0 ≤ fault_0 ∧ fault_0 ≤ 5) (kz_0_10 : 0 ≤ limit_0 ∧ limit_0 ≤ 2000) (kz_0_11 : 0 ≤ pos_0 ∧ pos_0 ≤ 2000) (kz_0_12 : 0 ≤ kind_0 ∧ kind_0 ≤ 4) (kz_0_13 : 0 ≤ place_0 ∧ place_0 ≤ 2000) (kz_0_14 : (-49) ≤ value_0 ∧ value_0 ≤ 1048575) (kz_0_15 : 0 ≤ from_0 ∧ from_0 ≤ 2000) : RWS (r_0) (all_0) (now_0) (latest_0) := by
  subst fe_0_5_1
  subst fe_0_8_1
  subst fe_0_10_1
  subst fe_0_11_1
  subst fe_0_12_1
  subst fe_0_13_1
  subst fe_0_14_1
  subst fe_0_15_1
  have e_hE_0_1_1 := funext hE_0_1_1; subst e_hE_0_1_1
  have e_hE_0_3_1 := funext hE_0_3_1; subst e_hE_0_3_1
  have e_hE_0_4_1 := funext hE_0_4_1; subst e_hE_0_4_1
  first
    | (have hr := rws_r ‹RWS _ _ _ _›
       exact rws_off (rws_off (rws_off ‹RWS _ _ _ _› (by assumption) (by omega)) (by assumption) (by omega)) (by assumption) (by omega))
    | (have hr := rws_r ‹RWS _ _ _ _›
       exact rws_off ‹RWS _ _ _ _› (by assumption) (by omega))
set_option maxHeartbeats 4000000 in
theorem vc_Mo_groupItem_at_k1_16_2 (x1 : Int) (x2 : Int) (x7 : Int) (x8 : Int) (x9 : Int) (x10 : Int) (x11 : Int) (x13 : Int) (x15 : Int) (x17 : Int) (x18 : Int) (x19 : Int) (x20 : Int) (x21 : Int) (x22 : Int) (r_0 : Int) (from_0 : Int) (pos_0 : Int) (tape_0 : Int → Int) (limit_0 : Int) (kind_0 : Int) (tape_1 : Int → Int) (limit_1 : Int) (from_1 : Int) (pos_1 : Int) (kind_1 : Int) (all_1 : Int → Int) (r_1 : Int) (now_1 : Int → Int) (latest_1 : Int → Int) (place_1 : Int) (value_1 : Int) (fault_1 : Int) (fault_0 : Int) (place_0 : Int) (value_0 : Int) (all_0 : Int → Int) (now_0 : Int → Int) (latest_0 : Int → Int) (k1 : 0 ≤ x1 ∧ x1 ≤ 7) (k2 : 1 ≤ x2 ∧ x2 ≤ 1) (k7 : 0 ≤ x7 ∧ x7 ≤ 7) (k8 : 0 ≤ x8 ∧ x8 ≤ 7) (k9 : 1 ≤ x9 ∧ x9 ≤ 2000) (k10 : 0 ≤ x10 ∧ x10 ≤ 2000) (k11 : 1 ≤ x11 ∧ x11 ≤ 2000) (k13 : 0 ≤ x13 ∧ x13 ≤ 66297) (k15 : 459 ≤ x15 ∧ x15 ≤ 66756) (k17 : 0 ≤ x17 ∧ x17 ≤ 56) (k18 : 459 ≤ x18 ∧ x18 ≤ 66812) (k19 : 459 ≤ x19 ∧ x19 ≤ 66819) (k20 : 0 ≤ x20 ∧ x20 ≤ 2007) (k21 : (-1) ≤ x21 ∧ x21 ≤ (-1)) (k22 : 1 ≤ x22 ∧ x22 ≤ 8) (d0 : x8 + 1 ≤ x22 ∧ x22 ≤ x8 + 1) (d1 : x11 + (-4294967296) ≤ x22 ∧ x22 ≤ x11 + 0) (d4 : x10 + 0 ≤ x20 ∧ x20 ≤ x10 + 7) (d11 : x17 + 459 ≤ x18 ∧ x18 ≤ x17 + 66756) (d14 : x13 + 459 ≤ x15 ∧ x15 ≤ x13 + 459) (d15 : x11 + (-4294967296) ≤ x8 ∧ x8 ≤ x11 + (-1)) (g0 : x13 = r_0) (g2 : x10 = from_0) (g3 : x9 = pos_0) (f4 : x22 = x8 + 1) (f16 : ((x20 + 1) ≤ limit_1) → (x21 = (tape_1 (x20) % 256))) (f18 : x20 = x10 + x8) (f19 : x19 = x18 + x8) (f20 : x18 = x15 + x17) (f21 : x17 = 8 * x7) (f24 : x11 = x9 - x10) (f32 : zMG (limit_1) (pos_1) (kind_1) (place_1) (value_1) (from_1) (fault_1) (r_1) (tape_1) (all_1) (x7) (x8) (x1) (x2)) (fe_0_5_1 : r_0 = r_1) (fe_0_8_1 : fault_0 = fault_1) (fe_0_10_1 : limit_0 = limit_1) (fe_0_11_1 : pos_0 = pos_1) (fe_0_12_1 : kind_0 = kind_1) (fe_0_13_1 : place_0 = place_1) (fe_0_14_1 : value_0 = value_1) (fe_0_15_1 : from_0 = from_1) (hE_0_1_1 : ∀ j : Int, tape_0 j = tape_1 j) (hE_0_2_1 : ∀ j : Int, 0 ≤ j → (j = x19 → all_0 j = x21) ∧ (j ≠ x19 → all_0 j = all_1 j)) (hE_0_3_1 : ∀ j : Int, now_0 j = now_1 j) (hE_0_4_1 : ∀ j : Int, latest_0 j = latest_1 j) (kz_0_8 : 0 ≤ fault_0 ∧ fault_0 ≤ 5) (kz_0_10 : 0 ≤ limit_0 ∧ limit_0 ≤ 2000) (kz_0_11 : 0 ≤ pos_0 ∧ pos_0 ≤ 2000) (kz_0_12 : 0 ≤ kind_0 ∧ kind_0 ≤ 4) (kz_0_13 : 0 ≤ place_0 ∧ place_0 ≤ 2000) (kz_0_14 : (-49) ≤ value_0 ∧ value_0 ≤ 1048575) (kz_0_15 : 0 ≤ from_0 ∧ from_0 ≤ 2000) : zMG (limit_0) (pos_0) (kind_0) (place_0) (value_0) (from_0) (fault_0) (r_0) (tape_0) (all_0) (x7) (x22) (x1) (x2) := by
  subst fe_0_5_1
  subst fe_0_8_1
  subst fe_0_10_1
  subst fe_0_11_1
  subst fe_0_12_1
  subst fe_0_13_1
  subst fe_0_14_1
  subst fe_0_15_1
  have e_hE_0_1_1 := funext hE_0_1_1; subst e_hE_0_1_1
  have e_hE_0_3_1 := funext hE_0_3_1; subst e_hE_0_3_1
  have e_hE_0_4_1 := funext hE_0_4_1; subst e_hE_0_4_1
  first | subst g0 | skip
  first | subst g2 | skip
  first | subst g3 | skip
  first
    | exact mg_step ‹zMG _ _ _ _ _ _ _ _ _ _ _ _ _ _› (by omega) (by assumption) (by omega) (tk_byte (mg_tk ‹zMG _ _ _ _ _ _ _ _ _ _ _ _ _ _›) (by assumption) (by omega) (by omega) (by omega)) (by omega) (by omega)
    | exact mg_start (rsq_of ‹zTS5 _ _ _ _ _ _ _ _› ‹TKR _ _ _ _ _ _ _ _›) (by omega) ‹NMQ _ _ _ _ _ _› (by omega) (by assumption) (by assumption) (by assumption) (by omega) (by omega) (by omega) (by omega) (by omega) (by omega) (by omega) (by omega)
def o_Mo_groupItem_at_k1_16 : or_T := (108, 23, [(0, (2, 0, 0, [165])), (1, (0, 0, 7, [])), (2, (0, 1, 1, [])), (3, (0, 0, 2000, [])), (4, (2, 0, 0, [165])), (5, (0, 0, 7, [])), (6, (0, 1, 1, [])), (7, (0, 0, 7, [])), (8, (0, 0, 7, [])), (9, (0, 1, 2000, [])), (10, (0, 0, 2000, [])), (11, (0, 1, 2000, [])), (12, (2, 0, 0, [167])), (13, (0, 0, 66297, [])), (14, (0, 459, 459, [])), (15, (0, 459, 66756, [])), (16, (0, 8, 8, [])), (17, (0, 0, 56, [])), (18, (0, 459, 66812, [])), (19, (0, 459, 66819, [])), (20, (0, 0, 2007, [])), (21, (0, -1, -1, [])), (22, (0, 1, 8, []))], [(9, [13, 4], [5]), (9, [12, 4], [2]), (9, [10, 4], [15]), (9, [9, 4], [11]), (6, [22, 8], [1]), (20, [20, 4, 21], [50, 1, 1, 1010, 1001, 4, 11, 0, 6, 4, 2, 1, 0, 0, 1, 2, 1, 10, 1, 2, 1, 2, 9, 5, 3, 1, 1, 1, 0, 0, 256]), (20, [4, 20, 21], [50, 1, 0, 10, 4, 7, 0, 3, 2, 0, 10, 1, 1, 1, 2, 1, 2, 0, -1]), (20, [4, 4], [30, 0, 1, 1, 15, -1, 1, 11]), (20, [4], [50, 3, 0, 12, 11, 15, 2, 21, 4, 7, 1, 3, 2, 0, 12, 0, 1, 0, 3, 2, 0, 11, 4, 3, 2, 0, 15, 0, 8, 3, 7, 1, 3, 2, 0, 12, 0, 0, 0, 7, 4, 3, 2, 0, 15, 0, 1, 2, 0, 11]), (20, [3, 4], [30, -1, 1, 0, 0, -1, 1, 11]), (20, [4], [50, 1, 0, 12, 1, 3, 2, 0, 12, 0, 1]), (23, [5, 7], [-1, 1, -1]), (24, [0, 4], []), (24, [1, 5], []), (24, [2, 6], []), (100, [12, 19, 21], []), (20, [20, 4, 21], [50, 1, 1, 1010, 1001, 4, 11, 0, 6, 4, 2, 1, 0, 0, 1, 2, 1, 10, 1, 2, 1, 2, 9, 5, 3, 1, 1, 1, 0, 0, 256]), (20, [4, 20, 21], [50, 1, 0, 10, 4, 7, 0, 3, 2, 0, 10, 1, 1, 1, 2, 1, 2, 0, -1]), (1, [20, 10, 8], []), (1, [19, 18, 8], []), (1, [18, 15, 17], []), (3, [17, 16, 7], []), (1, [15, 13, 14], []), (7, [8, 11], [2]), (2, [11, 9, 10], []), (20, [4, 4], [30, 0, 1, 1, 15, -1, 1, 11]), (20, [4], [50, 3, 0, 12, 11, 15, 2, 21, 4, 7, 1, 3, 2, 0, 12, 0, 1, 0, 3, 2, 0, 11, 4, 3, 2, 0, 15, 0, 8, 3, 7, 1, 3, 2, 0, 12, 0, 0, 0, 7, 4, 3, 2, 0, 15, 0, 1, 2, 0, 11]), (20, [3, 4], [30, -1, 1, 0, 0, -1, 1, 11]), (20, [4], [50, 1, 0, 12, 1, 3, 2, 0, 12, 0, 1]), (20, [7, 4], [50, 1, 1, 1005, 1002, 0, 6, 4, 2, 1, 0, 0, 1, 3, 1, 2, 4, 3, 2, 1, 5, 0, 2]), (23, [5, 7], [-1, 1, -1]), (20, [4], [60, 1, 3, 199, 5, 2, 3, 4]), (20, [4, 7, 8, 5, 6], [60, 8, 2, 1006, 10, 11, 12, 13, 14, 15, 8, 5, 1, 2])], [], [], [(20, [7, 4], [50, 1, 1, 1005, 1002, 0, 6, 4, 2, 1, 0, 0, 1, 3, 1, 2, 4, 3, 2, 1, 5, 0, 2]), (20, [4], [60, 1, 3, 199, 5, 2, 3, 4]), (20, [4, 7, 22, 5, 6], [60, 8, 2, 1006, 10, 11, 12, 13, 14, 15, 8, 5, 1, 2])], [], [(22, 8, 1, 1), (22, 11, -4294967296, 0), (20, 8, 0, 2000), (20, 11, -4294967296, 1999), (20, 10, 0, 7), (19, 8, 459, 66812), (19, 11, -4294967296, 66811), (19, 18, 0, 7), (19, 17, 459, 66763), (19, 15, 0, 63), (19, 13, 459, 522), (18, 17, 459, 66756), (18, 15, 0, 56), (18, 13, 459, 515), (15, 13, 459, 459), (8, 11, -4294967296, -1), (11, 9, -2000, 0), (1, 5, -4294967296, 0), (5, 1, -4294967296, 0)])
theorem oo_Mo_groupItem_at_k1_16 {kA : Nat → ClassId} : or_ok PRD kA GG o_Mo_groupItem_at_k1_16 := by
  refine or_mk fun A ta ws vs hD hth hl => ?_
  intro t0 r0 t1 k1 t2 k2 t3 k3 t4 r4 t5 k5 t6 k6 t7 k7 t8 k8 t9 k9 t10 k10 t11 k11 t12 r12 t13 k13 t14 k14 t15 k15 t16 k16 t17 k17 t18 k18 t19 k19 t20 k20 t21 k21 t22 k22 d0 d1 d2 d3 d4 d5 d6 d7 d8 d9 d10 d11 d12 d13 d14 d15 d16 d17 d18 f0 f1 f2 f3 f4 f5 f6 f7 f8 f9 f10 f11 f12 f13 f14 ta1 w1 le1 s1 f16 f17 f18 f19 f20 f21 f22 f23 f24 f25 f26 f27 f28 f29 f30 f31 f32
  replace f0 := shm_110 f0
  replace f1 := shm_120 f1
  replace f2 := shm_177 f2
  replace f3 := shm_116 f3
  replace f4 := shm_4 f4
  replace f5 := shm_541 f5
  replace f6 := shm_542 f6
  replace f7 := shm_1437 f7
  replace f8 := shm_1438 f8
  replace f9 := shm_2005 f9
  replace f10 := shm_1890 f10
  replace f11 := shm_193 f11
  replace f12 := shm_5 f12
  replace f13 := shm_5 f13
  replace f14 := shm_5 f14
  have s1 : (∀ b j, w_el ws b j = if b = v_ad (n_v vs 12) ∧ j = (v_iv (n_v vs 19)).toNat then v_iv (n_v vs 21) else w_el w1 b j) ∧ ∀ b k, w_fd ws b k = w_fd w1 b k := s1.2
  replace f16 := shm_541 f16
  replace f17 := shm_542 f17
  replace f18 := shm_12 f18
  replace f19 := shm_12 f19
  replace f20 := shm_12 f20
  replace f21 := shm_38 f21
  rw [show v_iv (n_v vs 16) = 8 from by omega] at f21
  replace f22 := shm_12 f22
  replace f23 := shm_6 f23
  replace f24 := shm_14 f24
  replace f25 := shm_1437 f25
  replace f26 := shm_1438 f26
  replace f27 := shm_2005 f27
  replace f28 := shm_1890 f28
  replace f29 := shm_1009 f29
  replace f30 := shm_193 f30
  replace f31 := shm_980 f31
  replace f32 := shm_2175 f32
  have q4 : n_v vs 4 = n_v vs 0 := f12.symm
  have q5 : n_v vs 5 = n_v vs 1 := f13.symm
  have q6 : n_v vs 6 = n_v vs 2 := f14.symm
  simp only [q4, q5, q6] at f0 f1 f2 f3 f5 f6 f7 f8 f9 f10 f11 f16 f17 f25 f26 f27 f28 f29 f30 f31 f32
  have ar_0_1_1 : w_ar w1 (n_v vs 0) 1 = w_ar ws (n_v vs 0) 1 := congrArg v_ad (s1.2 _ _).symm
  have cr_0_1 := fdq_39 hD hth r0
  have ar_0_2_1 : w_ar w1 (n_v vs 0) 2 = w_ar ws (n_v vs 0) 2 := congrArg v_ad (s1.2 _ _).symm
  have cr_0_2 := fdq_10 hD hth r0
  have ar_0_3_1 : w_ar w1 (n_v vs 0) 3 = w_ar ws (n_v vs 0) 3 := congrArg v_ad (s1.2 _ _).symm
  have cr_0_3 := fdq_142 hD hth r0
  have ar_0_4_1 : w_ar w1 (n_v vs 0) 4 = w_ar ws (n_v vs 0) 4 := congrArg v_ad (s1.2 _ _).symm
  have cr_0_4 := fdq_143 hD hth r0
  have ad_12 : v_ad (n_v vs 12) = w_ar ws (n_v vs 0) 2 := congrArg v_ad f1
  have g0 : v_iv (n_v vs 13) = w_fi ws (n_v vs 0) 5 := congrArg v_iv f0
  have g2 : v_iv (n_v vs 10) = w_fi ws (n_v vs 0) 15 := congrArg v_iv f2
  have g3 : v_iv (n_v vs 9) = w_fi ws (n_v vs 0) 11 := congrArg v_iv f3
  simp only [ar_0_1_1, ar_0_2_1, ar_0_3_1, ar_0_4_1] at f16 f29 f31 f32
  have fe_0_5_1 : w_fi ws (n_v vs 0) 5 = w_fi w1 (n_v vs 0) 5 := congrArg v_iv (s1.2 _ _)
  have fe_0_8_1 : w_fi ws (n_v vs 0) 8 = w_fi w1 (n_v vs 0) 8 := congrArg v_iv (s1.2 _ _)
  have fe_0_10_1 : w_fi ws (n_v vs 0) 10 = w_fi w1 (n_v vs 0) 10 := congrArg v_iv (s1.2 _ _)
  have fe_0_11_1 : w_fi ws (n_v vs 0) 11 = w_fi w1 (n_v vs 0) 11 := congrArg v_iv (s1.2 _ _)
  have fe_0_12_1 : w_fi ws (n_v vs 0) 12 = w_fi w1 (n_v vs 0) 12 := congrArg v_iv (s1.2 _ _)
  have fe_0_13_1 : w_fi ws (n_v vs 0) 13 = w_fi w1 (n_v vs 0) 13 := congrArg v_iv (s1.2 _ _)
  have fe_0_14_1 : w_fi ws (n_v vs 0) 14 = w_fi w1 (n_v vs 0) 14 := congrArg v_iv (s1.2 _ _)
  have fe_0_15_1 : w_fi ws (n_v vs 0) 15 = w_fi w1 (n_v vs 0) 15 := congrArg v_iv (s1.2 _ _)
  have hE_0_1_1 : ∀ j : Int, w_ei ws (w_ar ws (n_v vs 0) 1) j = w_ei w1 (w_ar ws (n_v vs 0) 1) j := el_kp s1.1 r12 cr_0_1 (by decide)
  have hK_0_1 := elq_7 hD hth cr_0_1
  have hE_0_2_1 : ∀ j : Int, 0 ≤ j → (j = v_iv (n_v vs 19) → w_ei ws (w_ar ws (n_v vs 0) 2) j = v_iv (n_v vs 21)) ∧ (j ≠ v_iv (n_v vs 19) → w_ei ws (w_ar ws (n_v vs 0) 2) j = w_ei w1 (w_ar ws (n_v vs 0) 2) j) := fun j hj => ⟨fun h => by unfold w_ei; rw [s1.1, if_pos ⟨ad_12.symm, by rw [h]⟩], fun h => by unfold w_ei; rw [s1.1, if_neg (fun e => h (by have := e.2; omega))]⟩
  have hE_0_3_1 : ∀ j : Int, w_ei ws (w_ar ws (n_v vs 0) 3) j = w_ei w1 (w_ar ws (n_v vs 0) 3) j := el_kp s1.1 r12 cr_0_3 (by decide)
  have hK_0_3 := elq_80 hD hth cr_0_3
  have hE_0_4_1 : ∀ j : Int, w_ei ws (w_ar ws (n_v vs 0) 4) j = w_ei w1 (w_ar ws (n_v vs 0) 4) j := el_kp s1.1 r12 cr_0_4 (by decide)
  have hK_0_4 := elq_81 hD hth cr_0_4
  have kz_0_8 := fdq_34 hD hth r0
  have kz_0_10 := fdq_43 hD hth r0
  have kz_0_11 := fdq_237 hD hth r0
  have kz_0_12 := fdq_187 hD hth r0
  have kz_0_13 := fdq_238 hD hth r0
  have kz_0_14 := fdq_188 hD hth r0
  have kz_0_15 := fdq_239 hD hth r0
  first | have hJ0 : w_ei w1 (w_ar ws (n_v vs 0) 2) ((w_fi w1 (n_v vs 0) 5 + 2)) = w_ei w1 (w_ar ws (n_v vs 0) 2) ((w_fi ws (n_v vs 0) 5 + 2)) := congrArg _ (show ((w_fi w1 (n_v vs 0) 5 + 2) : Int) = (w_fi ws (n_v vs 0) 5 + 2) from by omega) | skip
  have hI1 := hE_0_1_1 (v_iv (n_v vs 20))
  first | have hI2 := (hE_0_2_1 ((w_fi ws (n_v vs 0) 5 + 2)) (by omega)).2 (by omega) | have hI2 := (hE_0_2_1 ((w_fi ws (n_v vs 0) 5 + 2)) (by omega)).1 (by omega) | skip
  have nf0 : fc_1 PRD (20, [7, 4], [50, 1, 1, 1005, 1002, 0, 6, 4, 2, 1, 0, 0, 1, 3, 1, 2, 4, 3, 2, 1, 5, 0, 2]) ws (vs) := by
    refine ⟨nf_in hl rfl, sgq_1009 ?_⟩
    · show (v_iv (n_v vs 7) + 1) ≤ w_ei ws (w_ar ws (n_v vs 4) 2) ((w_fi ws (n_v vs 4) 5 + 2))
      rw [q4]
      exact vc_Mo_groupItem_at_k1_16_0 (v_iv (n_v vs 7)) (v_iv (n_v vs 8)) (v_iv (n_v vs 13)) (v_iv (n_v vs 15)) (v_iv (n_v vs 17)) (v_iv (n_v vs 18)) (v_iv (n_v vs 19)) (v_iv (n_v vs 21)) (v_iv (n_v vs 22)) (w_fi ws (n_v vs 0) 5) (w_fi ws (n_v vs 0) 15) (w_fi ws (n_v vs 0) 11) (w_ei ws (w_ar ws (n_v vs 0) 1)) (w_fi ws (n_v vs 0) 10) (w_fi ws (n_v vs 0) 12) (w_ei w1 (w_ar ws (n_v vs 0) 1)) (w_fi w1 (n_v vs 0) 10) (w_fi w1 (n_v vs 0) 15) (w_fi w1 (n_v vs 0) 11) (w_fi w1 (n_v vs 0) 12) (w_ei w1 (w_ar ws (n_v vs 0) 2)) (w_fi w1 (n_v vs 0) 5) (w_ei w1 (w_ar ws (n_v vs 0) 3)) (w_ei w1 (w_ar ws (n_v vs 0) 4)) (w_fi w1 (n_v vs 0) 13) (w_fi w1 (n_v vs 0) 14) (w_fi w1 (n_v vs 0) 8) (w_fi ws (n_v vs 0) 8) (w_fi ws (n_v vs 0) 13) (w_fi ws (n_v vs 0) 14) (w_ei ws (w_ar ws (n_v vs 0) 2)) (w_ei ws (w_ar ws (n_v vs 0) 3)) (w_ei ws (w_ar ws (n_v vs 0) 4)) k7 k8 k13 k15 k17 k18 k19 k21 k22 d0 d9 d14 g0 f19 f20 f21 f29 fe_0_5_1 fe_0_8_1 fe_0_10_1 fe_0_11_1 fe_0_12_1 fe_0_13_1 fe_0_14_1 fe_0_15_1 hE_0_1_1 hE_0_2_1 hE_0_3_1 hE_0_4_1 kz_0_8 kz_0_10 kz_0_11 kz_0_12 kz_0_13 kz_0_14 kz_0_15
  have nf1 : fc_1 PRD (20, [4], [60, 1, 3, 199, 5, 2, 3, 4]) ws (vs) := by
    refine ⟨nf_in hl rfl, sgq_980 ?_⟩
    · show RWS (w_fi ws (n_v vs 4) 5) (w_ei ws (w_ar ws (n_v vs 4) 2)) (w_ei ws (w_ar ws (n_v vs 4) 3)) (w_ei ws (w_ar ws (n_v vs 4) 4))
      rw [q4]
      exact vc_Mo_groupItem_at_k1_16_1 (v_iv (n_v vs 7)) (v_iv (n_v vs 8)) (v_iv (n_v vs 13)) (v_iv (n_v vs 15)) (v_iv (n_v vs 17)) (v_iv (n_v vs 18)) (v_iv (n_v vs 19)) (v_iv (n_v vs 21)) (v_iv (n_v vs 22)) (w_fi ws (n_v vs 0) 5) (w_fi ws (n_v vs 0) 15) (w_fi ws (n_v vs 0) 11) (w_ei ws (w_ar ws (n_v vs 0) 1)) (w_fi ws (n_v vs 0) 10) (w_fi ws (n_v vs 0) 12) (w_ei w1 (w_ar ws (n_v vs 0) 1)) (w_fi w1 (n_v vs 0) 10) (w_fi w1 (n_v vs 0) 15) (w_fi w1 (n_v vs 0) 11) (w_fi w1 (n_v vs 0) 12) (w_ei w1 (w_ar ws (n_v vs 0) 2)) (w_fi w1 (n_v vs 0) 5) (w_ei w1 (w_ar ws (n_v vs 0) 3)) (w_ei w1 (w_ar ws (n_v vs 0) 4)) (w_fi w1 (n_v vs 0) 13) (w_fi w1 (n_v vs 0) 14) (w_fi w1 (n_v vs 0) 8) (w_fi ws (n_v vs 0) 8) (w_fi ws (n_v vs 0) 13) (w_fi ws (n_v vs 0) 14) (w_ei ws (w_ar ws (n_v vs 0) 2)) (w_ei ws (w_ar ws (n_v vs 0) 3)) (w_ei ws (w_ar ws (n_v vs 0) 4)) k7 k8 k13 k15 k17 k18 k19 k21 k22 d0 d9 d14 g0 f19 f20 f21 f31 fe_0_5_1 fe_0_8_1 fe_0_10_1 fe_0_11_1 fe_0_12_1 fe_0_13_1 fe_0_14_1 fe_0_15_1 hE_0_1_1 hE_0_2_1 hE_0_3_1 hE_0_4_1 kz_0_8 kz_0_10 kz_0_11 kz_0_12 kz_0_13 kz_0_14 kz_0_15
  have nf2 : fc_1 PRD (20, [4, 7, 22, 5, 6], [60, 8, 2, 1006, 10, 11, 12, 13, 14, 15, 8, 5, 1, 2]) ws (vs) := by
    refine ⟨nf_in hl rfl, sgq_2175 ?_⟩
    · show zMG (w_fi ws (n_v vs 4) 10) (w_fi ws (n_v vs 4) 11) (w_fi ws (n_v vs 4) 12) (w_fi ws (n_v vs 4) 13) (w_fi ws (n_v vs 4) 14) (w_fi ws (n_v vs 4) 15) (w_fi ws (n_v vs 4) 8) (w_fi ws (n_v vs 4) 5) (w_ei ws (w_ar ws (n_v vs 4) 1)) (w_ei ws (w_ar ws (n_v vs 4) 2)) (v_iv (n_v vs 7)) (v_iv (n_v vs 22)) (v_iv (n_v vs 5)) (v_iv (n_v vs 6))
      simp only [q4, q5, q6]
      exact vc_Mo_groupItem_at_k1_16_2 (v_iv (n_v vs 1)) (v_iv (n_v vs 2)) (v_iv (n_v vs 7)) (v_iv (n_v vs 8)) (v_iv (n_v vs 9)) (v_iv (n_v vs 10)) (v_iv (n_v vs 11)) (v_iv (n_v vs 13)) (v_iv (n_v vs 15)) (v_iv (n_v vs 17)) (v_iv (n_v vs 18)) (v_iv (n_v vs 19)) (v_iv (n_v vs 20)) (v_iv (n_v vs 21)) (v_iv (n_v vs 22)) (w_fi ws (n_v vs 0) 5) (w_fi ws (n_v vs 0) 15) (w_fi ws (n_v vs 0) 11) (w_ei ws (w_ar ws (n_v vs 0) 1)) (w_fi ws (n_v vs 0) 10) (w_fi ws (n_v vs 0) 12) (w_ei w1 (w_ar ws (n_v vs 0) 1)) (w_fi w1 (n_v vs 0) 10) (w_fi w1 (n_v vs 0) 15) (w_fi w1 (n_v vs 0) 11) (w_fi w1 (n_v vs 0) 12) (w_ei w1 (w_ar ws (n_v vs 0) 2)) (w_fi w1 (n_v vs 0) 5) (w_ei w1 (w_ar ws (n_v vs 0) 3)) (w_ei w1 (w_ar ws (n_v vs 0) 4)) (w_fi w1 (n_v vs 0) 13) (w_fi w1 (n_v vs 0) 14) (w_fi w1 (n_v vs 0) 8) (w_fi ws (n_v vs 0) 8) (w_fi ws (n_v vs 0) 13) (w_fi ws (n_v vs 0) 14) (w_ei ws (w_ar ws (n_v vs 0) 2)) (w_ei ws (w_ar ws (n_v vs 0) 3)) (w_ei ws (w_ar ws (n_v vs 0) 4)) k1 k2 k7 k8 k9 k10 k11 k13 k15 k17 k18 k19 k20 k21 k22 d0 d1 d4 d11 d14 d15 g0 g2 g3 f4 f16 f18 f19 f20 f21 f24 f32 fe_0_5_1 fe_0_8_1 fe_0_10_1 fe_0_11_1 fe_0_12_1 fe_0_13_1 fe_0_14_1 fe_0_15_1 hE_0_1_1 hE_0_2_1 hE_0_3_1 hE_0_4_1 kz_0_8 kz_0_10 kz_0_11 kz_0_12 kz_0_13 kz_0_14 kz_0_15
  refine ⟨(fun _ h => (by cases h)), [], trivial, ?_, (fun _ h => (by cases h))⟩
  rw [List.append_nil]
  exact List.forall_mem_cons.mpr ⟨⟨show (20 : Nat) < 100 from by decide, nf0⟩, List.forall_mem_cons.mpr ⟨⟨show (20 : Nat) < 100 from by decide, nf1⟩, List.forall_mem_cons.mpr ⟨⟨show (20 : Nat) < 100 from by decide, nf2⟩, (fun _ h => (by cases h))⟩⟩⟩
def o_Mo_groupItem_at_k1_17 : or_T := (153, 22, [(7, (0, 0, 7, [])), (8, (0, 0, 7, [])), (13, (5, 0, 66297, [539])), (14, (0, 459, 459, [])), (15, (0, 459, 66756, [])), (16, (0, 8, 8, [])), (17, (0, 0, 56, [])), (18, (0, 459, 66812, [])), (19, (0, 459, 66819, [])), (21, (0, 0, 255, []))], [(1, [19, 18, 8], []), (1, [18, 15, 17], []), (3, [17, 16, 7], []), (1, [15, 13, 14], [])], [], [], [(18, [19, 21], [1])], [], [(19, 8, 459, 66812), (19, 18, 0, 7), (19, 17, 459, 66763), (19, 15, 0, 63), (19, 13, 459, 522), (18, 17, 459, 66756), (18, 15, 0, 56), (18, 13, 459, 515), (15, 13, 459, 459)])
theorem oo_Mo_groupItem_at_k1_17 {kA : Nat → ClassId} : or_ok PRD kA GG o_Mo_groupItem_at_k1_17 := by
  refine or_mk fun A ta ws vs hD hth hl => ?_
  intro t7 k7 t8 k8 t13 t14 k14 t15 k15 t16 k16 t17 k17 t18 k18 t19 k19 t21 k21 d0 d1 d2 d3 d4 d5 d6 d7 d8 f0 f1 f2 f3
  obtain ⟨k13, q13_⟩ : (0 ≤ v_iv (n_v vs 13) ∧ v_iv (n_v vs 13) ≤ 66297) ∧ ∃ q : Int, v_iv (n_v vs 13) = 539 * q := tv_dvk t13
  obtain ⟨q13, hq13⟩ := q13_
  replace f0 := shm_12 f0
  replace f1 := shm_12 f1
  replace f2 := shm_38 f2
  rw [show v_iv (n_v vs 16) = 8 from by omega] at f2
  replace f3 := shm_12 f3
  have nf0 : fc_1 PRD (18, [19, 21], [1]) ws (vs) := by
    refine ⟨nf_in hl rfl, sgq_1302 ?_⟩
    · show pl_ok 1 (v_iv (n_v vs 19)).toNat (v_iv (n_v vs 21))
      exact pl_in pl_M1 (lo := 459) (hi := 522) (a := 0) (b := 255) (by decide +kernel) (by omega) (by omega) (by omega) (by omega)
  refine ⟨(fun _ h => (by cases h)), [], trivial, ?_, (fun _ h => (by cases h))⟩
  rw [List.append_nil]
  exact List.forall_mem_cons.mpr ⟨⟨show (18 : Nat) < 100 from by decide, nf0⟩, (fun _ h => (by cases h))⟩
set_option maxHeartbeats 4000000 in
theorem vc_Mo_groupItem_at_k1_18_0 (x7 : Int) (x8 : Int) (x13 : Int) (x15 : Int) (x17 : Int) (x18 : Int) (x19 : Int) (x21 : Int) (x22 : Int) (r_0 : Int) (from_0 : Int) (pos_0 : Int) (tape_0 : Int → Int) (limit_0 : Int) (kind_0 : Int) (tape_1 : Int → Int) (limit_1 : Int) (from_1 : Int) (pos_1 : Int) (kind_1 : Int) (all_1 : Int → Int) (r_1 : Int) (now_1 : Int → Int) (latest_1 : Int → Int) (place_1 : Int) (value_1 : Int) (fault_1 : Int) (fault_0 : Int) (place_0 : Int) (value_0 : Int) (all_0 : Int → Int) (now_0 : Int → Int) (latest_0 : Int → Int) (k7 : 0 ≤ x7 ∧ x7 ≤ 7) (k8 : 0 ≤ x8 ∧ x8 ≤ 7) (k13 : 0 ≤ x13 ∧ x13 ≤ 66297) (k15 : 459 ≤ x15 ∧ x15 ≤ 66756) (k17 : 0 ≤ x17 ∧ x17 ≤ 56) (k18 : 459 ≤ x18 ∧ x18 ≤ 66812) (k19 : 459 ≤ x19 ∧ x19 ≤ 66819) (k21 : 0 ≤ x21 ∧ x21 ≤ 255) (k22 : 1 ≤ x22 ∧ x22 ≤ 8) (d0 : x8 + 1 ≤ x22 ∧ x22 ≤ x8 + 1) (d8 : x15 + 0 ≤ x19 ∧ x19 ≤ x15 + 63) (d13 : x13 + 459 ≤ x15 ∧ x15 ≤ x13 + 459) (g0 : x13 = r_0) (f19 : x19 = x18 + x8) (f20 : x18 = x15 + x17) (f21 : x17 = 8 * x7) (f29 : (x7 + 1) ≤ all_1 ((r_1 + 2))) (fe_0_5_1 : r_0 = r_1) (fe_0_8_1 : fault_0 = fault_1) (fe_0_10_1 : limit_0 = limit_1) (fe_0_11_1 : pos_0 = pos_1) (fe_0_12_1 : kind_0 = kind_1) (fe_0_13_1 : place_0 = place_1) (fe_0_14_1 : value_0 = value_1) (fe_0_15_1 : from_0 = from_1) (hE_0_1_1 : ∀ j : Int, tape_0 j = tape_1 j) (hE_0_2_1 : ∀ j : Int, 0 ≤ j → (j = x19 → all_0 j = x21) ∧ (j ≠ x19 → all_0 j = all_1 j)) (hE_0_3_1 : ∀ j : Int, now_0 j = now_1 j) (hE_0_4_1 : ∀ j : Int, latest_0 j = latest_1 j) (kz_0_8 : 0 ≤ fault_0 ∧ fault_0 ≤ 5) (kz_0_10 : 0 ≤ limit_0 ∧ limit_0 ≤ 2000) (kz_0_11 : 0 ≤ pos_0 ∧ pos_0 ≤ 2000) (kz_0_12 : 0 ≤ kind_0 ∧ kind_0 ≤ 4) (kz_0_13 : 0 ≤ place_0 ∧ place_0 ≤ 2000) (kz_0_14 : (-49) ≤ value_0 ∧ value_0 ≤ 1048575) (kz_0_15 : 0 ≤ from_0 ∧ from_0 ≤ 2000) : (x7 + 1) ≤ all_0 ((r_0 + 2)) := by
  subst fe_0_5_1
  subst fe_0_8_1
  subst fe_0_10_1
  subst fe_0_11_1
  subst fe_0_12_1
  subst fe_0_13_1
  subst fe_0_14_1
  subst fe_0_15_1
  have e_hE_0_1_1 := funext hE_0_1_1; subst e_hE_0_1_1
  have e_hE_0_3_1 := funext hE_0_3_1; subst e_hE_0_3_1
  have e_hE_0_4_1 := funext hE_0_4_1; subst e_hE_0_4_1
  first
    | omega
    | (have q1 := (hE_0_2_1 (r_0 + 2) (by omega)).2 (by omega)
       have q2 := (hE_0_2_2 (r_0 + 2) (by omega)).2 (by omega)
       omega)
    | (have q1 := (hE_0_2_1 (r_0 + 1) (by omega)).2 (by omega)
       have q2 := (hE_0_2_2 (r_0 + 1) (by omega)).2 (by omega)
       omega)
    | (have q1 := (hE_0_2_1 (r_0 + 2) (by omega)).2 (by omega)
       omega)
    | (have q1 := (hE_0_2_1 (r_0 + 1) (by omega)).2 (by omega)
       omega)
    | (have q1 := (hE_0_2_1 (r_0 + 2) (by omega)).2 (by omega)
       have q2 := (hE_0_2_2 (r_0 + 2) (by omega)).2 (by omega)
       have q3 := (hE_0_2_3 (r_0 + 2) (by omega)).1 (by omega)
       omega)
    | (have q1 := (hE_0_2_1 (r_0 + 2) (by omega)).2 (by omega)
       have q2 := (hE_0_2_2 (r_0 + 2) (by omega)).2 (by omega)
       have q3 := (hE_0_2_3 (r_0 + 2) (by omega)).2 (by omega)
       omega)
    | (have q1 := (hE_0_2_1 (r_0 + 2) (by omega)).2 (by omega)
       have q2 := (hE_0_2_2 (r_0 + 2) (by omega)).2 (by omega)
       have q3 := (hE_0_2_3 (r_0 + 2) (by omega)).1 (by omega)
       have q4 : x13 = r_0 + 2 := by omega
       simp only [q4] at *
       omega)
set_option maxHeartbeats 4000000 in
theorem vc_Mo_groupItem_at_k1_18_1 (x7 : Int) (x8 : Int) (x13 : Int) (x15 : Int) (x17 : Int) (x18 : Int) (x19 : Int) (x21 : Int) (x22 : Int) (r_0 : Int) (from_0 : Int) (pos_0 : Int) (tape_0 : Int → Int) (limit_0 : Int) (kind_0 : Int) (tape_1 : Int → Int) (limit_1 : Int) (from_1 : Int) (pos_1 : Int) (kind_1 : Int) (all_1 : Int → Int) (r_1 : Int) (now_1 : Int → Int) (latest_1 : Int → Int) (place_1 : Int) (value_1 : Int) (fault_1 : Int) (fault_0 : Int) (place_0 : Int) (value_0 : Int) (all_0 : Int → Int) (now_0 : Int → Int) (latest_0 : Int → Int) (k7 : 0 ≤ x7 ∧ x7 ≤ 7) (k8 : 0 ≤ x8 ∧ x8 ≤ 7) (k13 : 0 ≤ x13 ∧ x13 ≤ 66297) (k15 : 459 ≤ x15 ∧ x15 ≤ 66756) (k17 : 0 ≤ x17 ∧ x17 ≤ 56) (k18 : 459 ≤ x18 ∧ x18 ≤ 66812) (k19 : 459 ≤ x19 ∧ x19 ≤ 66819) (k21 : 0 ≤ x21 ∧ x21 ≤ 255) (k22 : 1 ≤ x22 ∧ x22 ≤ 8) (d0 : x8 + 1 ≤ x22 ∧ x22 ≤ x8 + 1) (d8 : x15 + 0 ≤ x19 ∧ x19 ≤ x15 + 63) (d13 : x13 + 459 ≤ x15 ∧ x15 ≤ x13 + 459) (g0 : x13 = r_0) (f19 : x19 = x18 + x8) (f20 : x18 = x15 + x17) (f21 : x17 = 8 * x7) (f31 : RWS (r_1) (all_1) (now_1) (latest_1)) (fe_0_5_1 : r_0 = r_1) (fe_0_8_1 : fault_0 = fault_1) (fe_0_10_1 : limit_0 = limit_1) (fe_0_11_1 : pos_0 = pos_1) (fe_0_12_1 : kind_0 = kind_1) (fe_0_13_1 : place_0 = place_1) (fe_0_14_1 : value_0 = value_1) (fe_0_15_1 : from_0 = from_1) (hE_0_1_1 : ∀ j : Int, tape_0 j = tape_1 j) (hE_0_2_1 : ∀ j : Int, 0 ≤ j → (j = x19 → all_0 j = x21) ∧ (j ≠ x19 → all_0 j = all_1 j)) (hE_0_3_1 : ∀ j : Int, now_0 j = now_1 j) (hE_0_4_1 : ∀ j : Int, latest_0 j = latest_1 j) (kz_0_8 : 0 ≤ fault_0 ∧ fault_0 ≤ 5) (kz_0_10 : 0 ≤ limit_0 ∧ limit_0 ≤ 2000) (kz_0_11 : 0 ≤ pos_0 ∧ pos_0 ≤ 2000) (kz_0_12 : 0 ≤ kind_0 ∧ kind_0 ≤ 4) (kz_0_13 : 0 ≤ place_0 ∧ place_0 ≤ 2000) (kz_0_14 : (-49) ≤ value_0 ∧ value_0 ≤ 1048575) (kz_0_15 : 0 ≤ from_0 ∧ from_0 ≤ 2000) : RWS (r_0) (all_0) (now_0) (latest_0) := by
  subst fe_0_5_1
  subst fe_0_8_1
  subst fe_0_10_1
  subst fe_0_11_1
  subst fe_0_12_1
  subst fe_0_13_1
  subst fe_0_14_1
  subst fe_0_15_1
  have e_hE_0_1_1 := funext hE_0_1_1; subst e_hE_0_1_1
  have e_hE_0_3_1 := funext hE_0_3_1; subst e_hE_0_3_1
  have e_hE_0_4_1 := funext hE_0_4_1; subst e_hE_0_4_1
  first
    | (have hr := rws_r ‹RWS _ _ _ _›
       exact rws_off (rws_off (rws_off ‹RWS _ _ _ _› (by assumption) (by omega)) (by assumption) (by omega)) (by assumption) (by omega))
    | (have hr := rws_r ‹RWS _ _ _ _›
       exact rws_off ‹RWS _ _ _ _› (by assumption) (by omega))
set_option maxHeartbeats 4000000 in
theorem vc_Mo_groupItem_at_k1_18_2 (x1 : Int) (x2 : Int) (x7 : Int) (x8 : Int) (x9 : Int) (x10 : Int) (x11 : Int) (x13 : Int) (x15 : Int) (x17 : Int) (x18 : Int) (x19 : Int) (x20 : Int) (x21 : Int) (x22 : Int) (r_0 : Int) (from_0 : Int) (pos_0 : Int) (tape_0 : Int → Int) (limit_0 : Int) (kind_0 : Int) (tape_1 : Int → Int) (limit_1 : Int) (from_1 : Int) (pos_1 : Int) (kind_1 : Int) (all_1 : Int → Int) (r_1 : Int) (now_1 : Int → Int) (latest_1 : Int → Int) (place_1 : Int) (value_1 : Int) (fault_1 : Int) (fault_0 : Int) (place_0 : Int) (value_0 : Int) (all_0 : Int → Int) (now_0 : Int → Int) (latest_0 : Int → Int) (k1 : 0 ≤ x1 ∧ x1 ≤ 7) (k2 : 1 ≤ x2 ∧ x2 ≤ 1) (k7 : 0 ≤ x7 ∧ x7 ≤ 7) (k8 : 0 ≤ x8 ∧ x8 ≤ 7) (k9 : 1 ≤ x9 ∧ x9 ≤ 2000) (k10 : 0 ≤ x10 ∧ x10 ≤ 1999) (k11 : 1 ≤ x11 ∧ x11 ≤ 2000) (k13 : 0 ≤ x13 ∧ x13 ≤ 66297) (k15 : 459 ≤ x15 ∧ x15 ≤ 66756) (k17 : 0 ≤ x17 ∧ x17 ≤ 56) (k18 : 459 ≤ x18 ∧ x18 ≤ 66812) (k19 : 459 ≤ x19 ∧ x19 ≤ 66819) (k20 : 0 ≤ x20 ∧ x20 ≤ 1999) (k21 : 0 ≤ x21 ∧ x21 ≤ 255) (k22 : 1 ≤ x22 ∧ x22 ≤ 8) (d0 : x8 + 1 ≤ x22 ∧ x22 ≤ x8 + 1) (d1 : x11 + (-4294967296) ≤ x22 ∧ x22 ≤ x11 + 0) (d3 : x10 + 0 ≤ x20 ∧ x20 ≤ x10 + 7) (d10 : x17 + 459 ≤ x18 ∧ x18 ≤ x17 + 66756) (d13 : x13 + 459 ≤ x15 ∧ x15 ≤ x13 + 459) (d14 : x11 + (-4294967296) ≤ x8 ∧ x8 ≤ x11 + (-1)) (g0 : x13 = r_0) (g2 : x10 = from_0) (g3 : x9 = pos_0) (f4 : x22 = x8 + 1) (f16 : ((x20 + 1) ≤ limit_1) → (x21 = (tape_1 (x20) % 256))) (f18 : x20 = x10 + x8) (f19 : x19 = x18 + x8) (f20 : x18 = x15 + x17) (f21 : x17 = 8 * x7) (f24 : x11 = x9 - x10) (f32 : zMG (limit_1) (pos_1) (kind_1) (place_1) (value_1) (from_1) (fault_1) (r_1) (tape_1) (all_1) (x7) (x8) (x1) (x2)) (fe_0_5_1 : r_0 = r_1) (fe_0_8_1 : fault_0 = fault_1) (fe_0_10_1 : limit_0 = limit_1) (fe_0_11_1 : pos_0 = pos_1) (fe_0_12_1 : kind_0 = kind_1) (fe_0_13_1 : place_0 = place_1) (fe_0_14_1 : value_0 = value_1) (fe_0_15_1 : from_0 = from_1) (hE_0_1_1 : ∀ j : Int, tape_0 j = tape_1 j) (hE_0_2_1 : ∀ j : Int, 0 ≤ j → (j = x19 → all_0 j = x21) ∧ (j ≠ x19 → all_0 j = all_1 j)) (hE_0_3_1 : ∀ j : Int, now_0 j = now_1 j) (hE_0_4_1 : ∀ j : Int, latest_0 j = latest_1 j) (kz_0_8 : 0 ≤ fault_0 ∧ fault_0 ≤ 5) (kz_0_10 : 0 ≤ limit_0 ∧ limit_0 ≤ 2000) (kz_0_11 : 0 ≤ pos_0 ∧ pos_0 ≤ 2000) (kz_0_12 : 0 ≤ kind_0 ∧ kind_0 ≤ 4) (kz_0_13 : 0 ≤ place_0 ∧ place_0 ≤ 2000) (kz_0_14 : (-49) ≤ value_0 ∧ value_0 ≤ 1048575) (kz_0_15 : 0 ≤ from_0 ∧ from_0 ≤ 2000) : zMG (limit_0) (pos_0) (kind_0) (place_0) (value_0) (from_0) (fault_0) (r_0) (tape_0) (all_0) (x7) (x22) (x1) (x2) := by
  subst fe_0_5_1
  subst fe_0_8_1
  subst fe_0_10_1
  subst fe_0_11_1
  subst fe_0_12_1
  subst fe_0_13_1
  subst fe_0_14_1
  subst fe_0_15_1
  have e_hE_0_1_1 := funext hE_0_1_1; subst e_hE_0_1_1
  have e_hE_0_3_1 := funext hE_0_3_1; subst e_hE_0_3_1
  have e_hE_0_4_1 := funext hE_0_4_1; subst e_hE_0_4_1
  first | subst g0 | skip
  first | subst g2 | skip
  first | subst g3 | skip
  first
    | exact mg_step ‹zMG _ _ _ _ _ _ _ _ _ _ _ _ _ _› (by omega) (by assumption) (by omega) (tk_byte (mg_tk ‹zMG _ _ _ _ _ _ _ _ _ _ _ _ _ _›) (by assumption) (by omega) (by omega) (by omega)) (by omega) (by omega)
    | exact mg_start (rsq_of ‹zTS5 _ _ _ _ _ _ _ _› ‹TKR _ _ _ _ _ _ _ _›) (by omega) ‹NMQ _ _ _ _ _ _› (by omega) (by assumption) (by assumption) (by assumption) (by omega) (by omega) (by omega) (by omega) (by omega) (by omega) (by omega) (by omega)
def o_Mo_groupItem_at_k1_18 : or_T := (108, 23, [(0, (2, 0, 0, [165])), (1, (0, 0, 7, [])), (2, (0, 1, 1, [])), (3, (0, 0, 2000, [])), (4, (2, 0, 0, [165])), (5, (0, 0, 7, [])), (6, (0, 1, 1, [])), (7, (0, 0, 7, [])), (8, (0, 0, 7, [])), (9, (0, 1, 2000, [])), (10, (0, 0, 1999, [])), (11, (0, 1, 2000, [])), (12, (2, 0, 0, [167])), (13, (0, 0, 66297, [])), (14, (0, 459, 459, [])), (15, (0, 459, 66756, [])), (16, (0, 8, 8, [])), (17, (0, 0, 56, [])), (18, (0, 459, 66812, [])), (19, (0, 459, 66819, [])), (20, (0, 0, 1999, [])), (21, (0, 0, 255, [])), (22, (0, 1, 8, []))], [(9, [13, 4], [5]), (9, [12, 4], [2]), (9, [10, 4], [15]), (9, [9, 4], [11]), (6, [22, 8], [1]), (20, [20, 4, 21], [50, 1, 1, 1010, 1001, 4, 11, 0, 6, 4, 2, 1, 0, 0, 1, 2, 1, 10, 1, 2, 1, 2, 9, 5, 3, 1, 1, 1, 0, 0, 256]), (20, [4, 20, 21], [50, 1, 0, 10, 4, 7, 0, 3, 2, 0, 10, 1, 1, 1, 2, 1, 2, 0, -1]), (20, [4, 4], [30, 0, 1, 1, 15, -1, 1, 11]), (20, [4], [50, 3, 0, 12, 11, 15, 2, 21, 4, 7, 1, 3, 2, 0, 12, 0, 1, 0, 3, 2, 0, 11, 4, 3, 2, 0, 15, 0, 8, 3, 7, 1, 3, 2, 0, 12, 0, 0, 0, 7, 4, 3, 2, 0, 15, 0, 1, 2, 0, 11]), (20, [3, 4], [30, -1, 1, 0, 0, -1, 1, 11]), (20, [4], [50, 1, 0, 12, 1, 3, 2, 0, 12, 0, 1]), (23, [5, 7], [-1, 1, -1]), (24, [0, 4], []), (24, [1, 5], []), (24, [2, 6], []), (100, [12, 19, 21], []), (20, [20, 4, 21], [50, 1, 1, 1010, 1001, 4, 11, 0, 6, 4, 2, 1, 0, 0, 1, 2, 1, 10, 1, 2, 1, 2, 9, 5, 3, 1, 1, 1, 0, 0, 256]), (20, [4, 20, 21], [50, 1, 0, 10, 4, 7, 0, 3, 2, 0, 10, 1, 1, 1, 2, 1, 2, 0, -1]), (1, [20, 10, 8], []), (1, [19, 18, 8], []), (1, [18, 15, 17], []), (3, [17, 16, 7], []), (1, [15, 13, 14], []), (7, [8, 11], [2]), (2, [11, 9, 10], []), (20, [4, 4], [30, 0, 1, 1, 15, -1, 1, 11]), (20, [4], [50, 3, 0, 12, 11, 15, 2, 21, 4, 7, 1, 3, 2, 0, 12, 0, 1, 0, 3, 2, 0, 11, 4, 3, 2, 0, 15, 0, 8, 3, 7, 1, 3, 2, 0, 12, 0, 0, 0, 7, 4, 3, 2, 0, 15, 0, 1, 2, 0, 11]), (20, [3, 4], [30, -1, 1, 0, 0, -1, 1, 11]), (20, [4], [50, 1, 0, 12, 1, 3, 2, 0, 12, 0, 1]), (20, [7, 4], [50, 1, 1, 1005, 1002, 0, 6, 4, 2, 1, 0, 0, 1, 3, 1, 2, 4, 3, 2, 1, 5, 0, 2]), (23, [5, 7], [-1, 1, -1]), (20, [4], [60, 1, 3, 199, 5, 2, 3, 4]), (20, [4, 7, 8, 5, 6], [60, 8, 2, 1006, 10, 11, 12, 13, 14, 15, 8, 5, 1, 2])], [], [], [(20, [7, 4], [50, 1, 1, 1005, 1002, 0, 6, 4, 2, 1, 0, 0, 1, 3, 1, 2, 4, 3, 2, 1, 5, 0, 2]), (20, [4], [60, 1, 3, 199, 5, 2, 3, 4]), (20, [4, 7, 22, 5, 6], [60, 8, 2, 1006, 10, 11, 12, 13, 14, 15, 8, 5, 1, 2])], [], [(22, 8, 1, 1), (22, 11, -4294967296, 0), (20, 8, 0, 2000), (20, 10, 0, 7), (19, 8, 459, 66812), (19, 11, -4294967296, 66811), (19, 18, 0, 7), (19, 17, 459, 66763), (19, 15, 0, 63), (19, 13, 459, 522), (18, 17, 459, 66756), (18, 15, 0, 56), (18, 13, 459, 515), (15, 13, 459, 459), (8, 11, -4294967296, -1), (11, 9, -2000, 0), (1, 5, -4294967296, 0), (5, 1, -4294967296, 0)])
theorem oo_Mo_groupItem_at_k1_18 {kA : Nat → ClassId} : or_ok PRD kA GG o_Mo_groupItem_at_k1_18 := by
  refine or_mk fun A ta ws vs hD hth hl => ?_
  intro t0 r0 t1 k1 t2 k2 t3 k3 t4 r4 t5 k5 t6 k6 t7 k7 t8 k8 t9 k9 t10 k10 t11 k11 t12 r12 t13 k13 t14 k14 t15 k15 t16 k16 t17 k17 t18 k18 t19 k19 t20 k20 t21 k21 t22 k22 d0 d1 d2 d3 d4 d5 d6 d7 d8 d9 d10 d11 d12 d13 d14 d15 d16 d17 f0 f1 f2 f3 f4 f5 f6 f7 f8 f9 f10 f11 f12 f13 f14 ta1 w1 le1 s1 f16 f17 f18 f19 f20 f21 f22 f23 f24 f25 f26 f27 f28 f29 f30 f31 f32
  replace f0 := shm_110 f0
  replace f1 := shm_120 f1
  replace f2 := shm_177 f2
  replace f3 := shm_116 f3
  replace f4 := shm_4 f4
  replace f5 := shm_541 f5
  replace f6 := shm_542 f6
  replace f7 := shm_1437 f7
  replace f8 := shm_1438 f8
  replace f9 := shm_2005 f9
  replace f10 := shm_1890 f10
  replace f11 := shm_193 f11
  replace f12 := shm_5 f12
  replace f13 := shm_5 f13
  replace f14 := shm_5 f14
  have s1 : (∀ b j, w_el ws b j = if b = v_ad (n_v vs 12) ∧ j = (v_iv (n_v vs 19)).toNat then v_iv (n_v vs 21) else w_el w1 b j) ∧ ∀ b k, w_fd ws b k = w_fd w1 b k := s1.2
  replace f16 := shm_541 f16
  replace f17 := shm_542 f17
  replace f18 := shm_12 f18
  replace f19 := shm_12 f19
  replace f20 := shm_12 f20
  replace f21 := shm_38 f21
  rw [show v_iv (n_v vs 16) = 8 from by omega] at f21
  replace f22 := shm_12 f22
  replace f23 := shm_6 f23
  replace f24 := shm_14 f24
  replace f25 := shm_1437 f25
  replace f26 := shm_1438 f26
  replace f27 := shm_2005 f27
  replace f28 := shm_1890 f28
  replace f29 := shm_1009 f29
  replace f30 := shm_193 f30
  replace f31 := shm_980 f31
  replace f32 := shm_2175 f32
  have q4 : n_v vs 4 = n_v vs 0 := f12.symm
  have q5 : n_v vs 5 = n_v vs 1 := f13.symm
  have q6 : n_v vs 6 = n_v vs 2 := f14.symm
  simp only [q4, q5, q6] at f0 f1 f2 f3 f5 f6 f7 f8 f9 f10 f11 f16 f17 f25 f26 f27 f28 f29 f30 f31 f32
  have ar_0_1_1 : w_ar w1 (n_v vs 0) 1 = w_ar ws (n_v vs 0) 1 := congrArg v_ad (s1.2 _ _).symm
  have cr_0_1 := fdq_39 hD hth r0
  have ar_0_2_1 : w_ar w1 (n_v vs 0) 2 = w_ar ws (n_v vs 0) 2 := congrArg v_ad (s1.2 _ _).symm
  have cr_0_2 := fdq_10 hD hth r0
  have ar_0_3_1 : w_ar w1 (n_v vs 0) 3 = w_ar ws (n_v vs 0) 3 := congrArg v_ad (s1.2 _ _).symm
  have cr_0_3 := fdq_142 hD hth r0
  have ar_0_4_1 : w_ar w1 (n_v vs 0) 4 = w_ar ws (n_v vs 0) 4 := congrArg v_ad (s1.2 _ _).symm
  have cr_0_4 := fdq_143 hD hth r0
  have ad_12 : v_ad (n_v vs 12) = w_ar ws (n_v vs 0) 2 := congrArg v_ad f1
  have g0 : v_iv (n_v vs 13) = w_fi ws (n_v vs 0) 5 := congrArg v_iv f0
  have g2 : v_iv (n_v vs 10) = w_fi ws (n_v vs 0) 15 := congrArg v_iv f2
  have g3 : v_iv (n_v vs 9) = w_fi ws (n_v vs 0) 11 := congrArg v_iv f3
  simp only [ar_0_1_1, ar_0_2_1, ar_0_3_1, ar_0_4_1] at f16 f29 f31 f32
  have fe_0_5_1 : w_fi ws (n_v vs 0) 5 = w_fi w1 (n_v vs 0) 5 := congrArg v_iv (s1.2 _ _)
  have fe_0_8_1 : w_fi ws (n_v vs 0) 8 = w_fi w1 (n_v vs 0) 8 := congrArg v_iv (s1.2 _ _)
  have fe_0_10_1 : w_fi ws (n_v vs 0) 10 = w_fi w1 (n_v vs 0) 10 := congrArg v_iv (s1.2 _ _)
  have fe_0_11_1 : w_fi ws (n_v vs 0) 11 = w_fi w1 (n_v vs 0) 11 := congrArg v_iv (s1.2 _ _)
  have fe_0_12_1 : w_fi ws (n_v vs 0) 12 = w_fi w1 (n_v vs 0) 12 := congrArg v_iv (s1.2 _ _)
  have fe_0_13_1 : w_fi ws (n_v vs 0) 13 = w_fi w1 (n_v vs 0) 13 := congrArg v_iv (s1.2 _ _)
  have fe_0_14_1 : w_fi ws (n_v vs 0) 14 = w_fi w1 (n_v vs 0) 14 := congrArg v_iv (s1.2 _ _)
  have fe_0_15_1 : w_fi ws (n_v vs 0) 15 = w_fi w1 (n_v vs 0) 15 := congrArg v_iv (s1.2 _ _)
  have hE_0_1_1 : ∀ j : Int, w_ei ws (w_ar ws (n_v vs 0) 1) j = w_ei w1 (w_ar ws (n_v vs 0) 1) j := el_kp s1.1 r12 cr_0_1 (by decide)
  have hK_0_1 := elq_7 hD hth cr_0_1
  have hE_0_2_1 : ∀ j : Int, 0 ≤ j → (j = v_iv (n_v vs 19) → w_ei ws (w_ar ws (n_v vs 0) 2) j = v_iv (n_v vs 21)) ∧ (j ≠ v_iv (n_v vs 19) → w_ei ws (w_ar ws (n_v vs 0) 2) j = w_ei w1 (w_ar ws (n_v vs 0) 2) j) := fun j hj => ⟨fun h => by unfold w_ei; rw [s1.1, if_pos ⟨ad_12.symm, by rw [h]⟩], fun h => by unfold w_ei; rw [s1.1, if_neg (fun e => h (by have := e.2; omega))]⟩
  have hE_0_3_1 : ∀ j : Int, w_ei ws (w_ar ws (n_v vs 0) 3) j = w_ei w1 (w_ar ws (n_v vs 0) 3) j := el_kp s1.1 r12 cr_0_3 (by decide)
  have hK_0_3 := elq_80 hD hth cr_0_3
  have hE_0_4_1 : ∀ j : Int, w_ei ws (w_ar ws (n_v vs 0) 4) j = w_ei w1 (w_ar ws (n_v vs 0) 4) j := el_kp s1.1 r12 cr_0_4 (by decide)
  have hK_0_4 := elq_81 hD hth cr_0_4
  have kz_0_8 := fdq_34 hD hth r0
  have kz_0_10 := fdq_43 hD hth r0
  have kz_0_11 := fdq_237 hD hth r0
  have kz_0_12 := fdq_187 hD hth r0
  have kz_0_13 := fdq_238 hD hth r0
  have kz_0_14 := fdq_188 hD hth r0
  have kz_0_15 := fdq_239 hD hth r0
  first | have hJ0 : w_ei w1 (w_ar ws (n_v vs 0) 2) ((w_fi w1 (n_v vs 0) 5 + 2)) = w_ei w1 (w_ar ws (n_v vs 0) 2) ((w_fi ws (n_v vs 0) 5 + 2)) := congrArg _ (show ((w_fi w1 (n_v vs 0) 5 + 2) : Int) = (w_fi ws (n_v vs 0) 5 + 2) from by omega) | skip
  have hI1 := hE_0_1_1 (v_iv (n_v vs 20))
  first | have hI2 := (hE_0_2_1 ((w_fi ws (n_v vs 0) 5 + 2)) (by omega)).2 (by omega) | have hI2 := (hE_0_2_1 ((w_fi ws (n_v vs 0) 5 + 2)) (by omega)).1 (by omega) | skip
  have nf0 : fc_1 PRD (20, [7, 4], [50, 1, 1, 1005, 1002, 0, 6, 4, 2, 1, 0, 0, 1, 3, 1, 2, 4, 3, 2, 1, 5, 0, 2]) ws (vs) := by
    refine ⟨nf_in hl rfl, sgq_1009 ?_⟩
    · show (v_iv (n_v vs 7) + 1) ≤ w_ei ws (w_ar ws (n_v vs 4) 2) ((w_fi ws (n_v vs 4) 5 + 2))
      rw [q4]
      exact vc_Mo_groupItem_at_k1_18_0 (v_iv (n_v vs 7)) (v_iv (n_v vs 8)) (v_iv (n_v vs 13)) (v_iv (n_v vs 15)) (v_iv (n_v vs 17)) (v_iv (n_v vs 18)) (v_iv (n_v vs 19)) (v_iv (n_v vs 21)) (v_iv (n_v vs 22)) (w_fi ws (n_v vs 0) 5) (w_fi ws (n_v vs 0) 15) (w_fi ws (n_v vs 0) 11) (w_ei ws (w_ar ws (n_v vs 0) 1)) (w_fi ws (n_v vs 0) 10) (w_fi ws (n_v vs 0) 12) (w_ei w1 (w_ar ws (n_v vs 0) 1)) (w_fi w1 (n_v vs 0) 10) (w_fi w1 (n_v vs 0) 15) (w_fi w1 (n_v vs 0) 11) (w_fi w1 (n_v vs 0) 12) (w_ei w1 (w_ar ws (n_v vs 0) 2)) (w_fi w1 (n_v vs 0) 5) (w_ei w1 (w_ar ws (n_v vs 0) 3)) (w_ei w1 (w_ar ws (n_v vs 0) 4)) (w_fi w1 (n_v vs 0) 13) (w_fi w1 (n_v vs 0) 14) (w_fi w1 (n_v vs 0) 8) (w_fi ws (n_v vs 0) 8) (w_fi ws (n_v vs 0) 13) (w_fi ws (n_v vs 0) 14) (w_ei ws (w_ar ws (n_v vs 0) 2)) (w_ei ws (w_ar ws (n_v vs 0) 3)) (w_ei ws (w_ar ws (n_v vs 0) 4)) k7 k8 k13 k15 k17 k18 k19 k21 k22 d0 d8 d13 g0 f19 f20 f21 f29 fe_0_5_1 fe_0_8_1 fe_0_10_1 fe_0_11_1 fe_0_12_1 fe_0_13_1 fe_0_14_1 fe_0_15_1 hE_0_1_1 hE_0_2_1 hE_0_3_1 hE_0_4_1 kz_0_8 kz_0_10 kz_0_11 kz_0_12 kz_0_13 kz_0_14 kz_0_15
  have nf1 : fc_1 PRD (20, [4], [60, 1, 3, 199, 5, 2, 3, 4]) ws (vs) := by
    refine ⟨nf_in hl rfl, sgq_980 ?_⟩
    · show RWS (w_fi ws (n_v vs 4) 5) (w_ei ws (w_ar ws (n_v vs 4) 2)) (w_ei ws (w_ar ws (n_v vs 4) 3)) (w_ei ws (w_ar ws (n_v vs 4) 4))
      rw [q4]
      exact vc_Mo_groupItem_at_k1_18_1 (v_iv (n_v vs 7)) (v_iv (n_v vs 8)) (v_iv (n_v vs 13)) (v_iv (n_v vs 15)) (v_iv (n_v vs 17)) (v_iv (n_v vs 18)) (v_iv (n_v vs 19)) (v_iv (n_v vs 21)) (v_iv (n_v vs 22)) (w_fi ws (n_v vs 0) 5) (w_fi ws (n_v vs 0) 15) (w_fi ws (n_v vs 0) 11) (w_ei ws (w_ar ws (n_v vs 0) 1)) (w_fi ws (n_v vs 0) 10) (w_fi ws (n_v vs 0) 12) (w_ei w1 (w_ar ws (n_v vs 0) 1)) (w_fi w1 (n_v vs 0) 10) (w_fi w1 (n_v vs 0) 15) (w_fi w1 (n_v vs 0) 11) (w_fi w1 (n_v vs 0) 12) (w_ei w1 (w_ar ws (n_v vs 0) 2)) (w_fi w1 (n_v vs 0) 5) (w_ei w1 (w_ar ws (n_v vs 0) 3)) (w_ei w1 (w_ar ws (n_v vs 0) 4)) (w_fi w1 (n_v vs 0) 13) (w_fi w1 (n_v vs 0) 14) (w_fi w1 (n_v vs 0) 8) (w_fi ws (n_v vs 0) 8) (w_fi ws (n_v vs 0) 13) (w_fi ws (n_v vs 0) 14) (w_ei ws (w_ar ws (n_v vs 0) 2)) (w_ei ws (w_ar ws (n_v vs 0) 3)) (w_ei ws (w_ar ws (n_v vs 0) 4)) k7 k8 k13 k15 k17 k18 k19 k21 k22 d0 d8 d13 g0 f19 f20 f21 f31 fe_0_5_1 fe_0_8_1 fe_0_10_1 fe_0_11_1 fe_0_12_1 fe_0_13_1 fe_0_14_1 fe_0_15_1 hE_0_1_1 hE_0_2_1 hE_0_3_1 hE_0_4_1 kz_0_8 kz_0_10 kz_0_11 kz_0_12 kz_0_13 kz_0_14 kz_0_15
  have nf2 : fc_1 PRD (20, [4, 7, 22, 5, 6], [60, 8, 2, 1006, 10, 11, 12, 13, 14, 15, 8, 5, 1, 2]) ws (vs) := by
    refine ⟨nf_in hl rfl, sgq_2175 ?_⟩
    · show zMG (w_fi ws (n_v vs 4) 10) (w_fi ws (n_v vs 4) 11) (w_fi ws (n_v vs 4) 12) (w_fi ws (n_v vs 4) 13) (w_fi ws (n_v vs 4) 14) (w_fi ws (n_v vs 4) 15) (w_fi ws (n_v vs 4) 8) (w_fi ws (n_v vs 4) 5) (w_ei ws (w_ar ws (n_v vs 4) 1)) (w_ei ws (w_ar ws (n_v vs 4) 2)) (v_iv (n_v vs 7)) (v_iv (n_v vs 22)) (v_iv (n_v vs 5)) (v_iv (n_v vs 6))
      simp only [q4, q5, q6]
      exact vc_Mo_groupItem_at_k1_18_2 (v_iv (n_v vs 1)) (v_iv (n_v vs 2)) (v_iv (n_v vs 7)) (v_iv (n_v vs 8)) (v_iv (n_v vs 9)) (v_iv (n_v vs 10)) (v_iv (n_v vs 11)) (v_iv (n_v vs 13)) (v_iv (n_v vs 15)) (v_iv (n_v vs 17)) (v_iv (n_v vs 18)) (v_iv (n_v vs 19)) (v_iv (n_v vs 20)) (v_iv (n_v vs 21)) (v_iv (n_v vs 22)) (w_fi ws (n_v vs 0) 5) (w_fi ws (n_v vs 0) 15) (w_fi ws (n_v vs 0) 11) (w_ei ws (w_ar ws (n_v vs 0) 1)) (w_fi ws (n_v vs 0) 10) (w_fi ws (n_v vs 0) 12) (w_ei w1 (w_ar ws (n_v vs 0) 1)) (w_fi w1 (n_v vs 0) 10) (w_fi w1 (n_v vs 0) 15) (w_fi w1 (n_v vs 0) 11) (w_fi w1 (n_v vs 0) 12) (w_ei w1 (w_ar ws (n_v vs 0) 2)) (w_fi w1 (n_v vs 0) 5) (w_ei w1 (w_ar ws (n_v vs 0) 3)) (w_ei w1 (w_ar ws (n_v vs 0) 4)) (w_fi w1 (n_v vs 0) 13) (w_fi w1 (n_v vs 0) 14) (w_fi w1 (n_v vs 0) 8) (w_fi ws (n_v vs 0) 8) (w_fi ws (n_v vs 0) 13) (w_fi ws (n_v vs 0) 14) (w_ei ws (w_ar ws (n_v vs 0) 2)) (w_ei ws (w_ar ws (n_v vs 0) 3)) (w_ei ws (w_ar ws (n_v vs 0) 4)) k1 k2 k7 k8 k9 k10 k11 k13 k15 k17 k18 k19 k20 k21 k22 d0 d1 d3 d10 d13 d14 g0 g2 g3 f4 f16 f18 f19 f20 f21 f24 f32 fe_0_5_1 fe_0_8_1 fe_0_10_1 fe_0_11_1 fe_0_12_1 fe_0_13_1 fe_0_14_1 fe_0_15_1 hE_0_1_1 hE_0_2_1 hE_0_3_1 hE_0_4_1 kz_0_8 kz_0_10 kz_0_11 kz_0_12 kz_0_13 kz_0_14 kz_0_15
  refine ⟨(fun _ h => (by cases h)), [], trivial, ?_, (fun _ h => (by cases h))⟩
  rw [List.append_nil]
  exact List.forall_mem_cons.mpr ⟨⟨show (20 : Nat) < 100 from by decide, nf0⟩, List.forall_mem_cons.mpr ⟨⟨show (20 : Nat) < 100 from by decide, nf1⟩, List.forall_mem_cons.mpr ⟨⟨show (20 : Nat) < 100 from by decide, nf2⟩, (fun _ h => (by cases h))⟩⟩⟩
set_option maxHeartbeats 4000000 in
theorem vc_Mo_groupItem_at_k1_19_0 (x3 : Int) (r_0 : Int) (gx : Int) (k3 : 0 ≤ x3 ∧ x3 ≤ 2000) (ex2 : gx = x3) : 1 * gx + ((-1) * x3 + 0) ≤ 0 := by
  first
    | omega
    | (have q1 := (hE_0_2_1 (r_0 + 2) (by omega)).2 (by omega)
       have q2 := (hE_0_2_2 (r_0 + 2) (by omega)).2 (by omega)
       omega)
    | (have q1 := (hE_0_2_1 (r_0 + 1) (by omega)).2 (by omega)
       have q2 := (hE_0_2_2 (r_0 + 1) (by omega)).2 (by omega)
       omega)
    | (have q1 := (hE_0_2_1 (r_0 + 2) (by omega)).2 (by omega)
       omega)
    | (have q1 := (hE_0_2_1 (r_0 + 1) (by omega)).2 (by omega)
       omega)
    | (have q1 := (hE_0_2_1 (r_0 + 2) (by omega)).2 (by omega)
       have q2 := (hE_0_2_2 (r_0 + 2) (by omega)).2 (by omega)
       have q3 := (hE_0_2_3 (r_0 + 2) (by omega)).1 (by omega)
       omega)
    | (have q1 := (hE_0_2_1 (r_0 + 2) (by omega)).2 (by omega)
       have q2 := (hE_0_2_2 (r_0 + 2) (by omega)).2 (by omega)
       have q3 := (hE_0_2_3 (r_0 + 2) (by omega)).2 (by omega)
       omega)
    | (have q1 := (hE_0_2_1 (r_0 + 2) (by omega)).2 (by omega)
       have q2 := (hE_0_2_2 (r_0 + 2) (by omega)).2 (by omega)
       have q3 := (hE_0_2_3 (r_0 + 2) (by omega)).1 (by omega)
       have q4 : x13 = r_0 + 2 := by omega
       simp only [q4] at *
       omega)
set_option maxHeartbeats 4000000 in
theorem vc_Mo_groupItem_at_k1_19_1 (x3 : Int) (r_0 : Int) (gx : Int) (k3 : 0 ≤ x3 ∧ x3 ≤ 2000) (ex2 : gx = x3) : (-1) * gx + (1 * x3 + 0) ≤ 0 := by
  first
    | omega
    | (have q1 := (hE_0_2_1 (r_0 + 2) (by omega)).2 (by omega)
       have q2 := (hE_0_2_2 (r_0 + 2) (by omega)).2 (by omega)
       omega)
    | (have q1 := (hE_0_2_1 (r_0 + 1) (by omega)).2 (by omega)
       have q2 := (hE_0_2_2 (r_0 + 1) (by omega)).2 (by omega)
       omega)
    | (have q1 := (hE_0_2_1 (r_0 + 2) (by omega)).2 (by omega)
       omega)
    | (have q1 := (hE_0_2_1 (r_0 + 1) (by omega)).2 (by omega)
       omega)
    | (have q1 := (hE_0_2_1 (r_0 + 2) (by omega)).2 (by omega)
       have q2 := (hE_0_2_2 (r_0 + 2) (by omega)).2 (by omega)
       have q3 := (hE_0_2_3 (r_0 + 2) (by omega)).1 (by omega)
       omega)
    | (have q1 := (hE_0_2_1 (r_0 + 2) (by omega)).2 (by omega)
       have q2 := (hE_0_2_2 (r_0 + 2) (by omega)).2 (by omega)
       have q3 := (hE_0_2_3 (r_0 + 2) (by omega)).2 (by omega)
       omega)
    | (have q1 := (hE_0_2_1 (r_0 + 2) (by omega)).2 (by omega)
       have q2 := (hE_0_2_2 (r_0 + 2) (by omega)).2 (by omega)
       have q3 := (hE_0_2_3 (r_0 + 2) (by omega)).1 (by omega)
       have q4 : x13 = r_0 + 2 := by omega
       simp only [q4] at *
       omega)
set_option maxHeartbeats 4000000 in
theorem vc_Mo_groupItem_at_k1_19_2 (x1 : Int) (x5 : Int) (r_0 : Int) (gy : Int) (k1 : 0 ≤ x1 ∧ x1 ≤ 7) (k5 : 0 ≤ x5 ∧ x5 ≤ 7) (d0 : x5 + (-4294967296) ≤ x1 ∧ x1 ≤ x5 + 0) (d1 : x1 + (-4294967296) ≤ x5 ∧ x5 ≤ x1 + 0) (ey2 : gy = x1) : 1 * gy + ((-1) * x1 + 0) ≤ 0 := by
  first
    | omega
    | (have q1 := (hE_0_2_1 (r_0 + 2) (by omega)).2 (by omega)
       have q2 := (hE_0_2_2 (r_0 + 2) (by omega)).2 (by omega)
       omega)
    | (have q1 := (hE_0_2_1 (r_0 + 1) (by omega)).2 (by omega)
       have q2 := (hE_0_2_2 (r_0 + 1) (by omega)).2 (by omega)
       omega)
    | (have q1 := (hE_0_2_1 (r_0 + 2) (by omega)).2 (by omega)
       omega)
    | (have q1 := (hE_0_2_1 (r_0 + 1) (by omega)).2 (by omega)
       omega)
    | (have q1 := (hE_0_2_1 (r_0 + 2) (by omega)).2 (by omega)
       have q2 := (hE_0_2_2 (r_0 + 2) (by omega)).2 (by omega)
       have q3 := (hE_0_2_3 (r_0 + 2) (by omega)).1 (by omega)
       omega)
    | (have q1 := (hE_0_2_1 (r_0 + 2) (by omega)).2 (by omega)
       have q2 := (hE_0_2_2 (r_0 + 2) (by omega)).2 (by omega)
       have q3 := (hE_0_2_3 (r_0 + 2) (by omega)).2 (by omega)
       omega)
    | (have q1 := (hE_0_2_1 (r_0 + 2) (by omega)).2 (by omega)
       have q2 := (hE_0_2_2 (r_0 + 2) (by omega)).2 (by omega)
       have q3 := (hE_0_2_3 (r_0 + 2) (by omega)).1 (by omega)
       have q4 : x13 = r_0 + 2 := by omega
       simp only [q4] at *
       omega)
set_option maxHeartbeats 4000000 in
theorem vc_Mo_groupItem_at_k1_19_3 (x1 : Int) (x5 : Int) (r_0 : Int) (gy : Int) (k1 : 0 ≤ x1 ∧ x1 ≤ 7) (k5 : 0 ≤ x5 ∧ x5 ≤ 7) (d0 : x5 + (-4294967296) ≤ x1 ∧ x1 ≤ x5 + 0) (d1 : x1 + (-4294967296) ≤ x5 ∧ x5 ≤ x1 + 0) (ey2 : gy = x1) : (-1) * gy + (1 * x1 + 0) ≤ 0 := by
  first
    | omega
    | (have q1 := (hE_0_2_1 (r_0 + 2) (by omega)).2 (by omega)
       have q2 := (hE_0_2_2 (r_0 + 2) (by omega)).2 (by omega)
       omega)
    | (have q1 := (hE_0_2_1 (r_0 + 1) (by omega)).2 (by omega)
       have q2 := (hE_0_2_2 (r_0 + 1) (by omega)).2 (by omega)
       omega)
    | (have q1 := (hE_0_2_1 (r_0 + 2) (by omega)).2 (by omega)
       omega)
    | (have q1 := (hE_0_2_1 (r_0 + 1) (by omega)).2 (by omega)
       omega)
    | (have q1 := (hE_0_2_1 (r_0 + 2) (by omega)).2 (by omega)
       have q2 := (hE_0_2_2 (r_0 + 2) (by omega)).2 (by omega)
       have q3 := (hE_0_2_3 (r_0 + 2) (by omega)).1 (by omega)
       omega)
    | (have q1 := (hE_0_2_1 (r_0 + 2) (by omega)).2 (by omega)
       have q2 := (hE_0_2_2 (r_0 + 2) (by omega)).2 (by omega)
       have q3 := (hE_0_2_3 (r_0 + 2) (by omega)).2 (by omega)
       omega)
    | (have q1 := (hE_0_2_1 (r_0 + 2) (by omega)).2 (by omega)
       have q2 := (hE_0_2_2 (r_0 + 2) (by omega)).2 (by omega)
       have q3 := (hE_0_2_3 (r_0 + 2) (by omega)).1 (by omega)
       have q4 : x13 = r_0 + 2 := by omega
       simp only [q4] at *
       omega)
set_option maxHeartbeats 4000000 in
theorem vc_Mo_groupItem_at_k1_19_4 (x2 : Int) (r_0 : Int) (gu : Int) (k2 : 1 ≤ x2 ∧ x2 ≤ 1) (eu2 : gu = x2) : 1 * gu + ((-1) * x2 + 0) ≤ 0 := by
  first
    | omega
    | (have q1 := (hE_0_2_1 (r_0 + 2) (by omega)).2 (by omega)
       have q2 := (hE_0_2_2 (r_0 + 2) (by omega)).2 (by omega)
       omega)
    | (have q1 := (hE_0_2_1 (r_0 + 1) (by omega)).2 (by omega)
       have q2 := (hE_0_2_2 (r_0 + 1) (by omega)).2 (by omega)
       omega)
    | (have q1 := (hE_0_2_1 (r_0 + 2) (by omega)).2 (by omega)
       omega)
    | (have q1 := (hE_0_2_1 (r_0 + 1) (by omega)).2 (by omega)
       omega)
    | (have q1 := (hE_0_2_1 (r_0 + 2) (by omega)).2 (by omega)
       have q2 := (hE_0_2_2 (r_0 + 2) (by omega)).2 (by omega)
       have q3 := (hE_0_2_3 (r_0 + 2) (by omega)).1 (by omega)
       omega)
    | (have q1 := (hE_0_2_1 (r_0 + 2) (by omega)).2 (by omega)
       have q2 := (hE_0_2_2 (r_0 + 2) (by omega)).2 (by omega)
       have q3 := (hE_0_2_3 (r_0 + 2) (by omega)).2 (by omega)
       omega)
    | (have q1 := (hE_0_2_1 (r_0 + 2) (by omega)).2 (by omega)
       have q2 := (hE_0_2_2 (r_0 + 2) (by omega)).2 (by omega)
       have q3 := (hE_0_2_3 (r_0 + 2) (by omega)).1 (by omega)
       have q4 : x13 = r_0 + 2 := by omega
       simp only [q4] at *
       omega)
set_option maxHeartbeats 4000000 in
theorem vc_Mo_groupItem_at_k1_19_5 (x2 : Int) (r_0 : Int) (gu : Int) (k2 : 1 ≤ x2 ∧ x2 ≤ 1) (eu2 : gu = x2) : (-1) * gu + (1 * x2 + 0) ≤ 0 := by
  first
    | omega
    | (have q1 := (hE_0_2_1 (r_0 + 2) (by omega)).2 (by omega)
       have q2 := (hE_0_2_2 (r_0 + 2) (by omega)).2 (by omega)
       omega)
    | (have q1 := (hE_0_2_1 (r_0 + 1) (by omega)).2 (by omega)
       have q2 := (hE_0_2_2 (r_0 + 1) (by omega)).2 (by omega)
       omega)
    | (have q1 := (hE_0_2_1 (r_0 + 2) (by omega)).2 (by omega)
       omega)
    | (have q1 := (hE_0_2_1 (r_0 + 1) (by omega)).2 (by omega)
       omega)
    | (have q1 := (hE_0_2_1 (r_0 + 2) (by omega)).2 (by omega)
       have q2 := (hE_0_2_2 (r_0 + 2) (by omega)).2 (by omega)
       have q3 := (hE_0_2_3 (r_0 + 2) (by omega)).1 (by omega)
       omega)
    | (have q1 := (hE_0_2_1 (r_0 + 2) (by omega)).2 (by omega)
       have q2 := (hE_0_2_2 (r_0 + 2) (by omega)).2 (by omega)
       have q3 := (hE_0_2_3 (r_0 + 2) (by omega)).2 (by omega)
       omega)
    | (have q1 := (hE_0_2_1 (r_0 + 2) (by omega)).2 (by omega)
       have q2 := (hE_0_2_2 (r_0 + 2) (by omega)).2 (by omega)
       have q3 := (hE_0_2_3 (r_0 + 2) (by omega)).1 (by omega)
       have q4 : x13 = r_0 + 2 := by omega
       simp only [q4] at *
       omega)
set_option maxHeartbeats 4000000 in
theorem vc_Mo_groupItem_at_k1_19_6 (from_0 : Int) (pos_0 : Int) (r_0 : Int) (f2 : 1 * from_0 + ((-1) * pos_0 + 0) ≤ 0) (kz_0_11 : 0 ≤ pos_0 ∧ pos_0 ≤ 2000) (kz_0_15 : 0 ≤ from_0 ∧ from_0 ≤ 2000) : 1 * from_0 + ((-1) * pos_0 + 0) ≤ 0 := by
  first
    | omega
    | (have q1 := (hE_0_2_1 (r_0 + 2) (by omega)).2 (by omega)
       have q2 := (hE_0_2_2 (r_0 + 2) (by omega)).2 (by omega)
       omega)
    | (have q1 := (hE_0_2_1 (r_0 + 1) (by omega)).2 (by omega)
       have q2 := (hE_0_2_2 (r_0 + 1) (by omega)).2 (by omega)
       omega)
    | (have q1 := (hE_0_2_1 (r_0 + 2) (by omega)).2 (by omega)
       omega)
    | (have q1 := (hE_0_2_1 (r_0 + 1) (by omega)).2 (by omega)
       omega)
    | (have q1 := (hE_0_2_1 (r_0 + 2) (by omega)).2 (by omega)
       have q2 := (hE_0_2_2 (r_0 + 2) (by omega)).2 (by omega)
       have q3 := (hE_0_2_3 (r_0 + 2) (by omega)).1 (by omega)
       omega)
    | (have q1 := (hE_0_2_1 (r_0 + 2) (by omega)).2 (by omega)
       have q2 := (hE_0_2_2 (r_0 + 2) (by omega)).2 (by omega)
       have q3 := (hE_0_2_3 (r_0 + 2) (by omega)).2 (by omega)
       omega)
    | (have q1 := (hE_0_2_1 (r_0 + 2) (by omega)).2 (by omega)
       have q2 := (hE_0_2_2 (r_0 + 2) (by omega)).2 (by omega)
       have q3 := (hE_0_2_3 (r_0 + 2) (by omega)).1 (by omega)
       have q4 : x13 = r_0 + 2 := by omega
       simp only [q4] at *
       omega)
set_option maxHeartbeats 4000000 in
theorem vc_Mo_groupItem_at_k1_19_7 (from_0 : Int) (pos_0 : Int) (kind_0 : Int) (r_0 : Int) (f3 : ((kind_0 = 1) → (pos_0 ≤ (from_0 + 8))) ∧ ((kind_0 = 0) ∨ ((from_0 + 1) ≤ pos_0))) (kz_0_11 : 0 ≤ pos_0 ∧ pos_0 ≤ 2000) (kz_0_12 : 0 ≤ kind_0 ∧ kind_0 ≤ 4) (kz_0_15 : 0 ≤ from_0 ∧ from_0 ≤ 2000) : ((kind_0 = 1) → (pos_0 ≤ (from_0 + 8))) ∧ ((kind_0 = 0) ∨ ((from_0 + 1) ≤ pos_0)) := by
  first
    | omega
    | (have q1 := (hE_0_2_1 (r_0 + 2) (by omega)).2 (by omega)
       have q2 := (hE_0_2_2 (r_0 + 2) (by omega)).2 (by omega)
       omega)
    | (have q1 := (hE_0_2_1 (r_0 + 1) (by omega)).2 (by omega)
       have q2 := (hE_0_2_2 (r_0 + 1) (by omega)).2 (by omega)
       omega)
    | (have q1 := (hE_0_2_1 (r_0 + 2) (by omega)).2 (by omega)
       omega)
    | (have q1 := (hE_0_2_1 (r_0 + 1) (by omega)).2 (by omega)
       omega)
    | (have q1 := (hE_0_2_1 (r_0 + 2) (by omega)).2 (by omega)
       have q2 := (hE_0_2_2 (r_0 + 2) (by omega)).2 (by omega)
       have q3 := (hE_0_2_3 (r_0 + 2) (by omega)).1 (by omega)
       omega)
    | (have q1 := (hE_0_2_1 (r_0 + 2) (by omega)).2 (by omega)
       have q2 := (hE_0_2_2 (r_0 + 2) (by omega)).2 (by omega)
       have q3 := (hE_0_2_3 (r_0 + 2) (by omega)).2 (by omega)
       omega)
    | (have q1 := (hE_0_2_1 (r_0 + 2) (by omega)).2 (by omega)
       have q2 := (hE_0_2_2 (r_0 + 2) (by omega)).2 (by omega)
       have q3 := (hE_0_2_3 (r_0 + 2) (by omega)).1 (by omega)
       have q4 : x13 = r_0 + 2 := by omega
       simp only [q4] at *
       omega)
set_option maxHeartbeats 4000000 in
theorem vc_Mo_groupItem_at_k1_19_8 (x3 : Int) (pos_0 : Int) (r_0 : Int) (gx : Int) (k3 : 0 ≤ x3 ∧ x3 ≤ 2000) (f4 : 1 * x3 + ((-1) * pos_0 + 0) ≤ 0) (kz_0_11 : 0 ≤ pos_0 ∧ pos_0 ≤ 2000) (ex2 : gx = x3) : 1 * gx + ((-1) * pos_0 + 0) ≤ 0 := by
  first
    | omega
    | (have q1 := (hE_0_2_1 (r_0 + 2) (by omega)).2 (by omega)
       have q2 := (hE_0_2_2 (r_0 + 2) (by omega)).2 (by omega)
       omega)
    | (have q1 := (hE_0_2_1 (r_0 + 1) (by omega)).2 (by omega)
       have q2 := (hE_0_2_2 (r_0 + 1) (by omega)).2 (by omega)
       omega)
    | (have q1 := (hE_0_2_1 (r_0 + 2) (by omega)).2 (by omega)
       omega)
    | (have q1 := (hE_0_2_1 (r_0 + 1) (by omega)).2 (by omega)
       omega)
    | (have q1 := (hE_0_2_1 (r_0 + 2) (by omega)).2 (by omega)
       have q2 := (hE_0_2_2 (r_0 + 2) (by omega)).2 (by omega)
       have q3 := (hE_0_2_3 (r_0 + 2) (by omega)).1 (by omega)
       omega)
    | (have q1 := (hE_0_2_1 (r_0 + 2) (by omega)).2 (by omega)
       have q2 := (hE_0_2_2 (r_0 + 2) (by omega)).2 (by omega)
       have q3 := (hE_0_2_3 (r_0 + 2) (by omega)).2 (by omega)
       omega)
    | (have q1 := (hE_0_2_1 (r_0 + 2) (by omega)).2 (by omega)
       have q2 := (hE_0_2_2 (r_0 + 2) (by omega)).2 (by omega)
       have q3 := (hE_0_2_3 (r_0 + 2) (by omega)).1 (by omega)
       have q4 : x13 = r_0 + 2 := by omega
       simp only [q4] at *
       omega)
set_option maxHeartbeats 4000000 in
theorem vc_Mo_groupItem_at_k1_19_9 (x10 : Int) (fault_0 : Int) (pos_0 : Int) (kind_0 : Int) (r_0 : Int) (gx : Int) (k10 : 1 ≤ x10 ∧ x10 ≤ 5) (g1 : x10 = fault_0) (kz_0_8 : 0 ≤ fault_0 ∧ fault_0 ≤ 5) (kz_0_11 : 0 ≤ pos_0 ∧ pos_0 ≤ 2000) (kz_0_12 : 0 ≤ kind_0 ∧ kind_0 ≤ 4) : (1 ≤ fault_0) ∨ ((kind_0 = 0) ∨ ((gx + 1) ≤ pos_0)) := by
  first
    | omega
    | (have q1 := (hE_0_2_1 (r_0 + 2) (by omega)).2 (by omega)
       have q2 := (hE_0_2_2 (r_0 + 2) (by omega)).2 (by omega)
       omega)
    | (have q1 := (hE_0_2_1 (r_0 + 1) (by omega)).2 (by omega)
       have q2 := (hE_0_2_2 (r_0 + 1) (by omega)).2 (by omega)
       omega)
    | (have q1 := (hE_0_2_1 (r_0 + 2) (by omega)).2 (by omega)
       omega)
    | (have q1 := (hE_0_2_1 (r_0 + 1) (by omega)).2 (by omega)
       omega)
    | (have q1 := (hE_0_2_1 (r_0 + 2) (by omega)).2 (by omega)
       have q2 := (hE_0_2_2 (r_0 + 2) (by omega)).2 (by omega)
       have q3 := (hE_0_2_3 (r_0 + 2) (by omega)).1 (by omega)
       omega)
    | (have q1 := (hE_0_2_1 (r_0 + 2) (by omega)).2 (by omega)
       have q2 := (hE_0_2_2 (r_0 + 2) (by omega)).2 (by omega)
       have q3 := (hE_0_2_3 (r_0 + 2) (by omega)).2 (by omega)
       omega)
    | (have q1 := (hE_0_2_1 (r_0 + 2) (by omega)).2 (by omega)
       have q2 := (hE_0_2_2 (r_0 + 2) (by omega)).2 (by omega)
       have q3 := (hE_0_2_3 (r_0 + 2) (by omega)).1 (by omega)
       have q4 : x13 = r_0 + 2 := by omega
       simp only [q4] at *
       omega)
set_option maxHeartbeats 4000000 in
theorem vc_Mo_groupItem_at_k1_19_10 (x1 : Int) (x2 : Int) (x3 : Int) (x7 : Int) (x10 : Int) (fault_0 : Int) (from_0 : Int) (pos_0 : Int) (kind_0 : Int) (all_0 : Int → Int) (r_0 : Int) (tape_0 : Int → Int) (limit_0 : Int) (place_0 : Int) (value_0 : Int) (faultPlace_0 : Int) (gx : Int) (gy : Int) (gu : Int) (k1 : 0 ≤ x1 ∧ x1 ≤ 7) (k2 : 1 ≤ x2 ∧ x2 ≤ 1) (k3 : 0 ≤ x3 ∧ x3 ≤ 2000) (k7 : 0 ≤ x7 ∧ x7 ≤ 7) (k10 : 1 ≤ x10 ∧ x10 ≤ 5) (f0 : x10 ≠ 0) (g1 : x10 = fault_0) (f6 : (x7 + 1) ≤ all_0 ((r_0 + 2))) (f9 : zOP0 (limit_0) (pos_0) (kind_0) (place_0) (value_0) (from_0) (fault_0) (faultPlace_0) (r_0) (tape_0) (all_0) (x7) (x2)) (f10 : HST (limit_0) (tape_0) (x7) (x1)) (kz_0_8 : 0 ≤ fault_0 ∧ fault_0 ≤ 5) (kz_0_9 : 0 ≤ faultPlace_0 ∧ faultPlace_0 ≤ 2000) (kz_0_10 : 0 ≤ limit_0 ∧ limit_0 ≤ 2000) (kz_0_11 : 0 ≤ pos_0 ∧ pos_0 ≤ 2000) (kz_0_12 : 0 ≤ kind_0 ∧ kind_0 ≤ 4) (kz_0_13 : 0 ≤ place_0 ∧ place_0 ≤ 2000) (kz_0_14 : (-49) ≤ value_0 ∧ value_0 ≤ 1048575) (kz_0_15 : 0 ≤ from_0 ∧ from_0 ≤ 2000) (ex2 : gx = x3) (ey2 : gy = x1) (eu2 : gu = x2) (eu3 : 0 ≤ gu ∧ gu ≤ 4) : zNc (limit_0) (pos_0) (kind_0) (place_0) (value_0) (from_0) (fault_0) (faultPlace_0) (r_0) (tape_0) (all_0) (gy) (gu) := by
  first | subst g1 | skip
  first | subst ex2 | skip
  first | subst ey2 | skip
  first | subst eu2 | skip
  first
    | exact gr_close ‹zOP0 _ _ _ _ _ _ _ _ _ _ _ _ _› ‹HST _ _ _ _› (by omega) (by omega) (Or.inl (by omega))
    | exact gr_close ‹zOP0 _ _ _ _ _ _ _ _ _ _ _ _ _› ‹HST _ _ _ _› (by omega) (by omega) (Or.inr (sgq_t (C := 125) ‹SGQ _ _ _ _ _› (by omega) (by omega)))
def o_Mo_groupItem_at_k1_19 : or_T := (200, 12, [(0, (2, 0, 0, [165])), (1, (0, 0, 7, [])), (2, (0, 1, 1, [])), (3, (0, 0, 2000, [])), (5, (0, 0, 7, [])), (7, (0, 0, 7, [])), (10, (0, 1, 5, []))], [(8, [10], [1]), (9, [10, 4], [8]), (20, [4, 4], [30, 0, 1, 1, 15, -1, 1, 11]), (20, [4], [50, 3, 0, 12, 11, 15, 2, 21, 4, 7, 1, 3, 2, 0, 12, 0, 1, 0, 3, 2, 0, 11, 4, 3, 2, 0, 15, 0, 8, 3, 7, 1, 3, 2, 0, 12, 0, 0, 0, 7, 4, 3, 2, 0, 15, 0, 1, 2, 0, 11]), (20, [3, 4], [30, 0, 1, 0, 0, -1, 1, 11]), (20, [7, 4], [50, 1, 1, 1005, 1002, 0, 6, 4, 2, 1, 0, 0, 1, 3, 1, 2, 4, 3, 2, 1, 5, 0, 2]), (20, [4, 7, 6], [60, 9, 2, 1023, 10, 11, 12, 13, 14, 15, 8, 9, 5, 1, 2]), (20, [4, 7, 5], [60, 1, 1, 1028, 10, 1]), (24, [0, 4], []), (24, [1, 5], []), (24, [2, 6], [])], [], [(0, 0, 2000, []), (0, 0, 7, []), (0, 0, 4, [])], [(23, [12, 3], [0, 1, -1]), (23, [12, 3], [0, -1, 1]), (23, [13, 5], [0, 1, -1]), (23, [13, 5], [0, -1, 1]), (23, [14, 6], [0, 1, -1]), (23, [14, 6], [0, -1, 1]), (20, [4, 4], [30, 0, 1, 1, 15, -1, 1, 11]), (20, [4], [50, 3, 0, 12, 11, 15, 2, 21, 4, 7, 1, 3, 2, 0, 12, 0, 1, 0, 3, 2, 0, 11, 4, 3, 2, 0, 15, 0, 8, 3, 7, 1, 3, 2, 0, 12, 0, 0, 0, 7, 4, 3, 2, 0, 15, 0, 1, 2, 0, 11]), (20, [12, 4], [30, 0, 1, 0, 0, -1, 1, 11]), (20, [4, 12], [50, 3, 0, 8, 12, 11, 3, 7, 0, 2, 0, 1, 2, 0, 8, 3, 7, 1, 3, 2, 0, 12, 0, 0, 0, 6, 4, 2, 1, 1, 0, 1, 2, 0, 11]), (20, [4, 13, 14], [60, 9, 2, 1022, 10, 11, 12, 13, 14, 15, 8, 9, 5, 1, 2])], [], [(1, 5, -4294967296, 0), (5, 1, -4294967296, 0)])
theorem oo_Mo_groupItem_at_k1_19 {kA : Nat → ClassId} : or_ok PRD kA GG o_Mo_groupItem_at_k1_19 := by
  refine or_mk fun A ta ws vs hD hth hl => ?_
  intro t0 r0 t1 k1 t2 k2 t3 k3 t5 k5 t7 k7 t10 k10 d0 d1 f0 f1 f2 f3 f4 f6 f9 f10 f11 f12 f13
  replace f0 := shm_142 f0
  replace f1 := shm_293 f1
  replace f2 := shm_1437 f2
  replace f3 := shm_1438 f3
  replace f4 := shm_1431 f4
  replace f6 := shm_1009 f6
  replace f9 := shm_1730 f9
  replace f10 := shm_2176 f10
  replace f11 := shm_5 f11
  replace f12 := shm_5 f12
  replace f13 := shm_5 f13
  have q4 : n_v vs 4 = n_v vs 0 := f11.symm
  have q5 : n_v vs 5 = n_v vs 1 := f12.symm
  have q6 : n_v vs 6 = n_v vs 2 := f13.symm
  simp only [q4, q5, q6] at f1 f2 f3 f4 f6 f9 f10
  have g1 : v_iv (n_v vs 10) = w_fi ws (n_v vs 0) 8 := congrArg v_iv f1
  have kz_0_8 := fdq_34 hD hth r0
  have kz_0_9 := fdq_44 hD hth r0
  have kz_0_10 := fdq_43 hD hth r0
  have kz_0_11 := fdq_237 hD hth r0
  have kz_0_12 := fdq_187 hD hth r0
  have kz_0_13 := fdq_238 hD hth r0
  have kz_0_14 := fdq_188 hD hth r0
  have kz_0_15 := fdq_239 hD hth r0
  obtain ⟨x, ex, hx⟩ := iv_ex (ta := ta) (lo := 0) (hi := 2000) (z := v_iv (n_v vs 3)) (by omega) (by omega) (by omega) (by omega)
  have ex2 : v_iv (Value.int x) = v_iv (n_v vs 3) := ex
  have ex3 : 0 ≤ v_iv (Value.int x) ∧ v_iv (Value.int x) ≤ 2000 := tv_rng hx
  obtain ⟨y, ey, hy⟩ := iv_ex (ta := ta) (lo := 0) (hi := 7) (z := v_iv (n_v vs 1)) (by omega) (by omega) (by omega) (by omega)
  have ey2 : v_iv (Value.int y) = v_iv (n_v vs 1) := ey
  have ey3 : 0 ≤ v_iv (Value.int y) ∧ v_iv (Value.int y) ≤ 7 := tv_rng hy
  obtain ⟨u, eu, hu⟩ := iv_ex (ta := ta) (lo := 0) (hi := 4) (z := v_iv (n_v vs 2)) (by omega) (by omega) (by omega) (by omega)
  have eu2 : v_iv (Value.int u) = v_iv (n_v vs 2) := eu
  have eu3 : 0 ≤ v_iv (Value.int u) ∧ v_iv (Value.int u) ≤ 4 := tv_rng hu
  have e_3 : n_v (vs ++ [Value.int x, Value.int y, Value.int u]) 3 = n_v vs 3 := n_v_old (by rw [hl]; decide)
  have e_4 : n_v (vs ++ [Value.int x, Value.int y, Value.int u]) 4 = n_v vs 4 := n_v_old (by rw [hl]; decide)
  have e_5 : n_v (vs ++ [Value.int x, Value.int y, Value.int u]) 5 = n_v vs 5 := n_v_old (by rw [hl]; decide)
  have e_6 : n_v (vs ++ [Value.int x, Value.int y, Value.int u]) 6 = n_v vs 6 := n_v_old (by rw [hl]; decide)
  have e_12 : n_v (vs ++ [Value.int x, Value.int y, Value.int u]) 12 = Value.int x := n_v_newk (k := 0) hl rfl
  have e_13 : n_v (vs ++ [Value.int x, Value.int y, Value.int u]) 13 = Value.int y := n_v_newk (k := 1) hl rfl
  have e_14 : n_v (vs ++ [Value.int x, Value.int y, Value.int u]) 14 = Value.int u := n_v_newk (k := 2) hl rfl
  have nf0 : fc_1 PRD (23, [12, 3], [0, 1, -1]) ws (vs ++ [Value.int x, Value.int y, Value.int u]) := by
    refine ⟨nf_inA hl rfl, sgq_7 ?_⟩
    · show 1 * v_iv (n_v (vs ++ [Value.int x, Value.int y, Value.int u]) 12) + ((-1) * v_iv (n_v (vs ++ [Value.int x, Value.int y, Value.int u]) 3) + 0) ≤ 0
      simp only [e_3, e_12]
      exact vc_Mo_groupItem_at_k1_19_0 (v_iv (n_v vs 3)) (w_fi ws (n_v vs 0) 5) (v_iv (Value.int x)) k3 ex2
  have nf1 : fc_1 PRD (23, [12, 3], [0, -1, 1]) ws (vs ++ [Value.int x, Value.int y, Value.int u]) := by
    refine ⟨nf_inA hl rfl, sgq_22 ?_⟩
    · show (-1) * v_iv (n_v (vs ++ [Value.int x, Value.int y, Value.int u]) 12) + (1 * v_iv (n_v (vs ++ [Value.int x, Value.int y, Value.int u]) 3) + 0) ≤ 0
      simp only [e_3, e_12]
      exact vc_Mo_groupItem_at_k1_19_1 (v_iv (n_v vs 3)) (w_fi ws (n_v vs 0) 5) (v_iv (Value.int x)) k3 ex2
  have nf2 : fc_1 PRD (23, [13, 5], [0, 1, -1]) ws (vs ++ [Value.int x, Value.int y, Value.int u]) := by
    refine ⟨nf_inA hl rfl, sgq_7 ?_⟩
    · show 1 * v_iv (n_v (vs ++ [Value.int x, Value.int y, Value.int u]) 13) + ((-1) * v_iv (n_v (vs ++ [Value.int x, Value.int y, Value.int u]) 5) + 0) ≤ 0
      simp only [e_5, e_13, q5]
      exact vc_Mo_groupItem_at_k1_19_2 (v_iv (n_v vs 1)) (v_iv (n_v vs 5)) (w_fi ws (n_v vs 0) 5) (v_iv (Value.int y)) k1 k5 d0 d1 ey2
  have nf3 : fc_1 PRD (23, [13, 5], [0, -1, 1]) ws (vs ++ [Value.int x, Value.int y, Value.int u]) := by
    refine ⟨nf_inA hl rfl, sgq_22 ?_⟩
    · show (-1) * v_iv (n_v (vs ++ [Value.int x, Value.int y, Value.int u]) 13) + (1 * v_iv (n_v (vs ++ [Value.int x, Value.int y, Value.int u]) 5) + 0) ≤ 0
      simp only [e_5, e_13, q5]
      exact vc_Mo_groupItem_at_k1_19_3 (v_iv (n_v vs 1)) (v_iv (n_v vs 5)) (w_fi ws (n_v vs 0) 5) (v_iv (Value.int y)) k1 k5 d0 d1 ey2
  have nf4 : fc_1 PRD (23, [14, 6], [0, 1, -1]) ws (vs ++ [Value.int x, Value.int y, Value.int u]) := by
    refine ⟨nf_inA hl rfl, sgq_7 ?_⟩
    · show 1 * v_iv (n_v (vs ++ [Value.int x, Value.int y, Value.int u]) 14) + ((-1) * v_iv (n_v (vs ++ [Value.int x, Value.int y, Value.int u]) 6) + 0) ≤ 0
      simp only [e_6, e_14, q6]
      exact vc_Mo_groupItem_at_k1_19_4 (v_iv (n_v vs 2)) (w_fi ws (n_v vs 0) 5) (v_iv (Value.int u)) k2 eu2
  have nf5 : fc_1 PRD (23, [14, 6], [0, -1, 1]) ws (vs ++ [Value.int x, Value.int y, Value.int u]) := by
    refine ⟨nf_inA hl rfl, sgq_22 ?_⟩
    · show (-1) * v_iv (n_v (vs ++ [Value.int x, Value.int y, Value.int u]) 14) + (1 * v_iv (n_v (vs ++ [Value.int x, Value.int y, Value.int u]) 6) + 0) ≤ 0
      simp only [e_6, e_14, q6]
      exact vc_Mo_groupItem_at_k1_19_5 (v_iv (n_v vs 2)) (w_fi ws (n_v vs 0) 5) (v_iv (Value.int u)) k2 eu2
  have nf6 : fc_1 PRD (20, [4, 4], [30, 0, 1, 1, 15, -1, 1, 11]) ws (vs ++ [Value.int x, Value.int y, Value.int u]) := by
    refine ⟨nf_inA hl rfl, sgq_1437 ?_⟩
    · show 1 * w_fi ws (n_v (vs ++ [Value.int x, Value.int y, Value.int u]) 4) 15 + ((-1) * w_fi ws (n_v (vs ++ [Value.int x, Value.int y, Value.int u]) 4) 11 + 0) ≤ 0
      simp only [e_4, q4]
      exact vc_Mo_groupItem_at_k1_19_6 (w_fi ws (n_v vs 0) 15) (w_fi ws (n_v vs 0) 11) (w_fi ws (n_v vs 0) 5) f2 kz_0_11 kz_0_15
  have nf7 : fc_1 PRD (20, [4], [50, 3, 0, 12, 11, 15, 2, 21, 4, 7, 1, 3, 2, 0, 12, 0, 1, 0, 3, 2, 0, 11, 4, 3, 2, 0, 15, 0, 8, 3, 7, 1, 3, 2, 0, 12, 0, 0, 0, 7, 4, 3, 2, 0, 15, 0, 1, 2, 0, 11]) ws (vs ++ [Value.int x, Value.int y, Value.int u]) := by
    refine ⟨nf_inA hl rfl, sgq_1438 ?_⟩
    · show ((w_fi ws (n_v (vs ++ [Value.int x, Value.int y, Value.int u]) 4) 12 = 1) → (w_fi ws (n_v (vs ++ [Value.int x, Value.int y, Value.int u]) 4) 11 ≤ (w_fi ws (n_v (vs ++ [Value.int x, Value.int y, Value.int u]) 4) 15 + 8))) ∧ ((w_fi ws (n_v (vs ++ [Value.int x, Value.int y, Value.int u]) 4) 12 = 0) ∨ ((w_fi ws (n_v (vs ++ [Value.int x, Value.int y, Value.int u]) 4) 15 + 1) ≤ w_fi ws (n_v (vs ++ [Value.int x, Value.int y, Value.int u]) 4) 11))
      simp only [e_4, q4]
      exact vc_Mo_groupItem_at_k1_19_7 (w_fi ws (n_v vs 0) 15) (w_fi ws (n_v vs 0) 11) (w_fi ws (n_v vs 0) 12) (w_fi ws (n_v vs 0) 5) f3 kz_0_11 kz_0_12 kz_0_15
  have nf8 : fc_1 PRD (20, [12, 4], [30, 0, 1, 0, 0, -1, 1, 11]) ws (vs ++ [Value.int x, Value.int y, Value.int u]) := by
    refine ⟨nf_inA hl rfl, sgq_1431 ?_⟩
    · show 1 * v_iv (n_v (vs ++ [Value.int x, Value.int y, Value.int u]) 12) + ((-1) * w_fi ws (n_v (vs ++ [Value.int x, Value.int y, Value.int u]) 4) 11 + 0) ≤ 0
      simp only [e_4, e_12, q4]
      exact vc_Mo_groupItem_at_k1_19_8 (v_iv (n_v vs 3)) (w_fi ws (n_v vs 0) 11) (w_fi ws (n_v vs 0) 5) (v_iv (Value.int x)) k3 f4 kz_0_11 ex2
  have nf9 : fc_1 PRD (20, [4, 12], [50, 3, 0, 8, 12, 11, 3, 7, 0, 2, 0, 1, 2, 0, 8, 3, 7, 1, 3, 2, 0, 12, 0, 0, 0, 6, 4, 2, 1, 1, 0, 1, 2, 0, 11]) ws (vs ++ [Value.int x, Value.int y, Value.int u]) := by
    refine ⟨nf_inA hl rfl, sgq_1722 ?_⟩
    · show (1 ≤ w_fi ws (n_v (vs ++ [Value.int x, Value.int y, Value.int u]) 4) 8) ∨ ((w_fi ws (n_v (vs ++ [Value.int x, Value.int y, Value.int u]) 4) 12 = 0) ∨ ((v_iv (n_v (vs ++ [Value.int x, Value.int y, Value.int u]) 12) + 1) ≤ w_fi ws (n_v (vs ++ [Value.int x, Value.int y, Value.int u]) 4) 11))
      simp only [e_4, e_12, q4]
      exact vc_Mo_groupItem_at_k1_19_9 (v_iv (n_v vs 10)) (w_fi ws (n_v vs 0) 8) (w_fi ws (n_v vs 0) 11) (w_fi ws (n_v vs 0) 12) (w_fi ws (n_v vs 0) 5) (v_iv (Value.int x)) k10 g1 kz_0_8 kz_0_11 kz_0_12
  have nf10 : fc_1 PRD (20, [4, 13, 14], [60, 9, 2, 1022, 10, 11, 12, 13, 14, 15, 8, 9, 5, 1, 2]) ws (vs ++ [Value.int x, Value.int y, Value.int u]) := by
    refine ⟨nf_inA hl rfl, sgq_1723 ?_⟩
    · show zNc (w_fi ws (n_v (vs ++ [Value.int x, Value.int y, Value.int u]) 4) 10) (w_fi ws (n_v (vs ++ [Value.int x, Value.int y, Value.int u]) 4) 11) (w_fi ws (n_v (vs ++ [Value.int x, Value.int y, Value.int u]) 4) 12) (w_fi ws (n_v (vs ++ [Value.int x, Value.int y, Value.int u]) 4) 13) (w_fi ws (n_v (vs ++ [Value.int x, Value.int y, Value.int u]) 4) 14) (w_fi ws (n_v (vs ++ [Value.int x, Value.int y, Value.int u]) 4) 15) (w_fi ws (n_v (vs ++ [Value.int x, Value.int y, Value.int u]) 4) 8) (w_fi ws (n_v (vs ++ [Value.int x, Value.int y, Value.int u]) 4) 9) (w_fi ws (n_v (vs ++ [Value.int x, Value.int y, Value.int u]) 4) 5) (w_ei ws (w_ar ws (n_v (vs ++ [Value.int x, Value.int y, Value.int u]) 4) 1)) (w_ei ws (w_ar ws (n_v (vs ++ [Value.int x, Value.int y, Value.int u]) 4) 2)) (v_iv (n_v (vs ++ [Value.int x, Value.int y, Value.int u]) 13)) (v_iv (n_v (vs ++ [Value.int x, Value.int y, Value.int u]) 14))
      simp only [e_4, e_13, e_14, q4]
      exact vc_Mo_groupItem_at_k1_19_10 (v_iv (n_v vs 1)) (v_iv (n_v vs 2)) (v_iv (n_v vs 3)) (v_iv (n_v vs 7)) (v_iv (n_v vs 10)) (w_fi ws (n_v vs 0) 8) (w_fi ws (n_v vs 0) 15) (w_fi ws (n_v vs 0) 11) (w_fi ws (n_v vs 0) 12) (w_ei ws (w_ar ws (n_v vs 0) 2)) (w_fi ws (n_v vs 0) 5) (w_ei ws (w_ar ws (n_v vs 0) 1)) (w_fi ws (n_v vs 0) 10) (w_fi ws (n_v vs 0) 13) (w_fi ws (n_v vs 0) 14) (w_fi ws (n_v vs 0) 9) (v_iv (Value.int x)) (v_iv (Value.int y)) (v_iv (Value.int u)) k1 k2 k3 k7 k10 f0 g1 f6 f9 f10 kz_0_8 kz_0_9 kz_0_10 kz_0_11 kz_0_12 kz_0_13 kz_0_14 kz_0_15 ex2 ey2 eu2 eu3
  exact ⟨(fun _ h => (by cases h)), [Value.int x, Value.int y, Value.int u], ag_three hx hy hu, List.forall_mem_cons.mpr ⟨⟨show (23 : Nat) < 100 from by decide, nf0⟩, List.forall_mem_cons.mpr ⟨⟨show (23 : Nat) < 100 from by decide, nf1⟩, List.forall_mem_cons.mpr ⟨⟨show (23 : Nat) < 100 from by decide, nf2⟩, List.forall_mem_cons.mpr ⟨⟨show (23 : Nat) < 100 from by decide, nf3⟩, List.forall_mem_cons.mpr ⟨⟨show (23 : Nat) < 100 from by decide, nf4⟩, List.forall_mem_cons.mpr ⟨⟨show (23 : Nat) < 100 from by decide, nf5⟩, List.forall_mem_cons.mpr ⟨⟨show (20 : Nat) < 100 from by decide, nf6⟩, List.forall_mem_cons.mpr ⟨⟨show (20 : Nat) < 100 from by decide, nf7⟩, List.forall_mem_cons.mpr ⟨⟨show (20 : Nat) < 100 from by decide, nf8⟩, List.forall_mem_cons.mpr ⟨⟨show (20 : Nat) < 100 from by decide, nf9⟩, List.forall_mem_cons.mpr ⟨⟨show (20 : Nat) < 100 from by decide, nf10⟩, (fun _ h => (by cases h))⟩⟩⟩⟩⟩⟩⟩⟩⟩⟩⟩, (fun _ h => (by cases h))⟩
set_option maxHeartbeats 4000000 in
theorem vc_Mo_groupItem_at_k1_20_0 (x13 : Int) (r_0 : Int) (from_0 : Int) (pos_0 : Int) (f13 : 1 * from_0 + ((-1) * pos_0 + 0) ≤ 0) (kz_0_11 : 0 ≤ pos_0 ∧ pos_0 ≤ 2000) (kz_0_15 : 0 ≤ from_0 ∧ from_0 ≤ 2000) : 1 * from_0 + ((-1) * pos_0 + 0) ≤ 0 := by
  first
    | omega
    | (have q1 := (hE_0_2_1 (r_0 + 2) (by omega)).2 (by omega)
       have q2 := (hE_0_2_2 (r_0 + 2) (by omega)).2 (by omega)
       omega)
    | (have q1 := (hE_0_2_1 (r_0 + 1) (by omega)).2 (by omega)
       have q2 := (hE_0_2_2 (r_0 + 1) (by omega)).2 (by omega)
       omega)
    | (have q1 := (hE_0_2_1 (r_0 + 2) (by omega)).2 (by omega)
       omega)
    | (have q1 := (hE_0_2_1 (r_0 + 1) (by omega)).2 (by omega)
       omega)
    | (have q1 := (hE_0_2_1 (r_0 + 2) (by omega)).2 (by omega)
       have q2 := (hE_0_2_2 (r_0 + 2) (by omega)).2 (by omega)
       have q3 := (hE_0_2_3 (r_0 + 2) (by omega)).1 (by omega)
       omega)
    | (have q1 := (hE_0_2_1 (r_0 + 2) (by omega)).2 (by omega)
       have q2 := (hE_0_2_2 (r_0 + 2) (by omega)).2 (by omega)
       have q3 := (hE_0_2_3 (r_0 + 2) (by omega)).2 (by omega)
       omega)
    | (have q1 := (hE_0_2_1 (r_0 + 2) (by omega)).2 (by omega)
       have q2 := (hE_0_2_2 (r_0 + 2) (by omega)).2 (by omega)
       have q3 := (hE_0_2_3 (r_0 + 2) (by omega)).1 (by omega)
       have q4 : x13 = r_0 + 2 := by omega
       simp only [q4] at *
       omega)
set_option maxHeartbeats 4000000 in
theorem vc_Mo_groupItem_at_k1_20_1 (x13 : Int) (r_0 : Int) (from_0 : Int) (pos_0 : Int) (kind_0 : Int) (f14 : ((kind_0 = 1) → (pos_0 ≤ (from_0 + 8))) ∧ ((kind_0 = 0) ∨ ((from_0 + 1) ≤ pos_0))) (kz_0_11 : 0 ≤ pos_0 ∧ pos_0 ≤ 2000) (kz_0_12 : 0 ≤ kind_0 ∧ kind_0 ≤ 4) (kz_0_15 : 0 ≤ from_0 ∧ from_0 ≤ 2000) : ((kind_0 = 1) → (pos_0 ≤ (from_0 + 8))) ∧ ((kind_0 = 0) ∨ ((from_0 + 1) ≤ pos_0)) := by
  first
    | omega
    | (have q1 := (hE_0_2_1 (r_0 + 2) (by omega)).2 (by omega)
       have q2 := (hE_0_2_2 (r_0 + 2) (by omega)).2 (by omega)
       omega)
    | (have q1 := (hE_0_2_1 (r_0 + 1) (by omega)).2 (by omega)
       have q2 := (hE_0_2_2 (r_0 + 1) (by omega)).2 (by omega)
       omega)
    | (have q1 := (hE_0_2_1 (r_0 + 2) (by omega)).2 (by omega)
       omega)
    | (have q1 := (hE_0_2_1 (r_0 + 1) (by omega)).2 (by omega)
       omega)
    | (have q1 := (hE_0_2_1 (r_0 + 2) (by omega)).2 (by omega)
       have q2 := (hE_0_2_2 (r_0 + 2) (by omega)).2 (by omega)
       have q3 := (hE_0_2_3 (r_0 + 2) (by omega)).1 (by omega)
       omega)
    | (have q1 := (hE_0_2_1 (r_0 + 2) (by omega)).2 (by omega)
       have q2 := (hE_0_2_2 (r_0 + 2) (by omega)).2 (by omega)
       have q3 := (hE_0_2_3 (r_0 + 2) (by omega)).2 (by omega)
       omega)
    | (have q1 := (hE_0_2_1 (r_0 + 2) (by omega)).2 (by omega)
       have q2 := (hE_0_2_2 (r_0 + 2) (by omega)).2 (by omega)
       have q3 := (hE_0_2_3 (r_0 + 2) (by omega)).1 (by omega)
       have q4 : x13 = r_0 + 2 := by omega
       simp only [q4] at *
       omega)
set_option maxHeartbeats 4000000 in
theorem vc_Mo_groupItem_at_k1_20_2 (x3 : Int) (x12 : Int) (x13 : Int) (r_0 : Int) (pos_0 : Int) (k3 : 0 ≤ x3 ∧ x3 ≤ 2000) (k12 : 0 ≤ x12 ∧ x12 ≤ 2000) (f0 : 1 * x12 + ((-1) * x3 + 0) ≤ 0) (f1 : (-1) * x12 + (1 * x3 + 0) ≤ 0) (f15 : 1 * x12 + ((-1) * pos_0 + 0) ≤ 0) (kz_0_11 : 0 ≤ pos_0 ∧ pos_0 ≤ 2000) : 1 * x3 + ((-1) * pos_0 + 0) ≤ 0 := by
  first
    | omega
    | (have q1 := (hE_0_2_1 (r_0 + 2) (by omega)).2 (by omega)
       have q2 := (hE_0_2_2 (r_0 + 2) (by omega)).2 (by omega)
       omega)
    | (have q1 := (hE_0_2_1 (r_0 + 1) (by omega)).2 (by omega)
       have q2 := (hE_0_2_2 (r_0 + 1) (by omega)).2 (by omega)
       omega)
    | (have q1 := (hE_0_2_1 (r_0 + 2) (by omega)).2 (by omega)
       omega)
    | (have q1 := (hE_0_2_1 (r_0 + 1) (by omega)).2 (by omega)
       omega)
    | (have q1 := (hE_0_2_1 (r_0 + 2) (by omega)).2 (by omega)
       have q2 := (hE_0_2_2 (r_0 + 2) (by omega)).2 (by omega)
       have q3 := (hE_0_2_3 (r_0 + 2) (by omega)).1 (by omega)
       omega)
    | (have q1 := (hE_0_2_1 (r_0 + 2) (by omega)).2 (by omega)
       have q2 := (hE_0_2_2 (r_0 + 2) (by omega)).2 (by omega)
       have q3 := (hE_0_2_3 (r_0 + 2) (by omega)).2 (by omega)
       omega)
    | (have q1 := (hE_0_2_1 (r_0 + 2) (by omega)).2 (by omega)
       have q2 := (hE_0_2_2 (r_0 + 2) (by omega)).2 (by omega)
       have q3 := (hE_0_2_3 (r_0 + 2) (by omega)).1 (by omega)
       have q4 : x13 = r_0 + 2 := by omega
       simp only [q4] at *
       omega)
set_option maxHeartbeats 4000000 in
theorem vc_Mo_groupItem_at_k1_20_3 (x3 : Int) (x12 : Int) (x13 : Int) (r_0 : Int) (pos_0 : Int) (fault_0 : Int) (k3 : 0 ≤ x3 ∧ x3 ≤ 2000) (k12 : 0 ≤ x12 ∧ x12 ≤ 2000) (f0 : 1 * x12 + ((-1) * x3 + 0) ≤ 0) (f1 : (-1) * x12 + (1 * x3 + 0) ≤ 0) (f15 : 1 * x12 + ((-1) * pos_0 + 0) ≤ 0) (f16 : (1 ≤ fault_0) ∨ ((x12 + 1) ≤ pos_0)) (kz_0_8 : 0 ≤ fault_0 ∧ fault_0 ≤ 5) (kz_0_11 : 0 ≤ pos_0 ∧ pos_0 ≤ 2000) : (1 ≤ fault_0) ∨ ((x3 + 1) ≤ pos_0) := by
  first
    | omega
    | (have q1 := (hE_0_2_1 (r_0 + 2) (by omega)).2 (by omega)
       have q2 := (hE_0_2_2 (r_0 + 2) (by omega)).2 (by omega)
       omega)
    | (have q1 := (hE_0_2_1 (r_0 + 1) (by omega)).2 (by omega)
       have q2 := (hE_0_2_2 (r_0 + 1) (by omega)).2 (by omega)
       omega)
    | (have q1 := (hE_0_2_1 (r_0 + 2) (by omega)).2 (by omega)
       omega)
    | (have q1 := (hE_0_2_1 (r_0 + 1) (by omega)).2 (by omega)
       omega)
    | (have q1 := (hE_0_2_1 (r_0 + 2) (by omega)).2 (by omega)
       have q2 := (hE_0_2_2 (r_0 + 2) (by omega)).2 (by omega)
       have q3 := (hE_0_2_3 (r_0 + 2) (by omega)).1 (by omega)
       omega)
    | (have q1 := (hE_0_2_1 (r_0 + 2) (by omega)).2 (by omega)
       have q2 := (hE_0_2_2 (r_0 + 2) (by omega)).2 (by omega)
       have q3 := (hE_0_2_3 (r_0 + 2) (by omega)).2 (by omega)
       omega)
    | (have q1 := (hE_0_2_1 (r_0 + 2) (by omega)).2 (by omega)
       have q2 := (hE_0_2_2 (r_0 + 2) (by omega)).2 (by omega)
       have q3 := (hE_0_2_3 (r_0 + 2) (by omega)).1 (by omega)
       have q4 : x13 = r_0 + 2 := by omega
       simp only [q4] at *
       omega)
set_option maxHeartbeats 4000000 in
theorem vc_Mo_groupItem_at_k1_20_4 (x1 : Int) (x5 : Int) (x7 : Int) (x13 : Int) (all_0 : Int → Int) (r_0 : Int) (k1 : 0 ≤ x1 ∧ x1 ≤ 7) (k5 : 0 ≤ x5 ∧ x5 ≤ 7) (k7 : 0 ≤ x7 ∧ x7 ≤ 7) (k13 : 0 ≤ x13 ∧ x13 ≤ 7) (d0 : x5 + (-4294967296) ≤ x1 ∧ x1 ≤ x5 + 0) (d1 : x1 + (-4294967296) ≤ x5 ∧ x5 ≤ x1 + 0) (f2 : 1 * x13 + ((-1) * x1 + 0) ≤ 0) (f3 : (-1) * x13 + (1 * x1 + 0) ≤ 0) (f6 : (x7 + 1) ≤ all_0 ((r_0 + 2))) (f7 : 1 * x1 + ((-1) * x7 + 0) ≤ (-1)) : (x1 + 1) ≤ all_0 ((r_0 + 2)) := by
  first
    | omega
    | (have q1 := (hE_0_2_1 (r_0 + 2) (by omega)).2 (by omega)
       have q2 := (hE_0_2_2 (r_0 + 2) (by omega)).2 (by omega)
       omega)
    | (have q1 := (hE_0_2_1 (r_0 + 1) (by omega)).2 (by omega)
       have q2 := (hE_0_2_2 (r_0 + 1) (by omega)).2 (by omega)
       omega)
    | (have q1 := (hE_0_2_1 (r_0 + 2) (by omega)).2 (by omega)
       omega)
    | (have q1 := (hE_0_2_1 (r_0 + 1) (by omega)).2 (by omega)
       omega)
    | (have q1 := (hE_0_2_1 (r_0 + 2) (by omega)).2 (by omega)
       have q2 := (hE_0_2_2 (r_0 + 2) (by omega)).2 (by omega)
       have q3 := (hE_0_2_3 (r_0 + 2) (by omega)).1 (by omega)
       omega)
    | (have q1 := (hE_0_2_1 (r_0 + 2) (by omega)).2 (by omega)
       have q2 := (hE_0_2_2 (r_0 + 2) (by omega)).2 (by omega)
       have q3 := (hE_0_2_3 (r_0 + 2) (by omega)).2 (by omega)
       omega)
    | (have q1 := (hE_0_2_1 (r_0 + 2) (by omega)).2 (by omega)
       have q2 := (hE_0_2_2 (r_0 + 2) (by omega)).2 (by omega)
       have q3 := (hE_0_2_3 (r_0 + 2) (by omega)).1 (by omega)
       have q4 : x13 = r_0 + 2 := by omega
       simp only [q4] at *
       omega)
set_option maxHeartbeats 4000000 in
theorem vc_Mo_groupItem_at_k1_20_5 (all_0 : Int → Int) (r_0 : Int) (now_0 : Int → Int) (latest_0 : Int → Int) (f8 : RWS (r_0) (all_0) (now_0) (latest_0)) : RWS (r_0) (all_0) (now_0) (latest_0) := by
  first
    | assumption
set_option maxHeartbeats 4000000 in
theorem vc_Mo_groupItem_at_k1_20_6 (x1 : Int) (x2 : Int) (x3 : Int) (x5 : Int) (x12 : Int) (x13 : Int) (x14 : Int) (all_0 : Int → Int) (r_0 : Int) (tape_0 : Int → Int) (limit_0 : Int) (from_0 : Int) (pos_0 : Int) (kind_0 : Int) (fault_0 : Int) (place_0 : Int) (value_0 : Int) (faultPlace_0 : Int) (k1 : 0 ≤ x1 ∧ x1 ≤ 7) (k2 : 1 ≤ x2 ∧ x2 ≤ 1) (k3 : 0 ≤ x3 ∧ x3 ≤ 2000) (k5 : 0 ≤ x5 ∧ x5 ≤ 7) (k12 : 0 ≤ x12 ∧ x12 ≤ 2000) (k13 : 0 ≤ x13 ∧ x13 ≤ 7) (k14 : 0 ≤ x14 ∧ x14 ≤ 4) (d0 : x5 + (-4294967296) ≤ x1 ∧ x1 ≤ x5 + 0) (d1 : x1 + (-4294967296) ≤ x5 ∧ x5 ≤ x1 + 0) (f0 : 1 * x12 + ((-1) * x3 + 0) ≤ 0) (f1 : (-1) * x12 + (1 * x3 + 0) ≤ 0) (f2 : 1 * x13 + ((-1) * x1 + 0) ≤ 0) (f3 : (-1) * x13 + (1 * x1 + 0) ≤ 0) (f4 : 1 * x14 + ((-1) * x2 + 0) ≤ 0) (f5 : (-1) * x14 + (1 * x2 + 0) ≤ 0) (f17 : zOS0 (limit_0) (pos_0) (kind_0) (place_0) (value_0) (from_0) (fault_0) (faultPlace_0) (r_0) (tape_0) (all_0) (x13) (x14)) (kz_0_8 : 0 ≤ fault_0 ∧ fault_0 ≤ 5) (kz_0_9 : 0 ≤ faultPlace_0 ∧ faultPlace_0 ≤ 2000) (kz_0_10 : 0 ≤ limit_0 ∧ limit_0 ≤ 2000) (kz_0_11 : 0 ≤ pos_0 ∧ pos_0 ≤ 2000) (kz_0_12 : 0 ≤ kind_0 ∧ kind_0 ≤ 4) (kz_0_13 : 0 ≤ place_0 ∧ place_0 ≤ 2000) (kz_0_14 : (-49) ≤ value_0 ∧ value_0 ≤ 1048575) (kz_0_15 : 0 ≤ from_0 ∧ from_0 ≤ 2000) : zOS0 (limit_0) (pos_0) (kind_0) (place_0) (value_0) (from_0) (fault_0) (faultPlace_0) (r_0) (tape_0) (all_0) (x1) (x2) := by
  first | (have el_x12 : x12 = x3 := by omega); subst el_x12 | skip
  first | (have el_x13 : x13 = x1 := by omega); subst el_x13 | skip
  first | (have el_x14 : x14 = x2 := by omega); subst el_x14 | skip
  first
    | assumption
    | (refine Or.inl (fs_w ?_ ?_ (by assumption)) <;> assumption)
def o_Mo_groupItem_at_k1_20 : or_T := (203, 15, [(0, (2, 0, 0, [165])), (1, (0, 0, 7, [])), (2, (0, 1, 1, [])), (3, (0, 0, 2000, [])), (5, (0, 0, 7, [])), (7, (0, 0, 7, [])), (12, (0, 0, 2000, [])), (13, (0, 0, 7, [])), (14, (0, 0, 4, []))], [(23, [12, 3], [0, 1, -1]), (23, [12, 3], [0, -1, 1]), (23, [13, 5], [0, 1, -1]), (23, [13, 5], [0, -1, 1]), (23, [14, 6], [0, 1, -1]), (23, [14, 6], [0, -1, 1]), (20, [7, 4], [50, 1, 1, 1005, 1002, 0, 6, 4, 2, 1, 0, 0, 1, 3, 1, 2, 4, 3, 2, 1, 5, 0, 2]), (23, [5, 7], [-1, 1, -1]), (20, [4], [60, 1, 3, 199, 5, 2, 3, 4]), (24, [0, 4], []), (24, [1, 5], []), (24, [2, 6], []), (20, [4, 4], [30, 0, 1, 1, 15, -1, 1, 11]), (20, [4], [50, 3, 0, 12, 11, 15, 2, 21, 4, 7, 1, 3, 2, 0, 12, 0, 1, 0, 3, 2, 0, 11, 4, 3, 2, 0, 15, 0, 8, 3, 7, 1, 3, 2, 0, 12, 0, 0, 0, 7, 4, 3, 2, 0, 15, 0, 1, 2, 0, 11]), (20, [12, 4], [30, 0, 1, 0, 0, -1, 1, 11]), (20, [4, 12], [50, 2, 0, 8, 11, 3, 7, 0, 2, 0, 1, 2, 0, 8, 0, 6, 4, 2, 1, 1, 0, 1, 2, 0, 11]), (20, [4, 13, 14], [60, 9, 2, 1007, 10, 11, 12, 13, 14, 15, 8, 9, 5, 1, 2])], [], [], [(20, [0, 0], [30, 0, 1, 1, 15, -1, 1, 11]), (20, [0], [50, 3, 0, 12, 11, 15, 2, 21, 4, 7, 1, 3, 2, 0, 12, 0, 1, 0, 3, 2, 0, 11, 4, 3, 2, 0, 15, 0, 8, 3, 7, 1, 3, 2, 0, 12, 0, 0, 0, 7, 4, 3, 2, 0, 15, 0, 1, 2, 0, 11]), (20, [3, 0], [30, 0, 1, 0, 0, -1, 1, 11]), (20, [0, 3], [50, 2, 0, 8, 11, 3, 7, 0, 2, 0, 1, 2, 0, 8, 0, 6, 4, 2, 1, 1, 0, 1, 2, 0, 11]), (20, [1, 0], [50, 1, 1, 1005, 1002, 0, 6, 4, 2, 1, 0, 0, 1, 3, 1, 2, 4, 3, 2, 1, 5, 0, 2]), (20, [0], [60, 1, 3, 199, 5, 2, 3, 4]), (20, [0, 1, 2], [60, 9, 2, 1007, 10, 11, 12, 13, 14, 15, 8, 9, 5, 1, 2])], [], [(1, 5, -4294967296, 0), (5, 1, -4294967296, 0)])
theorem oo_Mo_groupItem_at_k1_20 {kA : Nat → ClassId} : or_ok PRD kA GG o_Mo_groupItem_at_k1_20 := by
  refine or_mk fun A ta ws vs hD hth hl => ?_
  intro t0 r0 t1 k1 t2 k2 t3 k3 t5 k5 t7 k7 t12 k12 t13 k13 t14 k14 d0 d1 f0 f1 f2 f3 f4 f5 f6 f7 f8 f10 f11 f12 f13 f14 f15 f16 f17
  replace f2 := shm_7 f2
  replace f3 := shm_22 f3
  replace f4 := shm_7 f4
  replace f5 := shm_22 f5
  replace f6 := shm_1009 f6
  replace f7 := shm_193 f7
  replace f8 := shm_980 f8
  replace f10 := shm_5 f10
  replace f11 := shm_5 f11
  replace f12 := shm_5 f12
  replace f13 := shm_1437 f13
  replace f14 := shm_1438 f14
  replace f15 := shm_1431 f15
  replace f16 := shm_1726 f16
  replace f17 := shm_1727 f17
  have q4 : n_v vs 4 = n_v vs 0 := f10.symm
  have q5 : n_v vs 5 = n_v vs 1 := f11.symm
  have q6 : n_v vs 6 = n_v vs 2 := f12.symm
  simp only [q5, q6, q4] at f2 f3 f4 f5 f6 f7 f8 f13 f14 f15 f16 f17
  have kz_0_8 := fdq_34 hD hth r0
  have kz_0_9 := fdq_44 hD hth r0
  have kz_0_10 := fdq_43 hD hth r0
  have kz_0_11 := fdq_237 hD hth r0
  have kz_0_12 := fdq_187 hD hth r0
  have kz_0_13 := fdq_238 hD hth r0
  have kz_0_14 := fdq_188 hD hth r0
  have kz_0_15 := fdq_239 hD hth r0
  have nf0 : fc_1 PRD (20, [0, 0], [30, 0, 1, 1, 15, -1, 1, 11]) ws (vs) := ⟨nf_in hl rfl, sgq_1437 (vc_Mo_groupItem_at_k1_20_0 (v_iv (n_v vs 13)) (w_fi ws (n_v vs 0) 5) (w_fi ws (n_v vs 0) 15) (w_fi ws (n_v vs 0) 11) f13 kz_0_11 kz_0_15)⟩
  have nf1 : fc_1 PRD (20, [0], [50, 3, 0, 12, 11, 15, 2, 21, 4, 7, 1, 3, 2, 0, 12, 0, 1, 0, 3, 2, 0, 11, 4, 3, 2, 0, 15, 0, 8, 3, 7, 1, 3, 2, 0, 12, 0, 0, 0, 7, 4, 3, 2, 0, 15, 0, 1, 2, 0, 11]) ws (vs) := ⟨nf_in hl rfl, sgq_1438 (vc_Mo_groupItem_at_k1_20_1 (v_iv (n_v vs 13)) (w_fi ws (n_v vs 0) 5) (w_fi ws (n_v vs 0) 15) (w_fi ws (n_v vs 0) 11) (w_fi ws (n_v vs 0) 12) f14 kz_0_11 kz_0_12 kz_0_15)⟩
  have nf2 : fc_1 PRD (20, [3, 0], [30, 0, 1, 0, 0, -1, 1, 11]) ws (vs) := ⟨nf_in hl rfl, sgq_1431 (vc_Mo_groupItem_at_k1_20_2 (v_iv (n_v vs 3)) (v_iv (n_v vs 12)) (v_iv (n_v vs 13)) (w_fi ws (n_v vs 0) 5) (w_fi ws (n_v vs 0) 11) k3 k12 (shm_7 f0) (shm_22 f1) f15 kz_0_11)⟩
  have nf3 : fc_1 PRD (20, [0, 3], [50, 2, 0, 8, 11, 3, 7, 0, 2, 0, 1, 2, 0, 8, 0, 6, 4, 2, 1, 1, 0, 1, 2, 0, 11]) ws (vs) := ⟨nf_in hl rfl, sgq_1726 (vc_Mo_groupItem_at_k1_20_3 (v_iv (n_v vs 3)) (v_iv (n_v vs 12)) (v_iv (n_v vs 13)) (w_fi ws (n_v vs 0) 5) (w_fi ws (n_v vs 0) 11) (w_fi ws (n_v vs 0) 8) k3 k12 (shm_7 f0) (shm_22 f1) f15 f16 kz_0_8 kz_0_11)⟩
  have nf4 : fc_1 PRD (20, [1, 0], [50, 1, 1, 1005, 1002, 0, 6, 4, 2, 1, 0, 0, 1, 3, 1, 2, 4, 3, 2, 1, 5, 0, 2]) ws (vs) := ⟨nf_in hl rfl, sgq_1009 (vc_Mo_groupItem_at_k1_20_4 (v_iv (n_v vs 1)) (v_iv (n_v vs 5)) (v_iv (n_v vs 7)) (v_iv (n_v vs 13)) (w_ei ws (w_ar ws (n_v vs 0) 2)) (w_fi ws (n_v vs 0) 5) k1 k5 k7 k13 d0 d1 f2 f3 f6 f7)⟩
  have nf5 : fc_1 PRD (20, [0], [60, 1, 3, 199, 5, 2, 3, 4]) ws (vs) := ⟨nf_in hl rfl, sgq_980 (vc_Mo_groupItem_at_k1_20_5 (w_ei ws (w_ar ws (n_v vs 0) 2)) (w_fi ws (n_v vs 0) 5) (w_ei ws (w_ar ws (n_v vs 0) 3)) (w_ei ws (w_ar ws (n_v vs 0) 4)) f8)⟩
  have nf6 : fc_1 PRD (20, [0, 1, 2], [60, 9, 2, 1007, 10, 11, 12, 13, 14, 15, 8, 9, 5, 1, 2]) ws (vs) := ⟨nf_in hl rfl, sgq_1727 (vc_Mo_groupItem_at_k1_20_6 (v_iv (n_v vs 1)) (v_iv (n_v vs 2)) (v_iv (n_v vs 3)) (v_iv (n_v vs 5)) (v_iv (n_v vs 12)) (v_iv (n_v vs 13)) (v_iv (n_v vs 14)) (w_ei ws (w_ar ws (n_v vs 0) 2)) (w_fi ws (n_v vs 0) 5) (w_ei ws (w_ar ws (n_v vs 0) 1)) (w_fi ws (n_v vs 0) 10) (w_fi ws (n_v vs 0) 15) (w_fi ws (n_v vs 0) 11) (w_fi ws (n_v vs 0) 12) (w_fi ws (n_v vs 0) 8) (w_fi ws (n_v vs 0) 13) (w_fi ws (n_v vs 0) 14) (w_fi ws (n_v vs 0) 9) k1 k2 k3 k5 k12 k13 k14 d0 d1 (shm_7 f0) (shm_22 f1) f2 f3 f4 f5 f17 kz_0_8 kz_0_9 kz_0_10 kz_0_11 kz_0_12 kz_0_13 kz_0_14 kz_0_15)⟩
  refine ⟨(fun _ h => (by cases h)), [], trivial, ?_, (fun _ h => (by cases h))⟩
  rw [List.append_nil]
  exact List.forall_mem_cons.mpr ⟨⟨show (20 : Nat) < 100 from by decide, nf0⟩, List.forall_mem_cons.mpr ⟨⟨show (20 : Nat) < 100 from by decide, nf1⟩, List.forall_mem_cons.mpr ⟨⟨show (20 : Nat) < 100 from by decide, nf2⟩, List.forall_mem_cons.mpr ⟨⟨show (20 : Nat) < 100 from by decide, nf3⟩, List.forall_mem_cons.mpr ⟨⟨show (20 : Nat) < 100 from by decide, nf4⟩, List.forall_mem_cons.mpr ⟨⟨show (20 : Nat) < 100 from by decide, nf5⟩, List.forall_mem_cons.mpr ⟨⟨show (20 : Nat) < 100 from by decide, nf6⟩, (fun _ h => (by cases h))⟩⟩⟩⟩⟩⟩⟩
set_option maxHeartbeats 4000000 in
theorem vc_Mo_groupItem_at_k1_21_0 (x13 : Int) (from_0 : Int) (pos_0 : Int) (r_0 : Int) (f6 : 1 * from_0 + ((-1) * pos_0 + 0) ≤ 0) (kz_0_11 : 0 ≤ pos_0 ∧ pos_0 ≤ 2000) (kz_0_15 : 0 ≤ from_0 ∧ from_0 ≤ 2000) : 1 * from_0 + ((-1) * pos_0 + 0) ≤ 0 := by
  first
    | omega
    | (have q1 := (hE_0_2_1 (r_0 + 2) (by omega)).2 (by omega)
       have q2 := (hE_0_2_2 (r_0 + 2) (by omega)).2 (by omega)
       omega)
    | (have q1 := (hE_0_2_1 (r_0 + 1) (by omega)).2 (by omega)
       have q2 := (hE_0_2_2 (r_0 + 1) (by omega)).2 (by omega)
       omega)
    | (have q1 := (hE_0_2_1 (r_0 + 2) (by omega)).2 (by omega)
       omega)
    | (have q1 := (hE_0_2_1 (r_0 + 1) (by omega)).2 (by omega)
       omega)
    | (have q1 := (hE_0_2_1 (r_0 + 2) (by omega)).2 (by omega)
       have q2 := (hE_0_2_2 (r_0 + 2) (by omega)).2 (by omega)
       have q3 := (hE_0_2_3 (r_0 + 2) (by omega)).1 (by omega)
       omega)
    | (have q1 := (hE_0_2_1 (r_0 + 2) (by omega)).2 (by omega)
       have q2 := (hE_0_2_2 (r_0 + 2) (by omega)).2 (by omega)
       have q3 := (hE_0_2_3 (r_0 + 2) (by omega)).2 (by omega)
       omega)
    | (have q1 := (hE_0_2_1 (r_0 + 2) (by omega)).2 (by omega)
       have q2 := (hE_0_2_2 (r_0 + 2) (by omega)).2 (by omega)
       have q3 := (hE_0_2_3 (r_0 + 2) (by omega)).1 (by omega)
       have q4 : x13 = r_0 + 2 := by omega
       simp only [q4] at *
       omega)
set_option maxHeartbeats 4000000 in
theorem vc_Mo_groupItem_at_k1_21_1 (x13 : Int) (kind_0 : Int) (from_0 : Int) (pos_0 : Int) (r_0 : Int) (f7 : ((kind_0 = 1) → (pos_0 ≤ (from_0 + 8))) ∧ ((kind_0 = 0) ∨ ((from_0 + 1) ≤ pos_0))) (kz_0_11 : 0 ≤ pos_0 ∧ pos_0 ≤ 2000) (kz_0_12 : 0 ≤ kind_0 ∧ kind_0 ≤ 4) (kz_0_15 : 0 ≤ from_0 ∧ from_0 ≤ 2000) : ((kind_0 = 1) → (pos_0 ≤ (from_0 + 8))) ∧ ((kind_0 = 0) ∨ ((from_0 + 1) ≤ pos_0)) := by
  first
    | omega
    | (have q1 := (hE_0_2_1 (r_0 + 2) (by omega)).2 (by omega)
       have q2 := (hE_0_2_2 (r_0 + 2) (by omega)).2 (by omega)
       omega)
    | (have q1 := (hE_0_2_1 (r_0 + 1) (by omega)).2 (by omega)
       have q2 := (hE_0_2_2 (r_0 + 1) (by omega)).2 (by omega)
       omega)
    | (have q1 := (hE_0_2_1 (r_0 + 2) (by omega)).2 (by omega)
       omega)
    | (have q1 := (hE_0_2_1 (r_0 + 1) (by omega)).2 (by omega)
       omega)
    | (have q1 := (hE_0_2_1 (r_0 + 2) (by omega)).2 (by omega)
       have q2 := (hE_0_2_2 (r_0 + 2) (by omega)).2 (by omega)
       have q3 := (hE_0_2_3 (r_0 + 2) (by omega)).1 (by omega)
       omega)
    | (have q1 := (hE_0_2_1 (r_0 + 2) (by omega)).2 (by omega)
       have q2 := (hE_0_2_2 (r_0 + 2) (by omega)).2 (by omega)
       have q3 := (hE_0_2_3 (r_0 + 2) (by omega)).2 (by omega)
       omega)
    | (have q1 := (hE_0_2_1 (r_0 + 2) (by omega)).2 (by omega)
       have q2 := (hE_0_2_2 (r_0 + 2) (by omega)).2 (by omega)
       have q3 := (hE_0_2_3 (r_0 + 2) (by omega)).1 (by omega)
       have q4 : x13 = r_0 + 2 := by omega
       simp only [q4] at *
       omega)
set_option maxHeartbeats 4000000 in
theorem vc_Mo_groupItem_at_k1_21_2 (x13 : Int) (pos_0 : Int) (r_0 : Int) (gx : Int) (kz_0_11 : 0 ≤ pos_0 ∧ pos_0 ≤ 2000) (ex2 : gx = pos_0) : 1 * gx + ((-1) * pos_0 + 0) ≤ 0 := by
  first
    | omega
    | (have q1 := (hE_0_2_1 (r_0 + 2) (by omega)).2 (by omega)
       have q2 := (hE_0_2_2 (r_0 + 2) (by omega)).2 (by omega)
       omega)
    | (have q1 := (hE_0_2_1 (r_0 + 1) (by omega)).2 (by omega)
       have q2 := (hE_0_2_2 (r_0 + 1) (by omega)).2 (by omega)
       omega)
    | (have q1 := (hE_0_2_1 (r_0 + 2) (by omega)).2 (by omega)
       omega)
    | (have q1 := (hE_0_2_1 (r_0 + 1) (by omega)).2 (by omega)
       omega)
    | (have q1 := (hE_0_2_1 (r_0 + 2) (by omega)).2 (by omega)
       have q2 := (hE_0_2_2 (r_0 + 2) (by omega)).2 (by omega)
       have q3 := (hE_0_2_3 (r_0 + 2) (by omega)).1 (by omega)
       omega)
    | (have q1 := (hE_0_2_1 (r_0 + 2) (by omega)).2 (by omega)
       have q2 := (hE_0_2_2 (r_0 + 2) (by omega)).2 (by omega)
       have q3 := (hE_0_2_3 (r_0 + 2) (by omega)).2 (by omega)
       omega)
    | (have q1 := (hE_0_2_1 (r_0 + 2) (by omega)).2 (by omega)
       have q2 := (hE_0_2_2 (r_0 + 2) (by omega)).2 (by omega)
       have q3 := (hE_0_2_3 (r_0 + 2) (by omega)).1 (by omega)
       have q4 : x13 = r_0 + 2 := by omega
       simp only [q4] at *
       omega)
set_option maxHeartbeats 4000000 in
theorem vc_Mo_groupItem_at_k1_21_3 (x7 : Int) (x13 : Int) (all_0 : Int → Int) (r_0 : Int) (k7 : 0 ≤ x7 ∧ x7 ≤ 7) (f10 : (x7 + 1) ≤ all_0 ((r_0 + 2))) : (x7 + 1) ≤ all_0 ((r_0 + 2)) := by
  first
    | omega
    | (have q1 := (hE_0_2_1 (r_0 + 2) (by omega)).2 (by omega)
       have q2 := (hE_0_2_2 (r_0 + 2) (by omega)).2 (by omega)
       omega)
    | (have q1 := (hE_0_2_1 (r_0 + 1) (by omega)).2 (by omega)
       have q2 := (hE_0_2_2 (r_0 + 1) (by omega)).2 (by omega)
       omega)
    | (have q1 := (hE_0_2_1 (r_0 + 2) (by omega)).2 (by omega)
       omega)
    | (have q1 := (hE_0_2_1 (r_0 + 1) (by omega)).2 (by omega)
       omega)
    | (have q1 := (hE_0_2_1 (r_0 + 2) (by omega)).2 (by omega)
       have q2 := (hE_0_2_2 (r_0 + 2) (by omega)).2 (by omega)
       have q3 := (hE_0_2_3 (r_0 + 2) (by omega)).1 (by omega)
       omega)
    | (have q1 := (hE_0_2_1 (r_0 + 2) (by omega)).2 (by omega)
       have q2 := (hE_0_2_2 (r_0 + 2) (by omega)).2 (by omega)
       have q3 := (hE_0_2_3 (r_0 + 2) (by omega)).2 (by omega)
       omega)
    | (have q1 := (hE_0_2_1 (r_0 + 2) (by omega)).2 (by omega)
       have q2 := (hE_0_2_2 (r_0 + 2) (by omega)).2 (by omega)
       have q3 := (hE_0_2_3 (r_0 + 2) (by omega)).1 (by omega)
       have q4 : x13 = r_0 + 2 := by omega
       simp only [q4] at *
       omega)
set_option maxHeartbeats 4000000 in
theorem vc_Mo_groupItem_at_k1_21_4 (all_0 : Int → Int) (r_0 : Int) (now_0 : Int → Int) (latest_0 : Int → Int) (f12 : RWS (r_0) (all_0) (now_0) (latest_0)) : RWS (r_0) (all_0) (now_0) (latest_0) := by
  first
    | assumption
set_option maxHeartbeats 4000000 in
theorem vc_Mo_groupItem_at_k1_21_5 (x2 : Int) (x7 : Int) (x10 : Int) (x11 : Int) (x12 : Int) (x14 : Int) (kind_0 : Int) (fault_0 : Int) (value_0 : Int) (from_0 : Int) (pos_0 : Int) (all_0 : Int → Int) (r_0 : Int) (tape_0 : Int → Int) (limit_0 : Int) (place_0 : Int) (faultPlace_0 : Int) (gx : Int) (k2 : 1 ≤ x2 ∧ x2 ≤ 1) (k7 : 0 ≤ x7 ∧ x7 ≤ 7) (k10 : 0 ≤ x10 ∧ x10 ≤ 0) (k11 : 125 ≤ x11 ∧ x11 ≤ 125) (k12 : 0 ≤ x12 ∧ x12 ≤ 0) (k14 : 2 ≤ x14 ∧ x14 ≤ 2) (f1 : x12 = 0) (f3 : SGQ (fault_0) (kind_0) (value_0) (x11) (x12)) (f4 : x10 = 0) (g5 : x10 = fault_0) (f13 : zOP0 (limit_0) (pos_0) (kind_0) (place_0) (value_0) (from_0) (fault_0) (faultPlace_0) (r_0) (tape_0) (all_0) (x7) (x2)) (kz_0_8 : 0 ≤ fault_0 ∧ fault_0 ≤ 5) (kz_0_9 : 0 ≤ faultPlace_0 ∧ faultPlace_0 ≤ 2000) (kz_0_10 : 0 ≤ limit_0 ∧ limit_0 ≤ 2000) (kz_0_11 : 0 ≤ pos_0 ∧ pos_0 ≤ 2000) (kz_0_12 : 0 ≤ kind_0 ∧ kind_0 ≤ 4) (kz_0_13 : 0 ≤ place_0 ∧ place_0 ≤ 2000) (kz_0_14 : (-49) ≤ value_0 ∧ value_0 ≤ 1048575) (kz_0_15 : 0 ≤ from_0 ∧ from_0 ≤ 2000) (ex2 : gx = pos_0) : zRSI (limit_0) (pos_0) (kind_0) (place_0) (value_0) (from_0) (fault_0) (r_0) (tape_0) (all_0) (x7) (x14) := by
  first | subst g5 | skip
  first | subst ex2 | skip
  exact gr_item ‹zOP0 _ _ _ _ _ _ _ _ _ _ _ _ _› (by omega) ‹SGQ _ _ _ _ _› (by omega) (by omega) (by omega) (by omega)
set_option maxHeartbeats 4000000 in
theorem vc_Mo_groupItem_at_k1_21_6 (x3 : Int) (x10 : Int) (x13 : Int) (fault_0 : Int) (pos_0 : Int) (r_0 : Int) (gx : Int) (k3 : 0 ≤ x3 ∧ x3 ≤ 2000) (k10 : 0 ≤ x10 ∧ x10 ≤ 0) (g5 : x10 = fault_0) (f8 : 1 * x3 + ((-1) * pos_0 + 0) ≤ 0) (f9 : (1 ≤ fault_0) ∨ ((x3 + 1) ≤ pos_0)) (kz_0_8 : 0 ≤ fault_0 ∧ fault_0 ≤ 5) (kz_0_11 : 0 ≤ pos_0 ∧ pos_0 ≤ 2000) (ex2 : gx = pos_0) : 1 * x3 + ((-1) * gx + 0) ≤ (-1) := by
  first
    | omega
    | (have q1 := (hE_0_2_1 (r_0 + 2) (by omega)).2 (by omega)
       have q2 := (hE_0_2_2 (r_0 + 2) (by omega)).2 (by omega)
       omega)
    | (have q1 := (hE_0_2_1 (r_0 + 1) (by omega)).2 (by omega)
       have q2 := (hE_0_2_2 (r_0 + 1) (by omega)).2 (by omega)
       omega)
    | (have q1 := (hE_0_2_1 (r_0 + 2) (by omega)).2 (by omega)
       omega)
    | (have q1 := (hE_0_2_1 (r_0 + 1) (by omega)).2 (by omega)
       omega)
    | (have q1 := (hE_0_2_1 (r_0 + 2) (by omega)).2 (by omega)
       have q2 := (hE_0_2_2 (r_0 + 2) (by omega)).2 (by omega)
       have q3 := (hE_0_2_3 (r_0 + 2) (by omega)).1 (by omega)
       omega)
    | (have q1 := (hE_0_2_1 (r_0 + 2) (by omega)).2 (by omega)
       have q2 := (hE_0_2_2 (r_0 + 2) (by omega)).2 (by omega)
       have q3 := (hE_0_2_3 (r_0 + 2) (by omega)).2 (by omega)
       omega)
    | (have q1 := (hE_0_2_1 (r_0 + 2) (by omega)).2 (by omega)
       have q2 := (hE_0_2_2 (r_0 + 2) (by omega)).2 (by omega)
       have q3 := (hE_0_2_3 (r_0 + 2) (by omega)).1 (by omega)
       have q4 : x13 = r_0 + 2 := by omega
       simp only [q4] at *
       omega)
set_option maxHeartbeats 4000000 in
theorem vc_Mo_groupItem_at_k1_21_7 (x9 : Int) (x10 : Int) (x13 : Int) (fault_0 : Int) (pos_0 : Int) (r_0 : Int) (gx : Int) (k9 : 0 ≤ x9 ∧ x9 ≤ 2005) (k10 : 0 ≤ x10 ∧ x10 ≤ 0) (g5 : x10 = fault_0) (f18 : 1 * x9 + (1 * pos_0 + (1 * fault_0 + 0)) ≤ 2005) (f19 : (-1) * x9 + ((-1) * pos_0 + ((-1) * fault_0 + 0)) ≤ (-2005)) (kz_0_8 : 0 ≤ fault_0 ∧ fault_0 ≤ 5) (kz_0_11 : 0 ≤ pos_0 ∧ pos_0 ≤ 2000) (ex2 : gx = pos_0) : (-1) * x9 + ((-1) * gx + 0) ≤ (-2005) := by
  first
    | omega
    | (have q1 := (hE_0_2_1 (r_0 + 2) (by omega)).2 (by omega)
       have q2 := (hE_0_2_2 (r_0 + 2) (by omega)).2 (by omega)
       omega)
    | (have q1 := (hE_0_2_1 (r_0 + 1) (by omega)).2 (by omega)
       have q2 := (hE_0_2_2 (r_0 + 1) (by omega)).2 (by omega)
       omega)
    | (have q1 := (hE_0_2_1 (r_0 + 2) (by omega)).2 (by omega)
       omega)
    | (have q1 := (hE_0_2_1 (r_0 + 1) (by omega)).2 (by omega)
       omega)
    | (have q1 := (hE_0_2_1 (r_0 + 2) (by omega)).2 (by omega)
       have q2 := (hE_0_2_2 (r_0 + 2) (by omega)).2 (by omega)
       have q3 := (hE_0_2_3 (r_0 + 2) (by omega)).1 (by omega)
       omega)
    | (have q1 := (hE_0_2_1 (r_0 + 2) (by omega)).2 (by omega)
       have q2 := (hE_0_2_2 (r_0 + 2) (by omega)).2 (by omega)
       have q3 := (hE_0_2_3 (r_0 + 2) (by omega)).2 (by omega)
       omega)
    | (have q1 := (hE_0_2_1 (r_0 + 2) (by omega)).2 (by omega)
       have q2 := (hE_0_2_2 (r_0 + 2) (by omega)).2 (by omega)
       have q3 := (hE_0_2_3 (r_0 + 2) (by omega)).1 (by omega)
       have q4 : x13 = r_0 + 2 := by omega
       simp only [q4] at *
       omega)
def o_Mo_groupItem_at_k1_21 : or_T := (191, 15, [(0, (2, 0, 0, [165])), (2, (0, 1, 1, [])), (3, (0, 0, 2000, [])), (7, (0, 0, 7, [])), (9, (0, 0, 2005, [])), (10, (0, 0, 0, [])), (11, (0, 125, 125, [])), (12, (0, 0, 0, [])), (14, (0, 2, 2, []))], [(8, [12], [0]), (20, [4, 11, 12], [60, 3, 0, 963, 8, 12, 14]), (8, [10], [0]), (9, [10, 4], [8]), (20, [4, 4], [30, 0, 1, 1, 15, -1, 1, 11]), (20, [4], [50, 3, 0, 12, 11, 15, 2, 21, 4, 7, 1, 3, 2, 0, 12, 0, 1, 0, 3, 2, 0, 11, 4, 3, 2, 0, 15, 0, 8, 3, 7, 1, 3, 2, 0, 12, 0, 0, 0, 7, 4, 3, 2, 0, 15, 0, 1, 2, 0, 11]), (20, [3, 4], [30, 0, 1, 0, 0, -1, 1, 11]), (20, [4, 3], [50, 2, 0, 8, 11, 3, 7, 0, 2, 0, 1, 2, 0, 8, 0, 6, 4, 2, 1, 1, 0, 1, 2, 0, 11]), (20, [7, 4], [50, 1, 1, 1005, 1002, 0, 6, 4, 2, 1, 0, 0, 1, 3, 1, 2, 4, 3, 2, 1, 5, 0, 2]), (20, [4], [60, 1, 3, 199, 5, 2, 3, 4]), (20, [4, 7, 6], [60, 9, 2, 1023, 10, 11, 12, 13, 14, 15, 8, 9, 5, 1, 2]), (24, [0, 4], []), (24, [2, 6], []), (20, [9, 4, 4], [30, 2005, 1, 0, 0, 1, 1, 11, 1, 1, 8]), (20, [9, 4, 4], [30, -2005, -1, 0, 0, -1, 1, 11, -1, 1, 8])], [], [(0, 0, 2000, [])], [(20, [4, 4], [30, 0, 1, 1, 15, -1, 1, 11]), (20, [4], [50, 3, 0, 12, 11, 15, 2, 21, 4, 7, 1, 3, 2, 0, 12, 0, 1, 0, 3, 2, 0, 11, 4, 3, 2, 0, 15, 0, 8, 3, 7, 1, 3, 2, 0, 12, 0, 0, 0, 7, 4, 3, 2, 0, 15, 0, 1, 2, 0, 11]), (20, [15, 4], [30, 0, 1, 0, 0, -1, 1, 11]), (20, [7, 4], [50, 1, 1, 1005, 1002, 0, 6, 4, 2, 1, 0, 0, 1, 3, 1, 2, 4, 3, 2, 1, 5, 0, 2]), (20, [4], [60, 1, 3, 199, 5, 2, 3, 4]), (20, [4, 7, 14], [60, 8, 2, 990, 10, 11, 12, 13, 14, 15, 8, 5, 1, 2]), (23, [3, 15], [-1, 1, -1]), (23, [9, 15], [-2005, -1, -1])], [], [])
theorem oo_Mo_groupItem_at_k1_21 {kA : Nat → ClassId} : or_ok PRD kA GG o_Mo_groupItem_at_k1_21 := by
  refine or_mk fun A ta ws vs hD hth hl => ?_
  intro t0 r0 t2 k2 t3 k3 t7 k7 t9 k9 t10 k10 t11 k11 t12 k12 t14 k14 f1 f3 f4 f5 f6 f7 f8 f9 f10 f12 f13 f15 f17 f18 f19
  replace f1 := shm_192 f1
  replace f3 := shm_731 f3
  replace f4 := shm_192 f4
  replace f5 := shm_293 f5
  replace f6 := shm_1437 f6
  replace f7 := shm_1438 f7
  replace f8 := shm_1431 f8
  replace f9 := shm_1726 f9
  replace f10 := shm_1009 f10
  replace f12 := shm_980 f12
  replace f13 := shm_1730 f13
  replace f15 := shm_5 f15
  replace f17 := shm_5 f17
  replace f18 := shm_2178 f18
  replace f19 := shm_2179 f19
  have q4 : n_v vs 4 = n_v vs 0 := f15.symm
  have q6 : n_v vs 6 = n_v vs 2 := f17.symm
  simp only [q6, q4] at f3 f5 f6 f7 f8 f9 f10 f12 f13 f18 f19
  have g5 : v_iv (n_v vs 10) = w_fi ws (n_v vs 0) 8 := congrArg v_iv f5
  have kz_0_8 := fdq_34 hD hth r0
  have kz_0_9 := fdq_44 hD hth r0
  have kz_0_10 := fdq_43 hD hth r0
  have kz_0_11 := fdq_237 hD hth r0
  have kz_0_12 := fdq_187 hD hth r0
  have kz_0_13 := fdq_238 hD hth r0
  have kz_0_14 := fdq_188 hD hth r0
  have kz_0_15 := fdq_239 hD hth r0
  obtain ⟨x, ex, hx⟩ := iv_ex (ta := ta) (lo := 0) (hi := 2000) (z := w_fi ws (n_v vs 0) 11) (by omega) (by omega) (by omega) (by omega)
  have ex2 : v_iv (Value.int x) = w_fi ws (n_v vs 0) 11 := ex
  have ex3 : 0 ≤ v_iv (Value.int x) ∧ v_iv (Value.int x) ≤ 2000 := tv_rng hx
  have e_3 : n_v (vs ++ [Value.int x]) 3 = n_v vs 3 := n_v_old (by rw [hl]; decide)
  have e_4 : n_v (vs ++ [Value.int x]) 4 = n_v vs 4 := n_v_old (by rw [hl]; decide)
  have e_7 : n_v (vs ++ [Value.int x]) 7 = n_v vs 7 := n_v_old (by rw [hl]; decide)
  have e_9 : n_v (vs ++ [Value.int x]) 9 = n_v vs 9 := n_v_old (by rw [hl]; decide)
  have e_14 : n_v (vs ++ [Value.int x]) 14 = n_v vs 14 := n_v_old (by rw [hl]; decide)
  have e_15 : n_v (vs ++ [Value.int x]) 15 = Value.int x := n_v_new hl
  have nf0 : fc_1 PRD (20, [4, 4], [30, 0, 1, 1, 15, -1, 1, 11]) ws (vs ++ [Value.int x]) := by
    refine ⟨nf_inA hl rfl, sgq_1437 ?_⟩
    · show 1 * w_fi ws (n_v (vs ++ [Value.int x]) 4) 15 + ((-1) * w_fi ws (n_v (vs ++ [Value.int x]) 4) 11 + 0) ≤ 0
      simp only [e_4, q4]
      exact vc_Mo_groupItem_at_k1_21_0 (v_iv (n_v vs 13)) (w_fi ws (n_v vs 0) 15) (w_fi ws (n_v vs 0) 11) (w_fi ws (n_v vs 0) 5) f6 kz_0_11 kz_0_15
  have nf1 : fc_1 PRD (20, [4], [50, 3, 0, 12, 11, 15, 2, 21, 4, 7, 1, 3, 2, 0, 12, 0, 1, 0, 3, 2, 0, 11, 4, 3, 2, 0, 15, 0, 8, 3, 7, 1, 3, 2, 0, 12, 0, 0, 0, 7, 4, 3, 2, 0, 15, 0, 1, 2, 0, 11]) ws (vs ++ [Value.int x]) := by
    refine ⟨nf_inA hl rfl, sgq_1438 ?_⟩
    · show ((w_fi ws (n_v (vs ++ [Value.int x]) 4) 12 = 1) → (w_fi ws (n_v (vs ++ [Value.int x]) 4) 11 ≤ (w_fi ws (n_v (vs ++ [Value.int x]) 4) 15 + 8))) ∧ ((w_fi ws (n_v (vs ++ [Value.int x]) 4) 12 = 0) ∨ ((w_fi ws (n_v (vs ++ [Value.int x]) 4) 15 + 1) ≤ w_fi ws (n_v (vs ++ [Value.int x]) 4) 11))
      simp only [e_4, q4]
      exact vc_Mo_groupItem_at_k1_21_1 (v_iv (n_v vs 13)) (w_fi ws (n_v vs 0) 12) (w_fi ws (n_v vs 0) 15) (w_fi ws (n_v vs 0) 11) (w_fi ws (n_v vs 0) 5) f7 kz_0_11 kz_0_12 kz_0_15
  have nf2 : fc_1 PRD (20, [15, 4], [30, 0, 1, 0, 0, -1, 1, 11]) ws (vs ++ [Value.int x]) := by
    refine ⟨nf_inA hl rfl, sgq_1431 ?_⟩
    · show 1 * v_iv (n_v (vs ++ [Value.int x]) 15) + ((-1) * w_fi ws (n_v (vs ++ [Value.int x]) 4) 11 + 0) ≤ 0
      simp only [e_4, e_15, q4]
      exact vc_Mo_groupItem_at_k1_21_2 (v_iv (n_v vs 13)) (w_fi ws (n_v vs 0) 11) (w_fi ws (n_v vs 0) 5) (v_iv (Value.int x)) kz_0_11 ex2
  have nf3 : fc_1 PRD (20, [7, 4], [50, 1, 1, 1005, 1002, 0, 6, 4, 2, 1, 0, 0, 1, 3, 1, 2, 4, 3, 2, 1, 5, 0, 2]) ws (vs ++ [Value.int x]) := by
    refine ⟨nf_inA hl rfl, sgq_1009 ?_⟩
    · show (v_iv (n_v (vs ++ [Value.int x]) 7) + 1) ≤ w_ei ws (w_ar ws (n_v (vs ++ [Value.int x]) 4) 2) ((w_fi ws (n_v (vs ++ [Value.int x]) 4) 5 + 2))
      simp only [e_4, e_7, q4]
      exact vc_Mo_groupItem_at_k1_21_3 (v_iv (n_v vs 7)) (v_iv (n_v vs 13)) (w_ei ws (w_ar ws (n_v vs 0) 2)) (w_fi ws (n_v vs 0) 5) k7 f10
  have nf4 : fc_1 PRD (20, [4], [60, 1, 3, 199, 5, 2, 3, 4]) ws (vs ++ [Value.int x]) := by
    refine ⟨nf_inA hl rfl, sgq_980 ?_⟩
    · show RWS (w_fi ws (n_v (vs ++ [Value.int x]) 4) 5) (w_ei ws (w_ar ws (n_v (vs ++ [Value.int x]) 4) 2)) (w_ei ws (w_ar ws (n_v (vs ++ [Value.int x]) 4) 3)) (w_ei ws (w_ar ws (n_v (vs ++ [Value.int x]) 4) 4))
      simp only [e_4, q4]
      exact vc_Mo_groupItem_at_k1_21_4 (w_ei ws (w_ar ws (n_v vs 0) 2)) (w_fi ws (n_v vs 0) 5) (w_ei ws (w_ar ws (n_v vs 0) 3)) (w_ei ws (w_ar ws (n_v vs 0) 4)) f12
  have nf5 : fc_1 PRD (20, [4, 7, 14], [60, 8, 2, 990, 10, 11, 12, 13, 14, 15, 8, 5, 1, 2]) ws (vs ++ [Value.int x]) := by
    refine ⟨nf_inA hl rfl, sgq_2180 ?_⟩
    · show zRSI (w_fi ws (n_v (vs ++ [Value.int x]) 4) 10) (w_fi ws (n_v (vs ++ [Value.int x]) 4) 11) (w_fi ws (n_v (vs ++ [Value.int x]) 4) 12) (w_fi ws (n_v (vs ++ [Value.int x]) 4) 13) (w_fi ws (n_v (vs ++ [Value.int x]) 4) 14) (w_fi ws (n_v (vs ++ [Value.int x]) 4) 15) (w_fi ws (n_v (vs ++ [Value.int x]) 4) 8) (w_fi ws (n_v (vs ++ [Value.int x]) 4) 5) (w_ei ws (w_ar ws (n_v (vs ++ [Value.int x]) 4) 1)) (w_ei ws (w_ar ws (n_v (vs ++ [Value.int x]) 4) 2)) (v_iv (n_v (vs ++ [Value.int x]) 7)) (v_iv (n_v (vs ++ [Value.int x]) 14))
      simp only [e_4, e_7, e_14, q4]
      exact vc_Mo_groupItem_at_k1_21_5 (v_iv (n_v vs 2)) (v_iv (n_v vs 7)) (v_iv (n_v vs 10)) (v_iv (n_v vs 11)) (v_iv (n_v vs 12)) (v_iv (n_v vs 14)) (w_fi ws (n_v vs 0) 12) (w_fi ws (n_v vs 0) 8) (w_fi ws (n_v vs 0) 14) (w_fi ws (n_v vs 0) 15) (w_fi ws (n_v vs 0) 11) (w_ei ws (w_ar ws (n_v vs 0) 2)) (w_fi ws (n_v vs 0) 5) (w_ei ws (w_ar ws (n_v vs 0) 1)) (w_fi ws (n_v vs 0) 10) (w_fi ws (n_v vs 0) 13) (w_fi ws (n_v vs 0) 9) (v_iv (Value.int x)) k2 k7 k10 k11 k12 k14 f1 f3 f4 g5 f13 kz_0_8 kz_0_9 kz_0_10 kz_0_11 kz_0_12 kz_0_13 kz_0_14 kz_0_15 ex2
  have nf6 : fc_1 PRD (23, [3, 15], [-1, 1, -1]) ws (vs ++ [Value.int x]) := by
    refine ⟨nf_inA hl rfl, sgq_193 ?_⟩
    · show 1 * v_iv (n_v (vs ++ [Value.int x]) 3) + ((-1) * v_iv (n_v (vs ++ [Value.int x]) 15) + 0) ≤ (-1)
      simp only [e_3, e_15]
      exact vc_Mo_groupItem_at_k1_21_6 (v_iv (n_v vs 3)) (v_iv (n_v vs 10)) (v_iv (n_v vs 13)) (w_fi ws (n_v vs 0) 8) (w_fi ws (n_v vs 0) 11) (w_fi ws (n_v vs 0) 5) (v_iv (Value.int x)) k3 k10 g5 f8 f9 kz_0_8 kz_0_11 ex2
  have nf7 : fc_1 PRD (23, [9, 15], [-2005, -1, -1]) ws (vs ++ [Value.int x]) := by
    refine ⟨nf_inA hl rfl, sgq_2181 ?_⟩
    · show (-1) * v_iv (n_v (vs ++ [Value.int x]) 9) + ((-1) * v_iv (n_v (vs ++ [Value.int x]) 15) + 0) ≤ (-2005)
      simp only [e_9, e_15]
      exact vc_Mo_groupItem_at_k1_21_7 (v_iv (n_v vs 9)) (v_iv (n_v vs 10)) (v_iv (n_v vs 13)) (w_fi ws (n_v vs 0) 8) (w_fi ws (n_v vs 0) 11) (w_fi ws (n_v vs 0) 5) (v_iv (Value.int x)) k9 k10 g5 f18 f19 kz_0_8 kz_0_11 ex2
  exact ⟨(fun _ h => (by cases h)), [Value.int x], ag_one hx, List.forall_mem_cons.mpr ⟨⟨show (20 : Nat) < 100 from by decide, nf0⟩, List.forall_mem_cons.mpr ⟨⟨show (20 : Nat) < 100 from by decide, nf1⟩, List.forall_mem_cons.mpr ⟨⟨show (20 : Nat) < 100 from by decide, nf2⟩, List.forall_mem_cons.mpr ⟨⟨show (20 : Nat) < 100 from by decide, nf3⟩, List.forall_mem_cons.mpr ⟨⟨show (20 : Nat) < 100 from by decide, nf4⟩, List.forall_mem_cons.mpr ⟨⟨show (20 : Nat) < 100 from by decide, nf5⟩, List.forall_mem_cons.mpr ⟨⟨show (23 : Nat) < 100 from by decide, nf6⟩, List.forall_mem_cons.mpr ⟨⟨show (23 : Nat) < 100 from by decide, nf7⟩, (fun _ h => (by cases h))⟩⟩⟩⟩⟩⟩⟩⟩, (fun _ h => (by cases h))⟩
set_option maxHeartbeats 4000000 in
theorem vc_Mo_groupItem_at_k1_22_0 (x13 : Int) (from_0 : Int) (pos_0 : Int) (r_0 : Int) (f7 : 1 * from_0 + ((-1) * pos_0 + 0) ≤ 0) (kz_0_11 : 0 ≤ pos_0 ∧ pos_0 ≤ 2000) (kz_0_15 : 0 ≤ from_0 ∧ from_0 ≤ 2000) : 1 * from_0 + ((-1) * pos_0 + 0) ≤ 0 := by
  first
    | omega
    | (have q1 := (hE_0_2_1 (r_0 + 2) (by omega)).2 (by omega)
       have q2 := (hE_0_2_2 (r_0 + 2) (by omega)).2 (by omega)
       omega)
    | (have q1 := (hE_0_2_1 (r_0 + 1) (by omega)).2 (by omega)
       have q2 := (hE_0_2_2 (r_0 + 1) (by omega)).2 (by omega)
       omega)
    | (have q1 := (hE_0_2_1 (r_0 + 2) (by omega)).2 (by omega)
       omega)
    | (have q1 := (hE_0_2_1 (r_0 + 1) (by omega)).2 (by omega)
       omega)
    | (have q1 := (hE_0_2_1 (r_0 + 2) (by omega)).2 (by omega)
       have q2 := (hE_0_2_2 (r_0 + 2) (by omega)).2 (by omega)
       have q3 := (hE_0_2_3 (r_0 + 2) (by omega)).1 (by omega)
       omega)
    | (have q1 := (hE_0_2_1 (r_0 + 2) (by omega)).2 (by omega)
       have q2 := (hE_0_2_2 (r_0 + 2) (by omega)).2 (by omega)
       have q3 := (hE_0_2_3 (r_0 + 2) (by omega)).2 (by omega)
       omega)
    | (have q1 := (hE_0_2_1 (r_0 + 2) (by omega)).2 (by omega)
       have q2 := (hE_0_2_2 (r_0 + 2) (by omega)).2 (by omega)
       have q3 := (hE_0_2_3 (r_0 + 2) (by omega)).1 (by omega)
       have q4 : x13 = r_0 + 2 := by omega
       simp only [q4] at *
       omega)
set_option maxHeartbeats 4000000 in
theorem vc_Mo_groupItem_at_k1_22_1 (x13 : Int) (from_0 : Int) (pos_0 : Int) (kind_0 : Int) (r_0 : Int) (f8 : ((kind_0 = 1) → (pos_0 ≤ (from_0 + 8))) ∧ ((kind_0 = 0) ∨ ((from_0 + 1) ≤ pos_0))) (kz_0_11 : 0 ≤ pos_0 ∧ pos_0 ≤ 2000) (kz_0_12 : 0 ≤ kind_0 ∧ kind_0 ≤ 4) (kz_0_15 : 0 ≤ from_0 ∧ from_0 ≤ 2000) : ((kind_0 = 1) → (pos_0 ≤ (from_0 + 8))) ∧ ((kind_0 = 0) ∨ ((from_0 + 1) ≤ pos_0)) := by
  first
    | omega
    | (have q1 := (hE_0_2_1 (r_0 + 2) (by omega)).2 (by omega)
       have q2 := (hE_0_2_2 (r_0 + 2) (by omega)).2 (by omega)
       omega)
    | (have q1 := (hE_0_2_1 (r_0 + 1) (by omega)).2 (by omega)
       have q2 := (hE_0_2_2 (r_0 + 1) (by omega)).2 (by omega)
       omega)
    | (have q1 := (hE_0_2_1 (r_0 + 2) (by omega)).2 (by omega)
       omega)
    | (have q1 := (hE_0_2_1 (r_0 + 1) (by omega)).2 (by omega)
       omega)
    | (have q1 := (hE_0_2_1 (r_0 + 2) (by omega)).2 (by omega)
       have q2 := (hE_0_2_2 (r_0 + 2) (by omega)).2 (by omega)
       have q3 := (hE_0_2_3 (r_0 + 2) (by omega)).1 (by omega)
       omega)
    | (have q1 := (hE_0_2_1 (r_0 + 2) (by omega)).2 (by omega)
       have q2 := (hE_0_2_2 (r_0 + 2) (by omega)).2 (by omega)
       have q3 := (hE_0_2_3 (r_0 + 2) (by omega)).2 (by omega)
       omega)
    | (have q1 := (hE_0_2_1 (r_0 + 2) (by omega)).2 (by omega)
       have q2 := (hE_0_2_2 (r_0 + 2) (by omega)).2 (by omega)
       have q3 := (hE_0_2_3 (r_0 + 2) (by omega)).1 (by omega)
       have q4 : x13 = r_0 + 2 := by omega
       simp only [q4] at *
       omega)
set_option maxHeartbeats 4000000 in
theorem vc_Mo_groupItem_at_k1_22_2 (x3 : Int) (x13 : Int) (x15 : Int) (pos_0 : Int) (r_0 : Int) (k3 : 0 ≤ x3 ∧ x3 ≤ 2000) (k15 : 0 ≤ x15 ∧ x15 ≤ 2000) (f0 : 1 * x3 + ((-1) * x15 + 0) ≤ (-1)) (f9 : 1 * x15 + ((-1) * pos_0 + 0) ≤ 0) (kz_0_11 : 0 ≤ pos_0 ∧ pos_0 ≤ 2000) : 1 * x3 + ((-1) * pos_0 + 0) ≤ 0 := by
  first
    | omega
    | (have q1 := (hE_0_2_1 (r_0 + 2) (by omega)).2 (by omega)
       have q2 := (hE_0_2_2 (r_0 + 2) (by omega)).2 (by omega)
       omega)
    | (have q1 := (hE_0_2_1 (r_0 + 1) (by omega)).2 (by omega)
       have q2 := (hE_0_2_2 (r_0 + 1) (by omega)).2 (by omega)
       omega)
    | (have q1 := (hE_0_2_1 (r_0 + 2) (by omega)).2 (by omega)
       omega)
    | (have q1 := (hE_0_2_1 (r_0 + 1) (by omega)).2 (by omega)
       omega)
    | (have q1 := (hE_0_2_1 (r_0 + 2) (by omega)).2 (by omega)
       have q2 := (hE_0_2_2 (r_0 + 2) (by omega)).2 (by omega)
       have q3 := (hE_0_2_3 (r_0 + 2) (by omega)).1 (by omega)
       omega)
    | (have q1 := (hE_0_2_1 (r_0 + 2) (by omega)).2 (by omega)
       have q2 := (hE_0_2_2 (r_0 + 2) (by omega)).2 (by omega)
       have q3 := (hE_0_2_3 (r_0 + 2) (by omega)).2 (by omega)
       omega)
    | (have q1 := (hE_0_2_1 (r_0 + 2) (by omega)).2 (by omega)
       have q2 := (hE_0_2_2 (r_0 + 2) (by omega)).2 (by omega)
       have q3 := (hE_0_2_3 (r_0 + 2) (by omega)).1 (by omega)
       have q4 : x13 = r_0 + 2 := by omega
       simp only [q4] at *
       omega)
set_option maxHeartbeats 4000000 in
theorem vc_Mo_groupItem_at_k1_22_3 (x3 : Int) (x13 : Int) (x15 : Int) (pos_0 : Int) (fault_0 : Int) (r_0 : Int) (k3 : 0 ≤ x3 ∧ x3 ≤ 2000) (k15 : 0 ≤ x15 ∧ x15 ≤ 2000) (f0 : 1 * x3 + ((-1) * x15 + 0) ≤ (-1)) (f9 : 1 * x15 + ((-1) * pos_0 + 0) ≤ 0) (kz_0_8 : 0 ≤ fault_0 ∧ fault_0 ≤ 5) (kz_0_11 : 0 ≤ pos_0 ∧ pos_0 ≤ 2000) : (1 ≤ fault_0) ∨ ((x3 + 1) ≤ pos_0) := by
  first
    | omega
    | (have q1 := (hE_0_2_1 (r_0 + 2) (by omega)).2 (by omega)
       have q2 := (hE_0_2_2 (r_0 + 2) (by omega)).2 (by omega)
       omega)
    | (have q1 := (hE_0_2_1 (r_0 + 1) (by omega)).2 (by omega)
       have q2 := (hE_0_2_2 (r_0 + 1) (by omega)).2 (by omega)
       omega)
    | (have q1 := (hE_0_2_1 (r_0 + 2) (by omega)).2 (by omega)
       omega)
    | (have q1 := (hE_0_2_1 (r_0 + 1) (by omega)).2 (by omega)
       omega)
    | (have q1 := (hE_0_2_1 (r_0 + 2) (by omega)).2 (by omega)
       have q2 := (hE_0_2_2 (r_0 + 2) (by omega)).2 (by omega)
       have q3 := (hE_0_2_3 (r_0 + 2) (by omega)).1 (by omega)
       omega)
    | (have q1 := (hE_0_2_1 (r_0 + 2) (by omega)).2 (by omega)
       have q2 := (hE_0_2_2 (r_0 + 2) (by omega)).2 (by omega)
       have q3 := (hE_0_2_3 (r_0 + 2) (by omega)).2 (by omega)
       omega)
    | (have q1 := (hE_0_2_1 (r_0 + 2) (by omega)).2 (by omega)
       have q2 := (hE_0_2_2 (r_0 + 2) (by omega)).2 (by omega)
       have q3 := (hE_0_2_3 (r_0 + 2) (by omega)).1 (by omega)
       have q4 : x13 = r_0 + 2 := by omega
       simp only [q4] at *
       omega)
set_option maxHeartbeats 4000000 in
theorem vc_Mo_groupItem_at_k1_22_4 (x7 : Int) (x13 : Int) (all_0 : Int → Int) (r_0 : Int) (k7 : 0 ≤ x7 ∧ x7 ≤ 7) (f11 : (x7 + 1) ≤ all_0 ((r_0 + 2))) : (x7 + 1) ≤ all_0 ((r_0 + 2)) := by
  first
    | omega
    | (have q1 := (hE_0_2_1 (r_0 + 2) (by omega)).2 (by omega)
       have q2 := (hE_0_2_2 (r_0 + 2) (by omega)).2 (by omega)
       omega)
    | (have q1 := (hE_0_2_1 (r_0 + 1) (by omega)).2 (by omega)
       have q2 := (hE_0_2_2 (r_0 + 1) (by omega)).2 (by omega)
       omega)
    | (have q1 := (hE_0_2_1 (r_0 + 2) (by omega)).2 (by omega)
       omega)
    | (have q1 := (hE_0_2_1 (r_0 + 1) (by omega)).2 (by omega)
       omega)
    | (have q1 := (hE_0_2_1 (r_0 + 2) (by omega)).2 (by omega)
       have q2 := (hE_0_2_2 (r_0 + 2) (by omega)).2 (by omega)
       have q3 := (hE_0_2_3 (r_0 + 2) (by omega)).1 (by omega)
       omega)
    | (have q1 := (hE_0_2_1 (r_0 + 2) (by omega)).2 (by omega)
       have q2 := (hE_0_2_2 (r_0 + 2) (by omega)).2 (by omega)
       have q3 := (hE_0_2_3 (r_0 + 2) (by omega)).2 (by omega)
       omega)
    | (have q1 := (hE_0_2_1 (r_0 + 2) (by omega)).2 (by omega)
       have q2 := (hE_0_2_2 (r_0 + 2) (by omega)).2 (by omega)
       have q3 := (hE_0_2_3 (r_0 + 2) (by omega)).1 (by omega)
       have q4 : x13 = r_0 + 2 := by omega
       simp only [q4] at *
       omega)
set_option maxHeartbeats 4000000 in
theorem vc_Mo_groupItem_at_k1_22_5 (x1 : Int) (x7 : Int) (x13 : Int) (r_0 : Int) (k1 : 0 ≤ x1 ∧ x1 ≤ 7) (k7 : 0 ≤ x7 ∧ x7 ≤ 7) (f18 : 1 * x1 + ((-1) * x7 + 0) ≤ (-1)) : 1 * x1 + ((-1) * x7 + 0) ≤ (-1) := by
  first
    | omega
    | (have q1 := (hE_0_2_1 (r_0 + 2) (by omega)).2 (by omega)
       have q2 := (hE_0_2_2 (r_0 + 2) (by omega)).2 (by omega)
       omega)
    | (have q1 := (hE_0_2_1 (r_0 + 1) (by omega)).2 (by omega)
       have q2 := (hE_0_2_2 (r_0 + 1) (by omega)).2 (by omega)
       omega)
    | (have q1 := (hE_0_2_1 (r_0 + 2) (by omega)).2 (by omega)
       omega)
    | (have q1 := (hE_0_2_1 (r_0 + 1) (by omega)).2 (by omega)
       omega)
    | (have q1 := (hE_0_2_1 (r_0 + 2) (by omega)).2 (by omega)
       have q2 := (hE_0_2_2 (r_0 + 2) (by omega)).2 (by omega)
       have q3 := (hE_0_2_3 (r_0 + 2) (by omega)).1 (by omega)
       omega)
    | (have q1 := (hE_0_2_1 (r_0 + 2) (by omega)).2 (by omega)
       have q2 := (hE_0_2_2 (r_0 + 2) (by omega)).2 (by omega)
       have q3 := (hE_0_2_3 (r_0 + 2) (by omega)).2 (by omega)
       omega)
    | (have q1 := (hE_0_2_1 (r_0 + 2) (by omega)).2 (by omega)
       have q2 := (hE_0_2_2 (r_0 + 2) (by omega)).2 (by omega)
       have q3 := (hE_0_2_3 (r_0 + 2) (by omega)).1 (by omega)
       have q4 : x13 = r_0 + 2 := by omega
       simp only [q4] at *
       omega)
set_option maxHeartbeats 4000000 in
theorem vc_Mo_groupItem_at_k1_22_6 (all_0 : Int → Int) (r_0 : Int) (now_0 : Int → Int) (latest_0 : Int → Int) (f12 : RWS (r_0) (all_0) (now_0) (latest_0)) : RWS (r_0) (all_0) (now_0) (latest_0) := by
  first
    | assumption
set_option maxHeartbeats 4000000 in
theorem vc_Mo_groupItem_at_k1_22_7 (x9 : Int) (x13 : Int) (x15 : Int) (pos_0 : Int) (fault_0 : Int) (r_0 : Int) (gx : Int) (k9 : 0 ≤ x9 ∧ x9 ≤ 2005) (k15 : 0 ≤ x15 ∧ x15 ≤ 2000) (f1 : (-1) * x9 + ((-1) * x15 + 0) ≤ (-2005)) (f9 : 1 * x15 + ((-1) * pos_0 + 0) ≤ 0) (f10 : (1 ≤ fault_0) ∨ ((x15 + 1) ≤ pos_0)) (kz_0_8 : 0 ≤ fault_0 ∧ fault_0 ≤ 5) (kz_0_11 : 0 ≤ pos_0 ∧ pos_0 ≤ 2000) (ex2 : gx = 0 + (1 * x9 + 0)) : (-1) * gx + ((-1) * pos_0 + ((-1) * fault_0 + 0)) ≤ (-2006) := by
  first
    | omega
    | (have q1 := (hE_0_2_1 (r_0 + 2) (by omega)).2 (by omega)
       have q2 := (hE_0_2_2 (r_0 + 2) (by omega)).2 (by omega)
       omega)
    | (have q1 := (hE_0_2_1 (r_0 + 1) (by omega)).2 (by omega)
       have q2 := (hE_0_2_2 (r_0 + 1) (by omega)).2 (by omega)
       omega)
    | (have q1 := (hE_0_2_1 (r_0 + 2) (by omega)).2 (by omega)
       omega)
    | (have q1 := (hE_0_2_1 (r_0 + 1) (by omega)).2 (by omega)
       omega)
    | (have q1 := (hE_0_2_1 (r_0 + 2) (by omega)).2 (by omega)
       have q2 := (hE_0_2_2 (r_0 + 2) (by omega)).2 (by omega)
       have q3 := (hE_0_2_3 (r_0 + 2) (by omega)).1 (by omega)
       omega)
    | (have q1 := (hE_0_2_1 (r_0 + 2) (by omega)).2 (by omega)
       have q2 := (hE_0_2_2 (r_0 + 2) (by omega)).2 (by omega)
       have q3 := (hE_0_2_3 (r_0 + 2) (by omega)).2 (by omega)
       omega)
    | (have q1 := (hE_0_2_1 (r_0 + 2) (by omega)).2 (by omega)
       have q2 := (hE_0_2_2 (r_0 + 2) (by omega)).2 (by omega)
       have q3 := (hE_0_2_3 (r_0 + 2) (by omega)).1 (by omega)
       have q4 : x13 = r_0 + 2 := by omega
       simp only [q4] at *
       omega)
set_option maxHeartbeats 4000000 in
theorem vc_Mo_groupItem_at_k1_22_8 (x2 : Int) (x7 : Int) (x14 : Int) (tape_0 : Int → Int) (limit_0 : Int) (from_0 : Int) (pos_0 : Int) (kind_0 : Int) (fault_0 : Int) (all_0 : Int → Int) (r_0 : Int) (place_0 : Int) (value_0 : Int) (faultPlace_0 : Int) (k2 : 1 ≤ x2 ∧ x2 ≤ 1) (k7 : 0 ≤ x7 ∧ x7 ≤ 7) (k14 : 2 ≤ x14 ∧ x14 ≤ 2) (f13 : zOS0 (limit_0) (pos_0) (kind_0) (place_0) (value_0) (from_0) (fault_0) (faultPlace_0) (r_0) (tape_0) (all_0) (x7) (x14)) (kz_0_8 : 0 ≤ fault_0 ∧ fault_0 ≤ 5) (kz_0_9 : 0 ≤ faultPlace_0 ∧ faultPlace_0 ≤ 2000) (kz_0_10 : 0 ≤ limit_0 ∧ limit_0 ≤ 2000) (kz_0_11 : 0 ≤ pos_0 ∧ pos_0 ≤ 2000) (kz_0_12 : 0 ≤ kind_0 ∧ kind_0 ≤ 4) (kz_0_13 : 0 ≤ place_0 ∧ place_0 ≤ 2000) (kz_0_14 : (-49) ≤ value_0 ∧ value_0 ≤ 1048575) (kz_0_15 : 0 ≤ from_0 ∧ from_0 ≤ 2000) : zOP0 (limit_0) (pos_0) (kind_0) (place_0) (value_0) (from_0) (fault_0) (faultPlace_0) (r_0) (tape_0) (all_0) (x7) (x2) := by
  first
    | assumption
    | exact op0_of ‹zOS0 _ _ _ _ _ _ _ _ _ _ _ _ _› (by omega)
set_option maxHeartbeats 4000000 in
theorem vc_Mo_groupItem_at_k1_22_9 (x1 : Int) (x7 : Int) (tape_0 : Int → Int) (limit_0 : Int) (k1 : 0 ≤ x1 ∧ x1 ≤ 7) (k7 : 0 ≤ x7 ∧ x7 ≤ 7) (f3 : HST (limit_0) (tape_0) (x7) (x1)) (kz_0_10 : 0 ≤ limit_0 ∧ limit_0 ≤ 2000) : HST (limit_0) (tape_0) (x7) (x1) := by
  assumption
def o_Mo_groupItem_at_k1_22 : or_T := (194, 16, [(0, (2, 0, 0, [165])), (1, (0, 0, 7, [])), (2, (0, 1, 1, [])), (3, (0, 0, 2000, [])), (4, (2, 0, 0, [165])), (5, (0, 0, 7, [])), (6, (0, 1, 1, [])), (7, (0, 0, 7, [])), (9, (0, 0, 2005, [])), (13, (0, 1, 1, [])), (14, (0, 2, 2, [])), (15, (0, 0, 2000, []))], [(23, [3, 15], [-1, 1, -1]), (23, [9, 15], [-2005, -1, -1]), (23, [5, 7], [-1, 1, -1]), (20, [4, 7, 5], [60, 1, 1, 1028, 10, 1]), (24, [0, 4], []), (24, [1, 5], []), (24, [2, 6], []), (20, [4, 4], [30, 0, 1, 1, 15, -1, 1, 11]), (20, [4], [50, 3, 0, 12, 11, 15, 2, 21, 4, 7, 1, 3, 2, 0, 12, 0, 1, 0, 3, 2, 0, 11, 4, 3, 2, 0, 15, 0, 8, 3, 7, 1, 3, 2, 0, 12, 0, 0, 0, 7, 4, 3, 2, 0, 15, 0, 1, 2, 0, 11]), (20, [15, 4], [30, 0, 1, 0, 0, -1, 1, 11]), (20, [4, 15], [50, 2, 0, 8, 11, 3, 7, 0, 2, 0, 1, 2, 0, 8, 0, 6, 4, 2, 1, 1, 0, 1, 2, 0, 11]), (20, [7, 4], [50, 1, 1, 1005, 1002, 0, 6, 4, 2, 1, 0, 0, 1, 3, 1, 2, 4, 3, 2, 1, 5, 0, 2]), (20, [4], [60, 1, 3, 199, 5, 2, 3, 4]), (20, [4, 7, 14], [60, 9, 2, 1007, 10, 11, 12, 13, 14, 15, 8, 9, 5, 1, 2]), (102, [15], [187072209578355573530071658587684226515959365500928, 165008, 165009, 165011, 165012, 165013, 165014, 165015]), (23, [3, 15], [-1, 1, -1]), (23, [9, 15], [-2005, -1, -1]), (1, [14, 6, 13], []), (23, [5, 7], [-1, 1, -1])], [], [(0, 0, 2005, [])], [(20, [4, 4], [30, 0, 1, 1, 15, -1, 1, 11]), (20, [4], [50, 3, 0, 12, 11, 15, 2, 21, 4, 7, 1, 3, 2, 0, 12, 0, 1, 0, 3, 2, 0, 11, 4, 3, 2, 0, 15, 0, 8, 3, 7, 1, 3, 2, 0, 12, 0, 0, 0, 7, 4, 3, 2, 0, 15, 0, 1, 2, 0, 11]), (20, [3, 4], [30, 0, 1, 0, 0, -1, 1, 11]), (20, [4, 3], [50, 2, 0, 8, 11, 3, 7, 0, 2, 0, 1, 2, 0, 8, 0, 6, 4, 2, 1, 1, 0, 1, 2, 0, 11]), (20, [7, 4], [50, 1, 1, 1005, 1002, 0, 6, 4, 2, 1, 0, 0, 1, 3, 1, 2, 4, 3, 2, 1, 5, 0, 2]), (23, [5, 7], [-1, 1, -1]), (20, [4], [60, 1, 3, 199, 5, 2, 3, 4]), (20, [16, 4, 4], [30, -2006, -1, 0, 0, -1, 1, 11, -1, 1, 8]), (20, [4, 7, 6], [60, 9, 2, 1023, 10, 11, 12, 13, 14, 15, 8, 9, 5, 1, 2]), (20, [4, 7, 5], [60, 1, 1, 1028, 10, 1]), (24, [0, 4], []), (24, [1, 5], []), (24, [2, 6], [])], [(16, 9, 0, 0)], [(1, 5, -4294967296, 0), (5, 1, -4294967296, 0)])
theorem oo_Mo_groupItem_at_k1_22 {kA : Nat → ClassId} : or_ok PRD kA GG o_Mo_groupItem_at_k1_22 := by
  refine or_mk fun A ta ws vs hD hth hl => ?_
  intro t0 r0 t1 k1 t2 k2 t3 k3 t4 r4 t5 k5 t6 k6 t7 k7 t9 k9 t13 k13 t14 k14 t15 k15 d0 d1 f0 f1 f2 f3 f4 f5 f6 f7 f8 f9 f10 f11 f12 f13 ta1 w1 le1 s1 f15 f16 f17 f18
  replace f0 := shm_193 f0
  replace f1 := shm_2181 f1
  replace f2 := shm_193 f2
  replace f3 := shm_2176 f3
  replace f4 := shm_5 f4
  replace f5 := shm_5 f5
  replace f6 := shm_5 f6
  replace f7 := shm_1437 f7
  replace f8 := shm_1438 f8
  replace f9 := shm_1431 f9
  replace f10 := shm_1726 f10
  replace f11 := shm_1009 f11
  replace f12 := shm_980 f12
  replace f13 := shm_1727 f13
  replace f15 := shm_193 f15
  replace f16 := shm_2181 f16
  replace f17 := shm_12 f17
  replace f18 := shm_193 f18
  have q4 : n_v vs 4 = n_v vs 0 := f4.symm
  have q5 : n_v vs 5 = n_v vs 1 := f5.symm
  have q6 : n_v vs 6 = n_v vs 2 := f6.symm
  simp only [q5, q4, q6] at f2 f3 f7 f8 f9 f10 f11 f12 f13 f17 f18
  have cr_0_1 := fdq_39 hD hth r0
  have cr_0_2 := fdq_10 hD hth r0
  have cr_0_3 := fdq_142 hD hth r0
  have cr_0_4 := fdq_143 hD hth r0
  have hK_0_1 := elq_7 hD hth cr_0_1
  have hK_0_3 := elq_80 hD hth cr_0_3
  have hK_0_4 := elq_81 hD hth cr_0_4
  have kz_0_8 := fdq_34 hD hth r0
  have kz_0_9 := fdq_44 hD hth r0
  have kz_0_10 := fdq_43 hD hth r0
  have kz_0_11 := fdq_237 hD hth r0
  have kz_0_12 := fdq_187 hD hth r0
  have kz_0_13 := fdq_238 hD hth r0
  have kz_0_14 := fdq_188 hD hth r0
  have kz_0_15 := fdq_239 hD hth r0
  obtain ⟨x, ex, hx⟩ := iv_ex (ta := ta) (lo := 0) (hi := 2005) (z := 0 + (1 * v_iv (n_v vs 9) + 0)) (by omega) (by omega) (by omega) (by omega)
  have ex2 : v_iv (Value.int x) = 0 + (1 * v_iv (n_v vs 9) + 0) := ex
  have ex3 : 0 ≤ v_iv (Value.int x) ∧ v_iv (Value.int x) ≤ 2005 := tv_rng hx
  have e_0 : n_v (vs ++ [Value.int x]) 0 = n_v vs 0 := n_v_old (by rw [hl]; decide)
  have e_1 : n_v (vs ++ [Value.int x]) 1 = n_v vs 1 := n_v_old (by rw [hl]; decide)
  have e_2 : n_v (vs ++ [Value.int x]) 2 = n_v vs 2 := n_v_old (by rw [hl]; decide)
  have e_3 : n_v (vs ++ [Value.int x]) 3 = n_v vs 3 := n_v_old (by rw [hl]; decide)
  have e_4 : n_v (vs ++ [Value.int x]) 4 = n_v vs 4 := n_v_old (by rw [hl]; decide)
  have e_5 : n_v (vs ++ [Value.int x]) 5 = n_v vs 5 := n_v_old (by rw [hl]; decide)
  have e_6 : n_v (vs ++ [Value.int x]) 6 = n_v vs 6 := n_v_old (by rw [hl]; decide)
  have e_7 : n_v (vs ++ [Value.int x]) 7 = n_v vs 7 := n_v_old (by rw [hl]; decide)
  have e_16 : n_v (vs ++ [Value.int x]) 16 = Value.int x := n_v_new hl
  have nf0 : fc_1 PRD (20, [4, 4], [30, 0, 1, 1, 15, -1, 1, 11]) ws (vs ++ [Value.int x]) := by
    refine ⟨nf_inA hl rfl, sgq_1437 ?_⟩
    · show 1 * w_fi ws (n_v (vs ++ [Value.int x]) 4) 15 + ((-1) * w_fi ws (n_v (vs ++ [Value.int x]) 4) 11 + 0) ≤ 0
      simp only [e_4, q4]
      exact vc_Mo_groupItem_at_k1_22_0 (v_iv (n_v vs 13)) (w_fi ws (n_v vs 0) 15) (w_fi ws (n_v vs 0) 11) (w_fi ws (n_v vs 0) 5) f7 kz_0_11 kz_0_15
  have nf1 : fc_1 PRD (20, [4], [50, 3, 0, 12, 11, 15, 2, 21, 4, 7, 1, 3, 2, 0, 12, 0, 1, 0, 3, 2, 0, 11, 4, 3, 2, 0, 15, 0, 8, 3, 7, 1, 3, 2, 0, 12, 0, 0, 0, 7, 4, 3, 2, 0, 15, 0, 1, 2, 0, 11]) ws (vs ++ [Value.int x]) := by
    refine ⟨nf_inA hl rfl, sgq_1438 ?_⟩
    · show ((w_fi ws (n_v (vs ++ [Value.int x]) 4) 12 = 1) → (w_fi ws (n_v (vs ++ [Value.int x]) 4) 11 ≤ (w_fi ws (n_v (vs ++ [Value.int x]) 4) 15 + 8))) ∧ ((w_fi ws (n_v (vs ++ [Value.int x]) 4) 12 = 0) ∨ ((w_fi ws (n_v (vs ++ [Value.int x]) 4) 15 + 1) ≤ w_fi ws (n_v (vs ++ [Value.int x]) 4) 11))
      simp only [e_4, q4]
      exact vc_Mo_groupItem_at_k1_22_1 (v_iv (n_v vs 13)) (w_fi ws (n_v vs 0) 15) (w_fi ws (n_v vs 0) 11) (w_fi ws (n_v vs 0) 12) (w_fi ws (n_v vs 0) 5) f8 kz_0_11 kz_0_12 kz_0_15
  have nf2 : fc_1 PRD (20, [3, 4], [30, 0, 1, 0, 0, -1, 1, 11]) ws (vs ++ [Value.int x]) := by
    refine ⟨nf_inA hl rfl, sgq_1431 ?_⟩
    · show 1 * v_iv (n_v (vs ++ [Value.int x]) 3) + ((-1) * w_fi ws (n_v (vs ++ [Value.int x]) 4) 11 + 0) ≤ 0
      simp only [e_3, e_4, q4]
      exact vc_Mo_groupItem_at_k1_22_2 (v_iv (n_v vs 3)) (v_iv (n_v vs 13)) (v_iv (n_v vs 15)) (w_fi ws (n_v vs 0) 11) (w_fi ws (n_v vs 0) 5) k3 k15 f0 f9 kz_0_11
  have nf3 : fc_1 PRD (20, [4, 3], [50, 2, 0, 8, 11, 3, 7, 0, 2, 0, 1, 2, 0, 8, 0, 6, 4, 2, 1, 1, 0, 1, 2, 0, 11]) ws (vs ++ [Value.int x]) := by
    refine ⟨nf_inA hl rfl, sgq_1726 ?_⟩
    · show (1 ≤ w_fi ws (n_v (vs ++ [Value.int x]) 4) 8) ∨ ((v_iv (n_v (vs ++ [Value.int x]) 3) + 1) ≤ w_fi ws (n_v (vs ++ [Value.int x]) 4) 11)
      simp only [e_3, e_4, q4]
      exact vc_Mo_groupItem_at_k1_22_3 (v_iv (n_v vs 3)) (v_iv (n_v vs 13)) (v_iv (n_v vs 15)) (w_fi ws (n_v vs 0) 11) (w_fi ws (n_v vs 0) 8) (w_fi ws (n_v vs 0) 5) k3 k15 f0 f9 kz_0_8 kz_0_11
  have nf4 : fc_1 PRD (20, [7, 4], [50, 1, 1, 1005, 1002, 0, 6, 4, 2, 1, 0, 0, 1, 3, 1, 2, 4, 3, 2, 1, 5, 0, 2]) ws (vs ++ [Value.int x]) := by
    refine ⟨nf_inA hl rfl, sgq_1009 ?_⟩
    · show (v_iv (n_v (vs ++ [Value.int x]) 7) + 1) ≤ w_ei ws (w_ar ws (n_v (vs ++ [Value.int x]) 4) 2) ((w_fi ws (n_v (vs ++ [Value.int x]) 4) 5 + 2))
      simp only [e_4, e_7, q4]
      exact vc_Mo_groupItem_at_k1_22_4 (v_iv (n_v vs 7)) (v_iv (n_v vs 13)) (w_ei ws (w_ar ws (n_v vs 0) 2)) (w_fi ws (n_v vs 0) 5) k7 f11
  have nf5 : fc_1 PRD (23, [5, 7], [-1, 1, -1]) ws (vs ++ [Value.int x]) := by
    refine ⟨nf_inA hl rfl, sgq_193 ?_⟩
    · show 1 * v_iv (n_v (vs ++ [Value.int x]) 5) + ((-1) * v_iv (n_v (vs ++ [Value.int x]) 7) + 0) ≤ (-1)
      simp only [e_5, e_7, q5]
      exact vc_Mo_groupItem_at_k1_22_5 (v_iv (n_v vs 1)) (v_iv (n_v vs 7)) (v_iv (n_v vs 13)) (w_fi ws (n_v vs 0) 5) k1 k7 f18
  have nf6 : fc_1 PRD (20, [4], [60, 1, 3, 199, 5, 2, 3, 4]) ws (vs ++ [Value.int x]) := by
    refine ⟨nf_inA hl rfl, sgq_980 ?_⟩
    · show RWS (w_fi ws (n_v (vs ++ [Value.int x]) 4) 5) (w_ei ws (w_ar ws (n_v (vs ++ [Value.int x]) 4) 2)) (w_ei ws (w_ar ws (n_v (vs ++ [Value.int x]) 4) 3)) (w_ei ws (w_ar ws (n_v (vs ++ [Value.int x]) 4) 4))
      simp only [e_4, q4]
      exact vc_Mo_groupItem_at_k1_22_6 (w_ei ws (w_ar ws (n_v vs 0) 2)) (w_fi ws (n_v vs 0) 5) (w_ei ws (w_ar ws (n_v vs 0) 3)) (w_ei ws (w_ar ws (n_v vs 0) 4)) f12
  have nf7 : fc_1 PRD (20, [16, 4, 4], [30, -2006, -1, 0, 0, -1, 1, 11, -1, 1, 8]) ws (vs ++ [Value.int x]) := by
    refine ⟨nf_inA hl rfl, sgq_2182 ?_⟩
    · show (-1) * v_iv (n_v (vs ++ [Value.int x]) 16) + ((-1) * w_fi ws (n_v (vs ++ [Value.int x]) 4) 11 + ((-1) * w_fi ws (n_v (vs ++ [Value.int x]) 4) 8 + 0)) ≤ (-2006)
      simp only [e_4, e_16, q4]
      exact vc_Mo_groupItem_at_k1_22_7 (v_iv (n_v vs 9)) (v_iv (n_v vs 13)) (v_iv (n_v vs 15)) (w_fi ws (n_v vs 0) 11) (w_fi ws (n_v vs 0) 8) (w_fi ws (n_v vs 0) 5) (v_iv (Value.int x)) k9 k15 f1 f9 f10 kz_0_8 kz_0_11 ex2
  have nf8 : fc_1 PRD (20, [4, 7, 6], [60, 9, 2, 1023, 10, 11, 12, 13, 14, 15, 8, 9, 5, 1, 2]) ws (vs ++ [Value.int x]) := by
    refine ⟨nf_inA hl rfl, sgq_1730 ?_⟩
    · show zOP0 (w_fi ws (n_v (vs ++ [Value.int x]) 4) 10) (w_fi ws (n_v (vs ++ [Value.int x]) 4) 11) (w_fi ws (n_v (vs ++ [Value.int x]) 4) 12) (w_fi ws (n_v (vs ++ [Value.int x]) 4) 13) (w_fi ws (n_v (vs ++ [Value.int x]) 4) 14) (w_fi ws (n_v (vs ++ [Value.int x]) 4) 15) (w_fi ws (n_v (vs ++ [Value.int x]) 4) 8) (w_fi ws (n_v (vs ++ [Value.int x]) 4) 9) (w_fi ws (n_v (vs ++ [Value.int x]) 4) 5) (w_ei ws (w_ar ws (n_v (vs ++ [Value.int x]) 4) 1)) (w_ei ws (w_ar ws (n_v (vs ++ [Value.int x]) 4) 2)) (v_iv (n_v (vs ++ [Value.int x]) 7)) (v_iv (n_v (vs ++ [Value.int x]) 6))
      simp only [e_4, e_6, e_7, q4, q6]
      exact vc_Mo_groupItem_at_k1_22_8 (v_iv (n_v vs 2)) (v_iv (n_v vs 7)) (v_iv (n_v vs 14)) (w_ei ws (w_ar ws (n_v vs 0) 1)) (w_fi ws (n_v vs 0) 10) (w_fi ws (n_v vs 0) 15) (w_fi ws (n_v vs 0) 11) (w_fi ws (n_v vs 0) 12) (w_fi ws (n_v vs 0) 8) (w_ei ws (w_ar ws (n_v vs 0) 2)) (w_fi ws (n_v vs 0) 5) (w_fi ws (n_v vs 0) 13) (w_fi ws (n_v vs 0) 14) (w_fi ws (n_v vs 0) 9) k2 k7 k14 f13 kz_0_8 kz_0_9 kz_0_10 kz_0_11 kz_0_12 kz_0_13 kz_0_14 kz_0_15
  have nf9 : fc_1 PRD (20, [4, 7, 5], [60, 1, 1, 1028, 10, 1]) ws (vs ++ [Value.int x]) := by
    refine ⟨nf_inA hl rfl, sgq_2176 ?_⟩
    · show HST (w_fi ws (n_v (vs ++ [Value.int x]) 4) 10) (w_ei ws (w_ar ws (n_v (vs ++ [Value.int x]) 4) 1)) (v_iv (n_v (vs ++ [Value.int x]) 7)) (v_iv (n_v (vs ++ [Value.int x]) 5))
      simp only [e_4, e_5, e_7, q4, q5]
      exact vc_Mo_groupItem_at_k1_22_9 (v_iv (n_v vs 1)) (v_iv (n_v vs 7)) (w_ei ws (w_ar ws (n_v vs 0) 1)) (w_fi ws (n_v vs 0) 10) k1 k7 f3 kz_0_10
  have nf10 : fc_1 PRD (24, [0, 4], []) ws (vs ++ [Value.int x]) := by
    refine ⟨nf_inA hl rfl, sgq_5 ?_⟩
    · show n_v (vs ++ [Value.int x]) 0 = n_v (vs ++ [Value.int x]) 4
      first | rfl | simp only [e_0, e_4, q4, q5, q6]
  have nf11 : fc_1 PRD (24, [1, 5], []) ws (vs ++ [Value.int x]) := by
    refine ⟨nf_inA hl rfl, sgq_5 ?_⟩
    · show n_v (vs ++ [Value.int x]) 1 = n_v (vs ++ [Value.int x]) 5
      first | rfl | simp only [e_1, e_5, q4, q5, q6]
  have nf12 : fc_1 PRD (24, [2, 6], []) ws (vs ++ [Value.int x]) := by
    refine ⟨nf_inA hl rfl, sgq_5 ?_⟩
    · show n_v (vs ++ [Value.int x]) 2 = n_v (vs ++ [Value.int x]) 6
      first | rfl | simp only [e_2, e_6, q4, q5, q6]
  obtain ⟨x0, e0, _, _⟩ := tv_int t9 rfl
  have e1 : v_iv (n_v vs 9) = x0.toInt := by rw [e0]; rfl
  have ho : sy_ofs (vs ++ [Value.int x]) (16, 9, 0, 0) := by
    refine ⟨x, x0, by rw [List.getElem?_append_right (by rw [hl]; decide), hl]; rfl, ?_, ?_, ?_⟩
    · rw [List.getElem?_append_left (by rw [hl]; decide)]; exact n_v_some (by rw [hl]; decide) e0
    · show x0.toInt + 0 ≤ x.toInt; omega
    · show x.toInt ≤ x0.toInt + 0; omega
  exact ⟨(fun _ h => (by cases h)), [Value.int x], ag_one hx, List.forall_mem_cons.mpr ⟨⟨show (20 : Nat) < 100 from by decide, nf0⟩, List.forall_mem_cons.mpr ⟨⟨show (20 : Nat) < 100 from by decide, nf1⟩, List.forall_mem_cons.mpr ⟨⟨show (20 : Nat) < 100 from by decide, nf2⟩, List.forall_mem_cons.mpr ⟨⟨show (20 : Nat) < 100 from by decide, nf3⟩, List.forall_mem_cons.mpr ⟨⟨show (20 : Nat) < 100 from by decide, nf4⟩, List.forall_mem_cons.mpr ⟨⟨show (23 : Nat) < 100 from by decide, nf5⟩, List.forall_mem_cons.mpr ⟨⟨show (20 : Nat) < 100 from by decide, nf6⟩, List.forall_mem_cons.mpr ⟨⟨show (20 : Nat) < 100 from by decide, nf7⟩, List.forall_mem_cons.mpr ⟨⟨show (20 : Nat) < 100 from by decide, nf8⟩, List.forall_mem_cons.mpr ⟨⟨show (20 : Nat) < 100 from by decide, nf9⟩, List.forall_mem_cons.mpr ⟨⟨show (24 : Nat) < 100 from by decide, nf10⟩, List.forall_mem_cons.mpr ⟨⟨show (24 : Nat) < 100 from by decide, nf11⟩, List.forall_mem_cons.mpr ⟨⟨show (24 : Nat) < 100 from by decide, nf12⟩, (fun _ h => (by cases h))⟩⟩⟩⟩⟩⟩⟩⟩⟩⟩⟩⟩⟩, List.forall_mem_cons.mpr ⟨ho, (fun _ h => (by cases h))⟩⟩
set_option maxHeartbeats 4000000 in
theorem vc_Mo_groupItem_at_k1_23_0 (x3 : Int) (r_0 : Int) (gx : Int) (k3 : 0 ≤ x3 ∧ x3 ≤ 2000) (ex2 : gx = x3) : 1 * gx + ((-1) * x3 + 0) ≤ 0 := by
  first
    | omega
    | (have q1 := (hE_0_2_1 (r_0 + 2) (by omega)).2 (by omega)
       have q2 := (hE_0_2_2 (r_0 + 2) (by omega)).2 (by omega)
       omega)
    | (have q1 := (hE_0_2_1 (r_0 + 1) (by omega)).2 (by omega)
       have q2 := (hE_0_2_2 (r_0 + 1) (by omega)).2 (by omega)
       omega)
    | (have q1 := (hE_0_2_1 (r_0 + 2) (by omega)).2 (by omega)
       omega)
    | (have q1 := (hE_0_2_1 (r_0 + 1) (by omega)).2 (by omega)
       omega)
    | (have q1 := (hE_0_2_1 (r_0 + 2) (by omega)).2 (by omega)
       have q2 := (hE_0_2_2 (r_0 + 2) (by omega)).2 (by omega)
       have q3 := (hE_0_2_3 (r_0 + 2) (by omega)).1 (by omega)
       omega)
    | (have q1 := (hE_0_2_1 (r_0 + 2) (by omega)).2 (by omega)
       have q2 := (hE_0_2_2 (r_0 + 2) (by omega)).2 (by omega)
       have q3 := (hE_0_2_3 (r_0 + 2) (by omega)).2 (by omega)
       omega)
    | (have q1 := (hE_0_2_1 (r_0 + 2) (by omega)).2 (by omega)
       have q2 := (hE_0_2_2 (r_0 + 2) (by omega)).2 (by omega)
       have q3 := (hE_0_2_3 (r_0 + 2) (by omega)).1 (by omega)
       have q4 : x13 = r_0 + 2 := by omega
       simp only [q4] at *
       omega)
set_option maxHeartbeats 4000000 in
theorem vc_Mo_groupItem_at_k1_23_1 (x3 : Int) (r_0 : Int) (gx : Int) (k3 : 0 ≤ x3 ∧ x3 ≤ 2000) (ex2 : gx = x3) : (-1) * gx + (1 * x3 + 0) ≤ 0 := by
  first
    | omega
    | (have q1 := (hE_0_2_1 (r_0 + 2) (by omega)).2 (by omega)
       have q2 := (hE_0_2_2 (r_0 + 2) (by omega)).2 (by omega)
       omega)
    | (have q1 := (hE_0_2_1 (r_0 + 1) (by omega)).2 (by omega)
       have q2 := (hE_0_2_2 (r_0 + 1) (by omega)).2 (by omega)
       omega)
    | (have q1 := (hE_0_2_1 (r_0 + 2) (by omega)).2 (by omega)
       omega)
    | (have q1 := (hE_0_2_1 (r_0 + 1) (by omega)).2 (by omega)
       omega)
    | (have q1 := (hE_0_2_1 (r_0 + 2) (by omega)).2 (by omega)
       have q2 := (hE_0_2_2 (r_0 + 2) (by omega)).2 (by omega)
       have q3 := (hE_0_2_3 (r_0 + 2) (by omega)).1 (by omega)
       omega)
    | (have q1 := (hE_0_2_1 (r_0 + 2) (by omega)).2 (by omega)
       have q2 := (hE_0_2_2 (r_0 + 2) (by omega)).2 (by omega)
       have q3 := (hE_0_2_3 (r_0 + 2) (by omega)).2 (by omega)
       omega)
    | (have q1 := (hE_0_2_1 (r_0 + 2) (by omega)).2 (by omega)
       have q2 := (hE_0_2_2 (r_0 + 2) (by omega)).2 (by omega)
       have q3 := (hE_0_2_3 (r_0 + 2) (by omega)).1 (by omega)
       have q4 : x13 = r_0 + 2 := by omega
       simp only [q4] at *
       omega)
set_option maxHeartbeats 4000000 in
theorem vc_Mo_groupItem_at_k1_23_2 (x1 : Int) (x5 : Int) (r_0 : Int) (gy : Int) (k1 : 0 ≤ x1 ∧ x1 ≤ 7) (k5 : 0 ≤ x5 ∧ x5 ≤ 7) (d0 : x5 + (-4294967296) ≤ x1 ∧ x1 ≤ x5 + 0) (d1 : x1 + (-4294967296) ≤ x5 ∧ x5 ≤ x1 + 0) (ey2 : gy = x1) : 1 * gy + ((-1) * x1 + 0) ≤ 0 := by
  first
    | omega
    | (have q1 := (hE_0_2_1 (r_0 + 2) (by omega)).2 (by omega)
       have q2 := (hE_0_2_2 (r_0 + 2) (by omega)).2 (by omega)
       omega)
    | (have q1 := (hE_0_2_1 (r_0 + 1) (by omega)).2 (by omega)
       have q2 := (hE_0_2_2 (r_0 + 1) (by omega)).2 (by omega)
       omega)
    | (have q1 := (hE_0_2_1 (r_0 + 2) (by omega)).2 (by omega)
       omega)
    | (have q1 := (hE_0_2_1 (r_0 + 1) (by omega)).2 (by omega)
       omega)
    | (have q1 := (hE_0_2_1 (r_0 + 2) (by omega)).2 (by omega)
       have q2 := (hE_0_2_2 (r_0 + 2) (by omega)).2 (by omega)
       have q3 := (hE_0_2_3 (r_0 + 2) (by omega)).1 (by omega)
       omega)
    | (have q1 := (hE_0_2_1 (r_0 + 2) (by omega)).2 (by omega)
       have q2 := (hE_0_2_2 (r_0 + 2) (by omega)).2 (by omega)
       have q3 := (hE_0_2_3 (r_0 + 2) (by omega)).2 (by omega)
       omega)
    | (have q1 := (hE_0_2_1 (r_0 + 2) (by omega)).2 (by omega)
       have q2 := (hE_0_2_2 (r_0 + 2) (by omega)).2 (by omega)
       have q3 := (hE_0_2_3 (r_0 + 2) (by omega)).1 (by omega)
       have q4 : x13 = r_0 + 2 := by omega
       simp only [q4] at *
       omega)
set_option maxHeartbeats 4000000 in
theorem vc_Mo_groupItem_at_k1_23_3 (x1 : Int) (x5 : Int) (r_0 : Int) (gy : Int) (k1 : 0 ≤ x1 ∧ x1 ≤ 7) (k5 : 0 ≤ x5 ∧ x5 ≤ 7) (d0 : x5 + (-4294967296) ≤ x1 ∧ x1 ≤ x5 + 0) (d1 : x1 + (-4294967296) ≤ x5 ∧ x5 ≤ x1 + 0) (ey2 : gy = x1) : (-1) * gy + (1 * x1 + 0) ≤ 0 := by
  first
    | omega
    | (have q1 := (hE_0_2_1 (r_0 + 2) (by omega)).2 (by omega)
       have q2 := (hE_0_2_2 (r_0 + 2) (by omega)).2 (by omega)
       omega)
    | (have q1 := (hE_0_2_1 (r_0 + 1) (by omega)).2 (by omega)
       have q2 := (hE_0_2_2 (r_0 + 1) (by omega)).2 (by omega)
       omega)
    | (have q1 := (hE_0_2_1 (r_0 + 2) (by omega)).2 (by omega)
       omega)
    | (have q1 := (hE_0_2_1 (r_0 + 1) (by omega)).2 (by omega)
       omega)
    | (have q1 := (hE_0_2_1 (r_0 + 2) (by omega)).2 (by omega)
       have q2 := (hE_0_2_2 (r_0 + 2) (by omega)).2 (by omega)
       have q3 := (hE_0_2_3 (r_0 + 2) (by omega)).1 (by omega)
       omega)
    | (have q1 := (hE_0_2_1 (r_0 + 2) (by omega)).2 (by omega)
       have q2 := (hE_0_2_2 (r_0 + 2) (by omega)).2 (by omega)
       have q3 := (hE_0_2_3 (r_0 + 2) (by omega)).2 (by omega)
       omega)
    | (have q1 := (hE_0_2_1 (r_0 + 2) (by omega)).2 (by omega)
       have q2 := (hE_0_2_2 (r_0 + 2) (by omega)).2 (by omega)
       have q3 := (hE_0_2_3 (r_0 + 2) (by omega)).1 (by omega)
       have q4 : x13 = r_0 + 2 := by omega
       simp only [q4] at *
       omega)
set_option maxHeartbeats 4000000 in
theorem vc_Mo_groupItem_at_k1_23_4 (x2 : Int) (r_0 : Int) (gu : Int) (k2 : 1 ≤ x2 ∧ x2 ≤ 1) (eu2 : gu = x2) : 1 * gu + ((-1) * x2 + 0) ≤ 0 := by
  first
    | omega
    | (have q1 := (hE_0_2_1 (r_0 + 2) (by omega)).2 (by omega)
       have q2 := (hE_0_2_2 (r_0 + 2) (by omega)).2 (by omega)
       omega)
    | (have q1 := (hE_0_2_1 (r_0 + 1) (by omega)).2 (by omega)
       have q2 := (hE_0_2_2 (r_0 + 1) (by omega)).2 (by omega)
       omega)
    | (have q1 := (hE_0_2_1 (r_0 + 2) (by omega)).2 (by omega)
       omega)
    | (have q1 := (hE_0_2_1 (r_0 + 1) (by omega)).2 (by omega)
       omega)
    | (have q1 := (hE_0_2_1 (r_0 + 2) (by omega)).2 (by omega)
       have q2 := (hE_0_2_2 (r_0 + 2) (by omega)).2 (by omega)
       have q3 := (hE_0_2_3 (r_0 + 2) (by omega)).1 (by omega)
       omega)
    | (have q1 := (hE_0_2_1 (r_0 + 2) (by omega)).2 (by omega)
       have q2 := (hE_0_2_2 (r_0 + 2) (by omega)).2 (by omega)
       have q3 := (hE_0_2_3 (r_0 + 2) (by omega)).2 (by omega)
       omega)
    | (have q1 := (hE_0_2_1 (r_0 + 2) (by omega)).2 (by omega)
       have q2 := (hE_0_2_2 (r_0 + 2) (by omega)).2 (by omega)
       have q3 := (hE_0_2_3 (r_0 + 2) (by omega)).1 (by omega)
       have q4 : x13 = r_0 + 2 := by omega
       simp only [q4] at *
       omega)
set_option maxHeartbeats 4000000 in
theorem vc_Mo_groupItem_at_k1_23_5 (x2 : Int) (r_0 : Int) (gu : Int) (k2 : 1 ≤ x2 ∧ x2 ≤ 1) (eu2 : gu = x2) : (-1) * gu + (1 * x2 + 0) ≤ 0 := by
  first
    | omega
    | (have q1 := (hE_0_2_1 (r_0 + 2) (by omega)).2 (by omega)
       have q2 := (hE_0_2_2 (r_0 + 2) (by omega)).2 (by omega)
       omega)
    | (have q1 := (hE_0_2_1 (r_0 + 1) (by omega)).2 (by omega)
       have q2 := (hE_0_2_2 (r_0 + 1) (by omega)).2 (by omega)
       omega)
    | (have q1 := (hE_0_2_1 (r_0 + 2) (by omega)).2 (by omega)
       omega)
    | (have q1 := (hE_0_2_1 (r_0 + 1) (by omega)).2 (by omega)
       omega)
    | (have q1 := (hE_0_2_1 (r_0 + 2) (by omega)).2 (by omega)
       have q2 := (hE_0_2_2 (r_0 + 2) (by omega)).2 (by omega)
       have q3 := (hE_0_2_3 (r_0 + 2) (by omega)).1 (by omega)
       omega)
    | (have q1 := (hE_0_2_1 (r_0 + 2) (by omega)).2 (by omega)
       have q2 := (hE_0_2_2 (r_0 + 2) (by omega)).2 (by omega)
       have q3 := (hE_0_2_3 (r_0 + 2) (by omega)).2 (by omega)
       omega)
    | (have q1 := (hE_0_2_1 (r_0 + 2) (by omega)).2 (by omega)
       have q2 := (hE_0_2_2 (r_0 + 2) (by omega)).2 (by omega)
       have q3 := (hE_0_2_3 (r_0 + 2) (by omega)).1 (by omega)
       have q4 : x13 = r_0 + 2 := by omega
       simp only [q4] at *
       omega)
set_option maxHeartbeats 4000000 in
theorem vc_Mo_groupItem_at_k1_23_6 (from_0 : Int) (pos_0 : Int) (r_0 : Int) (f5 : 1 * from_0 + ((-1) * pos_0 + 0) ≤ 0) (kz_0_11 : 0 ≤ pos_0 ∧ pos_0 ≤ 2000) (kz_0_15 : 0 ≤ from_0 ∧ from_0 ≤ 2000) : 1 * from_0 + ((-1) * pos_0 + 0) ≤ 0 := by
  first
    | omega
    | (have q1 := (hE_0_2_1 (r_0 + 2) (by omega)).2 (by omega)
       have q2 := (hE_0_2_2 (r_0 + 2) (by omega)).2 (by omega)
       omega)
    | (have q1 := (hE_0_2_1 (r_0 + 1) (by omega)).2 (by omega)
       have q2 := (hE_0_2_2 (r_0 + 1) (by omega)).2 (by omega)
       omega)
    | (have q1 := (hE_0_2_1 (r_0 + 2) (by omega)).2 (by omega)
       omega)
    | (have q1 := (hE_0_2_1 (r_0 + 1) (by omega)).2 (by omega)
       omega)
    | (have q1 := (hE_0_2_1 (r_0 + 2) (by omega)).2 (by omega)
       have q2 := (hE_0_2_2 (r_0 + 2) (by omega)).2 (by omega)
       have q3 := (hE_0_2_3 (r_0 + 2) (by omega)).1 (by omega)
       omega)
    | (have q1 := (hE_0_2_1 (r_0 + 2) (by omega)).2 (by omega)
       have q2 := (hE_0_2_2 (r_0 + 2) (by omega)).2 (by omega)
       have q3 := (hE_0_2_3 (r_0 + 2) (by omega)).2 (by omega)
       omega)
    | (have q1 := (hE_0_2_1 (r_0 + 2) (by omega)).2 (by omega)
       have q2 := (hE_0_2_2 (r_0 + 2) (by omega)).2 (by omega)
       have q3 := (hE_0_2_3 (r_0 + 2) (by omega)).1 (by omega)
       have q4 : x13 = r_0 + 2 := by omega
       simp only [q4] at *
       omega)
set_option maxHeartbeats 4000000 in
theorem vc_Mo_groupItem_at_k1_23_7 (kind_0 : Int) (from_0 : Int) (pos_0 : Int) (r_0 : Int) (f6 : ((kind_0 = 1) → (pos_0 ≤ (from_0 + 8))) ∧ ((kind_0 = 0) ∨ ((from_0 + 1) ≤ pos_0))) (kz_0_11 : 0 ≤ pos_0 ∧ pos_0 ≤ 2000) (kz_0_12 : 0 ≤ kind_0 ∧ kind_0 ≤ 4) (kz_0_15 : 0 ≤ from_0 ∧ from_0 ≤ 2000) : ((kind_0 = 1) → (pos_0 ≤ (from_0 + 8))) ∧ ((kind_0 = 0) ∨ ((from_0 + 1) ≤ pos_0)) := by
  first
    | omega
    | (have q1 := (hE_0_2_1 (r_0 + 2) (by omega)).2 (by omega)
       have q2 := (hE_0_2_2 (r_0 + 2) (by omega)).2 (by omega)
       omega)
    | (have q1 := (hE_0_2_1 (r_0 + 1) (by omega)).2 (by omega)
       have q2 := (hE_0_2_2 (r_0 + 1) (by omega)).2 (by omega)
       omega)
    | (have q1 := (hE_0_2_1 (r_0 + 2) (by omega)).2 (by omega)
       omega)
    | (have q1 := (hE_0_2_1 (r_0 + 1) (by omega)).2 (by omega)
       omega)
    | (have q1 := (hE_0_2_1 (r_0 + 2) (by omega)).2 (by omega)
       have q2 := (hE_0_2_2 (r_0 + 2) (by omega)).2 (by omega)
       have q3 := (hE_0_2_3 (r_0 + 2) (by omega)).1 (by omega)
       omega)
    | (have q1 := (hE_0_2_1 (r_0 + 2) (by omega)).2 (by omega)
       have q2 := (hE_0_2_2 (r_0 + 2) (by omega)).2 (by omega)
       have q3 := (hE_0_2_3 (r_0 + 2) (by omega)).2 (by omega)
       omega)
    | (have q1 := (hE_0_2_1 (r_0 + 2) (by omega)).2 (by omega)
       have q2 := (hE_0_2_2 (r_0 + 2) (by omega)).2 (by omega)
       have q3 := (hE_0_2_3 (r_0 + 2) (by omega)).1 (by omega)
       have q4 : x13 = r_0 + 2 := by omega
       simp only [q4] at *
       omega)
set_option maxHeartbeats 4000000 in
theorem vc_Mo_groupItem_at_k1_23_8 (x3 : Int) (pos_0 : Int) (r_0 : Int) (gx : Int) (k3 : 0 ≤ x3 ∧ x3 ≤ 2000) (f7 : 1 * x3 + ((-1) * pos_0 + 0) ≤ 0) (kz_0_11 : 0 ≤ pos_0 ∧ pos_0 ≤ 2000) (ex2 : gx = x3) : 1 * gx + ((-1) * pos_0 + 0) ≤ 0 := by
  first
    | omega
    | (have q1 := (hE_0_2_1 (r_0 + 2) (by omega)).2 (by omega)
       have q2 := (hE_0_2_2 (r_0 + 2) (by omega)).2 (by omega)
       omega)
    | (have q1 := (hE_0_2_1 (r_0 + 1) (by omega)).2 (by omega)
       have q2 := (hE_0_2_2 (r_0 + 1) (by omega)).2 (by omega)
       omega)
    | (have q1 := (hE_0_2_1 (r_0 + 2) (by omega)).2 (by omega)
       omega)
    | (have q1 := (hE_0_2_1 (r_0 + 1) (by omega)).2 (by omega)
       omega)
    | (have q1 := (hE_0_2_1 (r_0 + 2) (by omega)).2 (by omega)
       have q2 := (hE_0_2_2 (r_0 + 2) (by omega)).2 (by omega)
       have q3 := (hE_0_2_3 (r_0 + 2) (by omega)).1 (by omega)
       omega)
    | (have q1 := (hE_0_2_1 (r_0 + 2) (by omega)).2 (by omega)
       have q2 := (hE_0_2_2 (r_0 + 2) (by omega)).2 (by omega)
       have q3 := (hE_0_2_3 (r_0 + 2) (by omega)).2 (by omega)
       omega)
    | (have q1 := (hE_0_2_1 (r_0 + 2) (by omega)).2 (by omega)
       have q2 := (hE_0_2_2 (r_0 + 2) (by omega)).2 (by omega)
       have q3 := (hE_0_2_3 (r_0 + 2) (by omega)).1 (by omega)
       have q4 : x13 = r_0 + 2 := by omega
       simp only [q4] at *
       omega)
set_option maxHeartbeats 4000000 in
theorem vc_Mo_groupItem_at_k1_23_9 (x3 : Int) (x10 : Int) (kind_0 : Int) (fault_0 : Int) (pos_0 : Int) (r_0 : Int) (gx : Int) (k3 : 0 ≤ x3 ∧ x3 ≤ 2000) (k10 : 0 ≤ x10 ∧ x10 ≤ 0) (g4 : x10 = fault_0) (f7 : 1 * x3 + ((-1) * pos_0 + 0) ≤ 0) (f8 : (1 ≤ fault_0) ∨ ((x3 + 1) ≤ pos_0)) (kz_0_8 : 0 ≤ fault_0 ∧ fault_0 ≤ 5) (kz_0_11 : 0 ≤ pos_0 ∧ pos_0 ≤ 2000) (kz_0_12 : 0 ≤ kind_0 ∧ kind_0 ≤ 4) (ex2 : gx = x3) : (1 ≤ fault_0) ∨ ((kind_0 = 0) ∨ ((gx + 1) ≤ pos_0)) := by
  first
    | omega
    | (have q1 := (hE_0_2_1 (r_0 + 2) (by omega)).2 (by omega)
       have q2 := (hE_0_2_2 (r_0 + 2) (by omega)).2 (by omega)
       omega)
    | (have q1 := (hE_0_2_1 (r_0 + 1) (by omega)).2 (by omega)
       have q2 := (hE_0_2_2 (r_0 + 1) (by omega)).2 (by omega)
       omega)
    | (have q1 := (hE_0_2_1 (r_0 + 2) (by omega)).2 (by omega)
       omega)
    | (have q1 := (hE_0_2_1 (r_0 + 1) (by omega)).2 (by omega)
       omega)
    | (have q1 := (hE_0_2_1 (r_0 + 2) (by omega)).2 (by omega)
       have q2 := (hE_0_2_2 (r_0 + 2) (by omega)).2 (by omega)
       have q3 := (hE_0_2_3 (r_0 + 2) (by omega)).1 (by omega)
       omega)
    | (have q1 := (hE_0_2_1 (r_0 + 2) (by omega)).2 (by omega)
       have q2 := (hE_0_2_2 (r_0 + 2) (by omega)).2 (by omega)
       have q3 := (hE_0_2_3 (r_0 + 2) (by omega)).2 (by omega)
       omega)
    | (have q1 := (hE_0_2_1 (r_0 + 2) (by omega)).2 (by omega)
       have q2 := (hE_0_2_2 (r_0 + 2) (by omega)).2 (by omega)
       have q3 := (hE_0_2_3 (r_0 + 2) (by omega)).1 (by omega)
       have q4 : x13 = r_0 + 2 := by omega
       simp only [q4] at *
       omega)
set_option maxHeartbeats 4000000 in
theorem vc_Mo_groupItem_at_k1_23_10 (x1 : Int) (x2 : Int) (x3 : Int) (x7 : Int) (x10 : Int) (x11 : Int) (x12 : Int) (kind_0 : Int) (fault_0 : Int) (value_0 : Int) (from_0 : Int) (pos_0 : Int) (all_0 : Int → Int) (r_0 : Int) (tape_0 : Int → Int) (limit_0 : Int) (place_0 : Int) (faultPlace_0 : Int) (gx : Int) (gy : Int) (gu : Int) (k1 : 0 ≤ x1 ∧ x1 ≤ 7) (k2 : 1 ≤ x2 ∧ x2 ≤ 1) (k3 : 0 ≤ x3 ∧ x3 ≤ 2000) (k7 : 0 ≤ x7 ∧ x7 ≤ 7) (k10 : 0 ≤ x10 ∧ x10 ≤ 0) (k11 : 125 ≤ x11 ∧ x11 ≤ 125) (k12 : 1 ≤ x12 ∧ x12 ≤ 1) (f0 : x12 ≠ 0) (f2 : SGQ (fault_0) (kind_0) (value_0) (x11) (x12)) (g4 : x10 = fault_0) (f9 : (x7 + 1) ≤ all_0 ((r_0 + 2))) (f12 : zOP0 (limit_0) (pos_0) (kind_0) (place_0) (value_0) (from_0) (fault_0) (faultPlace_0) (r_0) (tape_0) (all_0) (x7) (x2)) (f13 : HST (limit_0) (tape_0) (x7) (x1)) (kz_0_8 : 0 ≤ fault_0 ∧ fault_0 ≤ 5) (kz_0_9 : 0 ≤ faultPlace_0 ∧ faultPlace_0 ≤ 2000) (kz_0_10 : 0 ≤ limit_0 ∧ limit_0 ≤ 2000) (kz_0_11 : 0 ≤ pos_0 ∧ pos_0 ≤ 2000) (kz_0_12 : 0 ≤ kind_0 ∧ kind_0 ≤ 4) (kz_0_13 : 0 ≤ place_0 ∧ place_0 ≤ 2000) (kz_0_14 : (-49) ≤ value_0 ∧ value_0 ≤ 1048575) (kz_0_15 : 0 ≤ from_0 ∧ from_0 ≤ 2000) (ex2 : gx = x3) (ey2 : gy = x1) (eu2 : gu = x2) (eu3 : 0 ≤ gu ∧ gu ≤ 4) : zNc (limit_0) (pos_0) (kind_0) (place_0) (value_0) (from_0) (fault_0) (faultPlace_0) (r_0) (tape_0) (all_0) (gy) (gu) := by
  first | subst g4 | skip
  first | subst ex2 | skip
  first | subst ey2 | skip
  first | subst eu2 | skip
  first
    | exact gr_close ‹zOP0 _ _ _ _ _ _ _ _ _ _ _ _ _› ‹HST _ _ _ _› (by omega) (by omega) (Or.inl (by omega))
    | exact gr_close ‹zOP0 _ _ _ _ _ _ _ _ _ _ _ _ _› ‹HST _ _ _ _› (by omega) (by omega) (Or.inr (sgq_t (C := 125) ‹SGQ _ _ _ _ _› (by omega) (by omega)))
def o_Mo_groupItem_at_k1_23 : or_T := (200, 14, [(0, (2, 0, 0, [165])), (1, (0, 0, 7, [])), (2, (0, 1, 1, [])), (3, (0, 0, 2000, [])), (5, (0, 0, 7, [])), (7, (0, 0, 7, [])), (10, (0, 0, 0, [])), (11, (0, 125, 125, [])), (12, (0, 1, 1, []))], [(8, [12], [1]), (20, [4, 11, 12], [60, 3, 0, 963, 8, 12, 14]), (9, [10, 4], [8]), (20, [4, 4], [30, 0, 1, 1, 15, -1, 1, 11]), (20, [4], [50, 3, 0, 12, 11, 15, 2, 21, 4, 7, 1, 3, 2, 0, 12, 0, 1, 0, 3, 2, 0, 11, 4, 3, 2, 0, 15, 0, 8, 3, 7, 1, 3, 2, 0, 12, 0, 0, 0, 7, 4, 3, 2, 0, 15, 0, 1, 2, 0, 11]), (20, [3, 4], [30, 0, 1, 0, 0, -1, 1, 11]), (20, [4, 3], [50, 2, 0, 8, 11, 3, 7, 0, 2, 0, 1, 2, 0, 8, 0, 6, 4, 2, 1, 1, 0, 1, 2, 0, 11]), (20, [7, 4], [50, 1, 1, 1005, 1002, 0, 6, 4, 2, 1, 0, 0, 1, 3, 1, 2, 4, 3, 2, 1, 5, 0, 2]), (20, [4, 7, 6], [60, 9, 2, 1023, 10, 11, 12, 13, 14, 15, 8, 9, 5, 1, 2]), (20, [4, 7, 5], [60, 1, 1, 1028, 10, 1]), (24, [0, 4], []), (24, [1, 5], []), (24, [2, 6], [])], [], [(0, 0, 2000, []), (0, 0, 7, []), (0, 0, 4, [])], [(23, [14, 3], [0, 1, -1]), (23, [14, 3], [0, -1, 1]), (23, [15, 5], [0, 1, -1]), (23, [15, 5], [0, -1, 1]), (23, [16, 6], [0, 1, -1]), (23, [16, 6], [0, -1, 1]), (20, [4, 4], [30, 0, 1, 1, 15, -1, 1, 11]), (20, [4], [50, 3, 0, 12, 11, 15, 2, 21, 4, 7, 1, 3, 2, 0, 12, 0, 1, 0, 3, 2, 0, 11, 4, 3, 2, 0, 15, 0, 8, 3, 7, 1, 3, 2, 0, 12, 0, 0, 0, 7, 4, 3, 2, 0, 15, 0, 1, 2, 0, 11]), (20, [14, 4], [30, 0, 1, 0, 0, -1, 1, 11]), (20, [4, 14], [50, 3, 0, 8, 12, 11, 3, 7, 0, 2, 0, 1, 2, 0, 8, 3, 7, 1, 3, 2, 0, 12, 0, 0, 0, 6, 4, 2, 1, 1, 0, 1, 2, 0, 11]), (20, [4, 15, 16], [60, 9, 2, 1022, 10, 11, 12, 13, 14, 15, 8, 9, 5, 1, 2])], [], [(1, 5, -4294967296, 0), (5, 1, -4294967296, 0)])
theorem oo_Mo_groupItem_at_k1_23 {kA : Nat → ClassId} : or_ok PRD kA GG o_Mo_groupItem_at_k1_23 := by
  refine or_mk fun A ta ws vs hD hth hl => ?_
  intro t0 r0 t1 k1 t2 k2 t3 k3 t5 k5 t7 k7 t10 k10 t11 k11 t12 k12 d0 d1 f0 f2 f4 f5 f6 f7 f8 f9 f12 f13 f14 f15 f16
  replace f0 := shm_142 f0
  replace f2 := shm_731 f2
  replace f4 := shm_293 f4
  replace f5 := shm_1437 f5
  replace f6 := shm_1438 f6
  replace f7 := shm_1431 f7
  replace f8 := shm_1726 f8
  replace f9 := shm_1009 f9
  replace f12 := shm_1730 f12
  replace f13 := shm_2176 f13
  replace f14 := shm_5 f14
  replace f15 := shm_5 f15
  replace f16 := shm_5 f16
  have q4 : n_v vs 4 = n_v vs 0 := f14.symm
  have q5 : n_v vs 5 = n_v vs 1 := f15.symm
  have q6 : n_v vs 6 = n_v vs 2 := f16.symm
  simp only [q4, q5, q6] at f2 f4 f5 f6 f7 f8 f9 f12 f13
  have g4 : v_iv (n_v vs 10) = w_fi ws (n_v vs 0) 8 := congrArg v_iv f4
  have kz_0_8 := fdq_34 hD hth r0
  have kz_0_9 := fdq_44 hD hth r0
  have kz_0_10 := fdq_43 hD hth r0
  have kz_0_11 := fdq_237 hD hth r0
  have kz_0_12 := fdq_187 hD hth r0
  have kz_0_13 := fdq_238 hD hth r0
  have kz_0_14 := fdq_188 hD hth r0
  have kz_0_15 := fdq_239 hD hth r0
  obtain ⟨x, ex, hx⟩ := iv_ex (ta := ta) (lo := 0) (hi := 2000) (z := v_iv (n_v vs 3)) (by omega) (by omega) (by omega) (by omega)
  have ex2 : v_iv (Value.int x) = v_iv (n_v vs 3) := ex
  have ex3 : 0 ≤ v_iv (Value.int x) ∧ v_iv (Value.int x) ≤ 2000 := tv_rng hx
  obtain ⟨y, ey, hy⟩ := iv_ex (ta := ta) (lo := 0) (hi := 7) (z := v_iv (n_v vs 1)) (by omega) (by omega) (by omega) (by omega)
  have ey2 : v_iv (Value.int y) = v_iv (n_v vs 1) := ey
  have ey3 : 0 ≤ v_iv (Value.int y) ∧ v_iv (Value.int y) ≤ 7 := tv_rng hy
  obtain ⟨u, eu, hu⟩ := iv_ex (ta := ta) (lo := 0) (hi := 4) (z := v_iv (n_v vs 2)) (by omega) (by omega) (by omega) (by omega)
  have eu2 : v_iv (Value.int u) = v_iv (n_v vs 2) := eu
  have eu3 : 0 ≤ v_iv (Value.int u) ∧ v_iv (Value.int u) ≤ 4 := tv_rng hu
  have e_3 : n_v (vs ++ [Value.int x, Value.int y, Value.int u]) 3 = n_v vs 3 := n_v_old (by rw [hl]; decide)
  have e_4 : n_v (vs ++ [Value.int x, Value.int y, Value.int u]) 4 = n_v vs 4 := n_v_old (by rw [hl]; decide)
  have e_5 : n_v (vs ++ [Value.int x, Value.int y, Value.int u]) 5 = n_v vs 5 := n_v_old (by rw [hl]; decide)
  have e_6 : n_v (vs ++ [Value.int x, Value.int y, Value.int u]) 6 = n_v vs 6 := n_v_old (by rw [hl]; decide)
  have e_14 : n_v (vs ++ [Value.int x, Value.int y, Value.int u]) 14 = Value.int x := n_v_newk (k := 0) hl rfl
  have e_15 : n_v (vs ++ [Value.int x, Value.int y, Value.int u]) 15 = Value.int y := n_v_newk (k := 1) hl rfl
  have e_16 : n_v (vs ++ [Value.int x, Value.int y, Value.int u]) 16 = Value.int u := n_v_newk (k := 2) hl rfl
  have nf0 : fc_1 PRD (23, [14, 3], [0, 1, -1]) ws (vs ++ [Value.int x, Value.int y, Value.int u]) := by
    refine ⟨nf_inA hl rfl, sgq_7 ?_⟩
    · show 1 * v_iv (n_v (vs ++ [Value.int x, Value.int y, Value.int u]) 14) + ((-1) * v_iv (n_v (vs ++ [Value.int x, Value.int y, Value.int u]) 3) + 0) ≤ 0
      simp only [e_3, e_14]
      exact vc_Mo_groupItem_at_k1_23_0 (v_iv (n_v vs 3)) (w_fi ws (n_v vs 0) 5) (v_iv (Value.int x)) k3 ex2
  have nf1 : fc_1 PRD (23, [14, 3], [0, -1, 1]) ws (vs ++ [Value.int x, Value.int y, Value.int u]) := by
    refine ⟨nf_inA hl rfl, sgq_22 ?_⟩
    · show (-1) * v_iv (n_v (vs ++ [Value.int x, Value.int y, Value.int u]) 14) + (1 * v_iv (n_v (vs ++ [Value.int x, Value.int y, Value.int u]) 3) + 0) ≤ 0
      simp only [e_3, e_14]
      exact vc_Mo_groupItem_at_k1_23_1 (v_iv (n_v vs 3)) (w_fi ws (n_v vs 0) 5) (v_iv (Value.int x)) k3 ex2
  have nf2 : fc_1 PRD (23, [15, 5], [0, 1, -1]) ws (vs ++ [Value.int x, Value.int y, Value.int u]) := by
    refine ⟨nf_inA hl rfl, sgq_7 ?_⟩
    · show 1 * v_iv (n_v (vs ++ [Value.int x, Value.int y, Value.int u]) 15) + ((-1) * v_iv (n_v (vs ++ [Value.int x, Value.int y, Value.int u]) 5) + 0) ≤ 0
      simp only [e_5, e_15, q5]
      exact vc_Mo_groupItem_at_k1_23_2 (v_iv (n_v vs 1)) (v_iv (n_v vs 5)) (w_fi ws (n_v vs 0) 5) (v_iv (Value.int y)) k1 k5 d0 d1 ey2
  have nf3 : fc_1 PRD (23, [15, 5], [0, -1, 1]) ws (vs ++ [Value.int x, Value.int y, Value.int u]) := by
    refine ⟨nf_inA hl rfl, sgq_22 ?_⟩
    · show (-1) * v_iv (n_v (vs ++ [Value.int x, Value.int y, Value.int u]) 15) + (1 * v_iv (n_v (vs ++ [Value.int x, Value.int y, Value.int u]) 5) + 0) ≤ 0
      simp only [e_5, e_15, q5]
      exact vc_Mo_groupItem_at_k1_23_3 (v_iv (n_v vs 1)) (v_iv (n_v vs 5)) (w_fi ws (n_v vs 0) 5) (v_iv (Value.int y)) k1 k5 d0 d1 ey2
  have nf4 : fc_1 PRD (23, [16, 6], [0, 1, -1]) ws (vs ++ [Value.int x, Value.int y, Value.int u]) := by
    refine ⟨nf_inA hl rfl, sgq_7 ?_⟩
    · show 1 * v_iv (n_v (vs ++ [Value.int x, Value.int y, Value.int u]) 16) + ((-1) * v_iv (n_v (vs ++ [Value.int x, Value.int y, Value.int u]) 6) + 0) ≤ 0
      simp only [e_6, e_16, q6]
      exact vc_Mo_groupItem_at_k1_23_4 (v_iv (n_v vs 2)) (w_fi ws (n_v vs 0) 5) (v_iv (Value.int u)) k2 eu2
  have nf5 : fc_1 PRD (23, [16, 6], [0, -1, 1]) ws (vs ++ [Value.int x, Value.int y, Value.int u]) := by
    refine ⟨nf_inA hl rfl, sgq_22 ?_⟩
    · show (-1) * v_iv (n_v (vs ++ [Value.int x, Value.int y, Value.int u]) 16) + (1 * v_iv (n_v (vs ++ [Value.int x, Value.int y, Value.int u]) 6) + 0) ≤ 0
      simp only [e_6, e_16, q6]
      exact vc_Mo_groupItem_at_k1_23_5 (v_iv (n_v vs 2)) (w_fi ws (n_v vs 0) 5) (v_iv (Value.int u)) k2 eu2
  have nf6 : fc_1 PRD (20, [4, 4], [30, 0, 1, 1, 15, -1, 1, 11]) ws (vs ++ [Value.int x, Value.int y, Value.int u]) := by
    refine ⟨nf_inA hl rfl, sgq_1437 ?_⟩
    · show 1 * w_fi ws (n_v (vs ++ [Value.int x, Value.int y, Value.int u]) 4) 15 + ((-1) * w_fi ws (n_v (vs ++ [Value.int x, Value.int y, Value.int u]) 4) 11 + 0) ≤ 0
      simp only [e_4, q4]
      exact vc_Mo_groupItem_at_k1_23_6 (w_fi ws (n_v vs 0) 15) (w_fi ws (n_v vs 0) 11) (w_fi ws (n_v vs 0) 5) f5 kz_0_11 kz_0_15
  have nf7 : fc_1 PRD (20, [4], [50, 3, 0, 12, 11, 15, 2, 21, 4, 7, 1, 3, 2, 0, 12, 0, 1, 0, 3, 2, 0, 11, 4, 3, 2, 0, 15, 0, 8, 3, 7, 1, 3, 2, 0, 12, 0, 0, 0, 7, 4, 3, 2, 0, 15, 0, 1, 2, 0, 11]) ws (vs ++ [Value.int x, Value.int y, Value.int u]) := by
    refine ⟨nf_inA hl rfl, sgq_1438 ?_⟩
    · show ((w_fi ws (n_v (vs ++ [Value.int x, Value.int y, Value.int u]) 4) 12 = 1) → (w_fi ws (n_v (vs ++ [Value.int x, Value.int y, Value.int u]) 4) 11 ≤ (w_fi ws (n_v (vs ++ [Value.int x, Value.int y, Value.int u]) 4) 15 + 8))) ∧ ((w_fi ws (n_v (vs ++ [Value.int x, Value.int y, Value.int u]) 4) 12 = 0) ∨ ((w_fi ws (n_v (vs ++ [Value.int x, Value.int y, Value.int u]) 4) 15 + 1) ≤ w_fi ws (n_v (vs ++ [Value.int x, Value.int y, Value.int u]) 4) 11))
      simp only [e_4, q4]
      exact vc_Mo_groupItem_at_k1_23_7 (w_fi ws (n_v vs 0) 12) (w_fi ws (n_v vs 0) 15) (w_fi ws (n_v vs 0) 11) (w_fi ws (n_v vs 0) 5) f6 kz_0_11 kz_0_12 kz_0_15
  have nf8 : fc_1 PRD (20, [14, 4], [30, 0, 1, 0, 0, -1, 1, 11]) ws (vs ++ [Value.int x, Value.int y, Value.int u]) := by
    refine ⟨nf_inA hl rfl, sgq_1431 ?_⟩
    · show 1 * v_iv (n_v (vs ++ [Value.int x, Value.int y, Value.int u]) 14) + ((-1) * w_fi ws (n_v (vs ++ [Value.int x, Value.int y, Value.int u]) 4) 11 + 0) ≤ 0
      simp only [e_4, e_14, q4]
      exact vc_Mo_groupItem_at_k1_23_8 (v_iv (n_v vs 3)) (w_fi ws (n_v vs 0) 11) (w_fi ws (n_v vs 0) 5) (v_iv (Value.int x)) k3 f7 kz_0_11 ex2
  have nf9 : fc_1 PRD (20, [4, 14], [50, 3, 0, 8, 12, 11, 3, 7, 0, 2, 0, 1, 2, 0, 8, 3, 7, 1, 3, 2, 0, 12, 0, 0, 0, 6, 4, 2, 1, 1, 0, 1, 2, 0, 11]) ws (vs ++ [Value.int x, Value.int y, Value.int u]) := by
    refine ⟨nf_inA hl rfl, sgq_1722 ?_⟩
    · show (1 ≤ w_fi ws (n_v (vs ++ [Value.int x, Value.int y, Value.int u]) 4) 8) ∨ ((w_fi ws (n_v (vs ++ [Value.int x, Value.int y, Value.int u]) 4) 12 = 0) ∨ ((v_iv (n_v (vs ++ [Value.int x, Value.int y, Value.int u]) 14) + 1) ≤ w_fi ws (n_v (vs ++ [Value.int x, Value.int y, Value.int u]) 4) 11))
      simp only [e_4, e_14, q4]
      exact vc_Mo_groupItem_at_k1_23_9 (v_iv (n_v vs 3)) (v_iv (n_v vs 10)) (w_fi ws (n_v vs 0) 12) (w_fi ws (n_v vs 0) 8) (w_fi ws (n_v vs 0) 11) (w_fi ws (n_v vs 0) 5) (v_iv (Value.int x)) k3 k10 g4 f7 f8 kz_0_8 kz_0_11 kz_0_12 ex2
  have nf10 : fc_1 PRD (20, [4, 15, 16], [60, 9, 2, 1022, 10, 11, 12, 13, 14, 15, 8, 9, 5, 1, 2]) ws (vs ++ [Value.int x, Value.int y, Value.int u]) := by
    refine ⟨nf_inA hl rfl, sgq_1723 ?_⟩
    · show zNc (w_fi ws (n_v (vs ++ [Value.int x, Value.int y, Value.int u]) 4) 10) (w_fi ws (n_v (vs ++ [Value.int x, Value.int y, Value.int u]) 4) 11) (w_fi ws (n_v (vs ++ [Value.int x, Value.int y, Value.int u]) 4) 12) (w_fi ws (n_v (vs ++ [Value.int x, Value.int y, Value.int u]) 4) 13) (w_fi ws (n_v (vs ++ [Value.int x, Value.int y, Value.int u]) 4) 14) (w_fi ws (n_v (vs ++ [Value.int x, Value.int y, Value.int u]) 4) 15) (w_fi ws (n_v (vs ++ [Value.int x, Value.int y, Value.int u]) 4) 8) (w_fi ws (n_v (vs ++ [Value.int x, Value.int y, Value.int u]) 4) 9) (w_fi ws (n_v (vs ++ [Value.int x, Value.int y, Value.int u]) 4) 5) (w_ei ws (w_ar ws (n_v (vs ++ [Value.int x, Value.int y, Value.int u]) 4) 1)) (w_ei ws (w_ar ws (n_v (vs ++ [Value.int x, Value.int y, Value.int u]) 4) 2)) (v_iv (n_v (vs ++ [Value.int x, Value.int y, Value.int u]) 15)) (v_iv (n_v (vs ++ [Value.int x, Value.int y, Value.int u]) 16))
      simp only [e_4, e_15, e_16, q4]
      exact vc_Mo_groupItem_at_k1_23_10 (v_iv (n_v vs 1)) (v_iv (n_v vs 2)) (v_iv (n_v vs 3)) (v_iv (n_v vs 7)) (v_iv (n_v vs 10)) (v_iv (n_v vs 11)) (v_iv (n_v vs 12)) (w_fi ws (n_v vs 0) 12) (w_fi ws (n_v vs 0) 8) (w_fi ws (n_v vs 0) 14) (w_fi ws (n_v vs 0) 15) (w_fi ws (n_v vs 0) 11) (w_ei ws (w_ar ws (n_v vs 0) 2)) (w_fi ws (n_v vs 0) 5) (w_ei ws (w_ar ws (n_v vs 0) 1)) (w_fi ws (n_v vs 0) 10) (w_fi ws (n_v vs 0) 13) (w_fi ws (n_v vs 0) 9) (v_iv (Value.int x)) (v_iv (Value.int y)) (v_iv (Value.int u)) k1 k2 k3 k7 k10 k11 k12 f0 f2 g4 f9 f12 f13 kz_0_8 kz_0_9 kz_0_10 kz_0_11 kz_0_12 kz_0_13 kz_0_14 kz_0_15 ex2 ey2 eu2 eu3
  exact ⟨(fun _ h => (by cases h)), [Value.int x, Value.int y, Value.int u], ag_three hx hy hu, List.forall_mem_cons.mpr ⟨⟨show (23 : Nat) < 100 from by decide, nf0⟩, List.forall_mem_cons.mpr ⟨⟨show (23 : Nat) < 100 from by decide, nf1⟩, List.forall_mem_cons.mpr ⟨⟨show (23 : Nat) < 100 from by decide, nf2⟩, List.forall_mem_cons.mpr ⟨⟨show (23 : Nat) < 100 from by decide, nf3⟩, List.forall_mem_cons.mpr ⟨⟨show (23 : Nat) < 100 from by decide, nf4⟩, List.forall_mem_cons.mpr ⟨⟨show (23 : Nat) < 100 from by decide, nf5⟩, List.forall_mem_cons.mpr ⟨⟨show (20 : Nat) < 100 from by decide, nf6⟩, List.forall_mem_cons.mpr ⟨⟨show (20 : Nat) < 100 from by decide, nf7⟩, List.forall_mem_cons.mpr ⟨⟨show (20 : Nat) < 100 from by decide, nf8⟩, List.forall_mem_cons.mpr ⟨⟨show (20 : Nat) < 100 from by decide, nf9⟩, List.forall_mem_cons.mpr ⟨⟨show (20 : Nat) < 100 from by decide, nf10⟩, (fun _ h => (by cases h))⟩⟩⟩⟩⟩⟩⟩⟩⟩⟩⟩, (fun _ h => (by cases h))⟩
set_option maxHeartbeats 4000000 in
theorem vc_Mo_groupItem_at_k1_24_0 (r_0 : Int) (from_0 : Int) (pos_0 : Int) (f13 : 1 * from_0 + ((-1) * pos_0 + 0) ≤ 0) (kz_0_11 : 0 ≤ pos_0 ∧ pos_0 ≤ 2000) (kz_0_15 : 0 ≤ from_0 ∧ from_0 ≤ 2000) : 1 * from_0 + ((-1) * pos_0 + 0) ≤ 0 := by
  first
    | omega
    | (have q1 := (hE_0_2_1 (r_0 + 2) (by omega)).2 (by omega)
       have q2 := (hE_0_2_2 (r_0 + 2) (by omega)).2 (by omega)
       omega)
    | (have q1 := (hE_0_2_1 (r_0 + 1) (by omega)).2 (by omega)
       have q2 := (hE_0_2_2 (r_0 + 1) (by omega)).2 (by omega)
       omega)
    | (have q1 := (hE_0_2_1 (r_0 + 2) (by omega)).2 (by omega)
       omega)
    | (have q1 := (hE_0_2_1 (r_0 + 1) (by omega)).2 (by omega)
       omega)
    | (have q1 := (hE_0_2_1 (r_0 + 2) (by omega)).2 (by omega)
       have q2 := (hE_0_2_2 (r_0 + 2) (by omega)).2 (by omega)
       have q3 := (hE_0_2_3 (r_0 + 2) (by omega)).1 (by omega)
       omega)
    | (have q1 := (hE_0_2_1 (r_0 + 2) (by omega)).2 (by omega)
       have q2 := (hE_0_2_2 (r_0 + 2) (by omega)).2 (by omega)
       have q3 := (hE_0_2_3 (r_0 + 2) (by omega)).2 (by omega)
       omega)
    | (have q1 := (hE_0_2_1 (r_0 + 2) (by omega)).2 (by omega)
       have q2 := (hE_0_2_2 (r_0 + 2) (by omega)).2 (by omega)
       have q3 := (hE_0_2_3 (r_0 + 2) (by omega)).1 (by omega)
       have q4 : x13 = r_0 + 2 := by omega
       simp only [q4] at *
       omega)
set_option maxHeartbeats 4000000 in
theorem vc_Mo_groupItem_at_k1_24_1 (r_0 : Int) (from_0 : Int) (pos_0 : Int) (kind_0 : Int) (f14 : ((kind_0 = 1) → (pos_0 ≤ (from_0 + 8))) ∧ ((kind_0 = 0) ∨ ((from_0 + 1) ≤ pos_0))) (kz_0_11 : 0 ≤ pos_0 ∧ pos_0 ≤ 2000) (kz_0_12 : 0 ≤ kind_0 ∧ kind_0 ≤ 4) (kz_0_15 : 0 ≤ from_0 ∧ from_0 ≤ 2000) : ((kind_0 = 1) → (pos_0 ≤ (from_0 + 8))) ∧ ((kind_0 = 0) ∨ ((from_0 + 1) ≤ pos_0)) := by
  first
    | omega
    | (have q1 := (hE_0_2_1 (r_0 + 2) (by omega)).2 (by omega)
       have q2 := (hE_0_2_2 (r_0 + 2) (by omega)).2 (by omega)
       omega)
    | (have q1 := (hE_0_2_1 (r_0 + 1) (by omega)).2 (by omega)
       have q2 := (hE_0_2_2 (r_0 + 1) (by omega)).2 (by omega)
       omega)
    | (have q1 := (hE_0_2_1 (r_0 + 2) (by omega)).2 (by omega)
       omega)
    | (have q1 := (hE_0_2_1 (r_0 + 1) (by omega)).2 (by omega)
       omega)
    | (have q1 := (hE_0_2_1 (r_0 + 2) (by omega)).2 (by omega)
       have q2 := (hE_0_2_2 (r_0 + 2) (by omega)).2 (by omega)
       have q3 := (hE_0_2_3 (r_0 + 2) (by omega)).1 (by omega)
       omega)
    | (have q1 := (hE_0_2_1 (r_0 + 2) (by omega)).2 (by omega)
       have q2 := (hE_0_2_2 (r_0 + 2) (by omega)).2 (by omega)
       have q3 := (hE_0_2_3 (r_0 + 2) (by omega)).2 (by omega)
       omega)
    | (have q1 := (hE_0_2_1 (r_0 + 2) (by omega)).2 (by omega)
       have q2 := (hE_0_2_2 (r_0 + 2) (by omega)).2 (by omega)
       have q3 := (hE_0_2_3 (r_0 + 2) (by omega)).1 (by omega)
       have q4 : x13 = r_0 + 2 := by omega
       simp only [q4] at *
       omega)
set_option maxHeartbeats 4000000 in
theorem vc_Mo_groupItem_at_k1_24_2 (x3 : Int) (x14 : Int) (r_0 : Int) (pos_0 : Int) (k3 : 0 ≤ x3 ∧ x3 ≤ 2000) (k14 : 0 ≤ x14 ∧ x14 ≤ 2000) (f0 : 1 * x14 + ((-1) * x3 + 0) ≤ 0) (f1 : (-1) * x14 + (1 * x3 + 0) ≤ 0) (f15 : 1 * x14 + ((-1) * pos_0 + 0) ≤ 0) (kz_0_11 : 0 ≤ pos_0 ∧ pos_0 ≤ 2000) : 1 * x3 + ((-1) * pos_0 + 0) ≤ 0 := by
  first
    | omega
    | (have q1 := (hE_0_2_1 (r_0 + 2) (by omega)).2 (by omega)
       have q2 := (hE_0_2_2 (r_0 + 2) (by omega)).2 (by omega)
       omega)
    | (have q1 := (hE_0_2_1 (r_0 + 1) (by omega)).2 (by omega)
       have q2 := (hE_0_2_2 (r_0 + 1) (by omega)).2 (by omega)
       omega)
    | (have q1 := (hE_0_2_1 (r_0 + 2) (by omega)).2 (by omega)
       omega)
    | (have q1 := (hE_0_2_1 (r_0 + 1) (by omega)).2 (by omega)
       omega)
    | (have q1 := (hE_0_2_1 (r_0 + 2) (by omega)).2 (by omega)
       have q2 := (hE_0_2_2 (r_0 + 2) (by omega)).2 (by omega)
       have q3 := (hE_0_2_3 (r_0 + 2) (by omega)).1 (by omega)
       omega)
    | (have q1 := (hE_0_2_1 (r_0 + 2) (by omega)).2 (by omega)
       have q2 := (hE_0_2_2 (r_0 + 2) (by omega)).2 (by omega)
       have q3 := (hE_0_2_3 (r_0 + 2) (by omega)).2 (by omega)
       omega)
    | (have q1 := (hE_0_2_1 (r_0 + 2) (by omega)).2 (by omega)
       have q2 := (hE_0_2_2 (r_0 + 2) (by omega)).2 (by omega)
       have q3 := (hE_0_2_3 (r_0 + 2) (by omega)).1 (by omega)
       have q4 : x13 = r_0 + 2 := by omega
       simp only [q4] at *
       omega)
set_option maxHeartbeats 4000000 in
theorem vc_Mo_groupItem_at_k1_24_3 (x3 : Int) (x14 : Int) (r_0 : Int) (pos_0 : Int) (fault_0 : Int) (k3 : 0 ≤ x3 ∧ x3 ≤ 2000) (k14 : 0 ≤ x14 ∧ x14 ≤ 2000) (f0 : 1 * x14 + ((-1) * x3 + 0) ≤ 0) (f1 : (-1) * x14 + (1 * x3 + 0) ≤ 0) (f15 : 1 * x14 + ((-1) * pos_0 + 0) ≤ 0) (f16 : (1 ≤ fault_0) ∨ ((x14 + 1) ≤ pos_0)) (kz_0_8 : 0 ≤ fault_0 ∧ fault_0 ≤ 5) (kz_0_11 : 0 ≤ pos_0 ∧ pos_0 ≤ 2000) : (1 ≤ fault_0) ∨ ((x3 + 1) ≤ pos_0) := by
  first
    | omega
    | (have q1 := (hE_0_2_1 (r_0 + 2) (by omega)).2 (by omega)
       have q2 := (hE_0_2_2 (r_0 + 2) (by omega)).2 (by omega)
       omega)
    | (have q1 := (hE_0_2_1 (r_0 + 1) (by omega)).2 (by omega)
       have q2 := (hE_0_2_2 (r_0 + 1) (by omega)).2 (by omega)
       omega)
    | (have q1 := (hE_0_2_1 (r_0 + 2) (by omega)).2 (by omega)
       omega)
    | (have q1 := (hE_0_2_1 (r_0 + 1) (by omega)).2 (by omega)
       omega)
    | (have q1 := (hE_0_2_1 (r_0 + 2) (by omega)).2 (by omega)
       have q2 := (hE_0_2_2 (r_0 + 2) (by omega)).2 (by omega)
       have q3 := (hE_0_2_3 (r_0 + 2) (by omega)).1 (by omega)
       omega)
    | (have q1 := (hE_0_2_1 (r_0 + 2) (by omega)).2 (by omega)
       have q2 := (hE_0_2_2 (r_0 + 2) (by omega)).2 (by omega)
       have q3 := (hE_0_2_3 (r_0 + 2) (by omega)).2 (by omega)
       omega)
    | (have q1 := (hE_0_2_1 (r_0 + 2) (by omega)).2 (by omega)
       have q2 := (hE_0_2_2 (r_0 + 2) (by omega)).2 (by omega)
       have q3 := (hE_0_2_3 (r_0 + 2) (by omega)).1 (by omega)
       have q4 : x13 = r_0 + 2 := by omega
       simp only [q4] at *
       omega)
set_option maxHeartbeats 4000000 in
theorem vc_Mo_groupItem_at_k1_24_4 (x1 : Int) (x5 : Int) (x7 : Int) (x15 : Int) (all_0 : Int → Int) (r_0 : Int) (k1 : 0 ≤ x1 ∧ x1 ≤ 7) (k5 : 0 ≤ x5 ∧ x5 ≤ 7) (k7 : 0 ≤ x7 ∧ x7 ≤ 7) (k15 : 0 ≤ x15 ∧ x15 ≤ 7) (d0 : x5 + (-4294967296) ≤ x1 ∧ x1 ≤ x5 + 0) (d1 : x1 + (-4294967296) ≤ x5 ∧ x5 ≤ x1 + 0) (f2 : 1 * x15 + ((-1) * x1 + 0) ≤ 0) (f3 : (-1) * x15 + (1 * x1 + 0) ≤ 0) (f6 : (x7 + 1) ≤ all_0 ((r_0 + 2))) (f7 : 1 * x1 + ((-1) * x7 + 0) ≤ (-1)) : (x1 + 1) ≤ all_0 ((r_0 + 2)) := by
  first
    | omega
    | (have q1 := (hE_0_2_1 (r_0 + 2) (by omega)).2 (by omega)
       have q2 := (hE_0_2_2 (r_0 + 2) (by omega)).2 (by omega)
       omega)
    | (have q1 := (hE_0_2_1 (r_0 + 1) (by omega)).2 (by omega)
       have q2 := (hE_0_2_2 (r_0 + 1) (by omega)).2 (by omega)
       omega)
    | (have q1 := (hE_0_2_1 (r_0 + 2) (by omega)).2 (by omega)
       omega)
    | (have q1 := (hE_0_2_1 (r_0 + 1) (by omega)).2 (by omega)
       omega)
    | (have q1 := (hE_0_2_1 (r_0 + 2) (by omega)).2 (by omega)
       have q2 := (hE_0_2_2 (r_0 + 2) (by omega)).2 (by omega)
       have q3 := (hE_0_2_3 (r_0 + 2) (by omega)).1 (by omega)
       omega)
    | (have q1 := (hE_0_2_1 (r_0 + 2) (by omega)).2 (by omega)
       have q2 := (hE_0_2_2 (r_0 + 2) (by omega)).2 (by omega)
       have q3 := (hE_0_2_3 (r_0 + 2) (by omega)).2 (by omega)
       omega)
    | (have q1 := (hE_0_2_1 (r_0 + 2) (by omega)).2 (by omega)
       have q2 := (hE_0_2_2 (r_0 + 2) (by omega)).2 (by omega)
       have q3 := (hE_0_2_3 (r_0 + 2) (by omega)).1 (by omega)
       have q4 : x13 = r_0 + 2 := by omega
       simp only [q4] at *
       omega)
set_option maxHeartbeats 4000000 in
theorem vc_Mo_groupItem_at_k1_24_5 (all_0 : Int → Int) (r_0 : Int) (now_0 : Int → Int) (latest_0 : Int → Int) (f8 : RWS (r_0) (all_0) (now_0) (latest_0)) : RWS (r_0) (all_0) (now_0) (latest_0) := by
  first
    | assumption
set_option maxHeartbeats 4000000 in
theorem vc_Mo_groupItem_at_k1_24_6 (x1 : Int) (x2 : Int) (x3 : Int) (x5 : Int) (x14 : Int) (x15 : Int) (x16 : Int) (all_0 : Int → Int) (r_0 : Int) (tape_0 : Int → Int) (limit_0 : Int) (from_0 : Int) (pos_0 : Int) (kind_0 : Int) (fault_0 : Int) (place_0 : Int) (value_0 : Int) (faultPlace_0 : Int) (k1 : 0 ≤ x1 ∧ x1 ≤ 7) (k2 : 1 ≤ x2 ∧ x2 ≤ 1) (k3 : 0 ≤ x3 ∧ x3 ≤ 2000) (k5 : 0 ≤ x5 ∧ x5 ≤ 7) (k14 : 0 ≤ x14 ∧ x14 ≤ 2000) (k15 : 0 ≤ x15 ∧ x15 ≤ 7) (k16 : 0 ≤ x16 ∧ x16 ≤ 4) (d0 : x5 + (-4294967296) ≤ x1 ∧ x1 ≤ x5 + 0) (d1 : x1 + (-4294967296) ≤ x5 ∧ x5 ≤ x1 + 0) (f0 : 1 * x14 + ((-1) * x3 + 0) ≤ 0) (f1 : (-1) * x14 + (1 * x3 + 0) ≤ 0) (f2 : 1 * x15 + ((-1) * x1 + 0) ≤ 0) (f3 : (-1) * x15 + (1 * x1 + 0) ≤ 0) (f4 : 1 * x16 + ((-1) * x2 + 0) ≤ 0) (f5 : (-1) * x16 + (1 * x2 + 0) ≤ 0) (f17 : zOS0 (limit_0) (pos_0) (kind_0) (place_0) (value_0) (from_0) (fault_0) (faultPlace_0) (r_0) (tape_0) (all_0) (x15) (x16)) (kz_0_8 : 0 ≤ fault_0 ∧ fault_0 ≤ 5) (kz_0_9 : 0 ≤ faultPlace_0 ∧ faultPlace_0 ≤ 2000) (kz_0_10 : 0 ≤ limit_0 ∧ limit_0 ≤ 2000) (kz_0_11 : 0 ≤ pos_0 ∧ pos_0 ≤ 2000) (kz_0_12 : 0 ≤ kind_0 ∧ kind_0 ≤ 4) (kz_0_13 : 0 ≤ place_0 ∧ place_0 ≤ 2000) (kz_0_14 : (-49) ≤ value_0 ∧ value_0 ≤ 1048575) (kz_0_15 : 0 ≤ from_0 ∧ from_0 ≤ 2000) : zOS0 (limit_0) (pos_0) (kind_0) (place_0) (value_0) (from_0) (fault_0) (faultPlace_0) (r_0) (tape_0) (all_0) (x1) (x2) := by
  first | (have el_x14 : x14 = x3 := by omega); subst el_x14 | skip
  first | (have el_x15 : x15 = x1 := by omega); subst el_x15 | skip
  first | (have el_x16 : x16 = x2 := by omega); subst el_x16 | skip
  first
    | assumption
    | (refine Or.inl (fs_w ?_ ?_ (by assumption)) <;> assumption)
def o_Mo_groupItem_at_k1_24 : or_T := (203, 17, [(0, (2, 0, 0, [165])), (1, (0, 0, 7, [])), (2, (0, 1, 1, [])), (3, (0, 0, 2000, [])), (5, (0, 0, 7, [])), (7, (0, 0, 7, [])), (14, (0, 0, 2000, [])), (15, (0, 0, 7, [])), (16, (0, 0, 4, []))], [(23, [14, 3], [0, 1, -1]), (23, [14, 3], [0, -1, 1]), (23, [15, 5], [0, 1, -1]), (23, [15, 5], [0, -1, 1]), (23, [16, 6], [0, 1, -1]), (23, [16, 6], [0, -1, 1]), (20, [7, 4], [50, 1, 1, 1005, 1002, 0, 6, 4, 2, 1, 0, 0, 1, 3, 1, 2, 4, 3, 2, 1, 5, 0, 2]), (23, [5, 7], [-1, 1, -1]), (20, [4], [60, 1, 3, 199, 5, 2, 3, 4]), (24, [0, 4], []), (24, [1, 5], []), (24, [2, 6], []), (20, [4, 4], [30, 0, 1, 1, 15, -1, 1, 11]), (20, [4], [50, 3, 0, 12, 11, 15, 2, 21, 4, 7, 1, 3, 2, 0, 12, 0, 1, 0, 3, 2, 0, 11, 4, 3, 2, 0, 15, 0, 8, 3, 7, 1, 3, 2, 0, 12, 0, 0, 0, 7, 4, 3, 2, 0, 15, 0, 1, 2, 0, 11]), (20, [14, 4], [30, 0, 1, 0, 0, -1, 1, 11]), (20, [4, 14], [50, 2, 0, 8, 11, 3, 7, 0, 2, 0, 1, 2, 0, 8, 0, 6, 4, 2, 1, 1, 0, 1, 2, 0, 11]), (20, [4, 15, 16], [60, 9, 2, 1007, 10, 11, 12, 13, 14, 15, 8, 9, 5, 1, 2])], [], [], [(20, [0, 0], [30, 0, 1, 1, 15, -1, 1, 11]), (20, [0], [50, 3, 0, 12, 11, 15, 2, 21, 4, 7, 1, 3, 2, 0, 12, 0, 1, 0, 3, 2, 0, 11, 4, 3, 2, 0, 15, 0, 8, 3, 7, 1, 3, 2, 0, 12, 0, 0, 0, 7, 4, 3, 2, 0, 15, 0, 1, 2, 0, 11]), (20, [3, 0], [30, 0, 1, 0, 0, -1, 1, 11]), (20, [0, 3], [50, 2, 0, 8, 11, 3, 7, 0, 2, 0, 1, 2, 0, 8, 0, 6, 4, 2, 1, 1, 0, 1, 2, 0, 11]), (20, [1, 0], [50, 1, 1, 1005, 1002, 0, 6, 4, 2, 1, 0, 0, 1, 3, 1, 2, 4, 3, 2, 1, 5, 0, 2]), (20, [0], [60, 1, 3, 199, 5, 2, 3, 4]), (20, [0, 1, 2], [60, 9, 2, 1007, 10, 11, 12, 13, 14, 15, 8, 9, 5, 1, 2])], [], [(1, 5, -4294967296, 0), (5, 1, -4294967296, 0)])
theorem oo_Mo_groupItem_at_k1_24 {kA : Nat → ClassId} : or_ok PRD kA GG o_Mo_groupItem_at_k1_24 := by
  refine or_mk fun A ta ws vs hD hth hl => ?_
  intro t0 r0 t1 k1 t2 k2 t3 k3 t5 k5 t7 k7 t14 k14 t15 k15 t16 k16 d0 d1 f0 f1 f2 f3 f4 f5 f6 f7 f8 f10 f11 f12 f13 f14 f15 f16 f17
  replace f2 := shm_7 f2
  replace f3 := shm_22 f3
  replace f4 := shm_7 f4
  replace f5 := shm_22 f5
  replace f6 := shm_1009 f6
  replace f7 := shm_193 f7
  replace f8 := shm_980 f8
  replace f10 := shm_5 f10
  replace f11 := shm_5 f11
  replace f12 := shm_5 f12
  replace f13 := shm_1437 f13
  replace f14 := shm_1438 f14
  replace f15 := shm_1431 f15
  replace f16 := shm_1726 f16
  replace f17 := shm_1727 f17
  have q4 : n_v vs 4 = n_v vs 0 := f10.symm
  have q5 : n_v vs 5 = n_v vs 1 := f11.symm
  have q6 : n_v vs 6 = n_v vs 2 := f12.symm
  simp only [q5, q6, q4] at f2 f3 f4 f5 f6 f7 f8 f13 f14 f15 f16 f17
  have kz_0_8 := fdq_34 hD hth r0
  have kz_0_9 := fdq_44 hD hth r0
  have kz_0_10 := fdq_43 hD hth r0
  have kz_0_11 := fdq_237 hD hth r0
  have kz_0_12 := fdq_187 hD hth r0
  have kz_0_13 := fdq_238 hD hth r0
  have kz_0_14 := fdq_188 hD hth r0
  have kz_0_15 := fdq_239 hD hth r0
  have nf0 : fc_1 PRD (20, [0, 0], [30, 0, 1, 1, 15, -1, 1, 11]) ws (vs) := ⟨nf_in hl rfl, sgq_1437 (vc_Mo_groupItem_at_k1_24_0 (w_fi ws (n_v vs 0) 5) (w_fi ws (n_v vs 0) 15) (w_fi ws (n_v vs 0) 11) f13 kz_0_11 kz_0_15)⟩
  have nf1 : fc_1 PRD (20, [0], [50, 3, 0, 12, 11, 15, 2, 21, 4, 7, 1, 3, 2, 0, 12, 0, 1, 0, 3, 2, 0, 11, 4, 3, 2, 0, 15, 0, 8, 3, 7, 1, 3, 2, 0, 12, 0, 0, 0, 7, 4, 3, 2, 0, 15, 0, 1, 2, 0, 11]) ws (vs) := ⟨nf_in hl rfl, sgq_1438 (vc_Mo_groupItem_at_k1_24_1 (w_fi ws (n_v vs 0) 5) (w_fi ws (n_v vs 0) 15) (w_fi ws (n_v vs 0) 11) (w_fi ws (n_v vs 0) 12) f14 kz_0_11 kz_0_12 kz_0_15)⟩
  have nf2 : fc_1 PRD (20, [3, 0], [30, 0, 1, 0, 0, -1, 1, 11]) ws (vs) := ⟨nf_in hl rfl, sgq_1431 (vc_Mo_groupItem_at_k1_24_2 (v_iv (n_v vs 3)) (v_iv (n_v vs 14)) (w_fi ws (n_v vs 0) 5) (w_fi ws (n_v vs 0) 11) k3 k14 (shm_7 f0) (shm_22 f1) f15 kz_0_11)⟩
  have nf3 : fc_1 PRD (20, [0, 3], [50, 2, 0, 8, 11, 3, 7, 0, 2, 0, 1, 2, 0, 8, 0, 6, 4, 2, 1, 1, 0, 1, 2, 0, 11]) ws (vs) := ⟨nf_in hl rfl, sgq_1726 (vc_Mo_groupItem_at_k1_24_3 (v_iv (n_v vs 3)) (v_iv (n_v vs 14)) (w_fi ws (n_v vs 0) 5) (w_fi ws (n_v vs 0) 11) (w_fi ws (n_v vs 0) 8) k3 k14 (shm_7 f0) (shm_22 f1) f15 f16 kz_0_8 kz_0_11)⟩
  have nf4 : fc_1 PRD (20, [1, 0], [50, 1, 1, 1005, 1002, 0, 6, 4, 2, 1, 0, 0, 1, 3, 1, 2, 4, 3, 2, 1, 5, 0, 2]) ws (vs) := ⟨nf_in hl rfl, sgq_1009 (vc_Mo_groupItem_at_k1_24_4 (v_iv (n_v vs 1)) (v_iv (n_v vs 5)) (v_iv (n_v vs 7)) (v_iv (n_v vs 15)) (w_ei ws (w_ar ws (n_v vs 0) 2)) (w_fi ws (n_v vs 0) 5) k1 k5 k7 k15 d0 d1 f2 f3 f6 f7)⟩
  have nf5 : fc_1 PRD (20, [0], [60, 1, 3, 199, 5, 2, 3, 4]) ws (vs) := ⟨nf_in hl rfl, sgq_980 (vc_Mo_groupItem_at_k1_24_5 (w_ei ws (w_ar ws (n_v vs 0) 2)) (w_fi ws (n_v vs 0) 5) (w_ei ws (w_ar ws (n_v vs 0) 3)) (w_ei ws (w_ar ws (n_v vs 0) 4)) f8)⟩
  have nf6 : fc_1 PRD (20, [0, 1, 2], [60, 9, 2, 1007, 10, 11, 12, 13, 14, 15, 8, 9, 5, 1, 2]) ws (vs) := ⟨nf_in hl rfl, sgq_1727 (vc_Mo_groupItem_at_k1_24_6 (v_iv (n_v vs 1)) (v_iv (n_v vs 2)) (v_iv (n_v vs 3)) (v_iv (n_v vs 5)) (v_iv (n_v vs 14)) (v_iv (n_v vs 15)) (v_iv (n_v vs 16)) (w_ei ws (w_ar ws (n_v vs 0) 2)) (w_fi ws (n_v vs 0) 5) (w_ei ws (w_ar ws (n_v vs 0) 1)) (w_fi ws (n_v vs 0) 10) (w_fi ws (n_v vs 0) 15) (w_fi ws (n_v vs 0) 11) (w_fi ws (n_v vs 0) 12) (w_fi ws (n_v vs 0) 8) (w_fi ws (n_v vs 0) 13) (w_fi ws (n_v vs 0) 14) (w_fi ws (n_v vs 0) 9) k1 k2 k3 k5 k14 k15 k16 d0 d1 (shm_7 f0) (shm_22 f1) f2 f3 f4 f5 f17 kz_0_8 kz_0_9 kz_0_10 kz_0_11 kz_0_12 kz_0_13 kz_0_14 kz_0_15)⟩
  refine ⟨(fun _ h => (by cases h)), [], trivial, ?_, (fun _ h => (by cases h))⟩
  rw [List.append_nil]
  exact List.forall_mem_cons.mpr ⟨⟨show (20 : Nat) < 100 from by decide, nf0⟩, List.forall_mem_cons.mpr ⟨⟨show (20 : Nat) < 100 from by decide, nf1⟩, List.forall_mem_cons.mpr ⟨⟨show (20 : Nat) < 100 from by decide, nf2⟩, List.forall_mem_cons.mpr ⟨⟨show (20 : Nat) < 100 from by decide, nf3⟩, List.forall_mem_cons.mpr ⟨⟨show (20 : Nat) < 100 from by decide, nf4⟩, List.forall_mem_cons.mpr ⟨⟨show (20 : Nat) < 100 from by decide, nf5⟩, List.forall_mem_cons.mpr ⟨⟨show (20 : Nat) < 100 from by decide, nf6⟩, (fun _ h => (by cases h))⟩⟩⟩⟩⟩⟩⟩
set_option maxHeartbeats 4000000 in
theorem vc_Mo_groupItem_at_k1_25_0 (from_0 : Int) (pos_0 : Int) (r_0 : Int) (f0 : 1 * from_0 + ((-1) * pos_0 + 0) ≤ 0) (kz_0_11 : 0 ≤ pos_0 ∧ pos_0 ≤ 2000) (kz_0_15 : 0 ≤ from_0 ∧ from_0 ≤ 2000) : 1 * from_0 + ((-1) * pos_0 + 0) ≤ 0 := by
  first
    | omega
    | (have q1 := (hE_0_2_1 (r_0 + 2) (by omega)).2 (by omega)
       have q2 := (hE_0_2_2 (r_0 + 2) (by omega)).2 (by omega)
       omega)
    | (have q1 := (hE_0_2_1 (r_0 + 1) (by omega)).2 (by omega)
       have q2 := (hE_0_2_2 (r_0 + 1) (by omega)).2 (by omega)
       omega)
    | (have q1 := (hE_0_2_1 (r_0 + 2) (by omega)).2 (by omega)
       omega)
    | (have q1 := (hE_0_2_1 (r_0 + 1) (by omega)).2 (by omega)
       omega)
    | (have q1 := (hE_0_2_1 (r_0 + 2) (by omega)).2 (by omega)
       have q2 := (hE_0_2_2 (r_0 + 2) (by omega)).2 (by omega)
       have q3 := (hE_0_2_3 (r_0 + 2) (by omega)).1 (by omega)
       omega)
    | (have q1 := (hE_0_2_1 (r_0 + 2) (by omega)).2 (by omega)
       have q2 := (hE_0_2_2 (r_0 + 2) (by omega)).2 (by omega)
       have q3 := (hE_0_2_3 (r_0 + 2) (by omega)).2 (by omega)
       omega)
    | (have q1 := (hE_0_2_1 (r_0 + 2) (by omega)).2 (by omega)
       have q2 := (hE_0_2_2 (r_0 + 2) (by omega)).2 (by omega)
       have q3 := (hE_0_2_3 (r_0 + 2) (by omega)).1 (by omega)
       have q4 : x13 = r_0 + 2 := by omega
       simp only [q4] at *
       omega)
set_option maxHeartbeats 4000000 in
theorem vc_Mo_groupItem_at_k1_25_1 (from_0 : Int) (pos_0 : Int) (kind_0 : Int) (r_0 : Int) (f1 : ((kind_0 = 1) → (pos_0 ≤ (from_0 + 8))) ∧ ((kind_0 = 0) ∨ ((from_0 + 1) ≤ pos_0))) (kz_0_11 : 0 ≤ pos_0 ∧ pos_0 ≤ 2000) (kz_0_12 : 0 ≤ kind_0 ∧ kind_0 ≤ 4) (kz_0_15 : 0 ≤ from_0 ∧ from_0 ≤ 2000) : ((kind_0 = 1) → (pos_0 ≤ (from_0 + 8))) ∧ ((kind_0 = 0) ∨ ((from_0 + 1) ≤ pos_0)) := by
  first
    | omega
    | (have q1 := (hE_0_2_1 (r_0 + 2) (by omega)).2 (by omega)
       have q2 := (hE_0_2_2 (r_0 + 2) (by omega)).2 (by omega)
       omega)
    | (have q1 := (hE_0_2_1 (r_0 + 1) (by omega)).2 (by omega)
       have q2 := (hE_0_2_2 (r_0 + 1) (by omega)).2 (by omega)
       omega)
    | (have q1 := (hE_0_2_1 (r_0 + 2) (by omega)).2 (by omega)
       omega)
    | (have q1 := (hE_0_2_1 (r_0 + 1) (by omega)).2 (by omega)
       omega)
    | (have q1 := (hE_0_2_1 (r_0 + 2) (by omega)).2 (by omega)
       have q2 := (hE_0_2_2 (r_0 + 2) (by omega)).2 (by omega)
       have q3 := (hE_0_2_3 (r_0 + 2) (by omega)).1 (by omega)
       omega)
    | (have q1 := (hE_0_2_1 (r_0 + 2) (by omega)).2 (by omega)
       have q2 := (hE_0_2_2 (r_0 + 2) (by omega)).2 (by omega)
       have q3 := (hE_0_2_3 (r_0 + 2) (by omega)).2 (by omega)
       omega)
    | (have q1 := (hE_0_2_1 (r_0 + 2) (by omega)).2 (by omega)
       have q2 := (hE_0_2_2 (r_0 + 2) (by omega)).2 (by omega)
       have q3 := (hE_0_2_3 (r_0 + 2) (by omega)).1 (by omega)
       have q4 : x13 = r_0 + 2 := by omega
       simp only [q4] at *
       omega)
set_option maxHeartbeats 4000000 in
theorem vc_Mo_groupItem_at_k1_25_2 (x3 : Int) (pos_0 : Int) (r_0 : Int) (k3 : 0 ≤ x3 ∧ x3 ≤ 2000) (f2 : 1 * x3 + ((-1) * pos_0 + 0) ≤ 0) (kz_0_11 : 0 ≤ pos_0 ∧ pos_0 ≤ 2000) : 1 * x3 + ((-1) * pos_0 + 0) ≤ 0 := by
  first
    | omega
    | (have q1 := (hE_0_2_1 (r_0 + 2) (by omega)).2 (by omega)
       have q2 := (hE_0_2_2 (r_0 + 2) (by omega)).2 (by omega)
       omega)
    | (have q1 := (hE_0_2_1 (r_0 + 1) (by omega)).2 (by omega)
       have q2 := (hE_0_2_2 (r_0 + 1) (by omega)).2 (by omega)
       omega)
    | (have q1 := (hE_0_2_1 (r_0 + 2) (by omega)).2 (by omega)
       omega)
    | (have q1 := (hE_0_2_1 (r_0 + 1) (by omega)).2 (by omega)
       omega)
    | (have q1 := (hE_0_2_1 (r_0 + 2) (by omega)).2 (by omega)
       have q2 := (hE_0_2_2 (r_0 + 2) (by omega)).2 (by omega)
       have q3 := (hE_0_2_3 (r_0 + 2) (by omega)).1 (by omega)
       omega)
    | (have q1 := (hE_0_2_1 (r_0 + 2) (by omega)).2 (by omega)
       have q2 := (hE_0_2_2 (r_0 + 2) (by omega)).2 (by omega)
       have q3 := (hE_0_2_3 (r_0 + 2) (by omega)).2 (by omega)
       omega)
    | (have q1 := (hE_0_2_1 (r_0 + 2) (by omega)).2 (by omega)
       have q2 := (hE_0_2_2 (r_0 + 2) (by omega)).2 (by omega)
       have q3 := (hE_0_2_3 (r_0 + 2) (by omega)).1 (by omega)
       have q4 : x13 = r_0 + 2 := by omega
       simp only [q4] at *
       omega)
set_option maxHeartbeats 4000000 in
theorem vc_Mo_groupItem_at_k1_25_3 (x3 : Int) (pos_0 : Int) (fault_0 : Int) (r_0 : Int) (k3 : 0 ≤ x3 ∧ x3 ≤ 2000) (f3 : (1 ≤ fault_0) ∨ ((x3 + 1) ≤ pos_0)) (kz_0_8 : 0 ≤ fault_0 ∧ fault_0 ≤ 5) (kz_0_11 : 0 ≤ pos_0 ∧ pos_0 ≤ 2000) : (1 ≤ fault_0) ∨ ((x3 + 1) ≤ pos_0) := by
  first
    | omega
    | (have q1 := (hE_0_2_1 (r_0 + 2) (by omega)).2 (by omega)
       have q2 := (hE_0_2_2 (r_0 + 2) (by omega)).2 (by omega)
       omega)
    | (have q1 := (hE_0_2_1 (r_0 + 1) (by omega)).2 (by omega)
       have q2 := (hE_0_2_2 (r_0 + 1) (by omega)).2 (by omega)
       omega)
    | (have q1 := (hE_0_2_1 (r_0 + 2) (by omega)).2 (by omega)
       omega)
    | (have q1 := (hE_0_2_1 (r_0 + 1) (by omega)).2 (by omega)
       omega)
    | (have q1 := (hE_0_2_1 (r_0 + 2) (by omega)).2 (by omega)
       have q2 := (hE_0_2_2 (r_0 + 2) (by omega)).2 (by omega)
       have q3 := (hE_0_2_3 (r_0 + 2) (by omega)).1 (by omega)
       omega)
    | (have q1 := (hE_0_2_1 (r_0 + 2) (by omega)).2 (by omega)
       have q2 := (hE_0_2_2 (r_0 + 2) (by omega)).2 (by omega)
       have q3 := (hE_0_2_3 (r_0 + 2) (by omega)).2 (by omega)
       omega)
    | (have q1 := (hE_0_2_1 (r_0 + 2) (by omega)).2 (by omega)
       have q2 := (hE_0_2_2 (r_0 + 2) (by omega)).2 (by omega)
       have q3 := (hE_0_2_3 (r_0 + 2) (by omega)).1 (by omega)
       have q4 : x13 = r_0 + 2 := by omega
       simp only [q4] at *
       omega)
set_option maxHeartbeats 4000000 in
theorem vc_Mo_groupItem_at_k1_25_4 (x7 : Int) (all_0 : Int → Int) (r_0 : Int) (k7 : 0 ≤ x7 ∧ x7 ≤ 7) (f4 : (x7 + 1) ≤ all_0 ((r_0 + 2))) : (x7 + 1) ≤ all_0 ((r_0 + 2)) := by
  first
    | omega
    | (have q1 := (hE_0_2_1 (r_0 + 2) (by omega)).2 (by omega)
       have q2 := (hE_0_2_2 (r_0 + 2) (by omega)).2 (by omega)
       omega)
    | (have q1 := (hE_0_2_1 (r_0 + 1) (by omega)).2 (by omega)
       have q2 := (hE_0_2_2 (r_0 + 1) (by omega)).2 (by omega)
       omega)
    | (have q1 := (hE_0_2_1 (r_0 + 2) (by omega)).2 (by omega)
       omega)
    | (have q1 := (hE_0_2_1 (r_0 + 1) (by omega)).2 (by omega)
       omega)
    | (have q1 := (hE_0_2_1 (r_0 + 2) (by omega)).2 (by omega)
       have q2 := (hE_0_2_2 (r_0 + 2) (by omega)).2 (by omega)
       have q3 := (hE_0_2_3 (r_0 + 2) (by omega)).1 (by omega)
       omega)
    | (have q1 := (hE_0_2_1 (r_0 + 2) (by omega)).2 (by omega)
       have q2 := (hE_0_2_2 (r_0 + 2) (by omega)).2 (by omega)
       have q3 := (hE_0_2_3 (r_0 + 2) (by omega)).2 (by omega)
       omega)
    | (have q1 := (hE_0_2_1 (r_0 + 2) (by omega)).2 (by omega)
       have q2 := (hE_0_2_2 (r_0 + 2) (by omega)).2 (by omega)
       have q3 := (hE_0_2_3 (r_0 + 2) (by omega)).1 (by omega)
       have q4 : x13 = r_0 + 2 := by omega
       simp only [q4] at *
       omega)
set_option maxHeartbeats 4000000 in
theorem vc_Mo_groupItem_at_k1_25_5 (x1 : Int) (x7 : Int) (r_0 : Int) (k1 : 0 ≤ x1 ∧ x1 ≤ 7) (k7 : 0 ≤ x7 ∧ x7 ≤ 7) (f5 : 1 * x1 + ((-1) * x7 + 0) ≤ (-1)) : 1 * x1 + ((-1) * x7 + 0) ≤ (-1) := by
  first
    | omega
    | (have q1 := (hE_0_2_1 (r_0 + 2) (by omega)).2 (by omega)
       have q2 := (hE_0_2_2 (r_0 + 2) (by omega)).2 (by omega)
       omega)
    | (have q1 := (hE_0_2_1 (r_0 + 1) (by omega)).2 (by omega)
       have q2 := (hE_0_2_2 (r_0 + 1) (by omega)).2 (by omega)
       omega)
    | (have q1 := (hE_0_2_1 (r_0 + 2) (by omega)).2 (by omega)
       omega)
    | (have q1 := (hE_0_2_1 (r_0 + 1) (by omega)).2 (by omega)
       omega)
    | (have q1 := (hE_0_2_1 (r_0 + 2) (by omega)).2 (by omega)
       have q2 := (hE_0_2_2 (r_0 + 2) (by omega)).2 (by omega)
       have q3 := (hE_0_2_3 (r_0 + 2) (by omega)).1 (by omega)
       omega)
    | (have q1 := (hE_0_2_1 (r_0 + 2) (by omega)).2 (by omega)
       have q2 := (hE_0_2_2 (r_0 + 2) (by omega)).2 (by omega)
       have q3 := (hE_0_2_3 (r_0 + 2) (by omega)).2 (by omega)
       omega)
    | (have q1 := (hE_0_2_1 (r_0 + 2) (by omega)).2 (by omega)
       have q2 := (hE_0_2_2 (r_0 + 2) (by omega)).2 (by omega)
       have q3 := (hE_0_2_3 (r_0 + 2) (by omega)).1 (by omega)
       have q4 : x13 = r_0 + 2 := by omega
       simp only [q4] at *
       omega)
set_option maxHeartbeats 4000000 in
theorem vc_Mo_groupItem_at_k1_25_6 (all_0 : Int → Int) (r_0 : Int) (now_0 : Int → Int) (latest_0 : Int → Int) (f6 : RWS (r_0) (all_0) (now_0) (latest_0)) : RWS (r_0) (all_0) (now_0) (latest_0) := by
  first
    | assumption
set_option maxHeartbeats 4000000 in
theorem vc_Mo_groupItem_at_k1_25_7 (x2 : Int) (x7 : Int) (from_0 : Int) (pos_0 : Int) (kind_0 : Int) (fault_0 : Int) (all_0 : Int → Int) (r_0 : Int) (tape_0 : Int → Int) (limit_0 : Int) (place_0 : Int) (value_0 : Int) (faultPlace_0 : Int) (k2 : 1 ≤ x2 ∧ x2 ≤ 1) (k7 : 0 ≤ x7 ∧ x7 ≤ 7) (f8 : zOP0 (limit_0) (pos_0) (kind_0) (place_0) (value_0) (from_0) (fault_0) (faultPlace_0) (r_0) (tape_0) (all_0) (x7) (x2)) (kz_0_8 : 0 ≤ fault_0 ∧ fault_0 ≤ 5) (kz_0_9 : 0 ≤ faultPlace_0 ∧ faultPlace_0 ≤ 2000) (kz_0_10 : 0 ≤ limit_0 ∧ limit_0 ≤ 2000) (kz_0_11 : 0 ≤ pos_0 ∧ pos_0 ≤ 2000) (kz_0_12 : 0 ≤ kind_0 ∧ kind_0 ≤ 4) (kz_0_13 : 0 ≤ place_0 ∧ place_0 ≤ 2000) (kz_0_14 : (-49) ≤ value_0 ∧ value_0 ≤ 1048575) (kz_0_15 : 0 ≤ from_0 ∧ from_0 ≤ 2000) : zOP0 (limit_0) (pos_0) (kind_0) (place_0) (value_0) (from_0) (fault_0) (faultPlace_0) (r_0) (tape_0) (all_0) (x7) (x2) := by
  first
    | assumption
    | exact op0_of ‹zOS0 _ _ _ _ _ _ _ _ _ _ _ _ _› (by omega)
set_option maxHeartbeats 4000000 in
theorem vc_Mo_groupItem_at_k1_25_8 (x1 : Int) (x7 : Int) (tape_0 : Int → Int) (limit_0 : Int) (k1 : 0 ≤ x1 ∧ x1 ≤ 7) (k7 : 0 ≤ x7 ∧ x7 ≤ 7) (f9 : HST (limit_0) (tape_0) (x7) (x1)) (kz_0_10 : 0 ≤ limit_0 ∧ limit_0 ≤ 2000) : HST (limit_0) (tape_0) (x7) (x1) := by
  assumption
set_option maxHeartbeats 4000000 in
theorem vc_Mo_groupItem_at_k1_25_12 (pos_0 : Int) (fault_0 : Int) (r_0 : Int) (gx : Int) (kz_0_8 : 0 ≤ fault_0 ∧ fault_0 ≤ 5) (kz_0_11 : 0 ≤ pos_0 ∧ pos_0 ≤ 2000) (ex2 : gx = 2005 + ((-1) * pos_0 + ((-1) * fault_0 + 0))) : 1 * gx + (1 * pos_0 + (1 * fault_0 + 0)) ≤ 2005 := by
  first
    | omega
    | (have q1 := (hE_0_2_1 (r_0 + 2) (by omega)).2 (by omega)
       have q2 := (hE_0_2_2 (r_0 + 2) (by omega)).2 (by omega)
       omega)
    | (have q1 := (hE_0_2_1 (r_0 + 1) (by omega)).2 (by omega)
       have q2 := (hE_0_2_2 (r_0 + 1) (by omega)).2 (by omega)
       omega)
    | (have q1 := (hE_0_2_1 (r_0 + 2) (by omega)).2 (by omega)
       omega)
    | (have q1 := (hE_0_2_1 (r_0 + 1) (by omega)).2 (by omega)
       omega)
    | (have q1 := (hE_0_2_1 (r_0 + 2) (by omega)).2 (by omega)
       have q2 := (hE_0_2_2 (r_0 + 2) (by omega)).2 (by omega)
       have q3 := (hE_0_2_3 (r_0 + 2) (by omega)).1 (by omega)
       omega)
    | (have q1 := (hE_0_2_1 (r_0 + 2) (by omega)).2 (by omega)
       have q2 := (hE_0_2_2 (r_0 + 2) (by omega)).2 (by omega)
       have q3 := (hE_0_2_3 (r_0 + 2) (by omega)).2 (by omega)
       omega)
    | (have q1 := (hE_0_2_1 (r_0 + 2) (by omega)).2 (by omega)
       have q2 := (hE_0_2_2 (r_0 + 2) (by omega)).2 (by omega)
       have q3 := (hE_0_2_3 (r_0 + 2) (by omega)).1 (by omega)
       have q4 : x13 = r_0 + 2 := by omega
       simp only [q4] at *
       omega)
set_option maxHeartbeats 4000000 in
theorem vc_Mo_groupItem_at_k1_25_13 (pos_0 : Int) (fault_0 : Int) (r_0 : Int) (gx : Int) (kz_0_8 : 0 ≤ fault_0 ∧ fault_0 ≤ 5) (kz_0_11 : 0 ≤ pos_0 ∧ pos_0 ≤ 2000) (ex2 : gx = 2005 + ((-1) * pos_0 + ((-1) * fault_0 + 0))) : (-1) * gx + ((-1) * pos_0 + ((-1) * fault_0 + 0)) ≤ (-2005) := by
  first
    | omega
    | (have q1 := (hE_0_2_1 (r_0 + 2) (by omega)).2 (by omega)
       have q2 := (hE_0_2_2 (r_0 + 2) (by omega)).2 (by omega)
       omega)
    | (have q1 := (hE_0_2_1 (r_0 + 1) (by omega)).2 (by omega)
       have q2 := (hE_0_2_2 (r_0 + 1) (by omega)).2 (by omega)
       omega)
    | (have q1 := (hE_0_2_1 (r_0 + 2) (by omega)).2 (by omega)
       omega)
    | (have q1 := (hE_0_2_1 (r_0 + 1) (by omega)).2 (by omega)
       omega)
    | (have q1 := (hE_0_2_1 (r_0 + 2) (by omega)).2 (by omega)
       have q2 := (hE_0_2_2 (r_0 + 2) (by omega)).2 (by omega)
       have q3 := (hE_0_2_3 (r_0 + 2) (by omega)).1 (by omega)
       omega)
    | (have q1 := (hE_0_2_1 (r_0 + 2) (by omega)).2 (by omega)
       have q2 := (hE_0_2_2 (r_0 + 2) (by omega)).2 (by omega)
       have q3 := (hE_0_2_3 (r_0 + 2) (by omega)).2 (by omega)
       omega)
    | (have q1 := (hE_0_2_1 (r_0 + 2) (by omega)).2 (by omega)
       have q2 := (hE_0_2_2 (r_0 + 2) (by omega)).2 (by omega)
       have q3 := (hE_0_2_3 (r_0 + 2) (by omega)).1 (by omega)
       have q4 : x13 = r_0 + 2 := by omega
       simp only [q4] at *
       omega)
def o_Mo_groupItem_at_k1_25 : or_T := (170, 10, [(0, (2, 0, 0, [165])), (1, (0, 0, 7, [])), (2, (0, 1, 1, [])), (3, (0, 0, 2000, [])), (4, (2, 0, 0, [165])), (5, (0, 0, 7, [])), (6, (0, 1, 1, [])), (7, (0, 0, 7, [])), (9, (0, 0, 2005, []))], [(20, [4, 4], [30, 0, 1, 1, 15, -1, 1, 11]), (20, [4], [50, 3, 0, 12, 11, 15, 2, 21, 4, 7, 1, 3, 2, 0, 12, 0, 1, 0, 3, 2, 0, 11, 4, 3, 2, 0, 15, 0, 8, 3, 7, 1, 3, 2, 0, 12, 0, 0, 0, 7, 4, 3, 2, 0, 15, 0, 1, 2, 0, 11]), (20, [3, 4], [30, 0, 1, 0, 0, -1, 1, 11]), (20, [4, 3], [50, 2, 0, 8, 11, 3, 7, 0, 2, 0, 1, 2, 0, 8, 0, 6, 4, 2, 1, 1, 0, 1, 2, 0, 11]), (20, [7, 4], [50, 1, 1, 1005, 1002, 0, 6, 4, 2, 1, 0, 0, 1, 3, 1, 2, 4, 3, 2, 1, 5, 0, 2]), (23, [5, 7], [-1, 1, -1]), (20, [4], [60, 1, 3, 199, 5, 2, 3, 4]), (20, [9, 4, 4], [30, -2006, -1, 0, 0, -1, 1, 11, -1, 1, 8]), (20, [4, 7, 6], [60, 9, 2, 1023, 10, 11, 12, 13, 14, 15, 8, 9, 5, 1, 2]), (20, [4, 7, 5], [60, 1, 1, 1028, 10, 1]), (24, [0, 4], []), (24, [1, 5], []), (24, [2, 6], [])], [], [(0, 0, 2005, [])], [(20, [4, 4], [30, 0, 1, 1, 15, -1, 1, 11]), (20, [4], [50, 3, 0, 12, 11, 15, 2, 21, 4, 7, 1, 3, 2, 0, 12, 0, 1, 0, 3, 2, 0, 11, 4, 3, 2, 0, 15, 0, 8, 3, 7, 1, 3, 2, 0, 12, 0, 0, 0, 7, 4, 3, 2, 0, 15, 0, 1, 2, 0, 11]), (20, [3, 4], [30, 0, 1, 0, 0, -1, 1, 11]), (20, [4, 3], [50, 2, 0, 8, 11, 3, 7, 0, 2, 0, 1, 2, 0, 8, 0, 6, 4, 2, 1, 1, 0, 1, 2, 0, 11]), (20, [7, 4], [50, 1, 1, 1005, 1002, 0, 6, 4, 2, 1, 0, 0, 1, 3, 1, 2, 4, 3, 2, 1, 5, 0, 2]), (23, [5, 7], [-1, 1, -1]), (20, [4], [60, 1, 3, 199, 5, 2, 3, 4]), (20, [4, 7, 6], [60, 9, 2, 1023, 10, 11, 12, 13, 14, 15, 8, 9, 5, 1, 2]), (20, [4, 7, 5], [60, 1, 1, 1028, 10, 1]), (24, [0, 4], []), (24, [1, 5], []), (24, [2, 6], []), (20, [10, 4, 4], [30, 2005, 1, 0, 0, 1, 1, 11, 1, 1, 8]), (20, [10, 4, 4], [30, -2005, -1, 0, 0, -1, 1, 11, -1, 1, 8])], [(10, 9, -1000000000000, -1)], [(1, 5, -4294967296, 0), (5, 1, -4294967296, 0)])
theorem oo_Mo_groupItem_at_k1_25 {kA : Nat → ClassId} : or_ok PRD kA GG o_Mo_groupItem_at_k1_25 := by
  refine or_mk fun A ta ws vs hD hth hl => ?_
  intro t0 r0 t1 k1 t2 k2 t3 k3 t4 r4 t5 k5 t6 k6 t7 k7 t9 k9 d0 d1 f0 f1 f2 f3 f4 f5 f6 f7 f8 f9 f10 f11 f12
  replace f0 := shm_1437 f0
  replace f1 := shm_1438 f1
  replace f2 := shm_1431 f2
  replace f3 := shm_1726 f3
  replace f4 := shm_1009 f4
  replace f5 := shm_193 f5
  replace f6 := shm_980 f6
  replace f7 := shm_2182 f7
  replace f8 := shm_1730 f8
  replace f9 := shm_2176 f9
  replace f10 := shm_5 f10
  replace f11 := shm_5 f11
  replace f12 := shm_5 f12
  have q4 : n_v vs 4 = n_v vs 0 := f10.symm
  have q5 : n_v vs 5 = n_v vs 1 := f11.symm
  have q6 : n_v vs 6 = n_v vs 2 := f12.symm
  simp only [q4, q5, q6] at f0 f1 f2 f3 f4 f5 f6 f7 f8 f9
  have cr_0_1 := fdq_39 hD hth r0
  have cr_0_2 := fdq_10 hD hth r0
  have cr_0_3 := fdq_142 hD hth r0
  have cr_0_4 := fdq_143 hD hth r0
  have hK_0_1 := elq_7 hD hth cr_0_1
  have hK_0_3 := elq_80 hD hth cr_0_3
  have hK_0_4 := elq_81 hD hth cr_0_4
  have kz_0_8 := fdq_34 hD hth r0
  have kz_0_9 := fdq_44 hD hth r0
  have kz_0_10 := fdq_43 hD hth r0
  have kz_0_11 := fdq_237 hD hth r0
  have kz_0_12 := fdq_187 hD hth r0
  have kz_0_13 := fdq_238 hD hth r0
  have kz_0_14 := fdq_188 hD hth r0
  have kz_0_15 := fdq_239 hD hth r0
  have kb_0_8 := fdq_34 hD hth r0
  have kb_0_11 := fdq_237 hD hth r0
  obtain ⟨x, ex, hx⟩ := iv_ex (ta := ta) (lo := 0) (hi := 2005) (z := 2005 + ((-1) * w_fi ws (n_v vs 0) 11 + ((-1) * w_fi ws (n_v vs 0) 8 + 0))) (by omega) (by omega) (by omega) (by omega)
  have ex2 : v_iv (Value.int x) = 2005 + ((-1) * w_fi ws (n_v vs 0) 11 + ((-1) * w_fi ws (n_v vs 0) 8 + 0)) := ex
  have ex3 : 0 ≤ v_iv (Value.int x) ∧ v_iv (Value.int x) ≤ 2005 := tv_rng hx
  have e_0 : n_v (vs ++ [Value.int x]) 0 = n_v vs 0 := n_v_old (by rw [hl]; decide)
  have e_1 : n_v (vs ++ [Value.int x]) 1 = n_v vs 1 := n_v_old (by rw [hl]; decide)
  have e_2 : n_v (vs ++ [Value.int x]) 2 = n_v vs 2 := n_v_old (by rw [hl]; decide)
  have e_3 : n_v (vs ++ [Value.int x]) 3 = n_v vs 3 := n_v_old (by rw [hl]; decide)
  have e_4 : n_v (vs ++ [Value.int x]) 4 = n_v vs 4 := n_v_old (by rw [hl]; decide)
  have e_5 : n_v (vs ++ [Value.int x]) 5 = n_v vs 5 := n_v_old (by rw [hl]; decide)
  have e_6 : n_v (vs ++ [Value.int x]) 6 = n_v vs 6 := n_v_old (by rw [hl]; decide)
  have e_7 : n_v (vs ++ [Value.int x]) 7 = n_v vs 7 := n_v_old (by rw [hl]; decide)
  have e_10 : n_v (vs ++ [Value.int x]) 10 = Value.int x := n_v_new hl
  have nf0 : fc_1 PRD (20, [4, 4], [30, 0, 1, 1, 15, -1, 1, 11]) ws (vs ++ [Value.int x]) := by
    refine ⟨nf_inA hl rfl, sgq_1437 ?_⟩
    · show 1 * w_fi ws (n_v (vs ++ [Value.int x]) 4) 15 + ((-1) * w_fi ws (n_v (vs ++ [Value.int x]) 4) 11 + 0) ≤ 0
      simp only [e_4, q4]
      exact vc_Mo_groupItem_at_k1_25_0 (w_fi ws (n_v vs 0) 15) (w_fi ws (n_v vs 0) 11) (w_fi ws (n_v vs 0) 5) f0 kz_0_11 kz_0_15
  have nf1 : fc_1 PRD (20, [4], [50, 3, 0, 12, 11, 15, 2, 21, 4, 7, 1, 3, 2, 0, 12, 0, 1, 0, 3, 2, 0, 11, 4, 3, 2, 0, 15, 0, 8, 3, 7, 1, 3, 2, 0, 12, 0, 0, 0, 7, 4, 3, 2, 0, 15, 0, 1, 2, 0, 11]) ws (vs ++ [Value.int x]) := by
    refine ⟨nf_inA hl rfl, sgq_1438 ?_⟩
    · show ((w_fi ws (n_v (vs ++ [Value.int x]) 4) 12 = 1) → (w_fi ws (n_v (vs ++ [Value.int x]) 4) 11 ≤ (w_fi ws (n_v (vs ++ [Value.int x]) 4) 15 + 8))) ∧ ((w_fi ws (n_v (vs ++ [Value.int x]) 4) 12 = 0) ∨ ((w_fi ws (n_v (vs ++ [Value.int x]) 4) 15 + 1) ≤ w_fi ws (n_v (vs ++ [Value.int x]) 4) 11))
      simp only [e_4, q4]
      exact vc_Mo_groupItem_at_k1_25_1 (w_fi ws (n_v vs 0) 15) (w_fi ws (n_v vs 0) 11) (w_fi ws (n_v vs 0) 12) (w_fi ws (n_v vs 0) 5) f1 kz_0_11 kz_0_12 kz_0_15
  have nf2 : fc_1 PRD (20, [3, 4], [30, 0, 1, 0, 0, -1, 1, 11]) ws (vs ++ [Value.int x]) := by
    refine ⟨nf_inA hl rfl, sgq_1431 ?_⟩
    · show 1 * v_iv (n_v (vs ++ [Value.int x]) 3) + ((-1) * w_fi ws (n_v (vs ++ [Value.int x]) 4) 11 + 0) ≤ 0
      simp only [e_3, e_4, q4]
      exact vc_Mo_groupItem_at_k1_25_2 (v_iv (n_v vs 3)) (w_fi ws (n_v vs 0) 11) (w_fi ws (n_v vs 0) 5) k3 f2 kz_0_11
  have nf3 : fc_1 PRD (20, [4, 3], [50, 2, 0, 8, 11, 3, 7, 0, 2, 0, 1, 2, 0, 8, 0, 6, 4, 2, 1, 1, 0, 1, 2, 0, 11]) ws (vs ++ [Value.int x]) := by
    refine ⟨nf_inA hl rfl, sgq_1726 ?_⟩
    · show (1 ≤ w_fi ws (n_v (vs ++ [Value.int x]) 4) 8) ∨ ((v_iv (n_v (vs ++ [Value.int x]) 3) + 1) ≤ w_fi ws (n_v (vs ++ [Value.int x]) 4) 11)
      simp only [e_3, e_4, q4]
      exact vc_Mo_groupItem_at_k1_25_3 (v_iv (n_v vs 3)) (w_fi ws (n_v vs 0) 11) (w_fi ws (n_v vs 0) 8) (w_fi ws (n_v vs 0) 5) k3 f3 kz_0_8 kz_0_11
  have nf4 : fc_1 PRD (20, [7, 4], [50, 1, 1, 1005, 1002, 0, 6, 4, 2, 1, 0, 0, 1, 3, 1, 2, 4, 3, 2, 1, 5, 0, 2]) ws (vs ++ [Value.int x]) := by
    refine ⟨nf_inA hl rfl, sgq_1009 ?_⟩
    · show (v_iv (n_v (vs ++ [Value.int x]) 7) + 1) ≤ w_ei ws (w_ar ws (n_v (vs ++ [Value.int x]) 4) 2) ((w_fi ws (n_v (vs ++ [Value.int x]) 4) 5 + 2))
      simp only [e_4, e_7, q4]
      exact vc_Mo_groupItem_at_k1_25_4 (v_iv (n_v vs 7)) (w_ei ws (w_ar ws (n_v vs 0) 2)) (w_fi ws (n_v vs 0) 5) k7 f4
  have nf5 : fc_1 PRD (23, [5, 7], [-1, 1, -1]) ws (vs ++ [Value.int x]) := by
    refine ⟨nf_inA hl rfl, sgq_193 ?_⟩
    · show 1 * v_iv (n_v (vs ++ [Value.int x]) 5) + ((-1) * v_iv (n_v (vs ++ [Value.int x]) 7) + 0) ≤ (-1)
      simp only [e_5, e_7, q5]
      exact vc_Mo_groupItem_at_k1_25_5 (v_iv (n_v vs 1)) (v_iv (n_v vs 7)) (w_fi ws (n_v vs 0) 5) k1 k7 f5
  have nf6 : fc_1 PRD (20, [4], [60, 1, 3, 199, 5, 2, 3, 4]) ws (vs ++ [Value.int x]) := by
    refine ⟨nf_inA hl rfl, sgq_980 ?_⟩
    · show RWS (w_fi ws (n_v (vs ++ [Value.int x]) 4) 5) (w_ei ws (w_ar ws (n_v (vs ++ [Value.int x]) 4) 2)) (w_ei ws (w_ar ws (n_v (vs ++ [Value.int x]) 4) 3)) (w_ei ws (w_ar ws (n_v (vs ++ [Value.int x]) 4) 4))
      simp only [e_4, q4]
      exact vc_Mo_groupItem_at_k1_25_6 (w_ei ws (w_ar ws (n_v vs 0) 2)) (w_fi ws (n_v vs 0) 5) (w_ei ws (w_ar ws (n_v vs 0) 3)) (w_ei ws (w_ar ws (n_v vs 0) 4)) f6
  have nf7 : fc_1 PRD (20, [4, 7, 6], [60, 9, 2, 1023, 10, 11, 12, 13, 14, 15, 8, 9, 5, 1, 2]) ws (vs ++ [Value.int x]) := by
    refine ⟨nf_inA hl rfl, sgq_1730 ?_⟩
    · show zOP0 (w_fi ws (n_v (vs ++ [Value.int x]) 4) 10) (w_fi ws (n_v (vs ++ [Value.int x]) 4) 11) (w_fi ws (n_v (vs ++ [Value.int x]) 4) 12) (w_fi ws (n_v (vs ++ [Value.int x]) 4) 13) (w_fi ws (n_v (vs ++ [Value.int x]) 4) 14) (w_fi ws (n_v (vs ++ [Value.int x]) 4) 15) (w_fi ws (n_v (vs ++ [Value.int x]) 4) 8) (w_fi ws (n_v (vs ++ [Value.int x]) 4) 9) (w_fi ws (n_v (vs ++ [Value.int x]) 4) 5) (w_ei ws (w_ar ws (n_v (vs ++ [Value.int x]) 4) 1)) (w_ei ws (w_ar ws (n_v (vs ++ [Value.int x]) 4) 2)) (v_iv (n_v (vs ++ [Value.int x]) 7)) (v_iv (n_v (vs ++ [Value.int x]) 6))
      simp only [e_4, e_6, e_7, q4, q6]
      exact vc_Mo_groupItem_at_k1_25_7 (v_iv (n_v vs 2)) (v_iv (n_v vs 7)) (w_fi ws (n_v vs 0) 15) (w_fi ws (n_v vs 0) 11) (w_fi ws (n_v vs 0) 12) (w_fi ws (n_v vs 0) 8) (w_ei ws (w_ar ws (n_v vs 0) 2)) (w_fi ws (n_v vs 0) 5) (w_ei ws (w_ar ws (n_v vs 0) 1)) (w_fi ws (n_v vs 0) 10) (w_fi ws (n_v vs 0) 13) (w_fi ws (n_v vs 0) 14) (w_fi ws (n_v vs 0) 9) k2 k7 f8 kz_0_8 kz_0_9 kz_0_10 kz_0_11 kz_0_12 kz_0_13 kz_0_14 kz_0_15
  have nf8 : fc_1 PRD (20, [4, 7, 5], [60, 1, 1, 1028, 10, 1]) ws (vs ++ [Value.int x]) := by
    refine ⟨nf_inA hl rfl, sgq_2176 ?_⟩
    · show HST (w_fi ws (n_v (vs ++ [Value.int x]) 4) 10) (w_ei ws (w_ar ws (n_v (vs ++ [Value.int x]) 4) 1)) (v_iv (n_v (vs ++ [Value.int x]) 7)) (v_iv (n_v (vs ++ [Value.int x]) 5))
      simp only [e_4, e_5, e_7, q4, q5]
      exact vc_Mo_groupItem_at_k1_25_8 (v_iv (n_v vs 1)) (v_iv (n_v vs 7)) (w_ei ws (w_ar ws (n_v vs 0) 1)) (w_fi ws (n_v vs 0) 10) k1 k7 f9 kz_0_10
  have nf9 : fc_1 PRD (24, [0, 4], []) ws (vs ++ [Value.int x]) := by
    refine ⟨nf_inA hl rfl, sgq_5 ?_⟩
    · show n_v (vs ++ [Value.int x]) 0 = n_v (vs ++ [Value.int x]) 4
      first | rfl | simp only [e_0, e_4, q4, q5, q6]
  have nf10 : fc_1 PRD (24, [1, 5], []) ws (vs ++ [Value.int x]) := by
    refine ⟨nf_inA hl rfl, sgq_5 ?_⟩
    · show n_v (vs ++ [Value.int x]) 1 = n_v (vs ++ [Value.int x]) 5
      first | rfl | simp only [e_1, e_5, q4, q5, q6]
  have nf11 : fc_1 PRD (24, [2, 6], []) ws (vs ++ [Value.int x]) := by
    refine ⟨nf_inA hl rfl, sgq_5 ?_⟩
    · show n_v (vs ++ [Value.int x]) 2 = n_v (vs ++ [Value.int x]) 6
      first | rfl | simp only [e_2, e_6, q4, q5, q6]
  have nf12 : fc_1 PRD (20, [10, 4, 4], [30, 2005, 1, 0, 0, 1, 1, 11, 1, 1, 8]) ws (vs ++ [Value.int x]) := by
    refine ⟨nf_inA hl rfl, sgq_2178 ?_⟩
    · show 1 * v_iv (n_v (vs ++ [Value.int x]) 10) + (1 * w_fi ws (n_v (vs ++ [Value.int x]) 4) 11 + (1 * w_fi ws (n_v (vs ++ [Value.int x]) 4) 8 + 0)) ≤ 2005
      simp only [e_4, e_10, q4]
      exact vc_Mo_groupItem_at_k1_25_12 (w_fi ws (n_v vs 0) 11) (w_fi ws (n_v vs 0) 8) (w_fi ws (n_v vs 0) 5) (v_iv (Value.int x)) kz_0_8 kz_0_11 ex2
  have nf13 : fc_1 PRD (20, [10, 4, 4], [30, -2005, -1, 0, 0, -1, 1, 11, -1, 1, 8]) ws (vs ++ [Value.int x]) := by
    refine ⟨nf_inA hl rfl, sgq_2179 ?_⟩
    · show (-1) * v_iv (n_v (vs ++ [Value.int x]) 10) + ((-1) * w_fi ws (n_v (vs ++ [Value.int x]) 4) 11 + ((-1) * w_fi ws (n_v (vs ++ [Value.int x]) 4) 8 + 0)) ≤ (-2005)
      simp only [e_4, e_10, q4]
      exact vc_Mo_groupItem_at_k1_25_13 (w_fi ws (n_v vs 0) 11) (w_fi ws (n_v vs 0) 8) (w_fi ws (n_v vs 0) 5) (v_iv (Value.int x)) kz_0_8 kz_0_11 ex2
  obtain ⟨x0, e0, _, _⟩ := tv_int t9 rfl
  have e1 : v_iv (n_v vs 9) = x0.toInt := by rw [e0]; rfl
  have ho : sy_ofs (vs ++ [Value.int x]) (10, 9, -1000000000000, -1) := by
    refine ⟨x, x0, by rw [List.getElem?_append_right (by rw [hl]; decide), hl]; rfl, ?_, ?_, ?_⟩
    · rw [List.getElem?_append_left (by rw [hl]; decide)]; exact n_v_some (by rw [hl]; decide) e0
    · show x0.toInt + (-1000000000000) ≤ x.toInt; omega
    · show x.toInt ≤ x0.toInt + (-1); omega
  exact ⟨(fun _ h => (by cases h)), [Value.int x], ag_one hx, List.forall_mem_cons.mpr ⟨⟨show (20 : Nat) < 100 from by decide, nf0⟩, List.forall_mem_cons.mpr ⟨⟨show (20 : Nat) < 100 from by decide, nf1⟩, List.forall_mem_cons.mpr ⟨⟨show (20 : Nat) < 100 from by decide, nf2⟩, List.forall_mem_cons.mpr ⟨⟨show (20 : Nat) < 100 from by decide, nf3⟩, List.forall_mem_cons.mpr ⟨⟨show (20 : Nat) < 100 from by decide, nf4⟩, List.forall_mem_cons.mpr ⟨⟨show (23 : Nat) < 100 from by decide, nf5⟩, List.forall_mem_cons.mpr ⟨⟨show (20 : Nat) < 100 from by decide, nf6⟩, List.forall_mem_cons.mpr ⟨⟨show (20 : Nat) < 100 from by decide, nf7⟩, List.forall_mem_cons.mpr ⟨⟨show (20 : Nat) < 100 from by decide, nf8⟩, List.forall_mem_cons.mpr ⟨⟨show (24 : Nat) < 100 from by decide, nf9⟩, List.forall_mem_cons.mpr ⟨⟨show (24 : Nat) < 100 from by decide, nf10⟩, List.forall_mem_cons.mpr ⟨⟨show (24 : Nat) < 100 from by decide, nf11⟩, List.forall_mem_cons.mpr ⟨⟨show (20 : Nat) < 100 from by decide, nf12⟩, List.forall_mem_cons.mpr ⟨⟨show (20 : Nat) < 100 from by decide, nf13⟩, (fun _ h => (by cases h))⟩⟩⟩⟩⟩⟩⟩⟩⟩⟩⟩⟩⟩⟩, List.forall_mem_cons.mpr ⟨ho, (fun _ h => (by cases h))⟩⟩
def n_Mo_groupItem_at_k1_an : List an_T := [(108, [(0, (2, 0, 0, [165])), (1, (0, 0, 7, [])), (2, (0, 1, 1, [])), (3, (0, 0, 7, [])), (4, (0, 0, 8, []))], [], (0, 0), [(0, 0, 99892), (1, 8, 8), (0, 0, 100000)], [(1, 5, (Int.negSucc 999999999999), 0), (5, 1, (Int.negSucc 999999999999), 0)], [], [(2, 0, 0, [165]), (0, 0, 7, []), (0, 1, 1, []), (0, 0, 2000, [])], 0, [], [(20, [4, 4], [30, 0, 1, 1, 15, (Int.negSucc 0), 1, 11]), (20, [4], [50, 3, 0, 12, 11, 15, 2, 21, 4, 7, 1, 3, 2, 0, 12, 0, 1, 0, 3, 2, 0, 11, 4, 3, 2, 0, 15, 0, 8, 3, 7, 1, 3, 2, 0, 12, 0, 0, 0, 7, 4, 3, 2, 0, 15, 0, 1, 2, 0, 11]), (20, [3, 4], [30, (Int.negSucc 0), 1, 0, 0, (Int.negSucc 0), 1, 11]), (20, [4], [50, 1, 0, 12, 1, 3, 2, 0, 12, 0, 1]), (20, [7, 4], [50, 1, 1, 1005, 1002, 0, 6, 4, 2, 1, 0, 0, 1, 3, 1, 2, 4, 3, 2, 1, 5, 0, 2]), (23, [5, 7], [(Int.negSucc 0), 1, (Int.negSucc 0)]), (20, [4], [60, 1, 3, 199, 5, 2, 3, 4]), (20, [4, 7, 8, 5, 6], [60, 8, 2, 1006, 10, 11, 12, 13, 14, 15, 8, 5, 1, 2]), (24, [0, 4], []), (24, [1, 5], []), (24, [2, 6], [])]), (170, [(0, (2, 0, 0, [165])), (1, (0, 0, 7, [])), (2, (0, 1, 1, [])), (3, (0, 0, 7, [])), (4, (0, 0, 8, []))], [], (0, 0), [(0, 0, 99830), (2, 9, 0), (0, 0, 100000)], [(1, 5, (Int.negSucc 999999999999), 0), (5, 1, (Int.negSucc 999999999999), 0)], [], [(2, 0, 0, [165]), (0, 0, 7, []), (0, 1, 1, []), (0, 0, 2000, [])], 0, [(0, 0, 2005, [])], [(20, [4, 4], [30, 0, 1, 1, 15, (Int.negSucc 0), 1, 11]), (20, [4], [50, 3, 0, 12, 11, 15, 2, 21, 4, 7, 1, 3, 2, 0, 12, 0, 1, 0, 3, 2, 0, 11, 4, 3, 2, 0, 15, 0, 8, 3, 7, 1, 3, 2, 0, 12, 0, 0, 0, 7, 4, 3, 2, 0, 15, 0, 1, 2, 0, 11]), (20, [3, 4], [30, 0, 1, 0, 0, (Int.negSucc 0), 1, 11]), (20, [4, 3], [50, 2, 0, 8, 11, 3, 7, 0, 2, 0, 1, 2, 0, 8, 0, 6, 4, 2, 1, 1, 0, 1, 2, 0, 11]), (20, [7, 4], [50, 1, 1, 1005, 1002, 0, 6, 4, 2, 1, 0, 0, 1, 3, 1, 2, 4, 3, 2, 1, 5, 0, 2]), (23, [5, 7], [(Int.negSucc 0), 1, (Int.negSucc 0)]), (20, [4], [60, 1, 3, 199, 5, 2, 3, 4]), (20, [4, 7, 6], [60, 9, 2, 1023, 10, 11, 12, 13, 14, 15, 8, 9, 5, 1, 2]), (20, [4, 7, 5], [60, 1, 1, 1028, 10, 1]), (24, [0, 4], []), (24, [1, 5], []), (24, [2, 6], []), (20, [9, 4, 4], [30, 2005, 1, 0, 0, 1, 1, 11, 1, 1, 8]), (20, [9, 4, 4], [30, (Int.negSucc 2004), (Int.negSucc 0), 0, 0, (Int.negSucc 0), 1, 11, (Int.negSucc 0), 1, 8])]), (194, [(0, (2, 0, 0, [165])), (1, (0, 0, 7, [])), (2, (0, 1, 1, [])), (3, (0, 0, 7, [])), (4, (0, 0, 8, []))], [], (0, 0), [(0, 0, 99830), (2, 9, 0), (0, 0, 99806)], [(1, 5, (Int.negSucc 999999999999), 0), (5, 1, (Int.negSucc 999999999999), 0)], [], [(2, 0, 0, [165]), (0, 0, 7, []), (0, 1, 1, []), (0, 0, 2000, [])], 0, [(0, 0, 2005, [])], [(20, [4, 4], [30, 0, 1, 1, 15, (Int.negSucc 0), 1, 11]), (20, [4], [50, 3, 0, 12, 11, 15, 2, 21, 4, 7, 1, 3, 2, 0, 12, 0, 1, 0, 3, 2, 0, 11, 4, 3, 2, 0, 15, 0, 8, 3, 7, 1, 3, 2, 0, 12, 0, 0, 0, 7, 4, 3, 2, 0, 15, 0, 1, 2, 0, 11]), (20, [3, 4], [30, 0, 1, 0, 0, (Int.negSucc 0), 1, 11]), (20, [4, 3], [50, 2, 0, 8, 11, 3, 7, 0, 2, 0, 1, 2, 0, 8, 0, 6, 4, 2, 1, 1, 0, 1, 2, 0, 11]), (20, [7, 4], [50, 1, 1, 1005, 1002, 0, 6, 4, 2, 1, 0, 0, 1, 3, 1, 2, 4, 3, 2, 1, 5, 0, 2]), (23, [5, 7], [(Int.negSucc 0), 1, (Int.negSucc 0)]), (20, [4], [60, 1, 3, 199, 5, 2, 3, 4]), (20, [9, 4, 4], [30, (Int.negSucc 2005), (Int.negSucc 0), 0, 0, (Int.negSucc 0), 1, 11, (Int.negSucc 0), 1, 8]), (20, [4, 7, 6], [60, 9, 2, 1023, 10, 11, 12, 13, 14, 15, 8, 9, 5, 1, 2]), (20, [4, 7, 5], [60, 1, 1, 1028, 10, 1]), (24, [0, 4], []), (24, [1, 5], []), (24, [2, 6], [])])]
def t_Mo_groupItem_at_k1_ct : ct_L := [(1, 425, e_Mo_byteAt), (1, 457, e_Mo_sign), (1, 460, e_Mo_next), (1, 463, e_Mo_wrong), (1, 481, e_Mo_isName), (1, 509, e_Mo_groups), (505, 491, e_Mo_need_at_go), (577, 512, e_Mo_item_at_k2), (604, 491, e_Mo_need_at_gc)]
set_option maxRecDepth 100000 in
theorem c_Mo_groupItem_at_k1 {l : Launch} {D : va_G} {kA : Nat → ClassId} (h_Mo_byteAt : ct_ok PRD l D kA GG y_Mo_byteAt z_Mo_byteAt e_Mo_byteAt) (h_Mo_groups : ct_ok PRD l D kA GG y_Mo_groups z_Mo_groups e_Mo_groups) (h_Mo_isName : ct_ok PRD l D kA GG y_Mo_isName z_Mo_isName e_Mo_isName) (h_Mo_item_at_k2 : ct_ok PRD l D kA GG y_Mo_item_at_k2 z_Mo_item_at_k2 e_Mo_item_at_k2) (h_Mo_need_at_gc : ct_ok PRD l D kA GG y_Mo_need_at_gc z_Mo_need_at_gc e_Mo_need_at_gc) (h_Mo_need_at_go : ct_ok PRD l D kA GG y_Mo_need_at_go z_Mo_need_at_go e_Mo_need_at_go) (h_Mo_next : ct_ok PRD l D kA GG y_Mo_next z_Mo_next e_Mo_next) (h_Mo_sign : ct_ok PRD l D kA GG y_Mo_sign z_Mo_sign e_Mo_sign) (h_Mo_wrong : ct_ok PRD l D kA GG y_Mo_wrong z_Mo_wrong e_Mo_wrong) : ct_ok PRD l D kA GG y_Mo_groupItem_at_k1 z_Mo_groupItem_at_k1 e_Mo_groupItem_at_k1 := chk_all_ok (FT := [(16, 13, 2), (391, 13, 5), (413, 13, 8), (422, 13, 11), (428, 13, 13), (431, 13, 15)]) (PT := []) (CT := t_Mo_groupItem_at_k1_ct) (KT := []) (NT := []) (AN := n_Mo_groupItem_at_k1_an) (OT := [o_Mo_groupItem_at_k1_0, o_Mo_groupItem_at_k1_1, o_Mo_groupItem_at_k1_2, o_Mo_groupItem_at_k1_3, o_Mo_groupItem_at_k1_4, o_Mo_groupItem_at_k1_5, o_Mo_groupItem_at_k1_6, o_Mo_groupItem_at_k1_7, o_Mo_groupItem_at_k1_8, o_Mo_groupItem_at_k1_9, o_Mo_groupItem_at_k1_10, o_Mo_groupItem_at_k1_11, o_Mo_groupItem_at_k1_12, o_Mo_groupItem_at_k1_13, o_Mo_groupItem_at_k1_14, o_Mo_groupItem_at_k1_15, o_Mo_groupItem_at_k1_16, o_Mo_groupItem_at_k1_17, o_Mo_groupItem_at_k1_18, o_Mo_groupItem_at_k1_19, o_Mo_groupItem_at_k1_20, o_Mo_groupItem_at_k1_21, o_Mo_groupItem_at_k1_22, o_Mo_groupItem_at_k1_23, o_Mo_groupItem_at_k1_24, o_Mo_groupItem_at_k1_25]) 3 492 (List.forall_mem_cons.mpr ⟨oo_Mo_groupItem_at_k1_0, List.forall_mem_cons.mpr ⟨oo_Mo_groupItem_at_k1_1, List.forall_mem_cons.mpr ⟨oo_Mo_groupItem_at_k1_2, List.forall_mem_cons.mpr ⟨oo_Mo_groupItem_at_k1_3, List.forall_mem_cons.mpr ⟨oo_Mo_groupItem_at_k1_4, List.forall_mem_cons.mpr ⟨oo_Mo_groupItem_at_k1_5, List.forall_mem_cons.mpr ⟨oo_Mo_groupItem_at_k1_6, List.forall_mem_cons.mpr ⟨oo_Mo_groupItem_at_k1_7, List.forall_mem_cons.mpr ⟨oo_Mo_groupItem_at_k1_8, List.forall_mem_cons.mpr ⟨oo_Mo_groupItem_at_k1_9, List.forall_mem_cons.mpr ⟨oo_Mo_groupItem_at_k1_10, List.forall_mem_cons.mpr ⟨oo_Mo_groupItem_at_k1_11, List.forall_mem_cons.mpr ⟨oo_Mo_groupItem_at_k1_12, List.forall_mem_cons.mpr ⟨oo_Mo_groupItem_at_k1_13, List.forall_mem_cons.mpr ⟨oo_Mo_groupItem_at_k1_14, List.forall_mem_cons.mpr ⟨oo_Mo_groupItem_at_k1_15, List.forall_mem_cons.mpr ⟨oo_Mo_groupItem_at_k1_16, List.forall_mem_cons.mpr ⟨oo_Mo_groupItem_at_k1_17, List.forall_mem_cons.mpr ⟨oo_Mo_groupItem_at_k1_18, List.forall_mem_cons.mpr ⟨oo_Mo_groupItem_at_k1_19, List.forall_mem_cons.mpr ⟨oo_Mo_groupItem_at_k1_20, List.forall_mem_cons.mpr ⟨oo_Mo_groupItem_at_k1_21, List.forall_mem_cons.mpr ⟨oo_Mo_groupItem_at_k1_22, List.forall_mem_cons.mpr ⟨oo_Mo_groupItem_at_k1_23, List.forall_mem_cons.mpr ⟨oo_Mo_groupItem_at_k1_24, List.forall_mem_cons.mpr ⟨oo_Mo_groupItem_at_k1_25, List.forall_mem_nil _⟩⟩⟩⟩⟩⟩⟩⟩⟩⟩⟩⟩⟩⟩⟩⟩⟩⟩⟩⟩⟩⟩⟩⟩⟩⟩) (by decide +kernel) ⟨List.forall_mem_cons.mpr ⟨gf_Mo_16, List.forall_mem_cons.mpr ⟨gf_Mo_391, List.forall_mem_cons.mpr ⟨gf_Mo_413, List.forall_mem_cons.mpr ⟨gf_Mo_422, List.forall_mem_cons.mpr ⟨gf_Mo_428, List.forall_mem_cons.mpr ⟨gf_Mo_431, List.forall_mem_nil _⟩⟩⟩⟩⟩⟩, List.forall_mem_nil _, List.forall_mem_cons.mpr ⟨cl_virtual (y := y_Mo_byteAt) (ci := 13) rfl rfl ⟨_, _, rfl⟩ (by decide +kernel) h_Mo_byteAt wm_2986 wm_9 wm_2983 wm_2985 wv_12_12 ⟨by decide, by decide, by decide +kernel⟩ (by decide), List.forall_mem_cons.mpr ⟨cl_virtual (y := y_Mo_sign) (ci := 13) rfl rfl ⟨_, _, rfl⟩ (by decide +kernel) h_Mo_sign wm_3058 wm_9 wm_3055 wm_3057 wv_13_11 ⟨by decide, by decide, by decide +kernel⟩ (by decide), List.forall_mem_cons.mpr ⟨cl_virtual (y := y_Mo_next) (ci := 13) rfl rfl ⟨_, _, rfl⟩ (by decide +kernel) h_Mo_next wm_2982 wm_9 wm_2979 wm_2981 wv_12_11 ⟨by decide, by decide, by decide +kernel⟩ (by decide), List.forall_mem_cons.mpr ⟨cl_virtual (y := y_Mo_wrong) (ci := 13) rfl rfl ⟨_, _, rfl⟩ (by decide +kernel) h_Mo_wrong wm_3017 wm_9 wm_3014 wm_3016 wv_13_1 ⟨by decide, by decide, by decide +kernel⟩ (by decide), List.forall_mem_cons.mpr ⟨cl_virtual (y := y_Mo_isName) (ci := 13) rfl rfl ⟨_, _, rfl⟩ (by decide +kernel) h_Mo_isName wm_3012 wm_9 wm_3009 wm_3011 wv_13_0 ⟨by decide, by decide, by decide +kernel⟩ (by decide), List.forall_mem_cons.mpr ⟨cl_virtual (y := y_Mo_groups) (ci := 13) rfl rfl ⟨_, _, rfl⟩ (by decide +kernel) h_Mo_groups wm_3070 wm_9 wm_3067 wm_3069 wv_13_14 ⟨by decide, by decide, by decide +kernel⟩ (by decide), List.forall_mem_cons.mpr ⟨cl_virtual (y := y_Mo_need_at_go) (ci := 13) rfl rfl ⟨_, _, rfl⟩ (by decide +kernel) h_Mo_need_at_go wm_3062 wm_9 wm_3059 wm_3061 wv_13_12 ⟨by decide, by decide, by decide +kernel⟩ (by decide), List.forall_mem_cons.mpr ⟨cl_virtual (y := y_Mo_item_at_k2) (ci := 13) rfl rfl ⟨_, _, rfl⟩ (by decide +kernel) h_Mo_item_at_k2 wm_2997 wm_9 wm_2994 wm_2996 wv_12_13 ⟨by decide, by decide, by decide +kernel⟩ (by decide), List.forall_mem_cons.mpr ⟨cl_virtual (y := y_Mo_need_at_gc) (ci := 13) rfl rfl ⟨_, _, rfl⟩ (by decide +kernel) h_Mo_need_at_gc wm_3062 wm_9 wm_3059 wm_3061 wv_13_12 ⟨by decide, by decide, by decide +kernel⟩ (by decide), List.forall_mem_nil _⟩⟩⟩⟩⟩⟩⟩⟩⟩, List.forall_mem_nil _, List.forall_mem_nil _, GG_pl⟩ (by decide +kernel)

set_option maxHeartbeats 4000000 in
theorem vc_Mo_groupItem_at_k2_0_0 (x1 : Int) (x2 : Int) (x4 : Int) (x6 : Int) (x7 : Int) (place_0 : Int) (all_0 : Int → Int) (r_0 : Int) (from_0 : Int) (pos_0 : Int) (kind_0 : Int) (tape_0 : Int → Int) (limit_0 : Int) (value_0 : Int) (fault_0 : Int) (gx : Int) (k1 : 0 ≤ x1 ∧ x1 ≤ 7) (k2 : 2 ≤ x2 ∧ x2 ≤ 2) (k4 : 8 ≤ x4 ∧ x4 ≤ 8) (k6 : 3 ≤ x6 ∧ x6 ≤ 3) (k7 : 0 ≤ x7 ∧ x7 ≤ 2000) (g0 : x7 = place_0) (f2 : 1 * x4 + ((-1) * all_0 (r_0 + 2) + 0) ≤ 0) (f3 : (-1) * x4 + (1 * all_0 (r_0 + 2) + 0) ≤ 0) (f9 : zRSG (limit_0) (pos_0) (kind_0) (place_0) (value_0) (from_0) (fault_0) (r_0) (tape_0) (all_0) (x1) (x2)) (kz_0_8 : 0 ≤ fault_0 ∧ fault_0 ≤ 5) (kz_0_10 : 0 ≤ limit_0 ∧ limit_0 ≤ 2000) (kz_0_11 : 0 ≤ pos_0 ∧ pos_0 ≤ 2000) (kz_0_12 : 0 ≤ kind_0 ∧ kind_0 ≤ 4) (kz_0_13 : 0 ≤ place_0 ∧ place_0 ≤ 2000) (kz_0_14 : (-49) ≤ value_0 ∧ value_0 ≤ 1048575) (kz_0_15 : 0 ≤ from_0 ∧ from_0 ≤ 2000) (ex2 : gx = fault_0) : FSX (limit_0) (tape_0) (x6) (x7) := by
  first | subst g0 | skip
  first | subst ex2 | skip
  try simp only [Int.add_zero] at *
  first
    | exact fsx_cg (gr_full ‹zRSG _ _ _ _ _ _ _ _ _ _ _ _› (Or.inl (by omega))) (by omega) (by omega)
    | exact fsx_cg (gr_full ‹zRSG _ _ _ _ _ _ _ _ _ _ _ _› (Or.inr (by omega))) (by omega) (by omega)
set_option maxHeartbeats 4000000 in
theorem vc_Mo_groupItem_at_k2_0_1 (r_0 : Int) (fault_0 : Int) (gx : Int) (kz_0_8 : 0 ≤ fault_0 ∧ fault_0 ≤ 5) (ex2 : gx = fault_0) : 1 * fault_0 + ((-1) * gx + 0) ≤ 0 := by
  first
    | omega
    | (have q1 := (hE_0_2_1 (r_0 + 2) (by omega)).2 (by omega)
       have q2 := (hE_0_2_2 (r_0 + 2) (by omega)).2 (by omega)
       omega)
    | (have q1 := (hE_0_2_1 (r_0 + 1) (by omega)).2 (by omega)
       have q2 := (hE_0_2_2 (r_0 + 1) (by omega)).2 (by omega)
       omega)
    | (have q1 := (hE_0_2_1 (r_0 + 2) (by omega)).2 (by omega)
       omega)
    | (have q1 := (hE_0_2_1 (r_0 + 1) (by omega)).2 (by omega)
       omega)
    | (have q1 := (hE_0_2_1 (r_0 + 2) (by omega)).2 (by omega)
       have q2 := (hE_0_2_2 (r_0 + 2) (by omega)).2 (by omega)
       have q3 := (hE_0_2_3 (r_0 + 2) (by omega)).1 (by omega)
       omega)
    | (have q1 := (hE_0_2_1 (r_0 + 2) (by omega)).2 (by omega)
       have q2 := (hE_0_2_2 (r_0 + 2) (by omega)).2 (by omega)
       have q3 := (hE_0_2_3 (r_0 + 2) (by omega)).2 (by omega)
       omega)
    | (have q1 := (hE_0_2_1 (r_0 + 2) (by omega)).2 (by omega)
       have q2 := (hE_0_2_2 (r_0 + 2) (by omega)).2 (by omega)
       have q3 := (hE_0_2_3 (r_0 + 2) (by omega)).1 (by omega)
       have q4 : x13 = r_0 + 2 := by omega
       simp only [q4] at *
       omega)
set_option maxHeartbeats 4000000 in
theorem vc_Mo_groupItem_at_k2_0_2 (r_0 : Int) (fault_0 : Int) (gx : Int) (kz_0_8 : 0 ≤ fault_0 ∧ fault_0 ≤ 5) (ex2 : gx = fault_0) : (-1) * fault_0 + (1 * gx + 0) ≤ 0 := by
  first
    | omega
    | (have q1 := (hE_0_2_1 (r_0 + 2) (by omega)).2 (by omega)
       have q2 := (hE_0_2_2 (r_0 + 2) (by omega)).2 (by omega)
       omega)
    | (have q1 := (hE_0_2_1 (r_0 + 1) (by omega)).2 (by omega)
       have q2 := (hE_0_2_2 (r_0 + 1) (by omega)).2 (by omega)
       omega)
    | (have q1 := (hE_0_2_1 (r_0 + 2) (by omega)).2 (by omega)
       omega)
    | (have q1 := (hE_0_2_1 (r_0 + 1) (by omega)).2 (by omega)
       omega)
    | (have q1 := (hE_0_2_1 (r_0 + 2) (by omega)).2 (by omega)
       have q2 := (hE_0_2_2 (r_0 + 2) (by omega)).2 (by omega)
       have q3 := (hE_0_2_3 (r_0 + 2) (by omega)).1 (by omega)
       omega)
    | (have q1 := (hE_0_2_1 (r_0 + 2) (by omega)).2 (by omega)
       have q2 := (hE_0_2_2 (r_0 + 2) (by omega)).2 (by omega)
       have q3 := (hE_0_2_3 (r_0 + 2) (by omega)).2 (by omega)
       omega)
    | (have q1 := (hE_0_2_1 (r_0 + 2) (by omega)).2 (by omega)
       have q2 := (hE_0_2_2 (r_0 + 2) (by omega)).2 (by omega)
       have q3 := (hE_0_2_3 (r_0 + 2) (by omega)).1 (by omega)
       have q4 : x13 = r_0 + 2 := by omega
       simp only [q4] at *
       omega)
set_option maxHeartbeats 4000000 in
theorem vc_Mo_groupItem_at_k2_0_3 (x1 : Int) (x2 : Int) (place_0 : Int) (all_0 : Int → Int) (r_0 : Int) (from_0 : Int) (pos_0 : Int) (kind_0 : Int) (tape_0 : Int → Int) (limit_0 : Int) (value_0 : Int) (fault_0 : Int) (gx : Int) (k1 : 0 ≤ x1 ∧ x1 ≤ 7) (k2 : 2 ≤ x2 ∧ x2 ≤ 2) (f9 : zRSG (limit_0) (pos_0) (kind_0) (place_0) (value_0) (from_0) (fault_0) (r_0) (tape_0) (all_0) (x1) (x2)) (kz_0_8 : 0 ≤ fault_0 ∧ fault_0 ≤ 5) (kz_0_10 : 0 ≤ limit_0 ∧ limit_0 ≤ 2000) (kz_0_11 : 0 ≤ pos_0 ∧ pos_0 ≤ 2000) (kz_0_12 : 0 ≤ kind_0 ∧ kind_0 ≤ 4) (kz_0_13 : 0 ≤ place_0 ∧ place_0 ≤ 2000) (kz_0_14 : (-49) ≤ value_0 ∧ value_0 ≤ 1048575) (kz_0_15 : 0 ≤ from_0 ∧ from_0 ≤ 2000) (ex2 : gx = fault_0) : ZH0 (gx) := by
  first
    | exact ⟨by omega, by omega, trivial⟩
    | (have h := (rsq_0 (‹zRSG _ _ _ _ _ _ _ _ _ _ _ _›).1).1; exact ⟨by omega, by omega, trivial⟩)
    | (have h := (‹zTS5 _ _ _ _ _ _ _ _›).1; exact ⟨by omega, by omega, trivial⟩)
def o_Mo_groupItem_at_k2_0 : or_T := (20, 8, [(0, (2, 0, 0, [165])), (1, (0, 0, 7, [])), (2, (0, 2, 2, [])), (4, (0, 8, 8, [])), (6, (0, 3, 3, [])), (7, (0, 0, 2000, []))], [(9, [7, 0], [13]), (20, [4, 0], [30, 0, 1, 0, 0, -1, 3, 2005002]), (20, [4, 0], [30, 0, -1, 0, 0, 1, 3, 2005002]), (20, [0, 1, 2], [60, 8, 2, 992, 10, 11, 12, 13, 14, 15, 8, 5, 1, 2])], [], [(0, 0, 5, [])], [(20, [0, 6, 7], [60, 1, 1, 1026, 10, 1]), (20, [0, 8], [30, 0, 1, 1, 8, -1, 0, 0]), (20, [0, 8], [30, 0, -1, 1, 8, 1, 0, 0]), (20, [8], [61, 0, 1029])], [], [])
theorem oo_Mo_groupItem_at_k2_0 {kA : Nat → ClassId} : or_ok PRD kA GG o_Mo_groupItem_at_k2_0 := by
  refine or_mk fun A ta ws vs hD hth hl => ?_
  intro t0 r0 t1 k1 t2 k2 t4 k4 t6 k6 t7 k7 f0 f2 f3 f9
  replace f0 := shm_361 f0
  replace f2 := shm_123 f2
  replace f3 := shm_124 f3
  replace f9 := shm_2173 f9
  have g0 : v_iv (n_v vs 7) = w_fi ws (n_v vs 0) 13 := congrArg v_iv f0
  have kz_0_8 := fdq_34 hD hth r0
  have kz_0_10 := fdq_43 hD hth r0
  have kz_0_11 := fdq_237 hD hth r0
  have kz_0_12 := fdq_187 hD hth r0
  have kz_0_13 := fdq_238 hD hth r0
  have kz_0_14 := fdq_188 hD hth r0
  have kz_0_15 := fdq_239 hD hth r0
  obtain ⟨x, ex, hx⟩ := iv_ex (ta := ta) (lo := 0) (hi := 5) (z := w_fi ws (n_v vs 0) 8) (by omega) (by omega) (by omega) (by omega)
  have ex2 : v_iv (Value.int x) = w_fi ws (n_v vs 0) 8 := ex
  have ex3 : 0 ≤ v_iv (Value.int x) ∧ v_iv (Value.int x) ≤ 5 := tv_rng hx
  have e_0 : n_v (vs ++ [Value.int x]) 0 = n_v vs 0 := n_v_old (by rw [hl]; decide)
  have e_6 : n_v (vs ++ [Value.int x]) 6 = n_v vs 6 := n_v_old (by rw [hl]; decide)
  have e_7 : n_v (vs ++ [Value.int x]) 7 = n_v vs 7 := n_v_old (by rw [hl]; decide)
  have e_8 : n_v (vs ++ [Value.int x]) 8 = Value.int x := n_v_new hl
  have nf0 : fc_1 PRD (20, [0, 6, 7], [60, 1, 1, 1026, 10, 1]) ws (vs ++ [Value.int x]) := by
    refine ⟨nf_inA hl rfl, sgq_1724 ?_⟩
    · show FSX (w_fi ws (n_v (vs ++ [Value.int x]) 0) 10) (w_ei ws (w_ar ws (n_v (vs ++ [Value.int x]) 0) 1)) (v_iv (n_v (vs ++ [Value.int x]) 6)) (v_iv (n_v (vs ++ [Value.int x]) 7))
      simp only [e_0, e_6, e_7]
      exact vc_Mo_groupItem_at_k2_0_0 (v_iv (n_v vs 1)) (v_iv (n_v vs 2)) (v_iv (n_v vs 4)) (v_iv (n_v vs 6)) (v_iv (n_v vs 7)) (w_fi ws (n_v vs 0) 13) (w_ei ws (w_ar ws (n_v vs 0) 2)) (w_fi ws (n_v vs 0) 5) (w_fi ws (n_v vs 0) 15) (w_fi ws (n_v vs 0) 11) (w_fi ws (n_v vs 0) 12) (w_ei ws (w_ar ws (n_v vs 0) 1)) (w_fi ws (n_v vs 0) 10) (w_fi ws (n_v vs 0) 14) (w_fi ws (n_v vs 0) 8) (v_iv (Value.int x)) k1 k2 k4 k6 k7 g0 f2 f3 f9 kz_0_8 kz_0_10 kz_0_11 kz_0_12 kz_0_13 kz_0_14 kz_0_15 ex2
  have nf1 : fc_1 PRD (20, [0, 8], [30, 0, 1, 1, 8, -1, 0, 0]) ws (vs ++ [Value.int x]) := by
    refine ⟨nf_inA hl rfl, sgq_303 ?_⟩
    · show 1 * w_fi ws (n_v (vs ++ [Value.int x]) 0) 8 + ((-1) * v_iv (n_v (vs ++ [Value.int x]) 8) + 0) ≤ 0
      simp only [e_0, e_8]
      exact vc_Mo_groupItem_at_k2_0_1 (w_fi ws (n_v vs 0) 5) (w_fi ws (n_v vs 0) 8) (v_iv (Value.int x)) kz_0_8 ex2
  have nf2 : fc_1 PRD (20, [0, 8], [30, 0, -1, 1, 8, 1, 0, 0]) ws (vs ++ [Value.int x]) := by
    refine ⟨nf_inA hl rfl, sgq_304 ?_⟩
    · show (-1) * w_fi ws (n_v (vs ++ [Value.int x]) 0) 8 + (1 * v_iv (n_v (vs ++ [Value.int x]) 8) + 0) ≤ 0
      simp only [e_0, e_8]
      exact vc_Mo_groupItem_at_k2_0_2 (w_fi ws (n_v vs 0) 5) (w_fi ws (n_v vs 0) 8) (v_iv (Value.int x)) kz_0_8 ex2
  have nf3 : fc_1 PRD (20, [8], [61, 0, 1029]) ws (vs ++ [Value.int x]) := by
    refine ⟨nf_inA hl rfl, sgq_1725 ?_⟩
    · show ZH0 (v_iv (n_v (vs ++ [Value.int x]) 8))
      rw [e_8]
      exact vc_Mo_groupItem_at_k2_0_3 (v_iv (n_v vs 1)) (v_iv (n_v vs 2)) (w_fi ws (n_v vs 0) 13) (w_ei ws (w_ar ws (n_v vs 0) 2)) (w_fi ws (n_v vs 0) 5) (w_fi ws (n_v vs 0) 15) (w_fi ws (n_v vs 0) 11) (w_fi ws (n_v vs 0) 12) (w_ei ws (w_ar ws (n_v vs 0) 1)) (w_fi ws (n_v vs 0) 10) (w_fi ws (n_v vs 0) 14) (w_fi ws (n_v vs 0) 8) (v_iv (Value.int x)) k1 k2 f9 kz_0_8 kz_0_10 kz_0_11 kz_0_12 kz_0_13 kz_0_14 kz_0_15 ex2
  exact ⟨(fun _ h => (by cases h)), [Value.int x], ag_one hx, List.forall_mem_cons.mpr ⟨⟨show (20 : Nat) < 100 from by decide, nf0⟩, List.forall_mem_cons.mpr ⟨⟨show (20 : Nat) < 100 from by decide, nf1⟩, List.forall_mem_cons.mpr ⟨⟨show (20 : Nat) < 100 from by decide, nf2⟩, List.forall_mem_cons.mpr ⟨⟨show (20 : Nat) < 100 from by decide, nf3⟩, (fun _ h => (by cases h))⟩⟩⟩⟩, (fun _ h => (by cases h))⟩
set_option maxHeartbeats 4000000 in
theorem vc_Mo_groupItem_at_k2_1_0 (x3 : Int) (r_0 : Int) (pos_0 : Int) (fault_0 : Int) (k3 : 0 ≤ x3 ∧ x3 ≤ 2000) (f10 : (-1) * fault_0 + 0 ≤ (-1)) (kz_0_8 : 0 ≤ fault_0 ∧ fault_0 ≤ 5) (kz_0_11 : 0 ≤ pos_0 ∧ pos_0 ≤ 2000) : (1 ≤ fault_0) ∨ ((x3 + 1) ≤ pos_0) := by
  first
    | omega
    | (have q1 := (hE_0_2_1 (r_0 + 2) (by omega)).2 (by omega)
       have q2 := (hE_0_2_2 (r_0 + 2) (by omega)).2 (by omega)
       omega)
    | (have q1 := (hE_0_2_1 (r_0 + 1) (by omega)).2 (by omega)
       have q2 := (hE_0_2_2 (r_0 + 1) (by omega)).2 (by omega)
       omega)
    | (have q1 := (hE_0_2_1 (r_0 + 2) (by omega)).2 (by omega)
       omega)
    | (have q1 := (hE_0_2_1 (r_0 + 1) (by omega)).2 (by omega)
       omega)
    | (have q1 := (hE_0_2_1 (r_0 + 2) (by omega)).2 (by omega)
       have q2 := (hE_0_2_2 (r_0 + 2) (by omega)).2 (by omega)
       have q3 := (hE_0_2_3 (r_0 + 2) (by omega)).1 (by omega)
       omega)
    | (have q1 := (hE_0_2_1 (r_0 + 2) (by omega)).2 (by omega)
       have q2 := (hE_0_2_2 (r_0 + 2) (by omega)).2 (by omega)
       have q3 := (hE_0_2_3 (r_0 + 2) (by omega)).2 (by omega)
       omega)
    | (have q1 := (hE_0_2_1 (r_0 + 2) (by omega)).2 (by omega)
       have q2 := (hE_0_2_2 (r_0 + 2) (by omega)).2 (by omega)
       have q3 := (hE_0_2_3 (r_0 + 2) (by omega)).1 (by omega)
       have q4 : x13 = r_0 + 2 := by omega
       simp only [q4] at *
       omega)
set_option maxHeartbeats 4000000 in
theorem vc_Mo_groupItem_at_k2_1_1 (x1 : Int) (x2 : Int) (x6 : Int) (x7 : Int) (x8 : Int) (place_0 : Int) (tape_0 : Int → Int) (limit_0 : Int) (all_0 : Int → Int) (r_0 : Int) (from_0 : Int) (pos_0 : Int) (kind_0 : Int) (fault_0 : Int) (faultPlace_0 : Int) (value_0 : Int) (k1 : 0 ≤ x1 ∧ x1 ≤ 7) (k2 : 2 ≤ x2 ∧ x2 ≤ 2) (k6 : 3 ≤ x6 ∧ x6 ≤ 3) (k7 : 0 ≤ x7 ∧ x7 ≤ 2000) (k8 : 0 ≤ x8 ∧ x8 ≤ 5) (g0 : x7 = place_0) (f1 : FSX (limit_0) (tape_0) (x6) (x7)) (f2 : ZH0 (x8)) (f11 : ((1 ≤ x8) ∧ (fault_0 = x8)) ∨ ((x8 = 0) ∧ ((fault_0 = x6) ∧ (faultPlace_0 = x7)))) (kz_0_8 : 0 ≤ fault_0 ∧ fault_0 ≤ 5) (kz_0_9 : 0 ≤ faultPlace_0 ∧ faultPlace_0 ≤ 2000) (kz_0_10 : 0 ≤ limit_0 ∧ limit_0 ≤ 2000) (kz_0_11 : 0 ≤ pos_0 ∧ pos_0 ≤ 2000) (kz_0_12 : 0 ≤ kind_0 ∧ kind_0 ≤ 4) (kz_0_13 : 0 ≤ place_0 ∧ place_0 ≤ 2000) (kz_0_14 : (-49) ≤ value_0 ∧ value_0 ≤ 1048575) (kz_0_15 : 0 ≤ from_0 ∧ from_0 ≤ 2000) : zOS0 (limit_0) (pos_0) (kind_0) (place_0) (value_0) (from_0) (fault_0) (faultPlace_0) (r_0) (tape_0) (all_0) (x1) (x2) := by
  first | subst g0 | skip
  first
    | assumption
    | (refine Or.inl (fs_w ?_ ?_ (by assumption)) <;> assumption)
def o_Mo_groupItem_at_k2_1 : or_T := (23, 9, [(0, (2, 0, 0, [165])), (1, (0, 0, 7, [])), (2, (0, 2, 2, [])), (3, (0, 0, 2000, [])), (6, (0, 3, 3, [])), (7, (0, 0, 2000, [])), (8, (0, 0, 5, []))], [(9, [7, 0], [13]), (20, [0, 6, 7], [60, 1, 1, 1026, 10, 1]), (20, [8], [61, 0, 1029]), (20, [0], [30, -1, -1, 1, 8]), (20, [8, 0, 6, 7], [50, 2, 0, 1008, 1009, 3, 15, 2, 6, 0, 2, 0, 1, 1, 0, 1, 3, 2, 1, 8, 1, 0, 2, 6, 1, 2, 1, 0, 0, 0, 2, 7, 1, 3, 2, 1, 8, 1, 2, 1, 3, 2, 1, 9, 1, 3])], [], [], [(20, [0, 3], [50, 2, 0, 8, 11, 3, 7, 0, 2, 0, 1, 2, 0, 8, 0, 6, 4, 2, 1, 1, 0, 1, 2, 0, 11]), (20, [0, 1, 2], [60, 9, 2, 1007, 10, 11, 12, 13, 14, 15, 8, 9, 5, 1, 2])], [], [])
theorem oo_Mo_groupItem_at_k2_1 {kA : Nat → ClassId} : or_ok PRD kA GG o_Mo_groupItem_at_k2_1 := by
  refine or_mk fun A ta ws vs hD hth hl => ?_
  intro t0 r0 t1 k1 t2 k2 t3 k3 t6 k6 t7 k7 t8 k8 f0 f1 f2 f10 f11
  replace f0 := shm_361 f0
  have g0 : v_iv (n_v vs 7) = w_fi ws (n_v vs 0) 13 := congrArg v_iv f0
  have kz_0_8 := fdq_34 hD hth r0
  have kz_0_9 := fdq_44 hD hth r0
  have kz_0_10 := fdq_43 hD hth r0
  have kz_0_11 := fdq_237 hD hth r0
  have kz_0_12 := fdq_187 hD hth r0
  have kz_0_13 := fdq_238 hD hth r0
  have kz_0_14 := fdq_188 hD hth r0
  have kz_0_15 := fdq_239 hD hth r0
  have nf0 : fc_1 PRD (20, [0, 3], [50, 2, 0, 8, 11, 3, 7, 0, 2, 0, 1, 2, 0, 8, 0, 6, 4, 2, 1, 1, 0, 1, 2, 0, 11]) ws (vs) := ⟨nf_in hl rfl, sgq_1726 (vc_Mo_groupItem_at_k2_1_0 (v_iv (n_v vs 3)) (w_fi ws (n_v vs 0) 5) (w_fi ws (n_v vs 0) 11) (w_fi ws (n_v vs 0) 8) k3 (shm_305 f10) kz_0_8 kz_0_11)⟩
  have nf1 : fc_1 PRD (20, [0, 1, 2], [60, 9, 2, 1007, 10, 11, 12, 13, 14, 15, 8, 9, 5, 1, 2]) ws (vs) := ⟨nf_in hl rfl, sgq_1727 (vc_Mo_groupItem_at_k2_1_1 (v_iv (n_v vs 1)) (v_iv (n_v vs 2)) (v_iv (n_v vs 6)) (v_iv (n_v vs 7)) (v_iv (n_v vs 8)) (w_fi ws (n_v vs 0) 13) (w_ei ws (w_ar ws (n_v vs 0) 1)) (w_fi ws (n_v vs 0) 10) (w_ei ws (w_ar ws (n_v vs 0) 2)) (w_fi ws (n_v vs 0) 5) (w_fi ws (n_v vs 0) 15) (w_fi ws (n_v vs 0) 11) (w_fi ws (n_v vs 0) 12) (w_fi ws (n_v vs 0) 8) (w_fi ws (n_v vs 0) 9) (w_fi ws (n_v vs 0) 14) k1 k2 k6 k7 k8 g0 (shm_1724 f1) (shm_1725 f2) (shm_306 f11) kz_0_8 kz_0_9 kz_0_10 kz_0_11 kz_0_12 kz_0_13 kz_0_14 kz_0_15)⟩
  refine ⟨(fun _ h => (by cases h)), [], trivial, ?_, (fun _ h => (by cases h))⟩
  rw [List.append_nil]
  exact List.forall_mem_cons.mpr ⟨⟨show (20 : Nat) < 100 from by decide, nf0⟩, List.forall_mem_cons.mpr ⟨⟨show (20 : Nat) < 100 from by decide, nf1⟩, (fun _ h => (by cases h))⟩⟩
set_option maxHeartbeats 4000000 in
theorem vc_Mo_groupItem_at_k2_2_0 (r_0 : Int) (pos_0 : Int) (gx : Int) (kz_0_11 : 0 ≤ pos_0 ∧ pos_0 ≤ 2000) (ex2 : gx = pos_0) : 1 * gx + ((-1) * pos_0 + 0) ≤ 0 := by
  first
    | omega
    | (have q1 := (hE_0_2_1 (r_0 + 2) (by omega)).2 (by omega)
       have q2 := (hE_0_2_2 (r_0 + 2) (by omega)).2 (by omega)
       omega)
    | (have q1 := (hE_0_2_1 (r_0 + 1) (by omega)).2 (by omega)
       have q2 := (hE_0_2_2 (r_0 + 1) (by omega)).2 (by omega)
       omega)
    | (have q1 := (hE_0_2_1 (r_0 + 2) (by omega)).2 (by omega)
       omega)
    | (have q1 := (hE_0_2_1 (r_0 + 1) (by omega)).2 (by omega)
       omega)
    | (have q1 := (hE_0_2_1 (r_0 + 2) (by omega)).2 (by omega)
       have q2 := (hE_0_2_2 (r_0 + 2) (by omega)).2 (by omega)
       have q3 := (hE_0_2_3 (r_0 + 2) (by omega)).1 (by omega)
       omega)
    | (have q1 := (hE_0_2_1 (r_0 + 2) (by omega)).2 (by omega)
       have q2 := (hE_0_2_2 (r_0 + 2) (by omega)).2 (by omega)
       have q3 := (hE_0_2_3 (r_0 + 2) (by omega)).2 (by omega)
       omega)
    | (have q1 := (hE_0_2_1 (r_0 + 2) (by omega)).2 (by omega)
       have q2 := (hE_0_2_2 (r_0 + 2) (by omega)).2 (by omega)
       have q3 := (hE_0_2_3 (r_0 + 2) (by omega)).1 (by omega)
       have q4 : x13 = r_0 + 2 := by omega
       simp only [q4] at *
       omega)
set_option maxHeartbeats 4000000 in
theorem vc_Mo_groupItem_at_k2_2_1 (r_0 : Int) (pos_0 : Int) (gx : Int) (kz_0_11 : 0 ≤ pos_0 ∧ pos_0 ≤ 2000) (ex2 : gx = pos_0) : gx = pos_0 := by
  first
    | omega
    | (have q1 := (hE_0_2_1 (r_0 + 2) (by omega)).2 (by omega)
       have q2 := (hE_0_2_2 (r_0 + 2) (by omega)).2 (by omega)
       omega)
    | (have q1 := (hE_0_2_1 (r_0 + 1) (by omega)).2 (by omega)
       have q2 := (hE_0_2_2 (r_0 + 1) (by omega)).2 (by omega)
       omega)
    | (have q1 := (hE_0_2_1 (r_0 + 2) (by omega)).2 (by omega)
       omega)
    | (have q1 := (hE_0_2_1 (r_0 + 1) (by omega)).2 (by omega)
       omega)
    | (have q1 := (hE_0_2_1 (r_0 + 2) (by omega)).2 (by omega)
       have q2 := (hE_0_2_2 (r_0 + 2) (by omega)).2 (by omega)
       have q3 := (hE_0_2_3 (r_0 + 2) (by omega)).1 (by omega)
       omega)
    | (have q1 := (hE_0_2_1 (r_0 + 2) (by omega)).2 (by omega)
       have q2 := (hE_0_2_2 (r_0 + 2) (by omega)).2 (by omega)
       have q3 := (hE_0_2_3 (r_0 + 2) (by omega)).2 (by omega)
       omega)
    | (have q1 := (hE_0_2_1 (r_0 + 2) (by omega)).2 (by omega)
       have q2 := (hE_0_2_2 (r_0 + 2) (by omega)).2 (by omega)
       have q3 := (hE_0_2_3 (r_0 + 2) (by omega)).1 (by omega)
       have q4 : x13 = r_0 + 2 := by omega
       simp only [q4] at *
       omega)
set_option maxHeartbeats 4000000 in
theorem vc_Mo_groupItem_at_k2_2_2 (x1 : Int) (x2 : Int) (all_0 : Int → Int) (r_0 : Int) (from_0 : Int) (pos_0 : Int) (kind_0 : Int) (tape_0 : Int → Int) (limit_0 : Int) (place_0 : Int) (value_0 : Int) (fault_0 : Int) (k1 : 0 ≤ x1 ∧ x1 ≤ 7) (k2 : 2 ≤ x2 ∧ x2 ≤ 2) (f9 : zRSG (limit_0) (pos_0) (kind_0) (place_0) (value_0) (from_0) (fault_0) (r_0) (tape_0) (all_0) (x1) (x2)) (kz_0_8 : 0 ≤ fault_0 ∧ fault_0 ≤ 5) (kz_0_10 : 0 ≤ limit_0 ∧ limit_0 ≤ 2000) (kz_0_11 : 0 ≤ pos_0 ∧ pos_0 ≤ 2000) (kz_0_12 : 0 ≤ kind_0 ∧ kind_0 ≤ 4) (kz_0_13 : 0 ≤ place_0 ∧ place_0 ≤ 2000) (kz_0_14 : (-49) ≤ value_0 ∧ value_0 ≤ 1048575) (kz_0_15 : 0 ≤ from_0 ∧ from_0 ≤ 2000) : ZLM (limit_0) (pos_0) := by
  exact zlm_r (‹zRSG _ _ _ _ _ _ _ _ _ _ _ _›).1
set_option maxHeartbeats 4000000 in
theorem vc_Mo_groupItem_at_k2_2_3 (x1 : Int) (x2 : Int) (x4 : Int) (all_0 : Int → Int) (r_0 : Int) (from_0 : Int) (pos_0 : Int) (kind_0 : Int) (tape_0 : Int → Int) (limit_0 : Int) (place_0 : Int) (value_0 : Int) (fault_0 : Int) (gx : Int) (k1 : 0 ≤ x1 ∧ x1 ≤ 7) (k2 : 2 ≤ x2 ∧ x2 ≤ 2) (k4 : 0 ≤ x4 ∧ x4 ≤ 7) (f2 : 1 * x4 + ((-1) * all_0 (r_0 + 2) + 0) ≤ 0) (f3 : (-1) * x4 + (1 * all_0 (r_0 + 2) + 0) ≤ 0) (f9 : zRSG (limit_0) (pos_0) (kind_0) (place_0) (value_0) (from_0) (fault_0) (r_0) (tape_0) (all_0) (x1) (x2)) (kz_0_8 : 0 ≤ fault_0 ∧ fault_0 ≤ 5) (kz_0_10 : 0 ≤ limit_0 ∧ limit_0 ≤ 2000) (kz_0_11 : 0 ≤ pos_0 ∧ pos_0 ≤ 2000) (kz_0_12 : 0 ≤ kind_0 ∧ kind_0 ≤ 4) (kz_0_13 : 0 ≤ place_0 ∧ place_0 ≤ 2000) (kz_0_14 : (-49) ≤ value_0 ∧ value_0 ≤ 1048575) (kz_0_15 : 0 ≤ from_0 ∧ from_0 ≤ 2000) (ex2 : gx = pos_0) : zTS5 (limit_0) (fault_0) (r_0) (tape_0) (all_0) (x1) (x2) (gx) := by
  first | subst ex2 | skip
  exact gr_go ‹zRSG _ _ _ _ _ _ _ _ _ _ _ _› (by omega) (by omega) (by omega)
set_option maxHeartbeats 4000000 in
theorem vc_Mo_groupItem_at_k2_2_4 (x3 : Int) (r_0 : Int) (pos_0 : Int) (gx : Int) (k3 : 0 ≤ x3 ∧ x3 ≤ 2000) (f6 : 1 * x3 + ((-1) * pos_0 + 0) ≤ 0) (kz_0_11 : 0 ≤ pos_0 ∧ pos_0 ≤ 2000) (ex2 : gx = pos_0) : 1 * x3 + ((-1) * gx + 0) ≤ 0 := by
  first
    | omega
    | (have q1 := (hE_0_2_1 (r_0 + 2) (by omega)).2 (by omega)
       have q2 := (hE_0_2_2 (r_0 + 2) (by omega)).2 (by omega)
       omega)
    | (have q1 := (hE_0_2_1 (r_0 + 1) (by omega)).2 (by omega)
       have q2 := (hE_0_2_2 (r_0 + 1) (by omega)).2 (by omega)
       omega)
    | (have q1 := (hE_0_2_1 (r_0 + 2) (by omega)).2 (by omega)
       omega)
    | (have q1 := (hE_0_2_1 (r_0 + 1) (by omega)).2 (by omega)
       omega)
    | (have q1 := (hE_0_2_1 (r_0 + 2) (by omega)).2 (by omega)
       have q2 := (hE_0_2_2 (r_0 + 2) (by omega)).2 (by omega)
       have q3 := (hE_0_2_3 (r_0 + 2) (by omega)).1 (by omega)
       omega)
    | (have q1 := (hE_0_2_1 (r_0 + 2) (by omega)).2 (by omega)
       have q2 := (hE_0_2_2 (r_0 + 2) (by omega)).2 (by omega)
       have q3 := (hE_0_2_3 (r_0 + 2) (by omega)).2 (by omega)
       omega)
    | (have q1 := (hE_0_2_1 (r_0 + 2) (by omega)).2 (by omega)
       have q2 := (hE_0_2_2 (r_0 + 2) (by omega)).2 (by omega)
       have q3 := (hE_0_2_3 (r_0 + 2) (by omega)).1 (by omega)
       have q4 : x13 = r_0 + 2 := by omega
       simp only [q4] at *
       omega)
def o_Mo_groupItem_at_k2_2 : or_T := (25, 7, [(0, (2, 0, 0, [165])), (1, (0, 0, 7, [])), (2, (0, 2, 2, [])), (3, (0, 0, 2000, [])), (4, (0, 0, 7, []))], [(20, [4, 0], [30, 0, 1, 0, 0, -1, 3, 2005002]), (20, [4, 0], [30, 0, -1, 0, 0, 1, 3, 2005002]), (20, [3, 0], [30, 0, 1, 0, 0, -1, 1, 11]), (20, [0, 1, 2], [60, 8, 2, 992, 10, 11, 12, 13, 14, 15, 8, 5, 1, 2])], [], [(0, 0, 2000, [])], [(20, [7, 0], [30, 0, 1, 0, 0, -1, 1, 11]), (20, [7, 0], [50, 1, 0, 1011, 1, 2, 1, 0, 2, 1, 11]), (20, [0], [60, 2, 0, 947, 10, 11]), (20, [0, 1, 2, 7], [60, 3, 2, 974, 10, 8, 5, 1, 2]), (20, [3, 7], [30, 0, 1, 0, 0, -1, 0, 0])], [], [])
theorem oo_Mo_groupItem_at_k2_2 {kA : Nat → ClassId} : or_ok PRD kA GG o_Mo_groupItem_at_k2_2 := by
  refine or_mk fun A ta ws vs hD hth hl => ?_
  intro t0 r0 t1 k1 t2 k2 t3 k3 t4 k4 f2 f3 f6 f9
  replace f2 := shm_123 f2
  replace f3 := shm_124 f3
  replace f6 := shm_1431 f6
  replace f9 := shm_2173 f9
  have kz_0_8 := fdq_34 hD hth r0
  have kz_0_10 := fdq_43 hD hth r0
  have kz_0_11 := fdq_237 hD hth r0
  have kz_0_12 := fdq_187 hD hth r0
  have kz_0_13 := fdq_238 hD hth r0
  have kz_0_14 := fdq_188 hD hth r0
  have kz_0_15 := fdq_239 hD hth r0
  obtain ⟨x, ex, hx⟩ := iv_ex (ta := ta) (lo := 0) (hi := 2000) (z := w_fi ws (n_v vs 0) 11) (by omega) (by omega) (by omega) (by omega)
  have ex2 : v_iv (Value.int x) = w_fi ws (n_v vs 0) 11 := ex
  have ex3 : 0 ≤ v_iv (Value.int x) ∧ v_iv (Value.int x) ≤ 2000 := tv_rng hx
  have e_0 : n_v (vs ++ [Value.int x]) 0 = n_v vs 0 := n_v_old (by rw [hl]; decide)
  have e_1 : n_v (vs ++ [Value.int x]) 1 = n_v vs 1 := n_v_old (by rw [hl]; decide)
  have e_2 : n_v (vs ++ [Value.int x]) 2 = n_v vs 2 := n_v_old (by rw [hl]; decide)
  have e_3 : n_v (vs ++ [Value.int x]) 3 = n_v vs 3 := n_v_old (by rw [hl]; decide)
  have e_7 : n_v (vs ++ [Value.int x]) 7 = Value.int x := n_v_new hl
  have nf0 : fc_1 PRD (20, [7, 0], [30, 0, 1, 0, 0, -1, 1, 11]) ws (vs ++ [Value.int x]) := by
    refine ⟨nf_inA hl rfl, sgq_1431 ?_⟩
    · show 1 * v_iv (n_v (vs ++ [Value.int x]) 7) + ((-1) * w_fi ws (n_v (vs ++ [Value.int x]) 0) 11 + 0) ≤ 0
      simp only [e_0, e_7]
      exact vc_Mo_groupItem_at_k2_2_0 (w_fi ws (n_v vs 0) 5) (w_fi ws (n_v vs 0) 11) (v_iv (Value.int x)) kz_0_11 ex2
  have nf1 : fc_1 PRD (20, [7, 0], [50, 1, 0, 1011, 1, 2, 1, 0, 2, 1, 11]) ws (vs ++ [Value.int x]) := by
    refine ⟨nf_inA hl rfl, sgq_1432 ?_⟩
    · show v_iv (n_v (vs ++ [Value.int x]) 7) = w_fi ws (n_v (vs ++ [Value.int x]) 0) 11
      simp only [e_0, e_7]
      exact vc_Mo_groupItem_at_k2_2_1 (w_fi ws (n_v vs 0) 5) (w_fi ws (n_v vs 0) 11) (v_iv (Value.int x)) kz_0_11 ex2
  have nf2 : fc_1 PRD (20, [0], [60, 2, 0, 947, 10, 11]) ws (vs ++ [Value.int x]) := by
    refine ⟨nf_inA hl rfl, sgq_1433 ?_⟩
    · show ZLM (w_fi ws (n_v (vs ++ [Value.int x]) 0) 10) (w_fi ws (n_v (vs ++ [Value.int x]) 0) 11)
      rw [e_0]
      exact vc_Mo_groupItem_at_k2_2_2 (v_iv (n_v vs 1)) (v_iv (n_v vs 2)) (w_ei ws (w_ar ws (n_v vs 0) 2)) (w_fi ws (n_v vs 0) 5) (w_fi ws (n_v vs 0) 15) (w_fi ws (n_v vs 0) 11) (w_fi ws (n_v vs 0) 12) (w_ei ws (w_ar ws (n_v vs 0) 1)) (w_fi ws (n_v vs 0) 10) (w_fi ws (n_v vs 0) 13) (w_fi ws (n_v vs 0) 14) (w_fi ws (n_v vs 0) 8) k1 k2 f9 kz_0_8 kz_0_10 kz_0_11 kz_0_12 kz_0_13 kz_0_14 kz_0_15
  have nf3 : fc_1 PRD (20, [0, 1, 2, 7], [60, 3, 2, 974, 10, 8, 5, 1, 2]) ws (vs ++ [Value.int x]) := by
    refine ⟨nf_inA hl rfl, sgq_2174 ?_⟩
    · show zTS5 (w_fi ws (n_v (vs ++ [Value.int x]) 0) 10) (w_fi ws (n_v (vs ++ [Value.int x]) 0) 8) (w_fi ws (n_v (vs ++ [Value.int x]) 0) 5) (w_ei ws (w_ar ws (n_v (vs ++ [Value.int x]) 0) 1)) (w_ei ws (w_ar ws (n_v (vs ++ [Value.int x]) 0) 2)) (v_iv (n_v (vs ++ [Value.int x]) 1)) (v_iv (n_v (vs ++ [Value.int x]) 2)) (v_iv (n_v (vs ++ [Value.int x]) 7))
      simp only [e_0, e_1, e_2, e_7]
      exact vc_Mo_groupItem_at_k2_2_3 (v_iv (n_v vs 1)) (v_iv (n_v vs 2)) (v_iv (n_v vs 4)) (w_ei ws (w_ar ws (n_v vs 0) 2)) (w_fi ws (n_v vs 0) 5) (w_fi ws (n_v vs 0) 15) (w_fi ws (n_v vs 0) 11) (w_fi ws (n_v vs 0) 12) (w_ei ws (w_ar ws (n_v vs 0) 1)) (w_fi ws (n_v vs 0) 10) (w_fi ws (n_v vs 0) 13) (w_fi ws (n_v vs 0) 14) (w_fi ws (n_v vs 0) 8) (v_iv (Value.int x)) k1 k2 k4 f2 f3 f9 kz_0_8 kz_0_10 kz_0_11 kz_0_12 kz_0_13 kz_0_14 kz_0_15 ex2
  have nf4 : fc_1 PRD (20, [3, 7], [30, 0, 1, 0, 0, -1, 0, 0]) ws (vs ++ [Value.int x]) := by
    refine ⟨nf_inA hl rfl, sgq_201 ?_⟩
    · show 1 * v_iv (n_v (vs ++ [Value.int x]) 3) + ((-1) * v_iv (n_v (vs ++ [Value.int x]) 7) + 0) ≤ 0
      simp only [e_3, e_7]
      exact vc_Mo_groupItem_at_k2_2_4 (v_iv (n_v vs 3)) (w_fi ws (n_v vs 0) 5) (w_fi ws (n_v vs 0) 11) (v_iv (Value.int x)) k3 f6 kz_0_11 ex2
  exact ⟨(fun _ h => (by cases h)), [Value.int x], ag_one hx, List.forall_mem_cons.mpr ⟨⟨show (20 : Nat) < 100 from by decide, nf0⟩, List.forall_mem_cons.mpr ⟨⟨show (20 : Nat) < 100 from by decide, nf1⟩, List.forall_mem_cons.mpr ⟨⟨show (20 : Nat) < 100 from by decide, nf2⟩, List.forall_mem_cons.mpr ⟨⟨show (20 : Nat) < 100 from by decide, nf3⟩, List.forall_mem_cons.mpr ⟨⟨show (20 : Nat) < 100 from by decide, nf4⟩, (fun _ h => (by cases h))⟩⟩⟩⟩⟩, (fun _ h => (by cases h))⟩
set_option maxHeartbeats 4000000 in
theorem vc_Mo_groupItem_at_k2_3_r0 (x4 : Int) (x9 : Int) (all_0 : Int → Int) (r_0 : Int) (k4 : 0 ≤ x4 ∧ x4 ≤ 7) (k9 : 0 ≤ x9 ∧ x9 ≤ 8) (f0 : 1 * x9 + ((-1) * all_0 (r_0 + 2) + 0) ≤ 0) (f1 : (-1) * x9 + (1 * all_0 (r_0 + 2) + 0) ≤ 0) (f5 : 1 * x4 + ((-1) * all_0 (r_0 + 2) + 0) ≤ 0) (f6 : (-1) * x4 + (1 * all_0 (r_0 + 2) + 0) ≤ 0) : 0 ≤ x9 ∧ x9 ≤ 7 := by
  first
    | omega
    | (have q1 := (hE_0_2_1 (r_0 + 2) (by omega)).2 (by omega)
       have q2 := (hE_0_2_2 (r_0 + 2) (by omega)).2 (by omega)
       omega)
    | (have q1 := (hE_0_2_1 (r_0 + 1) (by omega)).2 (by omega)
       have q2 := (hE_0_2_2 (r_0 + 1) (by omega)).2 (by omega)
       omega)
    | (have q1 := (hE_0_2_1 (r_0 + 2) (by omega)).2 (by omega)
       omega)
    | (have q1 := (hE_0_2_1 (r_0 + 1) (by omega)).2 (by omega)
       omega)
    | (have q1 := (hE_0_2_1 (r_0 + 2) (by omega)).2 (by omega)
       have q2 := (hE_0_2_2 (r_0 + 2) (by omega)).2 (by omega)
       have q3 := (hE_0_2_3 (r_0 + 2) (by omega)).1 (by omega)
       omega)
    | (have q1 := (hE_0_2_1 (r_0 + 2) (by omega)).2 (by omega)
       have q2 := (hE_0_2_2 (r_0 + 2) (by omega)).2 (by omega)
       have q3 := (hE_0_2_3 (r_0 + 2) (by omega)).2 (by omega)
       omega)
    | (have q1 := (hE_0_2_1 (r_0 + 2) (by omega)).2 (by omega)
       have q2 := (hE_0_2_2 (r_0 + 2) (by omega)).2 (by omega)
       have q3 := (hE_0_2_3 (r_0 + 2) (by omega)).1 (by omega)
       have q4 : x13 = r_0 + 2 := by omega
       simp only [q4] at *
       omega)
def o_Mo_groupItem_at_k2_3 : or_T := (49, 10, [(0, (2, 0, 0, [165])), (1, (0, 0, 7, [])), (2, (0, 2, 2, [])), (3, (0, 0, 2000, [])), (4, (0, 0, 7, [])), (5, (0, 8, 8, [])), (6, (0, 4, 4, [])), (7, (0, 0, 2000, [])), (8, (0, 1, 1, [])), (9, (0, 0, 8, []))], [(20, [9, 0], [30, 0, 1, 0, 0, -1, 3, 2005002]), (20, [9, 0], [30, 0, -1, 0, 0, 1, 3, 2005002]), (8, [8], [1]), (20, [0, 1, 2, 7], [60, 3, 2, 974, 10, 8, 5, 1, 2]), (20, [3, 7], [30, 0, 1, 0, 0, -1, 0, 0]), (20, [4, 0], [30, 0, 1, 0, 0, -1, 3, 2005002]), (20, [4, 0], [30, 0, -1, 0, 0, 1, 3, 2005002]), (20, [1, 0], [50, 1, 1, 1005, 1002, 0, 6, 4, 2, 1, 0, 0, 1, 3, 1, 2, 4, 3, 2, 1, 5, 0, 2]), (20, [0], [60, 1, 3, 199, 5, 2, 3, 4]), (20, [0, 0], [30, 0, 1, 1, 15, -1, 1, 11]), (20, [0], [50, 3, 0, 12, 11, 15, 2, 21, 4, 7, 1, 3, 2, 0, 12, 0, 1, 0, 3, 2, 0, 11, 4, 3, 2, 0, 15, 0, 8, 3, 7, 1, 3, 2, 0, 12, 0, 0, 0, 7, 4, 3, 2, 0, 15, 0, 1, 2, 0, 11]), (20, [7, 0], [30, 0, 1, 0, 0, -1, 1, 15]), (20, [0, 7], [60, 6, 1, 948, 10, 11, 12, 13, 14, 15, 1]), (20, [8, 0], [50, 1, 0, 1012, 4, 6, 1, 2, 1, 0, 0, 1, 1, 3, 2, 1, 12, 0, 1]), (20, [0, 8], [60, 4, 1, 962, 12, 11, 10, 15, 1]), (102, [7], [0]), (102, [7], [0, 165011, 165012, 165013, 165014, 165015]), (7, [2, 6], [1]), (7, [4, 5], [1])], [(9, (0, 0, 7, []))], [], [], [], [])
theorem oo_Mo_groupItem_at_k2_3 {kA : Nat → ClassId} : or_ok PRD kA GG o_Mo_groupItem_at_k2_3 := by
  refine or_mk fun A ta ws vs hD hth hl => ?_
  intro t0 r0 t1 k1 t2 k2 t3 k3 t4 k4 t5 k5 t6 k6 t7 k7 t8 k8 t9 k9 f0 f1 f2 f3 f4 f5 f6 f7 f8 f9 f10 f11 f12 f13 f14 ta1 w1 le1 s1 ta2 w2 le2 s2 f17 f18
  have hrf0 : 0 ≤ v_iv (n_v vs 9) ∧ v_iv (n_v vs 9) ≤ 7 := vc_Mo_groupItem_at_k2_3_r0 (v_iv (n_v vs 4)) (v_iv (n_v vs 9)) (w_ei ws (w_ar ws (n_v vs 0) 2)) (w_fi ws (n_v vs 0) 5) k4 k9 (shm_123 f0) (shm_124 f1) (shm_123 f5) (shm_124 f6)
  have rf9 : tv_ok ta (0, 0, 7, []) (n_v vs 9) := tv_in t9 (by first | omega | grind) (by first | omega | grind)
  refine ⟨List.forall_mem_cons.mpr ⟨rf9, (fun _ h => (by cases h))⟩, [], trivial, ?_, (fun _ h => (by cases h))⟩
  rw [List.append_nil]
  exact (fun _ h => (by cases h))
set_option maxHeartbeats 4000000 in
theorem vc_Mo_groupItem_at_k2_4_r0 (x9 : Int) (x11 : Int) (x13 : Int) (x14 : Int) (x16 : Int) (all_0 : Int → Int) (r_0 : Int) (k9 : 0 ≤ x9 ∧ x9 ≤ 7) (k11 : 0 ≤ x11 ∧ x11 ≤ 66297) (k13 : 2 ≤ x13 ∧ x13 ≤ 66299) (k14 : 0 ≤ x14 ∧ x14 ≤ 8) (k16 : 1 ≤ x16 ∧ x16 ≤ 9) (d0 : x14 + 1 ≤ x16 ∧ x16 ≤ x14 + 1) (d1 : x11 + 2 ≤ x13 ∧ x13 ≤ x11 + 2) (h1 : x14 = all_0 (x13)) (g3 : x11 = r_0) (f5 : 1 * x9 + ((-1) * all_0 (r_0 + 2) + 0) ≤ 0) (f6 : (-1) * x9 + (1 * all_0 (r_0 + 2) + 0) ≤ 0) : 1 ≤ x16 ∧ x16 ≤ 8 := by
  first
    | omega
    | (have e : x13 = r_0 + 2 := by omega
       rw [e] at h1
       omega)
def o_Mo_groupItem_at_k2_4 : or_T := (64, 17, [(0, (2, 0, 0, [165])), (1, (0, 0, 7, [])), (2, (0, 2, 2, [])), (3, (0, 0, 2000, [])), (4, (0, 0, 7, [])), (5, (0, 8, 8, [])), (6, (0, 4, 4, [])), (7, (0, 0, 2000, [])), (8, (0, 1, 1, [])), (9, (0, 0, 7, [])), (10, (2, 0, 0, [167])), (11, (0, 0, 66297, [])), (12, (0, 2, 2, [])), (13, (0, 2, 66299, [])), (14, (0, 0, 8, [])), (15, (0, 1, 1, [])), (16, (0, 1, 9, []))], [(1, [16, 14, 15], []), (10, [14, 10, 13], []), (1, [13, 11, 12], []), (9, [11, 0], [5]), (9, [10, 0], [2]), (20, [9, 0], [30, 0, 1, 0, 0, -1, 3, 2005002]), (20, [9, 0], [30, 0, -1, 0, 0, 1, 3, 2005002]), (8, [8], [1]), (20, [0, 1, 2, 7], [60, 3, 2, 974, 10, 8, 5, 1, 2]), (20, [3, 7], [30, 0, 1, 0, 0, -1, 0, 0]), (20, [4, 0], [30, 0, 1, 0, 0, -1, 3, 2005002]), (20, [4, 0], [30, 0, -1, 0, 0, 1, 3, 2005002]), (20, [1, 0], [50, 1, 1, 1005, 1002, 0, 6, 4, 2, 1, 0, 0, 1, 3, 1, 2, 4, 3, 2, 1, 5, 0, 2]), (20, [0], [60, 1, 3, 199, 5, 2, 3, 4]), (20, [0, 0], [30, 0, 1, 1, 15, -1, 1, 11]), (20, [0], [50, 3, 0, 12, 11, 15, 2, 21, 4, 7, 1, 3, 2, 0, 12, 0, 1, 0, 3, 2, 0, 11, 4, 3, 2, 0, 15, 0, 8, 3, 7, 1, 3, 2, 0, 12, 0, 0, 0, 7, 4, 3, 2, 0, 15, 0, 1, 2, 0, 11]), (20, [7, 0], [30, 0, 1, 0, 0, -1, 1, 15]), (20, [0, 7], [60, 6, 1, 948, 10, 11, 12, 13, 14, 15, 1]), (20, [8, 0], [50, 1, 0, 1012, 4, 6, 1, 2, 1, 0, 0, 1, 1, 3, 2, 1, 12, 0, 1]), (20, [0, 8], [60, 4, 1, 962, 12, 11, 10, 15, 1]), (102, [7], [0]), (102, [7], [0, 165011, 165012, 165013, 165014, 165015]), (7, [2, 6], [1]), (7, [4, 5], [1])], [(16, (0, 1, 8, []))], [], [], [], [(16, 14, 1, 1), (13, 11, 2, 2)])
theorem oo_Mo_groupItem_at_k2_4 {kA : Nat → ClassId} : or_ok PRD kA GG o_Mo_groupItem_at_k2_4 := by
  refine or_mk fun A ta ws vs hD hth hl => ?_
  intro t0 r0 t1 k1 t2 k2 t3 k3 t4 k4 t5 k5 t6 k6 t7 k7 t8 k8 t9 k9 t10 r10 t11 k11 t12 k12 t13 k13 t14 k14 t15 k15 t16 k16 d0 d1 f0 f1 f2 f3 f4 f5 f6 f7 f8 f9 f10 f11 f12 f13 f14 f15 f16 f17 f18 f19 ta1 w1 le1 s1 ta2 w2 le2 s2 f22 f23
  replace f1 := shm_107 f1
  replace f3 := shm_110 f3
  replace f4 := shm_120 f4
  have ad_10 : v_ad (n_v vs 10) = w_ar ws (n_v vs 0) 2 := congrArg v_ad f4
  simp only [ad_10] at f1
  have h1 : v_iv (n_v vs 14) = w_ei ws (w_ar ws (n_v vs 0) 2) (v_iv (n_v vs 13)) := f1
  have g3 : v_iv (n_v vs 11) = w_fi ws (n_v vs 0) 5 := congrArg v_iv f3
  have hrf0 : 1 ≤ v_iv (n_v vs 16) ∧ v_iv (n_v vs 16) ≤ 8 := vc_Mo_groupItem_at_k2_4_r0 (v_iv (n_v vs 9)) (v_iv (n_v vs 11)) (v_iv (n_v vs 13)) (v_iv (n_v vs 14)) (v_iv (n_v vs 16)) (w_ei ws (w_ar ws (n_v vs 0) 2)) (w_fi ws (n_v vs 0) 5) k9 k11 k13 k14 k16 d0 d1 h1 g3 (shm_123 f5) (shm_124 f6)
  have rf16 : tv_ok ta (0, 1, 8, []) (n_v vs 16) := tv_in t16 (by first | omega | grind) (by first | omega | grind)
  refine ⟨List.forall_mem_cons.mpr ⟨rf16, (fun _ h => (by cases h))⟩, [], trivial, ?_, (fun _ h => (by cases h))⟩
  rw [List.append_nil]
  exact (fun _ h => (by cases h))
set_option maxHeartbeats 4000000 in
theorem vc_Mo_groupItem_at_k2_5_0 (x1 : Int) (x9 : Int) (x13 : Int) (x16 : Int) (r_0 : Int) (from_0 : Int) (pos_0 : Int) (kind_0 : Int) (tape_0 : Int → Int) (limit_0 : Int) (place_0 : Int) (value_0 : Int) (all_1 : Int → Int) (tape_1 : Int → Int) (limit_1 : Int) (fault_1 : Int) (r_1 : Int) (now_1 : Int → Int) (latest_1 : Int → Int) (from_1 : Int) (pos_1 : Int) (kind_1 : Int) (place_1 : Int) (value_1 : Int) (fault_0 : Int) (all_0 : Int → Int) (now_0 : Int → Int) (latest_0 : Int → Int) (k1 : 0 ≤ x1 ∧ x1 ≤ 7) (k9 : 0 ≤ x9 ∧ x9 ≤ 7) (k13 : 2 ≤ x13 ∧ x13 ≤ 66299) (k16 : 1 ≤ x16 ∧ x16 ≤ 8) (f13 : 1 * x9 + ((-1) * all_1 (r_0 + 2) + 0) ≤ 0) (f14 : (-1) * x9 + (1 * all_1 (r_0 + 2) + 0) ≤ 0) (f20 : (x1 + 1) ≤ all_1 ((r_1 + 2))) (fe_0_5_1 : r_0 = r_1) (fe_0_8_1 : fault_0 = fault_1) (fe_0_10_1 : limit_0 = limit_1) (fe_0_11_1 : pos_0 = pos_1) (fe_0_12_1 : kind_0 = kind_1) (fe_0_13_1 : place_0 = place_1) (fe_0_14_1 : value_0 = value_1) (fe_0_15_1 : from_0 = from_1) (hE_0_1_1 : ∀ j : Int, tape_0 j = tape_1 j) (hE_0_2_1 : ∀ j : Int, 0 ≤ j → (j = x13 → all_0 j = x16) ∧ (j ≠ x13 → all_0 j = all_1 j)) (hE_0_3_1 : ∀ j : Int, now_0 j = now_1 j) (hE_0_4_1 : ∀ j : Int, latest_0 j = latest_1 j) (kz_0_8 : 0 ≤ fault_0 ∧ fault_0 ≤ 5) (kz_0_10 : 0 ≤ limit_0 ∧ limit_0 ≤ 2000) (kz_0_11 : 0 ≤ pos_0 ∧ pos_0 ≤ 2000) (kz_0_12 : 0 ≤ kind_0 ∧ kind_0 ≤ 4) (kz_0_13 : 0 ≤ place_0 ∧ place_0 ≤ 2000) (kz_0_14 : (-49) ≤ value_0 ∧ value_0 ≤ 1048575) (kz_0_15 : 0 ≤ from_0 ∧ from_0 ≤ 2000) : 1 * x1 + ((-1) * x9 + 0) ≤ (-1) := by
  subst fe_0_5_1
  subst fe_0_8_1
  subst fe_0_10_1
  subst fe_0_11_1
  subst fe_0_12_1
  subst fe_0_13_1
  subst fe_0_14_1
  subst fe_0_15_1
  have e_hE_0_1_1 := funext hE_0_1_1; subst e_hE_0_1_1
  have e_hE_0_3_1 := funext hE_0_3_1; subst e_hE_0_3_1
  have e_hE_0_4_1 := funext hE_0_4_1; subst e_hE_0_4_1
  first
    | omega
    | (have q1 := (hE_0_2_1 (r_0 + 2) (by omega)).2 (by omega)
       have q2 := (hE_0_2_2 (r_0 + 2) (by omega)).2 (by omega)
       omega)
    | (have q1 := (hE_0_2_1 (r_0 + 1) (by omega)).2 (by omega)
       have q2 := (hE_0_2_2 (r_0 + 1) (by omega)).2 (by omega)
       omega)
    | (have q1 := (hE_0_2_1 (r_0 + 2) (by omega)).2 (by omega)
       omega)
    | (have q1 := (hE_0_2_1 (r_0 + 1) (by omega)).2 (by omega)
       omega)
    | (have q1 := (hE_0_2_1 (r_0 + 2) (by omega)).2 (by omega)
       have q2 := (hE_0_2_2 (r_0 + 2) (by omega)).2 (by omega)
       have q3 := (hE_0_2_3 (r_0 + 2) (by omega)).1 (by omega)
       omega)
    | (have q1 := (hE_0_2_1 (r_0 + 2) (by omega)).2 (by omega)
       have q2 := (hE_0_2_2 (r_0 + 2) (by omega)).2 (by omega)
       have q3 := (hE_0_2_3 (r_0 + 2) (by omega)).2 (by omega)
       omega)
    | (have q1 := (hE_0_2_1 (r_0 + 2) (by omega)).2 (by omega)
       have q2 := (hE_0_2_2 (r_0 + 2) (by omega)).2 (by omega)
       have q3 := (hE_0_2_3 (r_0 + 2) (by omega)).1 (by omega)
       have q4 : x13 = r_0 + 2 := by omega
       simp only [q4] at *
       omega)
def o_Mo_groupItem_at_k2_5 : or_T := (65, 17, [(0, (2, 0, 0, [165])), (1, (0, 0, 7, [])), (2, (0, 2, 2, [])), (3, (0, 0, 2000, [])), (4, (0, 0, 7, [])), (5, (0, 8, 8, [])), (6, (0, 4, 4, [])), (7, (0, 0, 2000, [])), (8, (0, 1, 1, [])), (9, (0, 0, 7, [])), (10, (2, 0, 0, [167])), (11, (0, 0, 66297, [])), (12, (0, 2, 2, [])), (13, (0, 2, 66299, [])), (14, (0, 0, 8, [])), (15, (0, 1, 1, [])), (16, (0, 1, 8, []))], [(9, [11, 0], [5]), (9, [10, 0], [2]), (20, [3, 7], [30, 0, 1, 0, 0, -1, 0, 0]), (20, [0, 0], [30, 0, 1, 1, 15, -1, 1, 11]), (20, [0], [50, 3, 0, 12, 11, 15, 2, 21, 4, 7, 1, 3, 2, 0, 12, 0, 1, 0, 3, 2, 0, 11, 4, 3, 2, 0, 15, 0, 8, 3, 7, 1, 3, 2, 0, 12, 0, 0, 0, 7, 4, 3, 2, 0, 15, 0, 1, 2, 0, 11]), (20, [7, 0], [30, 0, 1, 0, 0, -1, 1, 15]), (20, [0, 7], [60, 6, 1, 948, 10, 11, 12, 13, 14, 15, 1]), (20, [8, 0], [50, 1, 0, 1012, 4, 6, 1, 2, 1, 0, 0, 1, 1, 3, 2, 1, 12, 0, 1]), (20, [0, 8], [60, 4, 1, 962, 12, 11, 10, 15, 1]), (100, [10, 13, 16], []), (1, [16, 14, 15], []), (10, [14, 10, 13], []), (1, [13, 11, 12], []), (20, [9, 0], [30, 0, 1, 0, 0, -1, 3, 2005002]), (20, [9, 0], [30, 0, -1, 0, 0, 1, 3, 2005002]), (8, [8], [1]), (20, [0, 1, 2, 7], [60, 3, 2, 974, 10, 8, 5, 1, 2]), (20, [3, 7], [30, 0, 1, 0, 0, -1, 0, 0]), (20, [4, 0], [30, 0, 1, 0, 0, -1, 3, 2005002]), (20, [4, 0], [30, 0, -1, 0, 0, 1, 3, 2005002]), (20, [1, 0], [50, 1, 1, 1005, 1002, 0, 6, 4, 2, 1, 0, 0, 1, 3, 1, 2, 4, 3, 2, 1, 5, 0, 2]), (20, [0], [60, 1, 3, 199, 5, 2, 3, 4]), (20, [0, 0], [30, 0, 1, 1, 15, -1, 1, 11]), (20, [0], [50, 3, 0, 12, 11, 15, 2, 21, 4, 7, 1, 3, 2, 0, 12, 0, 1, 0, 3, 2, 0, 11, 4, 3, 2, 0, 15, 0, 8, 3, 7, 1, 3, 2, 0, 12, 0, 0, 0, 7, 4, 3, 2, 0, 15, 0, 1, 2, 0, 11]), (20, [7, 0], [30, 0, 1, 0, 0, -1, 1, 15]), (20, [0, 7], [60, 6, 1, 948, 10, 11, 12, 13, 14, 15, 1]), (20, [8, 0], [50, 1, 0, 1012, 4, 6, 1, 2, 1, 0, 0, 1, 1, 3, 2, 1, 12, 0, 1]), (20, [0, 8], [60, 4, 1, 962, 12, 11, 10, 15, 1]), (102, [7], [0]), (102, [7], [0, 165011, 165012, 165013, 165014, 165015]), (7, [2, 6], [1]), (7, [4, 5], [1])], [], [], [(23, [1, 9], [-1, 1, -1])], [], [(16, 14, 1, 1), (13, 11, 2, 2)])
theorem oo_Mo_groupItem_at_k2_5 {kA : Nat → ClassId} : or_ok PRD kA GG o_Mo_groupItem_at_k2_5 := by
  refine or_mk fun A ta ws vs hD hth hl => ?_
  intro t0 r0 t1 k1 t2 k2 t3 k3 t4 k4 t5 k5 t6 k6 t7 k7 t8 k8 t9 k9 t10 r10 t11 k11 t12 k12 t13 k13 t14 k14 t15 k15 t16 k16 d0 d1 f0 f1 f2 f3 f4 f5 f6 f7 f8 ta1 w1 le1 s1 f10 f11 f12 f13 f14 f15 f16 f17 f18 f19 f20 f21 f22 f23 f24 f25 f26 f27 ta2 w2 le2 s2 ta3 w3 le3 s3 f30 f31
  replace f0 := shm_110 f0
  replace f1 := shm_120 f1
  replace f2 := shm_201 f2
  replace f3 := shm_1437 f3
  replace f4 := shm_1438 f4
  replace f5 := shm_1436 f5
  replace f6 := shm_1439 f6
  replace f7 := shm_1856 f7
  replace f8 := shm_1889 f8
  have s1 : (∀ b j, w_el ws b j = if b = v_ad (n_v vs 10) ∧ j = (v_iv (n_v vs 13)).toNat then v_iv (n_v vs 16) else w_el w1 b j) ∧ ∀ b k, w_fd ws b k = w_fd w1 b k := s1.2
  replace f10 := shm_12 f10
  replace f11 := shm_107 f11
  replace f12 := shm_12 f12
  replace f13 := shm_123 f13
  replace f14 := shm_124 f14
  replace f15 := shm_142 f15
  replace f16 := shm_2174 f16
  replace f17 := shm_201 f17
  replace f18 := shm_123 f18
  replace f19 := shm_124 f19
  replace f20 := shm_1009 f20
  replace f21 := shm_980 f21
  replace f22 := shm_1437 f22
  replace f23 := shm_1438 f23
  replace f24 := shm_1436 f24
  replace f25 := shm_1439 f25
  replace f26 := shm_1856 f26
  replace f27 := shm_1889 f27
  replace f30 := shm_40 f30
  replace f31 := shm_40 f31
  have ar_0_1_1 : w_ar w1 (n_v vs 0) 1 = w_ar ws (n_v vs 0) 1 := congrArg v_ad (s1.2 _ _).symm
  have cr_0_1 := fdq_39 hD hth r0
  have ar_0_2_1 : w_ar w1 (n_v vs 0) 2 = w_ar ws (n_v vs 0) 2 := congrArg v_ad (s1.2 _ _).symm
  have cr_0_2 := fdq_10 hD hth r0
  have ar_0_3_1 : w_ar w1 (n_v vs 0) 3 = w_ar ws (n_v vs 0) 3 := congrArg v_ad (s1.2 _ _).symm
  have cr_0_3 := fdq_142 hD hth r0
  have ar_0_4_1 : w_ar w1 (n_v vs 0) 4 = w_ar ws (n_v vs 0) 4 := congrArg v_ad (s1.2 _ _).symm
  have cr_0_4 := fdq_143 hD hth r0
  have fi_0_5_1 : w_fi w1 (n_v vs 0) 5 = w_fi ws (n_v vs 0) 5 := by show v_iv (w_fd w1 _ _) = v_iv (w_fd ws _ _); rw [s1.2]
  have ad_10 : v_ad (n_v vs 10) = w_ar ws (n_v vs 0) 2 := congrArg v_ad f1
  have g0 : v_iv (n_v vs 11) = w_fi ws (n_v vs 0) 5 := congrArg v_iv f0
  simp only [ad_10] at f11
  have h11 : v_iv (n_v vs 14) = w_ei w1 (w_ar ws (n_v vs 0) 2) (v_iv (n_v vs 13)) := f11
  simp only [ar_0_2_1, ar_0_1_1, ar_0_3_1, ar_0_4_1] at f13 f14 f16 f18 f19 f20 f21 f25 f27
  simp only [fi_0_5_1] at f13 f14 f18 f19
  have fe_0_5_1 : w_fi ws (n_v vs 0) 5 = w_fi w1 (n_v vs 0) 5 := congrArg v_iv (s1.2 _ _)
  have fe_0_8_1 : w_fi ws (n_v vs 0) 8 = w_fi w1 (n_v vs 0) 8 := congrArg v_iv (s1.2 _ _)
  have fe_0_10_1 : w_fi ws (n_v vs 0) 10 = w_fi w1 (n_v vs 0) 10 := congrArg v_iv (s1.2 _ _)
  have fe_0_11_1 : w_fi ws (n_v vs 0) 11 = w_fi w1 (n_v vs 0) 11 := congrArg v_iv (s1.2 _ _)
  have fe_0_12_1 : w_fi ws (n_v vs 0) 12 = w_fi w1 (n_v vs 0) 12 := congrArg v_iv (s1.2 _ _)
  have fe_0_13_1 : w_fi ws (n_v vs 0) 13 = w_fi w1 (n_v vs 0) 13 := congrArg v_iv (s1.2 _ _)
  have fe_0_14_1 : w_fi ws (n_v vs 0) 14 = w_fi w1 (n_v vs 0) 14 := congrArg v_iv (s1.2 _ _)
  have fe_0_15_1 : w_fi ws (n_v vs 0) 15 = w_fi w1 (n_v vs 0) 15 := congrArg v_iv (s1.2 _ _)
  have hE_0_1_1 : ∀ j : Int, w_ei ws (w_ar ws (n_v vs 0) 1) j = w_ei w1 (w_ar ws (n_v vs 0) 1) j := el_kp s1.1 r10 cr_0_1 (by decide)
  have hK_0_1 := elq_7 hD hth cr_0_1
  have hE_0_2_1 : ∀ j : Int, 0 ≤ j → (j = v_iv (n_v vs 13) → w_ei ws (w_ar ws (n_v vs 0) 2) j = v_iv (n_v vs 16)) ∧ (j ≠ v_iv (n_v vs 13) → w_ei ws (w_ar ws (n_v vs 0) 2) j = w_ei w1 (w_ar ws (n_v vs 0) 2) j) := fun j hj => ⟨fun h => by unfold w_ei; rw [s1.1, if_pos ⟨ad_10.symm, by rw [h]⟩], fun h => by unfold w_ei; rw [s1.1, if_neg (fun e => h (by have := e.2; omega))]⟩
  have hE_0_3_1 : ∀ j : Int, w_ei ws (w_ar ws (n_v vs 0) 3) j = w_ei w1 (w_ar ws (n_v vs 0) 3) j := el_kp s1.1 r10 cr_0_3 (by decide)
  have hK_0_3 := elq_80 hD hth cr_0_3
  have hE_0_4_1 : ∀ j : Int, w_ei ws (w_ar ws (n_v vs 0) 4) j = w_ei w1 (w_ar ws (n_v vs 0) 4) j := el_kp s1.1 r10 cr_0_4 (by decide)
  have hK_0_4 := elq_81 hD hth cr_0_4
  have kz_0_8 := fdq_34 hD hth r0
  have kz_0_10 := fdq_43 hD hth r0
  have kz_0_11 := fdq_237 hD hth r0
  have kz_0_12 := fdq_187 hD hth r0
  have kz_0_13 := fdq_238 hD hth r0
  have kz_0_14 := fdq_188 hD hth r0
  have kz_0_15 := fdq_239 hD hth r0
  first | have hJ0 : w_ei w1 (w_ar ws (n_v vs 0) 2) ((w_fi w1 (n_v vs 0) 5 + 2)) = w_ei w1 (w_ar ws (n_v vs 0) 2) ((w_fi ws (n_v vs 0) 5 + 2)) := congrArg _ (show ((w_fi w1 (n_v vs 0) 5 + 2) : Int) = (w_fi ws (n_v vs 0) 5 + 2) from by omega) | skip
  first | have hI1 := (hE_0_2_1 ((w_fi ws (n_v vs 0) 5 + 2)) (by omega)).2 (by omega) | have hI1 := (hE_0_2_1 ((w_fi ws (n_v vs 0) 5 + 2)) (by omega)).1 (by omega) | skip
  have nf0 : fc_1 PRD (23, [1, 9], [-1, 1, -1]) ws (vs) := ⟨nf_in hl rfl, sgq_193 (vc_Mo_groupItem_at_k2_5_0 (v_iv (n_v vs 1)) (v_iv (n_v vs 9)) (v_iv (n_v vs 13)) (v_iv (n_v vs 16)) (w_fi ws (n_v vs 0) 5) (w_fi ws (n_v vs 0) 15) (w_fi ws (n_v vs 0) 11) (w_fi ws (n_v vs 0) 12) (w_ei ws (w_ar ws (n_v vs 0) 1)) (w_fi ws (n_v vs 0) 10) (w_fi ws (n_v vs 0) 13) (w_fi ws (n_v vs 0) 14) (w_ei w1 (w_ar ws (n_v vs 0) 2)) (w_ei w1 (w_ar ws (n_v vs 0) 1)) (w_fi w1 (n_v vs 0) 10) (w_fi w1 (n_v vs 0) 8) (w_fi w1 (n_v vs 0) 5) (w_ei w1 (w_ar ws (n_v vs 0) 3)) (w_ei w1 (w_ar ws (n_v vs 0) 4)) (w_fi w1 (n_v vs 0) 15) (w_fi w1 (n_v vs 0) 11) (w_fi w1 (n_v vs 0) 12) (w_fi w1 (n_v vs 0) 13) (w_fi w1 (n_v vs 0) 14) (w_fi ws (n_v vs 0) 8) (w_ei ws (w_ar ws (n_v vs 0) 2)) (w_ei ws (w_ar ws (n_v vs 0) 3)) (w_ei ws (w_ar ws (n_v vs 0) 4)) k1 k9 k13 k16 f13 f14 f20 fe_0_5_1 fe_0_8_1 fe_0_10_1 fe_0_11_1 fe_0_12_1 fe_0_13_1 fe_0_14_1 fe_0_15_1 hE_0_1_1 hE_0_2_1 hE_0_3_1 hE_0_4_1 kz_0_8 kz_0_10 kz_0_11 kz_0_12 kz_0_13 kz_0_14 kz_0_15)⟩
  refine ⟨(fun _ h => (by cases h)), [], trivial, ?_, (fun _ h => (by cases h))⟩
  rw [List.append_nil]
  exact List.forall_mem_cons.mpr ⟨⟨show (23 : Nat) < 100 from by decide, nf0⟩, (fun _ h => (by cases h))⟩
def o_Mo_groupItem_at_k2_6 : or_T := (80, 20, [(1, (0, 0, 7, [])), (9, (0, 0, 7, [])), (11, (5, 0, 66297, [539])), (17, (0, 531, 531, [])), (18, (0, 531, 66828, [])), (19, (0, 531, 66835, []))], [(1, [19, 18, 9], []), (1, [18, 11, 17], []), (23, [1, 9], [-1, 1, -1])], [], [], [(18, [19, 1], [1])], [], [(19, 9, 531, 66828), (19, 18, 0, 7), (19, 11, 531, 538), (18, 11, 531, 531)])
theorem oo_Mo_groupItem_at_k2_6 {kA : Nat → ClassId} : or_ok PRD kA GG o_Mo_groupItem_at_k2_6 := by
  refine or_mk fun A ta ws vs hD hth hl => ?_
  intro t1 k1 t9 k9 t11 t17 k17 t18 k18 t19 k19 d0 d1 d2 d3 f0 f1 f2
  obtain ⟨k11, q11_⟩ : (0 ≤ v_iv (n_v vs 11) ∧ v_iv (n_v vs 11) ≤ 66297) ∧ ∃ q : Int, v_iv (n_v vs 11) = 539 * q := tv_dvk t11
  obtain ⟨q11, hq11⟩ := q11_
  replace f0 := shm_12 f0
  replace f1 := shm_12 f1
  replace f2 := shm_193 f2
  have nf0 : fc_1 PRD (18, [19, 1], [1]) ws (vs) := by
    refine ⟨nf_in hl rfl, sgq_1302 ?_⟩
    · show pl_ok 1 (v_iv (n_v vs 19)).toNat (v_iv (n_v vs 1))
      exact pl_ginS (k := v_iv (n_v vs 9)) (by omega) (by omega) (by omega) (by omega) (by omega)
  refine ⟨(fun _ h => (by cases h)), [], trivial, ?_, (fun _ h => (by cases h))⟩
  rw [List.append_nil]
  exact List.forall_mem_cons.mpr ⟨⟨show (18 : Nat) < 100 from by decide, nf0⟩, (fun _ h => (by cases h))⟩
set_option maxHeartbeats 4000000 in
theorem vc_Mo_groupItem_at_k2_7_r0 (x1 : Int) (x8 : Int) (x13 : Int) (x16 : Int) (x19 : Int) (x23 : Int) (x24 : Int) (x25 : Int) (from_0 : Int) (pos_0 : Int) (r_0 : Int) (kind_0 : Int) (tape_0 : Int → Int) (limit_0 : Int) (place_0 : Int) (value_0 : Int) (from_1 : Int) (pos_1 : Int) (kind_1 : Int) (tape_1 : Int → Int) (limit_1 : Int) (place_1 : Int) (value_1 : Int) (all_2 : Int → Int) (tape_2 : Int → Int) (limit_2 : Int) (fault_2 : Int) (r_2 : Int) (now_2 : Int → Int) (latest_2 : Int → Int) (from_2 : Int) (pos_2 : Int) (kind_2 : Int) (place_2 : Int) (value_2 : Int) (r_1 : Int) (fault_0 : Int) (fault_1 : Int) (all_0 : Int → Int) (all_1 : Int → Int) (now_0 : Int → Int) (now_1 : Int → Int) (latest_0 : Int → Int) (latest_1 : Int → Int) (k1 : 0 ≤ x1 ∧ x1 ≤ 7) (k8 : 1 ≤ x8 ∧ x8 ≤ 1) (k13 : 2 ≤ x13 ∧ x13 ≤ 66299) (k16 : 1 ≤ x16 ∧ x16 ≤ 8) (k19 : 531 ≤ x19 ∧ x19 ≤ 66835) (k23 : 0 ≤ x23 ∧ x23 ≤ 2000) (k24 : 0 ≤ x24 ∧ x24 ≤ 2000) (k25 : (-2000) ≤ x25 ∧ x25 ≤ 2000) (f0 : x25 = x23 - x24) (g1 : x24 = from_0) (g2 : x23 = pos_0) (f9 : 1 * from_0 + ((-1) * pos_0 + 0) ≤ 0) (f40 : ((kind_2 = 1) → (pos_2 ≤ (from_2 + 8))) ∧ ((kind_2 = 0) ∨ ((from_2 + 1) ≤ pos_2))) (f43 : (x8 = 1) → (kind_2 = 1)) (fe_0_5_1 : r_0 = r_1) (fe_0_8_1 : fault_0 = fault_1) (fe_0_10_1 : limit_0 = limit_1) (fe_0_11_1 : pos_0 = pos_1) (fe_0_12_1 : kind_0 = kind_1) (fe_0_13_1 : place_0 = place_1) (fe_0_14_1 : value_0 = value_1) (fe_0_15_1 : from_0 = from_1) (fe_0_5_2 : r_1 = r_2) (fe_0_8_2 : fault_1 = fault_2) (fe_0_10_2 : limit_1 = limit_2) (fe_0_11_2 : pos_1 = pos_2) (fe_0_12_2 : kind_1 = kind_2) (fe_0_13_2 : place_1 = place_2) (fe_0_14_2 : value_1 = value_2) (fe_0_15_2 : from_1 = from_2) (hE_0_1_1 : ∀ j : Int, tape_0 j = tape_1 j) (hE_0_1_2 : ∀ j : Int, tape_1 j = tape_2 j) (hE_0_2_1 : ∀ j : Int, 0 ≤ j → (j = x19 → all_0 j = x1) ∧ (j ≠ x19 → all_0 j = all_1 j)) (hE_0_2_2 : ∀ j : Int, 0 ≤ j → (j = x13 → all_1 j = x16) ∧ (j ≠ x13 → all_1 j = all_2 j)) (hE_0_3_1 : ∀ j : Int, now_0 j = now_1 j) (hE_0_3_2 : ∀ j : Int, now_1 j = now_2 j) (hE_0_4_1 : ∀ j : Int, latest_0 j = latest_1 j) (hE_0_4_2 : ∀ j : Int, latest_1 j = latest_2 j) (kz_0_8 : 0 ≤ fault_0 ∧ fault_0 ≤ 5) (kz_0_10 : 0 ≤ limit_0 ∧ limit_0 ≤ 2000) (kz_0_11 : 0 ≤ pos_0 ∧ pos_0 ≤ 2000) (kz_0_12 : 0 ≤ kind_0 ∧ kind_0 ≤ 4) (kz_0_13 : 0 ≤ place_0 ∧ place_0 ≤ 2000) (kz_0_14 : (-49) ≤ value_0 ∧ value_0 ≤ 1048575) (kz_0_15 : 0 ≤ from_0 ∧ from_0 ≤ 2000) : 0 ≤ x25 ∧ x25 ≤ 8 := by
  subst fe_0_5_1
  subst fe_0_8_1
  subst fe_0_10_1
  subst fe_0_11_1
  subst fe_0_12_1
  subst fe_0_13_1
  subst fe_0_14_1
  subst fe_0_15_1
  subst fe_0_5_2
  subst fe_0_8_2
  subst fe_0_10_2
  subst fe_0_11_2
  subst fe_0_12_2
  subst fe_0_13_2
  subst fe_0_14_2
  subst fe_0_15_2
  have e_hE_0_1_1 := funext hE_0_1_1; subst e_hE_0_1_1
  have e_hE_0_1_2 := funext hE_0_1_2; subst e_hE_0_1_2
  have e_hE_0_3_1 := funext hE_0_3_1; subst e_hE_0_3_1
  have e_hE_0_3_2 := funext hE_0_3_2; subst e_hE_0_3_2
  have e_hE_0_4_1 := funext hE_0_4_1; subst e_hE_0_4_1
  have e_hE_0_4_2 := funext hE_0_4_2; subst e_hE_0_4_2
  first
    | omega
    | (have q1 := (hE_0_2_1 (r_0 + 2) (by omega)).2 (by omega)
       have q2 := (hE_0_2_2 (r_0 + 2) (by omega)).2 (by omega)
       omega)
    | (have q1 := (hE_0_2_1 (r_0 + 1) (by omega)).2 (by omega)
       have q2 := (hE_0_2_2 (r_0 + 1) (by omega)).2 (by omega)
       omega)
    | (have q1 := (hE_0_2_1 (r_0 + 2) (by omega)).2 (by omega)
       omega)
    | (have q1 := (hE_0_2_1 (r_0 + 1) (by omega)).2 (by omega)
       omega)
    | (have q1 := (hE_0_2_1 (r_0 + 2) (by omega)).2 (by omega)
       have q2 := (hE_0_2_2 (r_0 + 2) (by omega)).2 (by omega)
       have q3 := (hE_0_2_3 (r_0 + 2) (by omega)).1 (by omega)
       omega)
    | (have q1 := (hE_0_2_1 (r_0 + 2) (by omega)).2 (by omega)
       have q2 := (hE_0_2_2 (r_0 + 2) (by omega)).2 (by omega)
       have q3 := (hE_0_2_3 (r_0 + 2) (by omega)).2 (by omega)
       omega)
    | (have q1 := (hE_0_2_1 (r_0 + 2) (by omega)).2 (by omega)
       have q2 := (hE_0_2_2 (r_0 + 2) (by omega)).2 (by omega)
       have q3 := (hE_0_2_3 (r_0 + 2) (by omega)).1 (by omega)
       have q4 : x13 = r_0 + 2 := by omega
       simp only [q4] at *
       omega)
def o_Mo_groupItem_at_k2_7 : or_T := (104, 26, [(0, (2, 0, 0, [165])), (1, (0, 0, 7, [])), (2, (0, 2, 2, [])), (3, (0, 0, 2000, [])), (4, (0, 0, 7, [])), (5, (0, 8, 8, [])), (6, (0, 4, 4, [])), (7, (0, 0, 2000, [])), (8, (0, 1, 1, [])), (9, (0, 0, 7, [])), (10, (2, 0, 0, [167])), (11, (0, 0, 66297, [])), (12, (0, 2, 2, [])), (13, (0, 2, 66299, [])), (14, (0, 0, 8, [])), (15, (0, 1, 1, [])), (16, (0, 1, 8, [])), (17, (0, 531, 531, [])), (18, (0, 531, 66828, [])), (19, (0, 531, 66835, [])), (20, (0, 523, 523, [])), (21, (0, 523, 66820, [])), (22, (0, 523, 66827, [])), (23, (0, 0, 2000, [])), (24, (0, 0, 2000, [])), (25, (0, -2000, 2000, []))], [(2, [25, 23, 24], []), (9, [24, 0], [15]), (9, [23, 0], [11]), (1, [22, 21, 9], []), (1, [21, 11, 20], []), (9, [11, 0], [5]), (9, [10, 0], [2]), (23, [1, 9], [-1, 1, -1]), (20, [3, 7], [30, 0, 1, 0, 0, -1, 0, 0]), (20, [0, 0], [30, 0, 1, 1, 15, -1, 1, 11]), (20, [0], [50, 3, 0, 12, 11, 15, 2, 21, 4, 7, 1, 3, 2, 0, 12, 0, 1, 0, 3, 2, 0, 11, 4, 3, 2, 0, 15, 0, 8, 3, 7, 1, 3, 2, 0, 12, 0, 0, 0, 7, 4, 3, 2, 0, 15, 0, 1, 2, 0, 11]), (20, [7, 0], [30, 0, 1, 0, 0, -1, 1, 15]), (20, [0, 7], [60, 6, 1, 948, 10, 11, 12, 13, 14, 15, 1]), (20, [8, 0], [50, 1, 0, 1012, 4, 6, 1, 2, 1, 0, 0, 1, 1, 3, 2, 1, 12, 0, 1]), (20, [0, 8], [60, 4, 1, 962, 12, 11, 10, 15, 1]), (100, [10, 19, 1], []), (1, [19, 18, 9], []), (1, [18, 11, 17], []), (23, [1, 9], [-1, 1, -1]), (20, [3, 7], [30, 0, 1, 0, 0, -1, 0, 0]), (20, [0, 0], [30, 0, 1, 1, 15, -1, 1, 11]), (20, [0], [50, 3, 0, 12, 11, 15, 2, 21, 4, 7, 1, 3, 2, 0, 12, 0, 1, 0, 3, 2, 0, 11, 4, 3, 2, 0, 15, 0, 8, 3, 7, 1, 3, 2, 0, 12, 0, 0, 0, 7, 4, 3, 2, 0, 15, 0, 1, 2, 0, 11]), (20, [7, 0], [30, 0, 1, 0, 0, -1, 1, 15]), (20, [0, 7], [60, 6, 1, 948, 10, 11, 12, 13, 14, 15, 1]), (20, [8, 0], [50, 1, 0, 1012, 4, 6, 1, 2, 1, 0, 0, 1, 1, 3, 2, 1, 12, 0, 1]), (20, [0, 8], [60, 4, 1, 962, 12, 11, 10, 15, 1]), (100, [10, 13, 16], []), (1, [16, 14, 15], []), (10, [14, 10, 13], []), (1, [13, 11, 12], []), (20, [9, 0], [30, 0, 1, 0, 0, -1, 3, 2005002]), (20, [9, 0], [30, 0, -1, 0, 0, 1, 3, 2005002]), (8, [8], [1]), (20, [0, 1, 2, 7], [60, 3, 2, 974, 10, 8, 5, 1, 2]), (20, [3, 7], [30, 0, 1, 0, 0, -1, 0, 0]), (20, [4, 0], [30, 0, 1, 0, 0, -1, 3, 2005002]), (20, [4, 0], [30, 0, -1, 0, 0, 1, 3, 2005002]), (20, [1, 0], [50, 1, 1, 1005, 1002, 0, 6, 4, 2, 1, 0, 0, 1, 3, 1, 2, 4, 3, 2, 1, 5, 0, 2]), (20, [0], [60, 1, 3, 199, 5, 2, 3, 4]), (20, [0, 0], [30, 0, 1, 1, 15, -1, 1, 11]), (20, [0], [50, 3, 0, 12, 11, 15, 2, 21, 4, 7, 1, 3, 2, 0, 12, 0, 1, 0, 3, 2, 0, 11, 4, 3, 2, 0, 15, 0, 8, 3, 7, 1, 3, 2, 0, 12, 0, 0, 0, 7, 4, 3, 2, 0, 15, 0, 1, 2, 0, 11]), (20, [7, 0], [30, 0, 1, 0, 0, -1, 1, 15]), (20, [0, 7], [60, 6, 1, 948, 10, 11, 12, 13, 14, 15, 1]), (20, [8, 0], [50, 1, 0, 1012, 4, 6, 1, 2, 1, 0, 0, 1, 1, 3, 2, 1, 12, 0, 1]), (20, [0, 8], [60, 4, 1, 962, 12, 11, 10, 15, 1]), (102, [7], [0]), (102, [7], [0, 165011, 165012, 165013, 165014, 165015]), (7, [2, 6], [1]), (7, [4, 5], [1])], [(25, (0, 0, 8, []))], [], [], [], [(25, 23, -2000, 0), (22, 9, 523, 66820), (22, 21, 0, 7), (22, 11, 523, 530), (21, 11, 523, 523), (19, 9, 531, 66828), (19, 18, 0, 7), (19, 11, 531, 538), (18, 11, 531, 531), (16, 14, 1, 1), (13, 11, 2, 2)])
theorem oo_Mo_groupItem_at_k2_7 {kA : Nat → ClassId} : or_ok PRD kA GG o_Mo_groupItem_at_k2_7 := by
  refine or_mk fun A ta ws vs hD hth hl => ?_
  intro t0 r0 t1 k1 t2 k2 t3 k3 t4 k4 t5 k5 t6 k6 t7 k7 t8 k8 t9 k9 t10 r10 t11 k11 t12 k12 t13 k13 t14 k14 t15 k15 t16 k16 t17 k17 t18 k18 t19 k19 t20 k20 t21 k21 t22 k22 t23 k23 t24 k24 t25 k25 d0 d1 d2 d3 d4 d5 d6 d7 d8 d9 d10 f0 f1 f2 f3 f4 f5 f6 f7 f8 f9 f10 f11 f12 f13 f14 ta1 w1 le1 s1 f16 f17 f18 f19 f20 f21 f22 f23 f24 f25 ta2 w2 le2 s2 f27 f28 f29 f30 f31 f32 f33 f34 f35 f36 f37 f38 f39 f40 f41 f42 f43 f44 ta3 w3 le3 s3 ta4 w4 le4 s4 f47 f48
  replace f0 := shm_14 f0
  replace f1 := shm_177 f1
  replace f2 := shm_116 f2
  replace f3 := shm_12 f3
  replace f4 := shm_12 f4
  replace f5 := shm_110 f5
  replace f6 := shm_120 f6
  replace f7 := shm_193 f7
  replace f8 := shm_201 f8
  replace f9 := shm_1437 f9
  replace f10 := shm_1438 f10
  replace f11 := shm_1436 f11
  replace f12 := shm_1439 f12
  replace f13 := shm_1856 f13
  replace f14 := shm_1889 f14
  have s1 : (∀ b j, w_el ws b j = if b = v_ad (n_v vs 10) ∧ j = (v_iv (n_v vs 19)).toNat then v_iv (n_v vs 1) else w_el w1 b j) ∧ ∀ b k, w_fd ws b k = w_fd w1 b k := s1.2
  replace f16 := shm_12 f16
  replace f17 := shm_12 f17
  replace f18 := shm_193 f18
  replace f19 := shm_201 f19
  replace f20 := shm_1437 f20
  replace f21 := shm_1438 f21
  replace f22 := shm_1436 f22
  replace f23 := shm_1439 f23
  replace f24 := shm_1856 f24
  replace f25 := shm_1889 f25
  have s2 : (∀ b j, w_el w1 b j = if b = v_ad (n_v vs 10) ∧ j = (v_iv (n_v vs 13)).toNat then v_iv (n_v vs 16) else w_el w2 b j) ∧ ∀ b k, w_fd w1 b k = w_fd w2 b k := s2.2
  replace f27 := shm_12 f27
  replace f28 := shm_107 f28
  replace f29 := shm_12 f29
  replace f30 := shm_123 f30
  replace f31 := shm_124 f31
  replace f32 := shm_142 f32
  replace f33 := shm_2174 f33
  replace f34 := shm_201 f34
  replace f35 := shm_123 f35
  replace f36 := shm_124 f36
  replace f37 := shm_1009 f37
  replace f38 := shm_980 f38
  replace f39 := shm_1437 f39
  replace f40 := shm_1438 f40
  replace f41 := shm_1436 f41
  replace f42 := shm_1439 f42
  replace f43 := shm_1856 f43
  replace f44 := shm_1889 f44
  replace f47 := shm_40 f47
  replace f48 := shm_40 f48
  have ar_0_1_1 : w_ar w1 (n_v vs 0) 1 = w_ar ws (n_v vs 0) 1 := congrArg v_ad (s1.2 _ _).symm
  have ar_0_1_2 : w_ar w2 (n_v vs 0) 1 = w_ar ws (n_v vs 0) 1 := by rw [← ar_0_1_1]; show v_ad (w_fd w2 _ _) = v_ad (w_fd w1 _ _); rw [s2.2]
  have cr_0_1 := fdq_39 hD hth r0
  have ar_0_2_1 : w_ar w1 (n_v vs 0) 2 = w_ar ws (n_v vs 0) 2 := congrArg v_ad (s1.2 _ _).symm
  have ar_0_2_2 : w_ar w2 (n_v vs 0) 2 = w_ar ws (n_v vs 0) 2 := by rw [← ar_0_2_1]; show v_ad (w_fd w2 _ _) = v_ad (w_fd w1 _ _); rw [s2.2]
  have cr_0_2 := fdq_10 hD hth r0
  have ar_0_3_1 : w_ar w1 (n_v vs 0) 3 = w_ar ws (n_v vs 0) 3 := congrArg v_ad (s1.2 _ _).symm
  have ar_0_3_2 : w_ar w2 (n_v vs 0) 3 = w_ar ws (n_v vs 0) 3 := by rw [← ar_0_3_1]; show v_ad (w_fd w2 _ _) = v_ad (w_fd w1 _ _); rw [s2.2]
  have cr_0_3 := fdq_142 hD hth r0
  have ar_0_4_1 : w_ar w1 (n_v vs 0) 4 = w_ar ws (n_v vs 0) 4 := congrArg v_ad (s1.2 _ _).symm
  have ar_0_4_2 : w_ar w2 (n_v vs 0) 4 = w_ar ws (n_v vs 0) 4 := by rw [← ar_0_4_1]; show v_ad (w_fd w2 _ _) = v_ad (w_fd w1 _ _); rw [s2.2]
  have cr_0_4 := fdq_143 hD hth r0
  have fi_0_5_1 : w_fi w1 (n_v vs 0) 5 = w_fi ws (n_v vs 0) 5 := by show v_iv (w_fd w1 _ _) = v_iv (w_fd ws _ _); rw [s1.2]
  have fi_0_5_2 : w_fi w2 (n_v vs 0) 5 = w_fi ws (n_v vs 0) 5 := by rw [← fi_0_5_1]; show v_iv (w_fd w2 _ _) = v_iv (w_fd w1 _ _); rw [s2.2]
  have ad_10 : v_ad (n_v vs 10) = w_ar ws (n_v vs 0) 2 := congrArg v_ad f6
  have g1 : v_iv (n_v vs 24) = w_fi ws (n_v vs 0) 15 := congrArg v_iv f1
  have g2 : v_iv (n_v vs 23) = w_fi ws (n_v vs 0) 11 := congrArg v_iv f2
  have g5 : v_iv (n_v vs 11) = w_fi ws (n_v vs 0) 5 := congrArg v_iv f5
  simp only [ar_0_1_1, ad_10] at f23 f25 f28
  have h28 : v_iv (n_v vs 14) = w_ei w2 (w_ar ws (n_v vs 0) 2) (v_iv (n_v vs 13)) := f28
  simp only [ar_0_2_2, ar_0_1_2, ar_0_3_2, ar_0_4_2] at f30 f31 f33 f35 f36 f37 f38 f42 f44
  simp only [fi_0_5_2] at f30 f31 f35 f36
  have fe_0_5_1 : w_fi ws (n_v vs 0) 5 = w_fi w1 (n_v vs 0) 5 := congrArg v_iv (s1.2 _ _)
  have fe_0_8_1 : w_fi ws (n_v vs 0) 8 = w_fi w1 (n_v vs 0) 8 := congrArg v_iv (s1.2 _ _)
  have fe_0_10_1 : w_fi ws (n_v vs 0) 10 = w_fi w1 (n_v vs 0) 10 := congrArg v_iv (s1.2 _ _)
  have fe_0_11_1 : w_fi ws (n_v vs 0) 11 = w_fi w1 (n_v vs 0) 11 := congrArg v_iv (s1.2 _ _)
  have fe_0_12_1 : w_fi ws (n_v vs 0) 12 = w_fi w1 (n_v vs 0) 12 := congrArg v_iv (s1.2 _ _)
  have fe_0_13_1 : w_fi ws (n_v vs 0) 13 = w_fi w1 (n_v vs 0) 13 := congrArg v_iv (s1.2 _ _)
  have fe_0_14_1 : w_fi ws (n_v vs 0) 14 = w_fi w1 (n_v vs 0) 14 := congrArg v_iv (s1.2 _ _)
  have fe_0_15_1 : w_fi ws (n_v vs 0) 15 = w_fi w1 (n_v vs 0) 15 := congrArg v_iv (s1.2 _ _)
  have fe_0_5_2 : w_fi w1 (n_v vs 0) 5 = w_fi w2 (n_v vs 0) 5 := congrArg v_iv (s2.2 _ _)
  have fe_0_8_2 : w_fi w1 (n_v vs 0) 8 = w_fi w2 (n_v vs 0) 8 := congrArg v_iv (s2.2 _ _)
  have fe_0_10_2 : w_fi w1 (n_v vs 0) 10 = w_fi w2 (n_v vs 0) 10 := congrArg v_iv (s2.2 _ _)
  have fe_0_11_2 : w_fi w1 (n_v vs 0) 11 = w_fi w2 (n_v vs 0) 11 := congrArg v_iv (s2.2 _ _)
  have fe_0_12_2 : w_fi w1 (n_v vs 0) 12 = w_fi w2 (n_v vs 0) 12 := congrArg v_iv (s2.2 _ _)
  have fe_0_13_2 : w_fi w1 (n_v vs 0) 13 = w_fi w2 (n_v vs 0) 13 := congrArg v_iv (s2.2 _ _)
  have fe_0_14_2 : w_fi w1 (n_v vs 0) 14 = w_fi w2 (n_v vs 0) 14 := congrArg v_iv (s2.2 _ _)
  have fe_0_15_2 : w_fi w1 (n_v vs 0) 15 = w_fi w2 (n_v vs 0) 15 := congrArg v_iv (s2.2 _ _)
  have hE_0_1_1 : ∀ j : Int, w_ei ws (w_ar ws (n_v vs 0) 1) j = w_ei w1 (w_ar ws (n_v vs 0) 1) j := el_kp s1.1 r10 cr_0_1 (by decide)
  have hE_0_1_2 : ∀ j : Int, w_ei w1 (w_ar ws (n_v vs 0) 1) j = w_ei w2 (w_ar ws (n_v vs 0) 1) j := el_kp s2.1 r10 cr_0_1 (by decide)
  have hK_0_1 := elq_7 hD hth cr_0_1
  have hE_0_2_1 : ∀ j : Int, 0 ≤ j → (j = v_iv (n_v vs 19) → w_ei ws (w_ar ws (n_v vs 0) 2) j = v_iv (n_v vs 1)) ∧ (j ≠ v_iv (n_v vs 19) → w_ei ws (w_ar ws (n_v vs 0) 2) j = w_ei w1 (w_ar ws (n_v vs 0) 2) j) := fun j hj => ⟨fun h => by unfold w_ei; rw [s1.1, if_pos ⟨ad_10.symm, by rw [h]⟩], fun h => by unfold w_ei; rw [s1.1, if_neg (fun e => h (by have := e.2; omega))]⟩
  have hE_0_2_2 : ∀ j : Int, 0 ≤ j → (j = v_iv (n_v vs 13) → w_ei w1 (w_ar ws (n_v vs 0) 2) j = v_iv (n_v vs 16)) ∧ (j ≠ v_iv (n_v vs 13) → w_ei w1 (w_ar ws (n_v vs 0) 2) j = w_ei w2 (w_ar ws (n_v vs 0) 2) j) := fun j hj => ⟨fun h => by unfold w_ei; rw [s2.1, if_pos ⟨ad_10.symm, by rw [h]⟩], fun h => by unfold w_ei; rw [s2.1, if_neg (fun e => h (by have := e.2; omega))]⟩
  have hE_0_3_1 : ∀ j : Int, w_ei ws (w_ar ws (n_v vs 0) 3) j = w_ei w1 (w_ar ws (n_v vs 0) 3) j := el_kp s1.1 r10 cr_0_3 (by decide)
  have hE_0_3_2 : ∀ j : Int, w_ei w1 (w_ar ws (n_v vs 0) 3) j = w_ei w2 (w_ar ws (n_v vs 0) 3) j := el_kp s2.1 r10 cr_0_3 (by decide)
  have hK_0_3 := elq_80 hD hth cr_0_3
  have hE_0_4_1 : ∀ j : Int, w_ei ws (w_ar ws (n_v vs 0) 4) j = w_ei w1 (w_ar ws (n_v vs 0) 4) j := el_kp s1.1 r10 cr_0_4 (by decide)
  have hE_0_4_2 : ∀ j : Int, w_ei w1 (w_ar ws (n_v vs 0) 4) j = w_ei w2 (w_ar ws (n_v vs 0) 4) j := el_kp s2.1 r10 cr_0_4 (by decide)
  have hK_0_4 := elq_81 hD hth cr_0_4
  have kz_0_8 := fdq_34 hD hth r0
  have kz_0_10 := fdq_43 hD hth r0
  have kz_0_11 := fdq_237 hD hth r0
  have kz_0_12 := fdq_187 hD hth r0
  have kz_0_13 := fdq_238 hD hth r0
  have kz_0_14 := fdq_188 hD hth r0
  have kz_0_15 := fdq_239 hD hth r0
  first | have hJ0 : w_ei w2 (w_ar ws (n_v vs 0) 2) ((w_fi w2 (n_v vs 0) 5 + 2)) = w_ei w2 (w_ar ws (n_v vs 0) 2) ((w_fi ws (n_v vs 0) 5 + 2)) := congrArg _ (show ((w_fi w2 (n_v vs 0) 5 + 2) : Int) = (w_fi ws (n_v vs 0) 5 + 2) from by omega) | skip
  first | have hI1 := (hE_0_2_1 ((w_fi ws (n_v vs 0) 5 + 2)) (by omega)).2 (by omega) | have hI1 := (hE_0_2_1 ((w_fi ws (n_v vs 0) 5 + 2)) (by omega)).1 (by omega) | skip
  first | have hI2 := (hE_0_2_2 ((w_fi ws (n_v vs 0) 5 + 2)) (by omega)).2 (by omega) | have hI2 := (hE_0_2_2 ((w_fi ws (n_v vs 0) 5 + 2)) (by omega)).1 (by omega) | skip
  have hrf0 : 0 ≤ v_iv (n_v vs 25) ∧ v_iv (n_v vs 25) ≤ 8 := vc_Mo_groupItem_at_k2_7_r0 (v_iv (n_v vs 1)) (v_iv (n_v vs 8)) (v_iv (n_v vs 13)) (v_iv (n_v vs 16)) (v_iv (n_v vs 19)) (v_iv (n_v vs 23)) (v_iv (n_v vs 24)) (v_iv (n_v vs 25)) (w_fi ws (n_v vs 0) 15) (w_fi ws (n_v vs 0) 11) (w_fi ws (n_v vs 0) 5) (w_fi ws (n_v vs 0) 12) (w_ei ws (w_ar ws (n_v vs 0) 1)) (w_fi ws (n_v vs 0) 10) (w_fi ws (n_v vs 0) 13) (w_fi ws (n_v vs 0) 14) (w_fi w1 (n_v vs 0) 15) (w_fi w1 (n_v vs 0) 11) (w_fi w1 (n_v vs 0) 12) (w_ei w1 (w_ar ws (n_v vs 0) 1)) (w_fi w1 (n_v vs 0) 10) (w_fi w1 (n_v vs 0) 13) (w_fi w1 (n_v vs 0) 14) (w_ei w2 (w_ar ws (n_v vs 0) 2)) (w_ei w2 (w_ar ws (n_v vs 0) 1)) (w_fi w2 (n_v vs 0) 10) (w_fi w2 (n_v vs 0) 8) (w_fi w2 (n_v vs 0) 5) (w_ei w2 (w_ar ws (n_v vs 0) 3)) (w_ei w2 (w_ar ws (n_v vs 0) 4)) (w_fi w2 (n_v vs 0) 15) (w_fi w2 (n_v vs 0) 11) (w_fi w2 (n_v vs 0) 12) (w_fi w2 (n_v vs 0) 13) (w_fi w2 (n_v vs 0) 14) (w_fi w1 (n_v vs 0) 5) (w_fi ws (n_v vs 0) 8) (w_fi w1 (n_v vs 0) 8) (w_ei ws (w_ar ws (n_v vs 0) 2)) (w_ei w1 (w_ar ws (n_v vs 0) 2)) (w_ei ws (w_ar ws (n_v vs 0) 3)) (w_ei w1 (w_ar ws (n_v vs 0) 3)) (w_ei ws (w_ar ws (n_v vs 0) 4)) (w_ei w1 (w_ar ws (n_v vs 0) 4)) k1 k8 k13 k16 k19 k23 k24 k25 f0 g1 g2 f9 f40 f43 fe_0_5_1 fe_0_8_1 fe_0_10_1 fe_0_11_1 fe_0_12_1 fe_0_13_1 fe_0_14_1 fe_0_15_1 fe_0_5_2 fe_0_8_2 fe_0_10_2 fe_0_11_2 fe_0_12_2 fe_0_13_2 fe_0_14_2 fe_0_15_2 hE_0_1_1 hE_0_1_2 hE_0_2_1 hE_0_2_2 hE_0_3_1 hE_0_3_2 hE_0_4_1 hE_0_4_2 kz_0_8 kz_0_10 kz_0_11 kz_0_12 kz_0_13 kz_0_14 kz_0_15
  have rf25 : tv_ok ta (0, 0, 8, []) (n_v vs 25) := tv_in t25 (by first | omega | grind) (by first | omega | grind)
  refine ⟨List.forall_mem_cons.mpr ⟨rf25, (fun _ h => (by cases h))⟩, [], trivial, ?_, (fun _ h => (by cases h))⟩
  rw [List.append_nil]
  exact (fun _ h => (by cases h))
set_option maxHeartbeats 4000000 in
theorem vc_Mo_groupItem_at_k2_8_0 (x1 : Int) (x3 : Int) (x7 : Int) (x8 : Int) (x13 : Int) (x16 : Int) (x19 : Int) (x22 : Int) (x23 : Int) (x24 : Int) (x25 : Int) (from_0 : Int) (pos_0 : Int) (r_0 : Int) (kind_0 : Int) (tape_0 : Int → Int) (limit_0 : Int) (place_0 : Int) (value_0 : Int) (from_1 : Int) (pos_1 : Int) (kind_1 : Int) (tape_1 : Int → Int) (limit_1 : Int) (place_1 : Int) (value_1 : Int) (from_2 : Int) (pos_2 : Int) (kind_2 : Int) (tape_2 : Int → Int) (limit_2 : Int) (place_2 : Int) (value_2 : Int) (all_3 : Int → Int) (tape_3 : Int → Int) (limit_3 : Int) (fault_3 : Int) (r_3 : Int) (now_3 : Int → Int) (latest_3 : Int → Int) (from_3 : Int) (pos_3 : Int) (kind_3 : Int) (place_3 : Int) (value_3 : Int) (r_1 : Int) (fault_0 : Int) (fault_1 : Int) (r_2 : Int) (fault_2 : Int) (all_0 : Int → Int) (all_1 : Int → Int) (all_2 : Int → Int) (now_0 : Int → Int) (now_1 : Int → Int) (now_2 : Int → Int) (latest_0 : Int → Int) (latest_1 : Int → Int) (latest_2 : Int → Int) (k1 : 0 ≤ x1 ∧ x1 ≤ 7) (k3 : 0 ≤ x3 ∧ x3 ≤ 2000) (k7 : 0 ≤ x7 ∧ x7 ≤ 2000) (k8 : 1 ≤ x8 ∧ x8 ≤ 1) (k13 : 2 ≤ x13 ∧ x13 ≤ 66299) (k16 : 1 ≤ x16 ∧ x16 ≤ 8) (k19 : 531 ≤ x19 ∧ x19 ≤ 66835) (k22 : 523 ≤ x22 ∧ x22 ≤ 66827) (k23 : 0 ≤ x23 ∧ x23 ≤ 2000) (k24 : 0 ≤ x24 ∧ x24 ≤ 2000) (k25 : 0 ≤ x25 ∧ x25 ≤ 8) (g0 : x24 = from_0) (g1 : x23 = pos_0) (f5 : 1 * x3 + ((-1) * x7 + 0) ≤ 0) (f8 : 1 * x7 + ((-1) * from_0 + 0) ≤ 0) (f13 : x25 = x23 - x24) (f49 : ((kind_3 = 1) → (pos_3 ≤ (from_3 + 8))) ∧ ((kind_3 = 0) ∨ ((from_3 + 1) ≤ pos_3))) (f52 : (x8 = 1) → (kind_3 = 1)) (fe_0_5_1 : r_0 = r_1) (fe_0_8_1 : fault_0 = fault_1) (fe_0_10_1 : limit_0 = limit_1) (fe_0_11_1 : pos_0 = pos_1) (fe_0_12_1 : kind_0 = kind_1) (fe_0_13_1 : place_0 = place_1) (fe_0_14_1 : value_0 = value_1) (fe_0_15_1 : from_0 = from_1) (fe_0_5_2 : r_1 = r_2) (fe_0_8_2 : fault_1 = fault_2) (fe_0_10_2 : limit_1 = limit_2) (fe_0_11_2 : pos_1 = pos_2) (fe_0_12_2 : kind_1 = kind_2) (fe_0_13_2 : place_1 = place_2) (fe_0_14_2 : value_1 = value_2) (fe_0_15_2 : from_1 = from_2) (fe_0_5_3 : r_2 = r_3) (fe_0_8_3 : fault_2 = fault_3) (fe_0_10_3 : limit_2 = limit_3) (fe_0_11_3 : pos_2 = pos_3) (fe_0_12_3 : kind_2 = kind_3) (fe_0_13_3 : place_2 = place_3) (fe_0_14_3 : value_2 = value_3) (fe_0_15_3 : from_2 = from_3) (hE_0_1_1 : ∀ j : Int, tape_0 j = tape_1 j) (hE_0_1_2 : ∀ j : Int, tape_1 j = tape_2 j) (hE_0_1_3 : ∀ j : Int, tape_2 j = tape_3 j) (hE_0_2_1 : ∀ j : Int, 0 ≤ j → (j = x22 → all_0 j = x25) ∧ (j ≠ x22 → all_0 j = all_1 j)) (hE_0_2_2 : ∀ j : Int, 0 ≤ j → (j = x19 → all_1 j = x1) ∧ (j ≠ x19 → all_1 j = all_2 j)) (hE_0_2_3 : ∀ j : Int, 0 ≤ j → (j = x13 → all_2 j = x16) ∧ (j ≠ x13 → all_2 j = all_3 j)) (hE_0_3_1 : ∀ j : Int, now_0 j = now_1 j) (hE_0_3_2 : ∀ j : Int, now_1 j = now_2 j) (hE_0_3_3 : ∀ j : Int, now_2 j = now_3 j) (hE_0_4_1 : ∀ j : Int, latest_0 j = latest_1 j) (hE_0_4_2 : ∀ j : Int, latest_1 j = latest_2 j) (hE_0_4_3 : ∀ j : Int, latest_2 j = latest_3 j) (kz_0_8 : 0 ≤ fault_0 ∧ fault_0 ≤ 5) (kz_0_10 : 0 ≤ limit_0 ∧ limit_0 ≤ 2000) (kz_0_11 : 0 ≤ pos_0 ∧ pos_0 ≤ 2000) (kz_0_12 : 0 ≤ kind_0 ∧ kind_0 ≤ 4) (kz_0_13 : 0 ≤ place_0 ∧ place_0 ≤ 2000) (kz_0_14 : (-49) ≤ value_0 ∧ value_0 ≤ 1048575) (kz_0_15 : 0 ≤ from_0 ∧ from_0 ≤ 2000) : 1 * x3 + ((-1) * pos_0 + 0) ≤ (-1) := by
  subst fe_0_5_1
  subst fe_0_8_1
  subst fe_0_10_1
  subst fe_0_11_1
  subst fe_0_12_1
  subst fe_0_13_1
  subst fe_0_14_1
  subst fe_0_15_1
  subst fe_0_5_2
  subst fe_0_8_2
  subst fe_0_10_2
  subst fe_0_11_2
  subst fe_0_12_2
  subst fe_0_13_2
  subst fe_0_14_2
  subst fe_0_15_2
  subst fe_0_5_3
  subst fe_0_8_3
  subst fe_0_10_3
  subst fe_0_11_3
  subst fe_0_12_3
  subst fe_0_13_3
  subst fe_0_14_3
  subst fe_0_15_3
  have e_hE_0_1_1 := funext hE_0_1_1; subst e_hE_0_1_1
  have e_hE_0_1_2 := funext hE_0_1_2; subst e_hE_0_1_2
  have e_hE_0_1_3 := funext hE_0_1_3; subst e_hE_0_1_3
  have e_hE_0_3_1 := funext hE_0_3_1; subst e_hE_0_3_1
  have e_hE_0_3_2 := funext hE_0_3_2; subst e_hE_0_3_2
  have e_hE_0_3_3 := funext hE_0_3_3; subst e_hE_0_3_3
  have e_hE_0_4_1 := funext hE_0_4_1; subst e_hE_0_4_1
  have e_hE_0_4_2 := funext hE_0_4_2; subst e_hE_0_4_2
  have e_hE_0_4_3 := funext hE_0_4_3; subst e_hE_0_4_3
  first
    | omega
    | (have q1 := (hE_0_2_1 (r_0 + 2) (by omega)).2 (by omega)
       have q2 := (hE_0_2_2 (r_0 + 2) (by omega)).2 (by omega)
       omega)
    | (have q1 := (hE_0_2_1 (r_0 + 1) (by omega)).2 (by omega)
       have q2 := (hE_0_2_2 (r_0 + 1) (by omega)).2 (by omega)
       omega)
    | (have q1 := (hE_0_2_1 (r_0 + 2) (by omega)).2 (by omega)
       omega)
    | (have q1 := (hE_0_2_1 (r_0 + 1) (by omega)).2 (by omega)
       omega)
    | (have q1 := (hE_0_2_1 (r_0 + 2) (by omega)).2 (by omega)
       have q2 := (hE_0_2_2 (r_0 + 2) (by omega)).2 (by omega)
       have q3 := (hE_0_2_3 (r_0 + 2) (by omega)).1 (by omega)
       omega)
    | (have q1 := (hE_0_2_1 (r_0 + 2) (by omega)).2 (by omega)
       have q2 := (hE_0_2_2 (r_0 + 2) (by omega)).2 (by omega)
       have q3 := (hE_0_2_3 (r_0 + 2) (by omega)).2 (by omega)
       omega)
    | (have q1 := (hE_0_2_1 (r_0 + 2) (by omega)).2 (by omega)
       have q2 := (hE_0_2_2 (r_0 + 2) (by omega)).2 (by omega)
       have q3 := (hE_0_2_3 (r_0 + 2) (by omega)).1 (by omega)
       have q4 : x13 = r_0 + 2 := by omega
       simp only [q4] at *
       omega)
set_option maxHeartbeats 4000000 in
theorem vc_Mo_groupItem_at_k2_8_1 (x1 : Int) (x8 : Int) (x13 : Int) (x16 : Int) (x19 : Int) (x22 : Int) (x25 : Int) (from_0 : Int) (pos_0 : Int) (r_0 : Int) (kind_0 : Int) (tape_0 : Int → Int) (limit_0 : Int) (place_0 : Int) (value_0 : Int) (from_1 : Int) (pos_1 : Int) (kind_1 : Int) (tape_1 : Int → Int) (limit_1 : Int) (place_1 : Int) (value_1 : Int) (from_2 : Int) (pos_2 : Int) (kind_2 : Int) (tape_2 : Int → Int) (limit_2 : Int) (place_2 : Int) (value_2 : Int) (all_3 : Int → Int) (tape_3 : Int → Int) (limit_3 : Int) (fault_3 : Int) (r_3 : Int) (now_3 : Int → Int) (latest_3 : Int → Int) (from_3 : Int) (pos_3 : Int) (kind_3 : Int) (place_3 : Int) (value_3 : Int) (r_1 : Int) (fault_0 : Int) (fault_1 : Int) (r_2 : Int) (fault_2 : Int) (all_0 : Int → Int) (all_1 : Int → Int) (all_2 : Int → Int) (now_0 : Int → Int) (now_1 : Int → Int) (now_2 : Int → Int) (latest_0 : Int → Int) (latest_1 : Int → Int) (latest_2 : Int → Int) (k1 : 0 ≤ x1 ∧ x1 ≤ 7) (k8 : 1 ≤ x8 ∧ x8 ≤ 1) (k13 : 2 ≤ x13 ∧ x13 ≤ 66299) (k16 : 1 ≤ x16 ∧ x16 ≤ 8) (k19 : 531 ≤ x19 ∧ x19 ≤ 66835) (k22 : 523 ≤ x22 ∧ x22 ≤ 66827) (k25 : 0 ≤ x25 ∧ x25 ≤ 8) (f49 : ((kind_3 = 1) → (pos_3 ≤ (from_3 + 8))) ∧ ((kind_3 = 0) ∨ ((from_3 + 1) ≤ pos_3))) (f52 : (x8 = 1) → (kind_3 = 1)) (fe_0_5_1 : r_0 = r_1) (fe_0_8_1 : fault_0 = fault_1) (fe_0_10_1 : limit_0 = limit_1) (fe_0_11_1 : pos_0 = pos_1) (fe_0_12_1 : kind_0 = kind_1) (fe_0_13_1 : place_0 = place_1) (fe_0_14_1 : value_0 = value_1) (fe_0_15_1 : from_0 = from_1) (fe_0_5_2 : r_1 = r_2) (fe_0_8_2 : fault_1 = fault_2) (fe_0_10_2 : limit_1 = limit_2) (fe_0_11_2 : pos_1 = pos_2) (fe_0_12_2 : kind_1 = kind_2) (fe_0_13_2 : place_1 = place_2) (fe_0_14_2 : value_1 = value_2) (fe_0_15_2 : from_1 = from_2) (fe_0_5_3 : r_2 = r_3) (fe_0_8_3 : fault_2 = fault_3) (fe_0_10_3 : limit_2 = limit_3) (fe_0_11_3 : pos_2 = pos_3) (fe_0_12_3 : kind_2 = kind_3) (fe_0_13_3 : place_2 = place_3) (fe_0_14_3 : value_2 = value_3) (fe_0_15_3 : from_2 = from_3) (hE_0_1_1 : ∀ j : Int, tape_0 j = tape_1 j) (hE_0_1_2 : ∀ j : Int, tape_1 j = tape_2 j) (hE_0_1_3 : ∀ j : Int, tape_2 j = tape_3 j) (hE_0_2_1 : ∀ j : Int, 0 ≤ j → (j = x22 → all_0 j = x25) ∧ (j ≠ x22 → all_0 j = all_1 j)) (hE_0_2_2 : ∀ j : Int, 0 ≤ j → (j = x19 → all_1 j = x1) ∧ (j ≠ x19 → all_1 j = all_2 j)) (hE_0_2_3 : ∀ j : Int, 0 ≤ j → (j = x13 → all_2 j = x16) ∧ (j ≠ x13 → all_2 j = all_3 j)) (hE_0_3_1 : ∀ j : Int, now_0 j = now_1 j) (hE_0_3_2 : ∀ j : Int, now_1 j = now_2 j) (hE_0_3_3 : ∀ j : Int, now_2 j = now_3 j) (hE_0_4_1 : ∀ j : Int, latest_0 j = latest_1 j) (hE_0_4_2 : ∀ j : Int, latest_1 j = latest_2 j) (hE_0_4_3 : ∀ j : Int, latest_2 j = latest_3 j) (kz_0_8 : 0 ≤ fault_0 ∧ fault_0 ≤ 5) (kz_0_10 : 0 ≤ limit_0 ∧ limit_0 ≤ 2000) (kz_0_11 : 0 ≤ pos_0 ∧ pos_0 ≤ 2000) (kz_0_12 : 0 ≤ kind_0 ∧ kind_0 ≤ 4) (kz_0_13 : 0 ≤ place_0 ∧ place_0 ≤ 2000) (kz_0_14 : (-49) ≤ value_0 ∧ value_0 ≤ 1048575) (kz_0_15 : 0 ≤ from_0 ∧ from_0 ≤ 2000) : kind_0 = 1 := by
  subst fe_0_5_1
  subst fe_0_8_1
  subst fe_0_10_1
  subst fe_0_11_1
  subst fe_0_12_1
  subst fe_0_13_1
  subst fe_0_14_1
  subst fe_0_15_1
  subst fe_0_5_2
  subst fe_0_8_2
  subst fe_0_10_2
  subst fe_0_11_2
  subst fe_0_12_2
  subst fe_0_13_2
  subst fe_0_14_2
  subst fe_0_15_2
  subst fe_0_5_3
  subst fe_0_8_3
  subst fe_0_10_3
  subst fe_0_11_3
  subst fe_0_12_3
  subst fe_0_13_3
  subst fe_0_14_3
  subst fe_0_15_3
  have e_hE_0_1_1 := funext hE_0_1_1; subst e_hE_0_1_1
  have e_hE_0_1_2 := funext hE_0_1_2; subst e_hE_0_1_2
  have e_hE_0_1_3 := funext hE_0_1_3; subst e_hE_0_1_3
  have e_hE_0_3_1 := funext hE_0_3_1; subst e_hE_0_3_1
  have e_hE_0_3_2 := funext hE_0_3_2; subst e_hE_0_3_2
  have e_hE_0_3_3 := funext hE_0_3_3; subst e_hE_0_3_3
  have e_hE_0_4_1 := funext hE_0_4_1; subst e_hE_0_4_1
  have e_hE_0_4_2 := funext hE_0_4_2; subst e_hE_0_4_2
  have e_hE_0_4_3 := funext hE_0_4_3; subst e_hE_0_4_3
  first
    | omega
    | (have q1 := (hE_0_2_1 (r_0 + 2) (by omega)).2 (by omega)
       have q2 := (hE_0_2_2 (r_0 + 2) (by omega)).2 (by omega)
       omega)
    | (have q1 := (hE_0_2_1 (r_0 + 1) (by omega)).2 (by omega)
       have q2 := (hE_0_2_2 (r_0 + 1) (by omega)).2 (by omega)
       omega)
    | (have q1 := (hE_0_2_1 (r_0 + 2) (by omega)).2 (by omega)
       omega)
    | (have q1 := (hE_0_2_1 (r_0 + 1) (by omega)).2 (by omega)
       omega)
    | (have q1 := (hE_0_2_1 (r_0 + 2) (by omega)).2 (by omega)
       have q2 := (hE_0_2_2 (r_0 + 2) (by omega)).2 (by omega)
       have q3 := (hE_0_2_3 (r_0 + 2) (by omega)).1 (by omega)
       omega)
    | (have q1 := (hE_0_2_1 (r_0 + 2) (by omega)).2 (by omega)
       have q2 := (hE_0_2_2 (r_0 + 2) (by omega)).2 (by omega)
       have q3 := (hE_0_2_3 (r_0 + 2) (by omega)).2 (by omega)
       omega)
    | (have q1 := (hE_0_2_1 (r_0 + 2) (by omega)).2 (by omega)
       have q2 := (hE_0_2_2 (r_0 + 2) (by omega)).2 (by omega)
       have q3 := (hE_0_2_3 (r_0 + 2) (by omega)).1 (by omega)
       have q4 : x13 = r_0 + 2 := by omega
       simp only [q4] at *
       omega)
set_option maxHeartbeats 4000000 in
theorem vc_Mo_groupItem_at_k2_8_2 (x1 : Int) (x4 : Int) (x9 : Int) (x11 : Int) (x13 : Int) (x14 : Int) (x16 : Int) (x18 : Int) (x19 : Int) (x21 : Int) (x22 : Int) (x25 : Int) (from_0 : Int) (pos_0 : Int) (r_0 : Int) (kind_0 : Int) (tape_0 : Int → Int) (limit_0 : Int) (place_0 : Int) (value_0 : Int) (from_1 : Int) (pos_1 : Int) (kind_1 : Int) (tape_1 : Int → Int) (limit_1 : Int) (place_1 : Int) (value_1 : Int) (from_2 : Int) (pos_2 : Int) (kind_2 : Int) (tape_2 : Int → Int) (limit_2 : Int) (place_2 : Int) (value_2 : Int) (all_3 : Int → Int) (tape_3 : Int → Int) (limit_3 : Int) (fault_3 : Int) (r_3 : Int) (now_3 : Int → Int) (latest_3 : Int → Int) (from_3 : Int) (pos_3 : Int) (kind_3 : Int) (place_3 : Int) (value_3 : Int) (r_1 : Int) (fault_0 : Int) (fault_1 : Int) (r_2 : Int) (fault_2 : Int) (all_0 : Int → Int) (all_1 : Int → Int) (all_2 : Int → Int) (now_0 : Int → Int) (now_1 : Int → Int) (now_2 : Int → Int) (latest_0 : Int → Int) (latest_1 : Int → Int) (latest_2 : Int → Int) (k1 : 0 ≤ x1 ∧ x1 ≤ 7) (k4 : 0 ≤ x4 ∧ x4 ≤ 7) (k9 : 0 ≤ x9 ∧ x9 ≤ 7) (k11 : 0 ≤ x11 ∧ x11 ≤ 66297) (k13 : 2 ≤ x13 ∧ x13 ≤ 66299) (k14 : 0 ≤ x14 ∧ x14 ≤ 8) (k16 : 1 ≤ x16 ∧ x16 ≤ 8) (k18 : 531 ≤ x18 ∧ x18 ≤ 66828) (k19 : 531 ≤ x19 ∧ x19 ≤ 66835) (k21 : 523 ≤ x21 ∧ x21 ≤ 66820) (k22 : 523 ≤ x22 ∧ x22 ≤ 66827) (k25 : 0 ≤ x25 ∧ x25 ≤ 8) (d4 : x11 + 523 ≤ x21 ∧ x21 ≤ x11 + 523) (d8 : x11 + 531 ≤ x18 ∧ x18 ≤ x11 + 531) (d9 : x14 + 1 ≤ x16 ∧ x16 ≤ x14 + 1) (d10 : x11 + 2 ≤ x13 ∧ x13 ≤ x11 + 2) (g2 : x11 = r_0) (f14 : x22 = x21 + x9) (f25 : x19 = x18 + x9) (h37 : x14 = all_3 (x13)) (f39 : 1 * x9 + ((-1) * all_3 (r_0 + 2) + 0) ≤ 0) (f40 : (-1) * x9 + (1 * all_3 (r_0 + 2) + 0) ≤ 0) (f44 : 1 * x4 + ((-1) * all_3 (r_0 + 2) + 0) ≤ 0) (f45 : (-1) * x4 + (1 * all_3 (r_0 + 2) + 0) ≤ 0) (fe_0_5_1 : r_0 = r_1) (fe_0_8_1 : fault_0 = fault_1) (fe_0_10_1 : limit_0 = limit_1) (fe_0_11_1 : pos_0 = pos_1) (fe_0_12_1 : kind_0 = kind_1) (fe_0_13_1 : place_0 = place_1) (fe_0_14_1 : value_0 = value_1) (fe_0_15_1 : from_0 = from_1) (fe_0_5_2 : r_1 = r_2) (fe_0_8_2 : fault_1 = fault_2) (fe_0_10_2 : limit_1 = limit_2) (fe_0_11_2 : pos_1 = pos_2) (fe_0_12_2 : kind_1 = kind_2) (fe_0_13_2 : place_1 = place_2) (fe_0_14_2 : value_1 = value_2) (fe_0_15_2 : from_1 = from_2) (fe_0_5_3 : r_2 = r_3) (fe_0_8_3 : fault_2 = fault_3) (fe_0_10_3 : limit_2 = limit_3) (fe_0_11_3 : pos_2 = pos_3) (fe_0_12_3 : kind_2 = kind_3) (fe_0_13_3 : place_2 = place_3) (fe_0_14_3 : value_2 = value_3) (fe_0_15_3 : from_2 = from_3) (hE_0_1_1 : ∀ j : Int, tape_0 j = tape_1 j) (hE_0_1_2 : ∀ j : Int, tape_1 j = tape_2 j) (hE_0_1_3 : ∀ j : Int, tape_2 j = tape_3 j) (hE_0_2_1 : ∀ j : Int, 0 ≤ j → (j = x22 → all_0 j = x25) ∧ (j ≠ x22 → all_0 j = all_1 j)) (hE_0_2_2 : ∀ j : Int, 0 ≤ j → (j = x19 → all_1 j = x1) ∧ (j ≠ x19 → all_1 j = all_2 j)) (hE_0_2_3 : ∀ j : Int, 0 ≤ j → (j = x13 → all_2 j = x16) ∧ (j ≠ x13 → all_2 j = all_3 j)) (hE_0_3_1 : ∀ j : Int, now_0 j = now_1 j) (hE_0_3_2 : ∀ j : Int, now_1 j = now_2 j) (hE_0_3_3 : ∀ j : Int, now_2 j = now_3 j) (hE_0_4_1 : ∀ j : Int, latest_0 j = latest_1 j) (hE_0_4_2 : ∀ j : Int, latest_1 j = latest_2 j) (hE_0_4_3 : ∀ j : Int, latest_2 j = latest_3 j) (kz_0_8 : 0 ≤ fault_0 ∧ fault_0 ≤ 5) (kz_0_10 : 0 ≤ limit_0 ∧ limit_0 ≤ 2000) (kz_0_11 : 0 ≤ pos_0 ∧ pos_0 ≤ 2000) (kz_0_12 : 0 ≤ kind_0 ∧ kind_0 ≤ 4) (kz_0_13 : 0 ≤ place_0 ∧ place_0 ≤ 2000) (kz_0_14 : (-49) ≤ value_0 ∧ value_0 ≤ 1048575) (kz_0_15 : 0 ≤ from_0 ∧ from_0 ≤ 2000) : (x9 + 1) ≤ all_0 ((r_0 + 2)) := by
  subst fe_0_5_1
  subst fe_0_8_1
  subst fe_0_10_1
  subst fe_0_11_1
  subst fe_0_12_1
  subst fe_0_13_1
  subst fe_0_14_1
  subst fe_0_15_1
  subst fe_0_5_2
  subst fe_0_8_2
  subst fe_0_10_2
  subst fe_0_11_2
  subst fe_0_12_2
  subst fe_0_13_2
  subst fe_0_14_2
  subst fe_0_15_2
  subst fe_0_5_3
  subst fe_0_8_3
  subst fe_0_10_3
  subst fe_0_11_3
  subst fe_0_12_3
  subst fe_0_13_3
  subst fe_0_14_3
  subst fe_0_15_3
  have e_hE_0_1_1 := funext hE_0_1_1; subst e_hE_0_1_1
  have e_hE_0_1_2 := funext hE_0_1_2; subst e_hE_0_1_2
  have e_hE_0_1_3 := funext hE_0_1_3; subst e_hE_0_1_3
  have e_hE_0_3_1 := funext hE_0_3_1; subst e_hE_0_3_1
  have e_hE_0_3_2 := funext hE_0_3_2; subst e_hE_0_3_2
  have e_hE_0_3_3 := funext hE_0_3_3; subst e_hE_0_3_3
  have e_hE_0_4_1 := funext hE_0_4_1; subst e_hE_0_4_1
  have e_hE_0_4_2 := funext hE_0_4_2; subst e_hE_0_4_2
  have e_hE_0_4_3 := funext hE_0_4_3; subst e_hE_0_4_3
  first
    | omega
    | (have q1 := (hE_0_2_1 (r_0 + 2) (by omega)).2 (by omega)
       have q2 := (hE_0_2_2 (r_0 + 2) (by omega)).2 (by omega)
       omega)
    | (have q1 := (hE_0_2_1 (r_0 + 1) (by omega)).2 (by omega)
       have q2 := (hE_0_2_2 (r_0 + 1) (by omega)).2 (by omega)
       omega)
    | (have q1 := (hE_0_2_1 (r_0 + 2) (by omega)).2 (by omega)
       omega)
    | (have q1 := (hE_0_2_1 (r_0 + 1) (by omega)).2 (by omega)
       omega)
    | (have q1 := (hE_0_2_1 (r_0 + 2) (by omega)).2 (by omega)
       have q2 := (hE_0_2_2 (r_0 + 2) (by omega)).2 (by omega)
       have q3 := (hE_0_2_3 (r_0 + 2) (by omega)).1 (by omega)
       omega)
    | (have q1 := (hE_0_2_1 (r_0 + 2) (by omega)).2 (by omega)
       have q2 := (hE_0_2_2 (r_0 + 2) (by omega)).2 (by omega)
       have q3 := (hE_0_2_3 (r_0 + 2) (by omega)).2 (by omega)
       omega)
    | (have q1 := (hE_0_2_1 (r_0 + 2) (by omega)).2 (by omega)
       have q2 := (hE_0_2_2 (r_0 + 2) (by omega)).2 (by omega)
       have q3 := (hE_0_2_3 (r_0 + 2) (by omega)).1 (by omega)
       have q4 : x13 = r_0 + 2 := by omega
       simp only [q4] at *
       omega)
set_option maxHeartbeats 4000000 in
theorem vc_Mo_groupItem_at_k2_8_3 (x1 : Int) (x4 : Int) (x9 : Int) (x11 : Int) (x13 : Int) (x16 : Int) (x18 : Int) (x19 : Int) (x21 : Int) (x22 : Int) (x25 : Int) (from_0 : Int) (pos_0 : Int) (r_0 : Int) (kind_0 : Int) (tape_0 : Int → Int) (limit_0 : Int) (place_0 : Int) (value_0 : Int) (from_1 : Int) (pos_1 : Int) (kind_1 : Int) (tape_1 : Int → Int) (limit_1 : Int) (place_1 : Int) (value_1 : Int) (from_2 : Int) (pos_2 : Int) (kind_2 : Int) (tape_2 : Int → Int) (limit_2 : Int) (place_2 : Int) (value_2 : Int) (all_3 : Int → Int) (tape_3 : Int → Int) (limit_3 : Int) (fault_3 : Int) (r_3 : Int) (now_3 : Int → Int) (latest_3 : Int → Int) (from_3 : Int) (pos_3 : Int) (kind_3 : Int) (place_3 : Int) (value_3 : Int) (r_1 : Int) (fault_0 : Int) (fault_1 : Int) (r_2 : Int) (fault_2 : Int) (all_0 : Int → Int) (all_1 : Int → Int) (all_2 : Int → Int) (now_0 : Int → Int) (now_1 : Int → Int) (now_2 : Int → Int) (latest_0 : Int → Int) (latest_1 : Int → Int) (latest_2 : Int → Int) (k1 : 0 ≤ x1 ∧ x1 ≤ 7) (k4 : 0 ≤ x4 ∧ x4 ≤ 7) (k9 : 0 ≤ x9 ∧ x9 ≤ 7) (k11 : 0 ≤ x11 ∧ x11 ≤ 66297) (k13 : 2 ≤ x13 ∧ x13 ≤ 66299) (k16 : 1 ≤ x16 ∧ x16 ≤ 8) (k18 : 531 ≤ x18 ∧ x18 ≤ 66828) (k19 : 531 ≤ x19 ∧ x19 ≤ 66835) (k21 : 523 ≤ x21 ∧ x21 ≤ 66820) (k22 : 523 ≤ x22 ∧ x22 ≤ 66827) (k25 : 0 ≤ x25 ∧ x25 ≤ 8) (d4 : x11 + 523 ≤ x21 ∧ x21 ≤ x11 + 523) (d8 : x11 + 531 ≤ x18 ∧ x18 ≤ x11 + 531) (d10 : x11 + 2 ≤ x13 ∧ x13 ≤ x11 + 2) (g2 : x11 = r_0) (f14 : x22 = x21 + x9) (f25 : x19 = x18 + x9) (f39 : 1 * x9 + ((-1) * all_3 (r_0 + 2) + 0) ≤ 0) (f40 : (-1) * x9 + (1 * all_3 (r_0 + 2) + 0) ≤ 0) (f44 : 1 * x4 + ((-1) * all_3 (r_0 + 2) + 0) ≤ 0) (f45 : (-1) * x4 + (1 * all_3 (r_0 + 2) + 0) ≤ 0) (f47 : RWS (r_3) (all_3) (now_3) (latest_3)) (fe_0_5_1 : r_0 = r_1) (fe_0_8_1 : fault_0 = fault_1) (fe_0_10_1 : limit_0 = limit_1) (fe_0_11_1 : pos_0 = pos_1) (fe_0_12_1 : kind_0 = kind_1) (fe_0_13_1 : place_0 = place_1) (fe_0_14_1 : value_0 = value_1) (fe_0_15_1 : from_0 = from_1) (fe_0_5_2 : r_1 = r_2) (fe_0_8_2 : fault_1 = fault_2) (fe_0_10_2 : limit_1 = limit_2) (fe_0_11_2 : pos_1 = pos_2) (fe_0_12_2 : kind_1 = kind_2) (fe_0_13_2 : place_1 = place_2) (fe_0_14_2 : value_1 = value_2) (fe_0_15_2 : from_1 = from_2) (fe_0_5_3 : r_2 = r_3) (fe_0_8_3 : fault_2 = fault_3) (fe_0_10_3 : limit_2 = limit_3) (fe_0_11_3 : pos_2 = pos_3) (fe_0_12_3 : kind_2 = kind_3) (fe_0_13_3 : place_2 = place_3) (fe_0_14_3 : value_2 = value_3) (fe_0_15_3 : from_2 = from_3) (hE_0_1_1 : ∀ j : Int, tape_0 j = tape_1 j) (hE_0_1_2 : ∀ j : Int, tape_1 j = tape_2 j) (hE_0_1_3 : ∀ j : Int, tape_2 j = tape_3 j) (hE_0_2_1 : ∀ j : Int, 0 ≤ j → (j = x22 → all_0 j = x25) ∧ (j ≠ x22 → all_0 j = all_1 j)) (hE_0_2_2 : ∀ j : Int, 0 ≤ j → (j = x19 → all_1 j = x1) ∧ (j ≠ x19 → all_1 j = all_2 j)) (hE_0_2_3 : ∀ j : Int, 0 ≤ j → (j = x13 → all_2 j = x16) ∧ (j ≠ x13 → all_2 j = all_3 j)) (hE_0_3_1 : ∀ j : Int, now_0 j = now_1 j) (hE_0_3_2 : ∀ j : Int, now_1 j = now_2 j) (hE_0_3_3 : ∀ j : Int, now_2 j = now_3 j) (hE_0_4_1 : ∀ j : Int, latest_0 j = latest_1 j) (hE_0_4_2 : ∀ j : Int, latest_1 j = latest_2 j) (hE_0_4_3 : ∀ j : Int, latest_2 j = latest_3 j) (kz_0_8 : 0 ≤ fault_0 ∧ fault_0 ≤ 5) (kz_0_10 : 0 ≤ limit_0 ∧ limit_0 ≤ 2000) (kz_0_11 : 0 ≤ pos_0 ∧ pos_0 ≤ 2000) (kz_0_12 : 0 ≤ kind_0 ∧ kind_0 ≤ 4) (kz_0_13 : 0 ≤ place_0 ∧ place_0 ≤ 2000) (kz_0_14 : (-49) ≤ value_0 ∧ value_0 ≤ 1048575) (kz_0_15 : 0 ≤ from_0 ∧ from_0 ≤ 2000) : RWS (r_0) (all_0) (now_0) (latest_0) := by
  subst fe_0_5_1
  subst fe_0_8_1
  subst fe_0_10_1
  subst fe_0_11_1
  subst fe_0_12_1
  subst fe_0_13_1
  subst fe_0_14_1
  subst fe_0_15_1
  subst fe_0_5_2
  subst fe_0_8_2
  subst fe_0_10_2
  subst fe_0_11_2
  subst fe_0_12_2
  subst fe_0_13_2
  subst fe_0_14_2
  subst fe_0_15_2
  subst fe_0_5_3
  subst fe_0_8_3
  subst fe_0_10_3
  subst fe_0_11_3
  subst fe_0_12_3
  subst fe_0_13_3
  subst fe_0_14_3
  subst fe_0_15_3
  have e_hE_0_1_1 := funext hE_0_1_1; subst e_hE_0_1_1
  have e_hE_0_1_2 := funext hE_0_1_2; subst e_hE_0_1_2
  have e_hE_0_1_3 := funext hE_0_1_3; subst e_hE_0_1_3
  have e_hE_0_3_1 := funext hE_0_3_1; subst e_hE_0_3_1
  have e_hE_0_3_2 := funext hE_0_3_2; subst e_hE_0_3_2
  have e_hE_0_3_3 := funext hE_0_3_3; subst e_hE_0_3_3
  have e_hE_0_4_1 := funext hE_0_4_1; subst e_hE_0_4_1
  have e_hE_0_4_2 := funext hE_0_4_2; subst e_hE_0_4_2
  have e_hE_0_4_3 := funext hE_0_4_3; subst e_hE_0_4_3
  first
    | (have hr := rws_r ‹RWS _ _ _ _›
       exact rws_off (rws_off (rws_off ‹RWS _ _ _ _› (by assumption) (by omega)) (by assumption) (by omega)) (by assumption) (by omega))
    | (have hr := rws_r ‹RWS _ _ _ _›
       exact rws_off ‹RWS _ _ _ _› (by assumption) (by omega))
set_option maxHeartbeats 4000000 in
theorem vc_Mo_groupItem_at_k2_8_4 (x1 : Int) (x2 : Int) (x7 : Int) (x8 : Int) (x9 : Int) (x11 : Int) (x13 : Int) (x14 : Int) (x16 : Int) (x18 : Int) (x19 : Int) (x21 : Int) (x22 : Int) (x23 : Int) (x24 : Int) (x25 : Int) (x26 : Int) (from_0 : Int) (pos_0 : Int) (r_0 : Int) (kind_0 : Int) (tape_0 : Int → Int) (limit_0 : Int) (place_0 : Int) (value_0 : Int) (from_1 : Int) (pos_1 : Int) (kind_1 : Int) (tape_1 : Int → Int) (limit_1 : Int) (place_1 : Int) (value_1 : Int) (from_2 : Int) (pos_2 : Int) (kind_2 : Int) (tape_2 : Int → Int) (limit_2 : Int) (place_2 : Int) (value_2 : Int) (all_3 : Int → Int) (tape_3 : Int → Int) (limit_3 : Int) (fault_3 : Int) (r_3 : Int) (now_3 : Int → Int) (latest_3 : Int → Int) (from_3 : Int) (pos_3 : Int) (kind_3 : Int) (place_3 : Int) (value_3 : Int) (r_1 : Int) (fault_0 : Int) (fault_1 : Int) (r_2 : Int) (fault_2 : Int) (all_0 : Int → Int) (all_1 : Int → Int) (all_2 : Int → Int) (now_0 : Int → Int) (now_1 : Int → Int) (now_2 : Int → Int) (latest_0 : Int → Int) (latest_1 : Int → Int) (latest_2 : Int → Int) (k1 : 0 ≤ x1 ∧ x1 ≤ 7) (k2 : 2 ≤ x2 ∧ x2 ≤ 2) (k7 : 0 ≤ x7 ∧ x7 ≤ 2000) (k8 : 1 ≤ x8 ∧ x8 ≤ 1) (k9 : 0 ≤ x9 ∧ x9 ≤ 7) (k11 : 0 ≤ x11 ∧ x11 ≤ 66297) (k13 : 2 ≤ x13 ∧ x13 ≤ 66299) (k14 : 0 ≤ x14 ∧ x14 ≤ 8) (k16 : 1 ≤ x16 ∧ x16 ≤ 8) (k18 : 531 ≤ x18 ∧ x18 ≤ 66828) (k19 : 531 ≤ x19 ∧ x19 ≤ 66835) (k21 : 523 ≤ x21 ∧ x21 ≤ 66820) (k22 : 523 ≤ x22 ∧ x22 ≤ 66827) (k23 : 0 ≤ x23 ∧ x23 ≤ 2000) (k24 : 0 ≤ x24 ∧ x24 ≤ 2000) (k25 : 0 ≤ x25 ∧ x25 ≤ 8) (k26 : 0 ≤ x26 ∧ x26 ≤ 0) (d4 : x11 + 523 ≤ x21 ∧ x21 ≤ x11 + 523) (d8 : x11 + 531 ≤ x18 ∧ x18 ≤ x11 + 531) (d9 : x14 + 1 ≤ x16 ∧ x16 ≤ x14 + 1) (d10 : x11 + 2 ≤ x13 ∧ x13 ≤ x11 + 2) (g0 : x24 = from_0) (g1 : x23 = pos_0) (g2 : x11 = r_0) (f13 : x25 = x23 - x24) (f14 : x22 = x21 + x9) (f25 : x19 = x18 + x9) (h37 : x14 = all_3 (x13)) (f39 : 1 * x9 + ((-1) * all_3 (r_0 + 2) + 0) ≤ 0) (f40 : (-1) * x9 + (1 * all_3 (r_0 + 2) + 0) ≤ 0) (f41 : x8 ≠ 0) (f42 : zTS5 (limit_3) (fault_3) (r_3) (tape_3) (all_3) (x1) (x2) (x7)) (f51 : TKR (limit_3) (pos_3) (kind_3) (place_3) (value_3) (from_3) (tape_3) (x7)) (f53 : NMQ (kind_3) (pos_3) (limit_3) (from_3) (tape_3) (x8)) (fe_0_5_1 : r_0 = r_1) (fe_0_8_1 : fault_0 = fault_1) (fe_0_10_1 : limit_0 = limit_1) (fe_0_11_1 : pos_0 = pos_1) (fe_0_12_1 : kind_0 = kind_1) (fe_0_13_1 : place_0 = place_1) (fe_0_14_1 : value_0 = value_1) (fe_0_15_1 : from_0 = from_1) (fe_0_5_2 : r_1 = r_2) (fe_0_8_2 : fault_1 = fault_2) (fe_0_10_2 : limit_1 = limit_2) (fe_0_11_2 : pos_1 = pos_2) (fe_0_12_2 : kind_1 = kind_2) (fe_0_13_2 : place_1 = place_2) (fe_0_14_2 : value_1 = value_2) (fe_0_15_2 : from_1 = from_2) (fe_0_5_3 : r_2 = r_3) (fe_0_8_3 : fault_2 = fault_3) (fe_0_10_3 : limit_2 = limit_3) (fe_0_11_3 : pos_2 = pos_3) (fe_0_12_3 : kind_2 = kind_3) (fe_0_13_3 : place_2 = place_3) (fe_0_14_3 : value_2 = value_3) (fe_0_15_3 : from_2 = from_3) (hE_0_1_1 : ∀ j : Int, tape_0 j = tape_1 j) (hE_0_1_2 : ∀ j : Int, tape_1 j = tape_2 j) (hE_0_1_3 : ∀ j : Int, tape_2 j = tape_3 j) (hE_0_2_1 : ∀ j : Int, 0 ≤ j → (j = x22 → all_0 j = x25) ∧ (j ≠ x22 → all_0 j = all_1 j)) (hE_0_2_2 : ∀ j : Int, 0 ≤ j → (j = x19 → all_1 j = x1) ∧ (j ≠ x19 → all_1 j = all_2 j)) (hE_0_2_3 : ∀ j : Int, 0 ≤ j → (j = x13 → all_2 j = x16) ∧ (j ≠ x13 → all_2 j = all_3 j)) (hE_0_3_1 : ∀ j : Int, now_0 j = now_1 j) (hE_0_3_2 : ∀ j : Int, now_1 j = now_2 j) (hE_0_3_3 : ∀ j : Int, now_2 j = now_3 j) (hE_0_4_1 : ∀ j : Int, latest_0 j = latest_1 j) (hE_0_4_2 : ∀ j : Int, latest_1 j = latest_2 j) (hE_0_4_3 : ∀ j : Int, latest_2 j = latest_3 j) (kz_0_8 : 0 ≤ fault_0 ∧ fault_0 ≤ 5) (kz_0_10 : 0 ≤ limit_0 ∧ limit_0 ≤ 2000) (kz_0_11 : 0 ≤ pos_0 ∧ pos_0 ≤ 2000) (kz_0_12 : 0 ≤ kind_0 ∧ kind_0 ≤ 4) (kz_0_13 : 0 ≤ place_0 ∧ place_0 ≤ 2000) (kz_0_14 : (-49) ≤ value_0 ∧ value_0 ≤ 1048575) (kz_0_15 : 0 ≤ from_0 ∧ from_0 ≤ 2000) : zMG (limit_0) (pos_0) (kind_0) (place_0) (value_0) (from_0) (fault_0) (r_0) (tape_0) (all_0) (x9) (x26) (x1) (x2) := by
  subst fe_0_5_1
  subst fe_0_8_1
  subst fe_0_10_1
  subst fe_0_11_1
  subst fe_0_12_1
  subst fe_0_13_1
  subst fe_0_14_1
  subst fe_0_15_1
  subst fe_0_5_2
  subst fe_0_8_2
  subst fe_0_10_2
  subst fe_0_11_2
  subst fe_0_12_2
  subst fe_0_13_2
  subst fe_0_14_2
  subst fe_0_15_2
  subst fe_0_5_3
  subst fe_0_8_3
  subst fe_0_10_3
  subst fe_0_11_3
  subst fe_0_12_3
  subst fe_0_13_3
  subst fe_0_14_3
  subst fe_0_15_3
  have e_hE_0_1_1 := funext hE_0_1_1; subst e_hE_0_1_1
  have e_hE_0_1_2 := funext hE_0_1_2; subst e_hE_0_1_2
  have e_hE_0_1_3 := funext hE_0_1_3; subst e_hE_0_1_3
  have e_hE_0_3_1 := funext hE_0_3_1; subst e_hE_0_3_1
  have e_hE_0_3_2 := funext hE_0_3_2; subst e_hE_0_3_2
  have e_hE_0_3_3 := funext hE_0_3_3; subst e_hE_0_3_3
  have e_hE_0_4_1 := funext hE_0_4_1; subst e_hE_0_4_1
  have e_hE_0_4_2 := funext hE_0_4_2; subst e_hE_0_4_2
  have e_hE_0_4_3 := funext hE_0_4_3; subst e_hE_0_4_3
  first | subst g0 | skip
  first | subst g1 | skip
  first | subst g2 | skip
  first
    | exact mg_step ‹zMG _ _ _ _ _ _ _ _ _ _ _ _ _ _› (by omega) (by assumption) (by omega) (tk_byte (mg_tk ‹zMG _ _ _ _ _ _ _ _ _ _ _ _ _ _›) (by assumption) (by omega) (by omega) (by omega)) (by omega) (by omega)
    | exact mg_start (rsq_of ‹zTS5 _ _ _ _ _ _ _ _› ‹TKR _ _ _ _ _ _ _ _›) (by omega) ‹NMQ _ _ _ _ _ _› (by omega) (by assumption) (by assumption) (by assumption) (by omega) (by omega) (by omega) (by omega) (by omega) (by omega) (by omega) (by omega)
def o_Mo_groupItem_at_k2_8 : or_T := (108, 27, [(0, (2, 0, 0, [165])), (1, (0, 0, 7, [])), (2, (0, 2, 2, [])), (3, (0, 0, 2000, [])), (4, (0, 0, 7, [])), (5, (0, 8, 8, [])), (6, (0, 4, 4, [])), (7, (0, 0, 2000, [])), (8, (0, 1, 1, [])), (9, (0, 0, 7, [])), (10, (2, 0, 0, [167])), (11, (0, 0, 66297, [])), (12, (0, 2, 2, [])), (13, (0, 2, 66299, [])), (14, (0, 0, 8, [])), (15, (0, 1, 1, [])), (16, (0, 1, 8, [])), (17, (0, 531, 531, [])), (18, (0, 531, 66828, [])), (19, (0, 531, 66835, [])), (20, (0, 523, 523, [])), (21, (0, 523, 66820, [])), (22, (0, 523, 66827, [])), (23, (0, 0, 2000, [])), (24, (0, 0, 2000, [])), (25, (0, 0, 8, [])), (26, (0, 0, 0, []))], [(9, [24, 0], [15]), (9, [23, 0], [11]), (9, [11, 0], [5]), (9, [10, 0], [2]), (23, [1, 9], [-1, 1, -1]), (20, [3, 7], [30, 0, 1, 0, 0, -1, 0, 0]), (20, [0, 0], [30, 0, 1, 1, 15, -1, 1, 11]), (20, [0], [50, 3, 0, 12, 11, 15, 2, 21, 4, 7, 1, 3, 2, 0, 12, 0, 1, 0, 3, 2, 0, 11, 4, 3, 2, 0, 15, 0, 8, 3, 7, 1, 3, 2, 0, 12, 0, 0, 0, 7, 4, 3, 2, 0, 15, 0, 1, 2, 0, 11]), (20, [7, 0], [30, 0, 1, 0, 0, -1, 1, 15]), (20, [0, 7], [60, 6, 1, 948, 10, 11, 12, 13, 14, 15, 1]), (20, [8, 0], [50, 1, 0, 1012, 4, 6, 1, 2, 1, 0, 0, 1, 1, 3, 2, 1, 12, 0, 1]), (20, [0, 8], [60, 4, 1, 962, 12, 11, 10, 15, 1]), (100, [10, 22, 25], []), (2, [25, 23, 24], []), (1, [22, 21, 9], []), (1, [21, 11, 20], []), (23, [1, 9], [-1, 1, -1]), (20, [3, 7], [30, 0, 1, 0, 0, -1, 0, 0]), (20, [0, 0], [30, 0, 1, 1, 15, -1, 1, 11]), (20, [0], [50, 3, 0, 12, 11, 15, 2, 21, 4, 7, 1, 3, 2, 0, 12, 0, 1, 0, 3, 2, 0, 11, 4, 3, 2, 0, 15, 0, 8, 3, 7, 1, 3, 2, 0, 12, 0, 0, 0, 7, 4, 3, 2, 0, 15, 0, 1, 2, 0, 11]), (20, [7, 0], [30, 0, 1, 0, 0, -1, 1, 15]), (20, [0, 7], [60, 6, 1, 948, 10, 11, 12, 13, 14, 15, 1]), (20, [8, 0], [50, 1, 0, 1012, 4, 6, 1, 2, 1, 0, 0, 1, 1, 3, 2, 1, 12, 0, 1]), (20, [0, 8], [60, 4, 1, 962, 12, 11, 10, 15, 1]), (100, [10, 19, 1], []), (1, [19, 18, 9], []), (1, [18, 11, 17], []), (23, [1, 9], [-1, 1, -1]), (20, [3, 7], [30, 0, 1, 0, 0, -1, 0, 0]), (20, [0, 0], [30, 0, 1, 1, 15, -1, 1, 11]), (20, [0], [50, 3, 0, 12, 11, 15, 2, 21, 4, 7, 1, 3, 2, 0, 12, 0, 1, 0, 3, 2, 0, 11, 4, 3, 2, 0, 15, 0, 8, 3, 7, 1, 3, 2, 0, 12, 0, 0, 0, 7, 4, 3, 2, 0, 15, 0, 1, 2, 0, 11]), (20, [7, 0], [30, 0, 1, 0, 0, -1, 1, 15]), (20, [0, 7], [60, 6, 1, 948, 10, 11, 12, 13, 14, 15, 1]), (20, [8, 0], [50, 1, 0, 1012, 4, 6, 1, 2, 1, 0, 0, 1, 1, 3, 2, 1, 12, 0, 1]), (20, [0, 8], [60, 4, 1, 962, 12, 11, 10, 15, 1]), (100, [10, 13, 16], []), (1, [16, 14, 15], []), (10, [14, 10, 13], []), (1, [13, 11, 12], []), (20, [9, 0], [30, 0, 1, 0, 0, -1, 3, 2005002]), (20, [9, 0], [30, 0, -1, 0, 0, 1, 3, 2005002]), (8, [8], [1]), (20, [0, 1, 2, 7], [60, 3, 2, 974, 10, 8, 5, 1, 2]), (20, [3, 7], [30, 0, 1, 0, 0, -1, 0, 0]), (20, [4, 0], [30, 0, 1, 0, 0, -1, 3, 2005002]), (20, [4, 0], [30, 0, -1, 0, 0, 1, 3, 2005002]), (20, [1, 0], [50, 1, 1, 1005, 1002, 0, 6, 4, 2, 1, 0, 0, 1, 3, 1, 2, 4, 3, 2, 1, 5, 0, 2]), (20, [0], [60, 1, 3, 199, 5, 2, 3, 4]), (20, [0, 0], [30, 0, 1, 1, 15, -1, 1, 11]), (20, [0], [50, 3, 0, 12, 11, 15, 2, 21, 4, 7, 1, 3, 2, 0, 12, 0, 1, 0, 3, 2, 0, 11, 4, 3, 2, 0, 15, 0, 8, 3, 7, 1, 3, 2, 0, 12, 0, 0, 0, 7, 4, 3, 2, 0, 15, 0, 1, 2, 0, 11]), (20, [7, 0], [30, 0, 1, 0, 0, -1, 1, 15]), (20, [0, 7], [60, 6, 1, 948, 10, 11, 12, 13, 14, 15, 1]), (20, [8, 0], [50, 1, 0, 1012, 4, 6, 1, 2, 1, 0, 0, 1, 1, 3, 2, 1, 12, 0, 1]), (20, [0, 8], [60, 4, 1, 962, 12, 11, 10, 15, 1]), (102, [7], [0]), (102, [7], [0, 165011, 165012, 165013, 165014, 165015]), (7, [2, 6], [1]), (7, [4, 5], [1])], [], [], [(20, [3, 0], [30, -1, 1, 0, 0, -1, 1, 11]), (20, [0], [50, 1, 0, 12, 1, 3, 2, 0, 12, 0, 1]), (20, [9, 0], [50, 1, 1, 1005, 1002, 0, 6, 4, 2, 1, 0, 0, 1, 3, 1, 2, 4, 3, 2, 1, 5, 0, 2]), (20, [0], [60, 1, 3, 199, 5, 2, 3, 4]), (20, [0, 9, 26, 1, 2], [60, 8, 2, 1006, 10, 11, 12, 13, 14, 15, 8, 5, 1, 2]), (24, [0, 0], []), (24, [1, 1], []), (24, [2, 2], [])], [], [(25, 23, -2000, 0), (22, 9, 523, 66820), (22, 21, 0, 7), (22, 11, 523, 530), (21, 11, 523, 523), (19, 9, 531, 66828), (19, 18, 0, 7), (19, 11, 531, 538), (18, 11, 531, 531), (16, 14, 1, 1), (13, 11, 2, 2)])
theorem oo_Mo_groupItem_at_k2_8 {kA : Nat → ClassId} : or_ok PRD kA GG o_Mo_groupItem_at_k2_8 := by
  refine or_mk fun A ta ws vs hD hth hl => ?_
  intro t0 r0 t1 k1 t2 k2 t3 k3 t4 k4 t5 k5 t6 k6 t7 k7 t8 k8 t9 k9 t10 r10 t11 k11 t12 k12 t13 k13 t14 k14 t15 k15 t16 k16 t17 k17 t18 k18 t19 k19 t20 k20 t21 k21 t22 k22 t23 k23 t24 k24 t25 k25 t26 k26 d0 d1 d2 d3 d4 d5 d6 d7 d8 d9 d10 f0 f1 f2 f3 f4 f5 f6 f7 f8 f9 f10 f11 ta1 w1 le1 s1 f13 f14 f15 f16 f17 f18 f19 f20 f21 f22 f23 ta2 w2 le2 s2 f25 f26 f27 f28 f29 f30 f31 f32 f33 f34 ta3 w3 le3 s3 f36 f37 f38 f39 f40 f41 f42 f43 f44 f45 f46 f47 f48 f49 f50 f51 f52 f53 ta4 w4 le4 s4 ta5 w5 le5 s5 f56 f57
  replace f0 := shm_177 f0
  replace f1 := shm_116 f1
  replace f2 := shm_110 f2
  replace f3 := shm_120 f3
  replace f4 := shm_193 f4
  replace f5 := shm_201 f5
  replace f6 := shm_1437 f6
  replace f7 := shm_1438 f7
  replace f8 := shm_1436 f8
  replace f9 := shm_1439 f9
  replace f10 := shm_1856 f10
  replace f11 := shm_1889 f11
  have s1 : (∀ b j, w_el ws b j = if b = v_ad (n_v vs 10) ∧ j = (v_iv (n_v vs 22)).toNat then v_iv (n_v vs 25) else w_el w1 b j) ∧ ∀ b k, w_fd ws b k = w_fd w1 b k := s1.2
  replace f13 := shm_14 f13
  replace f14 := shm_12 f14
  replace f15 := shm_12 f15
  replace f16 := shm_193 f16
  replace f17 := shm_201 f17
  replace f18 := shm_1437 f18
  replace f19 := shm_1438 f19
  replace f20 := shm_1436 f20
  replace f21 := shm_1439 f21
  replace f22 := shm_1856 f22
  replace f23 := shm_1889 f23
  have s2 : (∀ b j, w_el w1 b j = if b = v_ad (n_v vs 10) ∧ j = (v_iv (n_v vs 19)).toNat then v_iv (n_v vs 1) else w_el w2 b j) ∧ ∀ b k, w_fd w1 b k = w_fd w2 b k := s2.2
  replace f25 := shm_12 f25
  replace f26 := shm_12 f26
  replace f27 := shm_193 f27
  replace f28 := shm_201 f28
  replace f29 := shm_1437 f29
  replace f30 := shm_1438 f30
  replace f31 := shm_1436 f31
  replace f32 := shm_1439 f32
  replace f33 := shm_1856 f33
  replace f34 := shm_1889 f34
  have s3 : (∀ b j, w_el w2 b j = if b = v_ad (n_v vs 10) ∧ j = (v_iv (n_v vs 13)).toNat then v_iv (n_v vs 16) else w_el w3 b j) ∧ ∀ b k, w_fd w2 b k = w_fd w3 b k := s3.2
  replace f36 := shm_12 f36
  replace f37 := shm_107 f37
  replace f38 := shm_12 f38
  replace f39 := shm_123 f39
  replace f40 := shm_124 f40
  replace f41 := shm_142 f41
  replace f42 := shm_2174 f42
  replace f43 := shm_201 f43
  replace f44 := shm_123 f44
  replace f45 := shm_124 f45
  replace f46 := shm_1009 f46
  replace f47 := shm_980 f47
  replace f48 := shm_1437 f48
  replace f49 := shm_1438 f49
  replace f50 := shm_1436 f50
  replace f51 := shm_1439 f51
  replace f52 := shm_1856 f52
  replace f53 := shm_1889 f53
  replace f56 := shm_40 f56
  replace f57 := shm_40 f57
  have ar_0_1_1 : w_ar w1 (n_v vs 0) 1 = w_ar ws (n_v vs 0) 1 := congrArg v_ad (s1.2 _ _).symm
  have ar_0_1_2 : w_ar w2 (n_v vs 0) 1 = w_ar ws (n_v vs 0) 1 := by rw [← ar_0_1_1]; show v_ad (w_fd w2 _ _) = v_ad (w_fd w1 _ _); rw [s2.2]
  have ar_0_1_3 : w_ar w3 (n_v vs 0) 1 = w_ar ws (n_v vs 0) 1 := by rw [← ar_0_1_2]; show v_ad (w_fd w3 _ _) = v_ad (w_fd w2 _ _); rw [s3.2]
  have cr_0_1 := fdq_39 hD hth r0
  have ar_0_2_1 : w_ar w1 (n_v vs 0) 2 = w_ar ws (n_v vs 0) 2 := congrArg v_ad (s1.2 _ _).symm
  have ar_0_2_2 : w_ar w2 (n_v vs 0) 2 = w_ar ws (n_v vs 0) 2 := by rw [← ar_0_2_1]; show v_ad (w_fd w2 _ _) = v_ad (w_fd w1 _ _); rw [s2.2]
  have ar_0_2_3 : w_ar w3 (n_v vs 0) 2 = w_ar ws (n_v vs 0) 2 := by rw [← ar_0_2_2]; show v_ad (w_fd w3 _ _) = v_ad (w_fd w2 _ _); rw [s3.2]
  have cr_0_2 := fdq_10 hD hth r0
  have ar_0_3_1 : w_ar w1 (n_v vs 0) 3 = w_ar ws (n_v vs 0) 3 := congrArg v_ad (s1.2 _ _).symm
  have ar_0_3_2 : w_ar w2 (n_v vs 0) 3 = w_ar ws (n_v vs 0) 3 := by rw [← ar_0_3_1]; show v_ad (w_fd w2 _ _) = v_ad (w_fd w1 _ _); rw [s2.2]
  have ar_0_3_3 : w_ar w3 (n_v vs 0) 3 = w_ar ws (n_v vs 0) 3 := by rw [← ar_0_3_2]; show v_ad (w_fd w3 _ _) = v_ad (w_fd w2 _ _); rw [s3.2]
  have cr_0_3 := fdq_142 hD hth r0
  have ar_0_4_1 : w_ar w1 (n_v vs 0) 4 = w_ar ws (n_v vs 0) 4 := congrArg v_ad (s1.2 _ _).symm
  have ar_0_4_2 : w_ar w2 (n_v vs 0) 4 = w_ar ws (n_v vs 0) 4 := by rw [← ar_0_4_1]; show v_ad (w_fd w2 _ _) = v_ad (w_fd w1 _ _); rw [s2.2]
  have ar_0_4_3 : w_ar w3 (n_v vs 0) 4 = w_ar ws (n_v vs 0) 4 := by rw [← ar_0_4_2]; show v_ad (w_fd w3 _ _) = v_ad (w_fd w2 _ _); rw [s3.2]
  have cr_0_4 := fdq_143 hD hth r0
  have fi_0_5_1 : w_fi w1 (n_v vs 0) 5 = w_fi ws (n_v vs 0) 5 := by show v_iv (w_fd w1 _ _) = v_iv (w_fd ws _ _); rw [s1.2]
  have fi_0_5_2 : w_fi w2 (n_v vs 0) 5 = w_fi ws (n_v vs 0) 5 := by rw [← fi_0_5_1]; show v_iv (w_fd w2 _ _) = v_iv (w_fd w1 _ _); rw [s2.2]
  have fi_0_5_3 : w_fi w3 (n_v vs 0) 5 = w_fi ws (n_v vs 0) 5 := by rw [← fi_0_5_2]; show v_iv (w_fd w3 _ _) = v_iv (w_fd w2 _ _); rw [s3.2]
  have ad_10 : v_ad (n_v vs 10) = w_ar ws (n_v vs 0) 2 := congrArg v_ad f3
  have g0 : v_iv (n_v vs 24) = w_fi ws (n_v vs 0) 15 := congrArg v_iv f0
  have g1 : v_iv (n_v vs 23) = w_fi ws (n_v vs 0) 11 := congrArg v_iv f1
  have g2 : v_iv (n_v vs 11) = w_fi ws (n_v vs 0) 5 := congrArg v_iv f2
  simp only [ar_0_1_1, ar_0_1_2, ad_10] at f21 f23 f32 f34 f37
  have h37 : v_iv (n_v vs 14) = w_ei w3 (w_ar ws (n_v vs 0) 2) (v_iv (n_v vs 13)) := f37
  simp only [ar_0_2_3, ar_0_1_3, ar_0_3_3, ar_0_4_3] at f39 f40 f42 f44 f45 f46 f47 f51 f53
  simp only [fi_0_5_3] at f39 f40 f44 f45
  have fe_0_5_1 : w_fi ws (n_v vs 0) 5 = w_fi w1 (n_v vs 0) 5 := congrArg v_iv (s1.2 _ _)
  have fe_0_8_1 : w_fi ws (n_v vs 0) 8 = w_fi w1 (n_v vs 0) 8 := congrArg v_iv (s1.2 _ _)
  have fe_0_10_1 : w_fi ws (n_v vs 0) 10 = w_fi w1 (n_v vs 0) 10 := congrArg v_iv (s1.2 _ _)
  have fe_0_11_1 : w_fi ws (n_v vs 0) 11 = w_fi w1 (n_v vs 0) 11 := congrArg v_iv (s1.2 _ _)
  have fe_0_12_1 : w_fi ws (n_v vs 0) 12 = w_fi w1 (n_v vs 0) 12 := congrArg v_iv (s1.2 _ _)
  have fe_0_13_1 : w_fi ws (n_v vs 0) 13 = w_fi w1 (n_v vs 0) 13 := congrArg v_iv (s1.2 _ _)
  have fe_0_14_1 : w_fi ws (n_v vs 0) 14 = w_fi w1 (n_v vs 0) 14 := congrArg v_iv (s1.2 _ _)
  have fe_0_15_1 : w_fi ws (n_v vs 0) 15 = w_fi w1 (n_v vs 0) 15 := congrArg v_iv (s1.2 _ _)
  have fe_0_5_2 : w_fi w1 (n_v vs 0) 5 = w_fi w2 (n_v vs 0) 5 := congrArg v_iv (s2.2 _ _)
  have fe_0_8_2 : w_fi w1 (n_v vs 0) 8 = w_fi w2 (n_v vs 0) 8 := congrArg v_iv (s2.2 _ _)
  have fe_0_10_2 : w_fi w1 (n_v vs 0) 10 = w_fi w2 (n_v vs 0) 10 := congrArg v_iv (s2.2 _ _)
  have fe_0_11_2 : w_fi w1 (n_v vs 0) 11 = w_fi w2 (n_v vs 0) 11 := congrArg v_iv (s2.2 _ _)
  have fe_0_12_2 : w_fi w1 (n_v vs 0) 12 = w_fi w2 (n_v vs 0) 12 := congrArg v_iv (s2.2 _ _)
  have fe_0_13_2 : w_fi w1 (n_v vs 0) 13 = w_fi w2 (n_v vs 0) 13 := congrArg v_iv (s2.2 _ _)
  have fe_0_14_2 : w_fi w1 (n_v vs 0) 14 = w_fi w2 (n_v vs 0) 14 := congrArg v_iv (s2.2 _ _)
  have fe_0_15_2 : w_fi w1 (n_v vs 0) 15 = w_fi w2 (n_v vs 0) 15 := congrArg v_iv (s2.2 _ _)
  have fe_0_5_3 : w_fi w2 (n_v vs 0) 5 = w_fi w3 (n_v vs 0) 5 := congrArg v_iv (s3.2 _ _)
  have fe_0_8_3 : w_fi w2 (n_v vs 0) 8 = w_fi w3 (n_v vs 0) 8 := congrArg v_iv (s3.2 _ _)
  have fe_0_10_3 : w_fi w2 (n_v vs 0) 10 = w_fi w3 (n_v vs 0) 10 := congrArg v_iv (s3.2 _ _)
  have fe_0_11_3 : w_fi w2 (n_v vs 0) 11 = w_fi w3 (n_v vs 0) 11 := congrArg v_iv (s3.2 _ _)
  have fe_0_12_3 : w_fi w2 (n_v vs 0) 12 = w_fi w3 (n_v vs 0) 12 := congrArg v_iv (s3.2 _ _)
  have fe_0_13_3 : w_fi w2 (n_v vs 0) 13 = w_fi w3 (n_v vs 0) 13 := congrArg v_iv (s3.2 _ _)
  have fe_0_14_3 : w_fi w2 (n_v vs 0) 14 = w_fi w3 (n_v vs 0) 14 := congrArg v_iv (s3.2 _ _)
  have fe_0_15_3 : w_fi w2 (n_v vs 0) 15 = w_fi w3 (n_v vs 0) 15 := congrArg v_iv (s3.2 _ _)
  have hE_0_1_1 : ∀ j : Int, w_ei ws (w_ar ws (n_v vs 0) 1) j = w_ei w1 (w_ar ws (n_v vs 0) 1) j := el_kp s1.1 r10 cr_0_1 (by decide)
  have hE_0_1_2 : ∀ j : Int, w_ei w1 (w_ar ws (n_v vs 0) 1) j = w_ei w2 (w_ar ws (n_v vs 0) 1) j := el_kp s2.1 r10 cr_0_1 (by decide)
  have hE_0_1_3 : ∀ j : Int, w_ei w2 (w_ar ws (n_v vs 0) 1) j = w_ei w3 (w_ar ws (n_v vs 0) 1) j := el_kp s3.1 r10 cr_0_1 (by decide)
  have hK_0_1 := elq_7 hD hth cr_0_1
  have hE_0_2_1 : ∀ j : Int, 0 ≤ j → (j = v_iv (n_v vs 22) → w_ei ws (w_ar ws (n_v vs 0) 2) j = v_iv (n_v vs 25)) ∧ (j ≠ v_iv (n_v vs 22) → w_ei ws (w_ar ws (n_v vs 0) 2) j = w_ei w1 (w_ar ws (n_v vs 0) 2) j) := fun j hj => ⟨fun h => by unfold w_ei; rw [s1.1, if_pos ⟨ad_10.symm, by rw [h]⟩], fun h => by unfold w_ei; rw [s1.1, if_neg (fun e => h (by have := e.2; omega))]⟩
  have hE_0_2_2 : ∀ j : Int, 0 ≤ j → (j = v_iv (n_v vs 19) → w_ei w1 (w_ar ws (n_v vs 0) 2) j = v_iv (n_v vs 1)) ∧ (j ≠ v_iv (n_v vs 19) → w_ei w1 (w_ar ws (n_v vs 0) 2) j = w_ei w2 (w_ar ws (n_v vs 0) 2) j) := fun j hj => ⟨fun h => by unfold w_ei; rw [s2.1, if_pos ⟨ad_10.symm, by rw [h]⟩], fun h => by unfold w_ei; rw [s2.1, if_neg (fun e => h (by have := e.2; omega))]⟩
  have hE_0_2_3 : ∀ j : Int, 0 ≤ j → (j = v_iv (n_v vs 13) → w_ei w2 (w_ar ws (n_v vs 0) 2) j = v_iv (n_v vs 16)) ∧ (j ≠ v_iv (n_v vs 13) → w_ei w2 (w_ar ws (n_v vs 0) 2) j = w_ei w3 (w_ar ws (n_v vs 0) 2) j) := fun j hj => ⟨fun h => by unfold w_ei; rw [s3.1, if_pos ⟨ad_10.symm, by rw [h]⟩], fun h => by unfold w_ei; rw [s3.1, if_neg (fun e => h (by have := e.2; omega))]⟩
  have hE_0_3_1 : ∀ j : Int, w_ei ws (w_ar ws (n_v vs 0) 3) j = w_ei w1 (w_ar ws (n_v vs 0) 3) j := el_kp s1.1 r10 cr_0_3 (by decide)
  have hE_0_3_2 : ∀ j : Int, w_ei w1 (w_ar ws (n_v vs 0) 3) j = w_ei w2 (w_ar ws (n_v vs 0) 3) j := el_kp s2.1 r10 cr_0_3 (by decide)
  have hE_0_3_3 : ∀ j : Int, w_ei w2 (w_ar ws (n_v vs 0) 3) j = w_ei w3 (w_ar ws (n_v vs 0) 3) j := el_kp s3.1 r10 cr_0_3 (by decide)
  have hK_0_3 := elq_80 hD hth cr_0_3
  have hE_0_4_1 : ∀ j : Int, w_ei ws (w_ar ws (n_v vs 0) 4) j = w_ei w1 (w_ar ws (n_v vs 0) 4) j := el_kp s1.1 r10 cr_0_4 (by decide)
  have hE_0_4_2 : ∀ j : Int, w_ei w1 (w_ar ws (n_v vs 0) 4) j = w_ei w2 (w_ar ws (n_v vs 0) 4) j := el_kp s2.1 r10 cr_0_4 (by decide)
  have hE_0_4_3 : ∀ j : Int, w_ei w2 (w_ar ws (n_v vs 0) 4) j = w_ei w3 (w_ar ws (n_v vs 0) 4) j := el_kp s3.1 r10 cr_0_4 (by decide)
  have hK_0_4 := elq_81 hD hth cr_0_4
  have kz_0_8 := fdq_34 hD hth r0
  have kz_0_10 := fdq_43 hD hth r0
  have kz_0_11 := fdq_237 hD hth r0
  have kz_0_12 := fdq_187 hD hth r0
  have kz_0_13 := fdq_238 hD hth r0
  have kz_0_14 := fdq_188 hD hth r0
  have kz_0_15 := fdq_239 hD hth r0
  first | have hJ0 : w_ei w3 (w_ar ws (n_v vs 0) 2) ((w_fi w3 (n_v vs 0) 5 + 2)) = w_ei w3 (w_ar ws (n_v vs 0) 2) ((w_fi ws (n_v vs 0) 5 + 2)) := congrArg _ (show ((w_fi w3 (n_v vs 0) 5 + 2) : Int) = (w_fi ws (n_v vs 0) 5 + 2) from by omega) | skip
  first | have hI1 := (hE_0_2_1 ((w_fi ws (n_v vs 0) 5 + 2)) (by omega)).2 (by omega) | have hI1 := (hE_0_2_1 ((w_fi ws (n_v vs 0) 5 + 2)) (by omega)).1 (by omega) | skip
  first | have hI2 := (hE_0_2_2 ((w_fi ws (n_v vs 0) 5 + 2)) (by omega)).2 (by omega) | have hI2 := (hE_0_2_2 ((w_fi ws (n_v vs 0) 5 + 2)) (by omega)).1 (by omega) | skip
  first | have hI3 := (hE_0_2_3 ((w_fi ws (n_v vs 0) 5 + 2)) (by omega)).2 (by omega) | have hI3 := (hE_0_2_3 ((w_fi ws (n_v vs 0) 5 + 2)) (by omega)).1 (by omega) | skip
  have nf0 : fc_1 PRD (20, [3, 0], [30, -1, 1, 0, 0, -1, 1, 11]) ws (vs) := ⟨nf_in hl rfl, sgq_2005 (vc_Mo_groupItem_at_k2_8_0 (v_iv (n_v vs 1)) (v_iv (n_v vs 3)) (v_iv (n_v vs 7)) (v_iv (n_v vs 8)) (v_iv (n_v vs 13)) (v_iv (n_v vs 16)) (v_iv (n_v vs 19)) (v_iv (n_v vs 22)) (v_iv (n_v vs 23)) (v_iv (n_v vs 24)) (v_iv (n_v vs 25)) (w_fi ws (n_v vs 0) 15) (w_fi ws (n_v vs 0) 11) (w_fi ws (n_v vs 0) 5) (w_fi ws (n_v vs 0) 12) (w_ei ws (w_ar ws (n_v vs 0) 1)) (w_fi ws (n_v vs 0) 10) (w_fi ws (n_v vs 0) 13) (w_fi ws (n_v vs 0) 14) (w_fi w1 (n_v vs 0) 15) (w_fi w1 (n_v vs 0) 11) (w_fi w1 (n_v vs 0) 12) (w_ei w1 (w_ar ws (n_v vs 0) 1)) (w_fi w1 (n_v vs 0) 10) (w_fi w1 (n_v vs 0) 13) (w_fi w1 (n_v vs 0) 14) (w_fi w2 (n_v vs 0) 15) (w_fi w2 (n_v vs 0) 11) (w_fi w2 (n_v vs 0) 12) (w_ei w2 (w_ar ws (n_v vs 0) 1)) (w_fi w2 (n_v vs 0) 10) (w_fi w2 (n_v vs 0) 13) (w_fi w2 (n_v vs 0) 14) (w_ei w3 (w_ar ws (n_v vs 0) 2)) (w_ei w3 (w_ar ws (n_v vs 0) 1)) (w_fi w3 (n_v vs 0) 10) (w_fi w3 (n_v vs 0) 8) (w_fi w3 (n_v vs 0) 5) (w_ei w3 (w_ar ws (n_v vs 0) 3)) (w_ei w3 (w_ar ws (n_v vs 0) 4)) (w_fi w3 (n_v vs 0) 15) (w_fi w3 (n_v vs 0) 11) (w_fi w3 (n_v vs 0) 12) (w_fi w3 (n_v vs 0) 13) (w_fi w3 (n_v vs 0) 14) (w_fi w1 (n_v vs 0) 5) (w_fi ws (n_v vs 0) 8) (w_fi w1 (n_v vs 0) 8) (w_fi w2 (n_v vs 0) 5) (w_fi w2 (n_v vs 0) 8) (w_ei ws (w_ar ws (n_v vs 0) 2)) (w_ei w1 (w_ar ws (n_v vs 0) 2)) (w_ei w2 (w_ar ws (n_v vs 0) 2)) (w_ei ws (w_ar ws (n_v vs 0) 3)) (w_ei w1 (w_ar ws (n_v vs 0) 3)) (w_ei w2 (w_ar ws (n_v vs 0) 3)) (w_ei ws (w_ar ws (n_v vs 0) 4)) (w_ei w1 (w_ar ws (n_v vs 0) 4)) (w_ei w2 (w_ar ws (n_v vs 0) 4)) k1 k3 k7 k8 k13 k16 k19 k22 k23 k24 k25 g0 g1 f5 f8 f13 f49 f52 fe_0_5_1 fe_0_8_1 fe_0_10_1 fe_0_11_1 fe_0_12_1 fe_0_13_1 fe_0_14_1 fe_0_15_1 fe_0_5_2 fe_0_8_2 fe_0_10_2 fe_0_11_2 fe_0_12_2 fe_0_13_2 fe_0_14_2 fe_0_15_2 fe_0_5_3 fe_0_8_3 fe_0_10_3 fe_0_11_3 fe_0_12_3 fe_0_13_3 fe_0_14_3 fe_0_15_3 hE_0_1_1 hE_0_1_2 hE_0_1_3 hE_0_2_1 hE_0_2_2 hE_0_2_3 hE_0_3_1 hE_0_3_2 hE_0_3_3 hE_0_4_1 hE_0_4_2 hE_0_4_3 kz_0_8 kz_0_10 kz_0_11 kz_0_12 kz_0_13 kz_0_14 kz_0_15)⟩
  have nf1 : fc_1 PRD (20, [0], [50, 1, 0, 12, 1, 3, 2, 0, 12, 0, 1]) ws (vs) := ⟨nf_in hl rfl, sgq_1890 (vc_Mo_groupItem_at_k2_8_1 (v_iv (n_v vs 1)) (v_iv (n_v vs 8)) (v_iv (n_v vs 13)) (v_iv (n_v vs 16)) (v_iv (n_v vs 19)) (v_iv (n_v vs 22)) (v_iv (n_v vs 25)) (w_fi ws (n_v vs 0) 15) (w_fi ws (n_v vs 0) 11) (w_fi ws (n_v vs 0) 5) (w_fi ws (n_v vs 0) 12) (w_ei ws (w_ar ws (n_v vs 0) 1)) (w_fi ws (n_v vs 0) 10) (w_fi ws (n_v vs 0) 13) (w_fi ws (n_v vs 0) 14) (w_fi w1 (n_v vs 0) 15) (w_fi w1 (n_v vs 0) 11) (w_fi w1 (n_v vs 0) 12) (w_ei w1 (w_ar ws (n_v vs 0) 1)) (w_fi w1 (n_v vs 0) 10) (w_fi w1 (n_v vs 0) 13) (w_fi w1 (n_v vs 0) 14) (w_fi w2 (n_v vs 0) 15) (w_fi w2 (n_v vs 0) 11) (w_fi w2 (n_v vs 0) 12) (w_ei w2 (w_ar ws (n_v vs 0) 1)) (w_fi w2 (n_v vs 0) 10) (w_fi w2 (n_v vs 0) 13) (w_fi w2 (n_v vs 0) 14) (w_ei w3 (w_ar ws (n_v vs 0) 2)) (w_ei w3 (w_ar ws (n_v vs 0) 1)) (w_fi w3 (n_v vs 0) 10) (w_fi w3 (n_v vs 0) 8) (w_fi w3 (n_v vs 0) 5) (w_ei w3 (w_ar ws (n_v vs 0) 3)) (w_ei w3 (w_ar ws (n_v vs 0) 4)) (w_fi w3 (n_v vs 0) 15) (w_fi w3 (n_v vs 0) 11) (w_fi w3 (n_v vs 0) 12) (w_fi w3 (n_v vs 0) 13) (w_fi w3 (n_v vs 0) 14) (w_fi w1 (n_v vs 0) 5) (w_fi ws (n_v vs 0) 8) (w_fi w1 (n_v vs 0) 8) (w_fi w2 (n_v vs 0) 5) (w_fi w2 (n_v vs 0) 8) (w_ei ws (w_ar ws (n_v vs 0) 2)) (w_ei w1 (w_ar ws (n_v vs 0) 2)) (w_ei w2 (w_ar ws (n_v vs 0) 2)) (w_ei ws (w_ar ws (n_v vs 0) 3)) (w_ei w1 (w_ar ws (n_v vs 0) 3)) (w_ei w2 (w_ar ws (n_v vs 0) 3)) (w_ei ws (w_ar ws (n_v vs 0) 4)) (w_ei w1 (w_ar ws (n_v vs 0) 4)) (w_ei w2 (w_ar ws (n_v vs 0) 4)) k1 k8 k13 k16 k19 k22 k25 f49 f52 fe_0_5_1 fe_0_8_1 fe_0_10_1 fe_0_11_1 fe_0_12_1 fe_0_13_1 fe_0_14_1 fe_0_15_1 fe_0_5_2 fe_0_8_2 fe_0_10_2 fe_0_11_2 fe_0_12_2 fe_0_13_2 fe_0_14_2 fe_0_15_2 fe_0_5_3 fe_0_8_3 fe_0_10_3 fe_0_11_3 fe_0_12_3 fe_0_13_3 fe_0_14_3 fe_0_15_3 hE_0_1_1 hE_0_1_2 hE_0_1_3 hE_0_2_1 hE_0_2_2 hE_0_2_3 hE_0_3_1 hE_0_3_2 hE_0_3_3 hE_0_4_1 hE_0_4_2 hE_0_4_3 kz_0_8 kz_0_10 kz_0_11 kz_0_12 kz_0_13 kz_0_14 kz_0_15)⟩
  have nf2 : fc_1 PRD (20, [9, 0], [50, 1, 1, 1005, 1002, 0, 6, 4, 2, 1, 0, 0, 1, 3, 1, 2, 4, 3, 2, 1, 5, 0, 2]) ws (vs) := ⟨nf_in hl rfl, sgq_1009 (vc_Mo_groupItem_at_k2_8_2 (v_iv (n_v vs 1)) (v_iv (n_v vs 4)) (v_iv (n_v vs 9)) (v_iv (n_v vs 11)) (v_iv (n_v vs 13)) (v_iv (n_v vs 14)) (v_iv (n_v vs 16)) (v_iv (n_v vs 18)) (v_iv (n_v vs 19)) (v_iv (n_v vs 21)) (v_iv (n_v vs 22)) (v_iv (n_v vs 25)) (w_fi ws (n_v vs 0) 15) (w_fi ws (n_v vs 0) 11) (w_fi ws (n_v vs 0) 5) (w_fi ws (n_v vs 0) 12) (w_ei ws (w_ar ws (n_v vs 0) 1)) (w_fi ws (n_v vs 0) 10) (w_fi ws (n_v vs 0) 13) (w_fi ws (n_v vs 0) 14) (w_fi w1 (n_v vs 0) 15) (w_fi w1 (n_v vs 0) 11) (w_fi w1 (n_v vs 0) 12) (w_ei w1 (w_ar ws (n_v vs 0) 1)) (w_fi w1 (n_v vs 0) 10) (w_fi w1 (n_v vs 0) 13) (w_fi w1 (n_v vs 0) 14) (w_fi w2 (n_v vs 0) 15) (w_fi w2 (n_v vs 0) 11) (w_fi w2 (n_v vs 0) 12) (w_ei w2 (w_ar ws (n_v vs 0) 1)) (w_fi w2 (n_v vs 0) 10) (w_fi w2 (n_v vs 0) 13) (w_fi w2 (n_v vs 0) 14) (w_ei w3 (w_ar ws (n_v vs 0) 2)) (w_ei w3 (w_ar ws (n_v vs 0) 1)) (w_fi w3 (n_v vs 0) 10) (w_fi w3 (n_v vs 0) 8) (w_fi w3 (n_v vs 0) 5) (w_ei w3 (w_ar ws (n_v vs 0) 3)) (w_ei w3 (w_ar ws (n_v vs 0) 4)) (w_fi w3 (n_v vs 0) 15) (w_fi w3 (n_v vs 0) 11) (w_fi w3 (n_v vs 0) 12) (w_fi w3 (n_v vs 0) 13) (w_fi w3 (n_v vs 0) 14) (w_fi w1 (n_v vs 0) 5) (w_fi ws (n_v vs 0) 8) (w_fi w1 (n_v vs 0) 8) (w_fi w2 (n_v vs 0) 5) (w_fi w2 (n_v vs 0) 8) (w_ei ws (w_ar ws (n_v vs 0) 2)) (w_ei w1 (w_ar ws (n_v vs 0) 2)) (w_ei w2 (w_ar ws (n_v vs 0) 2)) (w_ei ws (w_ar ws (n_v vs 0) 3)) (w_ei w1 (w_ar ws (n_v vs 0) 3)) (w_ei w2 (w_ar ws (n_v vs 0) 3)) (w_ei ws (w_ar ws (n_v vs 0) 4)) (w_ei w1 (w_ar ws (n_v vs 0) 4)) (w_ei w2 (w_ar ws (n_v vs 0) 4)) k1 k4 k9 k11 k13 k14 k16 k18 k19 k21 k22 k25 d4 d8 d9 d10 g2 f14 f25 h37 f39 f40 f44 f45 fe_0_5_1 fe_0_8_1 fe_0_10_1 fe_0_11_1 fe_0_12_1 fe_0_13_1 fe_0_14_1 fe_0_15_1 fe_0_5_2 fe_0_8_2 fe_0_10_2 fe_0_11_2 fe_0_12_2 fe_0_13_2 fe_0_14_2 fe_0_15_2 fe_0_5_3 fe_0_8_3 fe_0_10_3 fe_0_11_3 fe_0_12_3 fe_0_13_3 fe_0_14_3 fe_0_15_3 hE_0_1_1 hE_0_1_2 hE_0_1_3 hE_0_2_1 hE_0_2_2 hE_0_2_3 hE_0_3_1 hE_0_3_2 hE_0_3_3 hE_0_4_1 hE_0_4_2 hE_0_4_3 kz_0_8 kz_0_10 kz_0_11 kz_0_12 kz_0_13 kz_0_14 kz_0_15)⟩
  have nf3 : fc_1 PRD (20, [0], [60, 1, 3, 199, 5, 2, 3, 4]) ws (vs) := ⟨nf_in hl rfl, sgq_980 (vc_Mo_groupItem_at_k2_8_3 (v_iv (n_v vs 1)) (v_iv (n_v vs 4)) (v_iv (n_v vs 9)) (v_iv (n_v vs 11)) (v_iv (n_v vs 13)) (v_iv (n_v vs 16)) (v_iv (n_v vs 18)) (v_iv (n_v vs 19)) (v_iv (n_v vs 21)) (v_iv (n_v vs 22)) (v_iv (n_v vs 25)) (w_fi ws (n_v vs 0) 15) (w_fi ws (n_v vs 0) 11) (w_fi ws (n_v vs 0) 5) (w_fi ws (n_v vs 0) 12) (w_ei ws (w_ar ws (n_v vs 0) 1)) (w_fi ws (n_v vs 0) 10) (w_fi ws (n_v vs 0) 13) (w_fi ws (n_v vs 0) 14) (w_fi w1 (n_v vs 0) 15) (w_fi w1 (n_v vs 0) 11) (w_fi w1 (n_v vs 0) 12) (w_ei w1 (w_ar ws (n_v vs 0) 1)) (w_fi w1 (n_v vs 0) 10) (w_fi w1 (n_v vs 0) 13) (w_fi w1 (n_v vs 0) 14) (w_fi w2 (n_v vs 0) 15) (w_fi w2 (n_v vs 0) 11) (w_fi w2 (n_v vs 0) 12) (w_ei w2 (w_ar ws (n_v vs 0) 1)) (w_fi w2 (n_v vs 0) 10) (w_fi w2 (n_v vs 0) 13) (w_fi w2 (n_v vs 0) 14) (w_ei w3 (w_ar ws (n_v vs 0) 2)) (w_ei w3 (w_ar ws (n_v vs 0) 1)) (w_fi w3 (n_v vs 0) 10) (w_fi w3 (n_v vs 0) 8) (w_fi w3 (n_v vs 0) 5) (w_ei w3 (w_ar ws (n_v vs 0) 3)) (w_ei w3 (w_ar ws (n_v vs 0) 4)) (w_fi w3 (n_v vs 0) 15) (w_fi w3 (n_v vs 0) 11) (w_fi w3 (n_v vs 0) 12) (w_fi w3 (n_v vs 0) 13) (w_fi w3 (n_v vs 0) 14) (w_fi w1 (n_v vs 0) 5) (w_fi ws (n_v vs 0) 8) (w_fi w1 (n_v vs 0) 8) (w_fi w2 (n_v vs 0) 5) (w_fi w2 (n_v vs 0) 8) (w_ei ws (w_ar ws (n_v vs 0) 2)) (w_ei w1 (w_ar ws (n_v vs 0) 2)) (w_ei w2 (w_ar ws (n_v vs 0) 2)) (w_ei ws (w_ar ws (n_v vs 0) 3)) (w_ei w1 (w_ar ws (n_v vs 0) 3)) (w_ei w2 (w_ar ws (n_v vs 0) 3)) (w_ei ws (w_ar ws (n_v vs 0) 4)) (w_ei w1 (w_ar ws (n_v vs 0) 4)) (w_ei w2 (w_ar ws (n_v vs 0) 4)) k1 k4 k9 k11 k13 k16 k18 k19 k21 k22 k25 d4 d8 d10 g2 f14 f25 f39 f40 f44 f45 f47 fe_0_5_1 fe_0_8_1 fe_0_10_1 fe_0_11_1 fe_0_12_1 fe_0_13_1 fe_0_14_1 fe_0_15_1 fe_0_5_2 fe_0_8_2 fe_0_10_2 fe_0_11_2 fe_0_12_2 fe_0_13_2 fe_0_14_2 fe_0_15_2 fe_0_5_3 fe_0_8_3 fe_0_10_3 fe_0_11_3 fe_0_12_3 fe_0_13_3 fe_0_14_3 fe_0_15_3 hE_0_1_1 hE_0_1_2 hE_0_1_3 hE_0_2_1 hE_0_2_2 hE_0_2_3 hE_0_3_1 hE_0_3_2 hE_0_3_3 hE_0_4_1 hE_0_4_2 hE_0_4_3 kz_0_8 kz_0_10 kz_0_11 kz_0_12 kz_0_13 kz_0_14 kz_0_15)⟩
  have nf4 : fc_1 PRD (20, [0, 9, 26, 1, 2], [60, 8, 2, 1006, 10, 11, 12, 13, 14, 15, 8, 5, 1, 2]) ws (vs) := ⟨nf_in hl rfl, sgq_2175 (vc_Mo_groupItem_at_k2_8_4 (v_iv (n_v vs 1)) (v_iv (n_v vs 2)) (v_iv (n_v vs 7)) (v_iv (n_v vs 8)) (v_iv (n_v vs 9)) (v_iv (n_v vs 11)) (v_iv (n_v vs 13)) (v_iv (n_v vs 14)) (v_iv (n_v vs 16)) (v_iv (n_v vs 18)) (v_iv (n_v vs 19)) (v_iv (n_v vs 21)) (v_iv (n_v vs 22)) (v_iv (n_v vs 23)) (v_iv (n_v vs 24)) (v_iv (n_v vs 25)) (v_iv (n_v vs 26)) (w_fi ws (n_v vs 0) 15) (w_fi ws (n_v vs 0) 11) (w_fi ws (n_v vs 0) 5) (w_fi ws (n_v vs 0) 12) (w_ei ws (w_ar ws (n_v vs 0) 1)) (w_fi ws (n_v vs 0) 10) (w_fi ws (n_v vs 0) 13) (w_fi ws (n_v vs 0) 14) (w_fi w1 (n_v vs 0) 15) (w_fi w1 (n_v vs 0) 11) (w_fi w1 (n_v vs 0) 12) (w_ei w1 (w_ar ws (n_v vs 0) 1)) (w_fi w1 (n_v vs 0) 10) (w_fi w1 (n_v vs 0) 13) (w_fi w1 (n_v vs 0) 14) (w_fi w2 (n_v vs 0) 15) (w_fi w2 (n_v vs 0) 11) (w_fi w2 (n_v vs 0) 12) (w_ei w2 (w_ar ws (n_v vs 0) 1)) (w_fi w2 (n_v vs 0) 10) (w_fi w2 (n_v vs 0) 13) (w_fi w2 (n_v vs 0) 14) (w_ei w3 (w_ar ws (n_v vs 0) 2)) (w_ei w3 (w_ar ws (n_v vs 0) 1)) (w_fi w3 (n_v vs 0) 10) (w_fi w3 (n_v vs 0) 8) (w_fi w3 (n_v vs 0) 5) (w_ei w3 (w_ar ws (n_v vs 0) 3)) (w_ei w3 (w_ar ws (n_v vs 0) 4)) (w_fi w3 (n_v vs 0) 15) (w_fi w3 (n_v vs 0) 11) (w_fi w3 (n_v vs 0) 12) (w_fi w3 (n_v vs 0) 13) (w_fi w3 (n_v vs 0) 14) (w_fi w1 (n_v vs 0) 5) (w_fi ws (n_v vs 0) 8) (w_fi w1 (n_v vs 0) 8) (w_fi w2 (n_v vs 0) 5) (w_fi w2 (n_v vs 0) 8) (w_ei ws (w_ar ws (n_v vs 0) 2)) (w_ei w1 (w_ar ws (n_v vs 0) 2)) (w_ei w2 (w_ar ws (n_v vs 0) 2)) (w_ei ws (w_ar ws (n_v vs 0) 3)) (w_ei w1 (w_ar ws (n_v vs 0) 3)) (w_ei w2 (w_ar ws (n_v vs 0) 3)) (w_ei ws (w_ar ws (n_v vs 0) 4)) (w_ei w1 (w_ar ws (n_v vs 0) 4)) (w_ei w2 (w_ar ws (n_v vs 0) 4)) k1 k2 k7 k8 k9 k11 k13 k14 k16 k18 k19 k21 k22 k23 k24 k25 k26 d4 d8 d9 d10 g0 g1 g2 f13 f14 f25 h37 f39 f40 f41 f42 f51 f53 fe_0_5_1 fe_0_8_1 fe_0_10_1 fe_0_11_1 fe_0_12_1 fe_0_13_1 fe_0_14_1 fe_0_15_1 fe_0_5_2 fe_0_8_2 fe_0_10_2 fe_0_11_2 fe_0_12_2 fe_0_13_2 fe_0_14_2 fe_0_15_2 fe_0_5_3 fe_0_8_3 fe_0_10_3 fe_0_11_3 fe_0_12_3 fe_0_13_3 fe_0_14_3 fe_0_15_3 hE_0_1_1 hE_0_1_2 hE_0_1_3 hE_0_2_1 hE_0_2_2 hE_0_2_3 hE_0_3_1 hE_0_3_2 hE_0_3_3 hE_0_4_1 hE_0_4_2 hE_0_4_3 kz_0_8 kz_0_10 kz_0_11 kz_0_12 kz_0_13 kz_0_14 kz_0_15)⟩
  have nf5 : fc_1 PRD (24, [0, 0], []) ws (vs) := by
    refine ⟨nf_in hl rfl, sgq_1 ?_⟩
    · show n_v vs 0 = n_v vs 0
      first | rfl | simp only [true_and]
  have nf6 : fc_1 PRD (24, [1, 1], []) ws (vs) := by
    refine ⟨nf_in hl rfl, sgq_1 ?_⟩
    · show n_v vs 1 = n_v vs 1
      first | rfl | simp only [true_and]
  have nf7 : fc_1 PRD (24, [2, 2], []) ws (vs) := by
    refine ⟨nf_in hl rfl, sgq_1 ?_⟩
    · show n_v vs 2 = n_v vs 2
      first | rfl | simp only [true_and]
  refine ⟨(fun _ h => (by cases h)), [], trivial, ?_, (fun _ h => (by cases h))⟩
  rw [List.append_nil]
  exact List.forall_mem_cons.mpr ⟨⟨show (20 : Nat) < 100 from by decide, nf0⟩, List.forall_mem_cons.mpr ⟨⟨show (20 : Nat) < 100 from by decide, nf1⟩, List.forall_mem_cons.mpr ⟨⟨show (20 : Nat) < 100 from by decide, nf2⟩, List.forall_mem_cons.mpr ⟨⟨show (20 : Nat) < 100 from by decide, nf3⟩, List.forall_mem_cons.mpr ⟨⟨show (20 : Nat) < 100 from by decide, nf4⟩, List.forall_mem_cons.mpr ⟨⟨show (24 : Nat) < 100 from by decide, nf5⟩, List.forall_mem_cons.mpr ⟨⟨show (24 : Nat) < 100 from by decide, nf6⟩, List.forall_mem_cons.mpr ⟨⟨show (24 : Nat) < 100 from by decide, nf7⟩, (fun _ h => (by cases h))⟩⟩⟩⟩⟩⟩⟩⟩
set_option maxHeartbeats 4000000 in
theorem vc_Mo_groupItem_at_k2_9_0 (x1 : Int) (x2 : Int) (x7 : Int) (x8 : Int) (x9 : Int) (x10 : Int) (place_0 : Int) (tape_0 : Int → Int) (all_0 : Int → Int) (limit_0 : Int) (fault_0 : Int) (r_0 : Int) (from_0 : Int) (pos_0 : Int) (kind_0 : Int) (value_0 : Int) (gx : Int) (k1 : 0 ≤ x1 ∧ x1 ≤ 7) (k2 : 2 ≤ x2 ∧ x2 ≤ 2) (k7 : 0 ≤ x7 ∧ x7 ≤ 2000) (k8 : 0 ≤ x8 ∧ x8 ≤ 0) (k9 : 1 ≤ x9 ∧ x9 ≤ 1) (k10 : 0 ≤ x10 ∧ x10 ≤ 2000) (g0 : x10 = place_0) (f1 : x8 = 0) (f2 : zTS5 (limit_0) (fault_0) (r_0) (tape_0) (all_0) (x1) (x2) (x7)) (f11 : TKR (limit_0) (pos_0) (kind_0) (place_0) (value_0) (from_0) (tape_0) (x7)) (f13 : NMQ (kind_0) (pos_0) (limit_0) (from_0) (tape_0) (x8)) (kz_0_8 : 0 ≤ fault_0 ∧ fault_0 ≤ 5) (kz_0_10 : 0 ≤ limit_0 ∧ limit_0 ≤ 2000) (kz_0_11 : 0 ≤ pos_0 ∧ pos_0 ≤ 2000) (kz_0_12 : 0 ≤ kind_0 ∧ kind_0 ≤ 4) (kz_0_13 : 0 ≤ place_0 ∧ place_0 ≤ 2000) (kz_0_14 : (-49) ≤ value_0 ∧ value_0 ≤ 1048575) (kz_0_15 : 0 ≤ from_0 ∧ from_0 ≤ 2000) (ex2 : gx = fault_0) : FSX (limit_0) (tape_0) (x9) (x10) := by
  first | subst g0 | skip
  first | subst ex2 | skip
  exact fsx_cg (gr_no (rsq_of ‹zTS5 _ _ _ _ _ _ _ _› ‹TKR _ _ _ _ _ _ _ _›) ‹NMQ _ _ _ _ _ _› (by omega)) (by omega) (by omega)
set_option maxHeartbeats 4000000 in
theorem vc_Mo_groupItem_at_k2_9_1 (fault_0 : Int) (r_0 : Int) (gx : Int) (kz_0_8 : 0 ≤ fault_0 ∧ fault_0 ≤ 5) (ex2 : gx = fault_0) : 1 * fault_0 + ((-1) * gx + 0) ≤ 0 := by
  first
    | omega
    | (have q1 := (hE_0_2_1 (r_0 + 2) (by omega)).2 (by omega)
       have q2 := (hE_0_2_2 (r_0 + 2) (by omega)).2 (by omega)
       omega)
    | (have q1 := (hE_0_2_1 (r_0 + 1) (by omega)).2 (by omega)
       have q2 := (hE_0_2_2 (r_0 + 1) (by omega)).2 (by omega)
       omega)
    | (have q1 := (hE_0_2_1 (r_0 + 2) (by omega)).2 (by omega)
       omega)
    | (have q1 := (hE_0_2_1 (r_0 + 1) (by omega)).2 (by omega)
       omega)
    | (have q1 := (hE_0_2_1 (r_0 + 2) (by omega)).2 (by omega)
       have q2 := (hE_0_2_2 (r_0 + 2) (by omega)).2 (by omega)
       have q3 := (hE_0_2_3 (r_0 + 2) (by omega)).1 (by omega)
       omega)
    | (have q1 := (hE_0_2_1 (r_0 + 2) (by omega)).2 (by omega)
       have q2 := (hE_0_2_2 (r_0 + 2) (by omega)).2 (by omega)
       have q3 := (hE_0_2_3 (r_0 + 2) (by omega)).2 (by omega)
       omega)
    | (have q1 := (hE_0_2_1 (r_0 + 2) (by omega)).2 (by omega)
       have q2 := (hE_0_2_2 (r_0 + 2) (by omega)).2 (by omega)
       have q3 := (hE_0_2_3 (r_0 + 2) (by omega)).1 (by omega)
       have q4 : x13 = r_0 + 2 := by omega
       simp only [q4] at *
       omega)
set_option maxHeartbeats 4000000 in
theorem vc_Mo_groupItem_at_k2_9_2 (fault_0 : Int) (r_0 : Int) (gx : Int) (kz_0_8 : 0 ≤ fault_0 ∧ fault_0 ≤ 5) (ex2 : gx = fault_0) : (-1) * fault_0 + (1 * gx + 0) ≤ 0 := by
  first
    | omega
    | (have q1 := (hE_0_2_1 (r_0 + 2) (by omega)).2 (by omega)
       have q2 := (hE_0_2_2 (r_0 + 2) (by omega)).2 (by omega)
       omega)
    | (have q1 := (hE_0_2_1 (r_0 + 1) (by omega)).2 (by omega)
       have q2 := (hE_0_2_2 (r_0 + 1) (by omega)).2 (by omega)
       omega)
    | (have q1 := (hE_0_2_1 (r_0 + 2) (by omega)).2 (by omega)
       omega)
    | (have q1 := (hE_0_2_1 (r_0 + 1) (by omega)).2 (by omega)
       omega)
    | (have q1 := (hE_0_2_1 (r_0 + 2) (by omega)).2 (by omega)
       have q2 := (hE_0_2_2 (r_0 + 2) (by omega)).2 (by omega)
       have q3 := (hE_0_2_3 (r_0 + 2) (by omega)).1 (by omega)
       omega)
    | (have q1 := (hE_0_2_1 (r_0 + 2) (by omega)).2 (by omega)
       have q2 := (hE_0_2_2 (r_0 + 2) (by omega)).2 (by omega)
       have q3 := (hE_0_2_3 (r_0 + 2) (by omega)).2 (by omega)
       omega)
    | (have q1 := (hE_0_2_1 (r_0 + 2) (by omega)).2 (by omega)
       have q2 := (hE_0_2_2 (r_0 + 2) (by omega)).2 (by omega)
       have q3 := (hE_0_2_3 (r_0 + 2) (by omega)).1 (by omega)
       have q4 : x13 = r_0 + 2 := by omega
       simp only [q4] at *
       omega)
set_option maxHeartbeats 4000000 in
theorem vc_Mo_groupItem_at_k2_9_3 (x1 : Int) (x2 : Int) (x7 : Int) (tape_0 : Int → Int) (all_0 : Int → Int) (limit_0 : Int) (fault_0 : Int) (r_0 : Int) (gx : Int) (k1 : 0 ≤ x1 ∧ x1 ≤ 7) (k2 : 2 ≤ x2 ∧ x2 ≤ 2) (k7 : 0 ≤ x7 ∧ x7 ≤ 2000) (f2 : zTS5 (limit_0) (fault_0) (r_0) (tape_0) (all_0) (x1) (x2) (x7)) (kz_0_8 : 0 ≤ fault_0 ∧ fault_0 ≤ 5) (kz_0_10 : 0 ≤ limit_0 ∧ limit_0 ≤ 2000) (ex2 : gx = fault_0) : ZH0 (gx) := by
  first
    | exact ⟨by omega, by omega, trivial⟩
    | (have h := (rsq_0 (‹zRSG _ _ _ _ _ _ _ _ _ _ _ _›).1).1; exact ⟨by omega, by omega, trivial⟩)
    | (have h := (‹zTS5 _ _ _ _ _ _ _ _›).1; exact ⟨by omega, by omega, trivial⟩)
def o_Mo_groupItem_at_k2_9 : or_T := (41, 11, [(0, (2, 0, 0, [165])), (1, (0, 0, 7, [])), (2, (0, 2, 2, [])), (7, (0, 0, 2000, [])), (8, (0, 0, 0, [])), (9, (0, 1, 1, [])), (10, (0, 0, 2000, []))], [(9, [10, 0], [13]), (8, [8], [0]), (20, [0, 1, 2, 7], [60, 3, 2, 974, 10, 8, 5, 1, 2]), (20, [0, 7], [60, 6, 1, 948, 10, 11, 12, 13, 14, 15, 1]), (20, [0, 8], [60, 4, 1, 962, 12, 11, 10, 15, 1])], [], [(0, 0, 5, [])], [(20, [0, 9, 10], [60, 1, 1, 1026, 10, 1]), (20, [0, 11], [30, 0, 1, 1, 8, -1, 0, 0]), (20, [0, 11], [30, 0, -1, 1, 8, 1, 0, 0]), (20, [11], [61, 0, 1029])], [], [])
theorem oo_Mo_groupItem_at_k2_9 {kA : Nat → ClassId} : or_ok PRD kA GG o_Mo_groupItem_at_k2_9 := by
  refine or_mk fun A ta ws vs hD hth hl => ?_
  intro t0 r0 t1 k1 t2 k2 t7 k7 t8 k8 t9 k9 t10 k10 f0 f1 f2 f11 f13
  replace f0 := shm_361 f0
  replace f1 := shm_192 f1
  replace f2 := shm_2174 f2
  replace f11 := shm_1439 f11
  replace f13 := shm_1889 f13
  have g0 : v_iv (n_v vs 10) = w_fi ws (n_v vs 0) 13 := congrArg v_iv f0
  have kz_0_8 := fdq_34 hD hth r0
  have kz_0_10 := fdq_43 hD hth r0
  have kz_0_11 := fdq_237 hD hth r0
  have kz_0_12 := fdq_187 hD hth r0
  have kz_0_13 := fdq_238 hD hth r0
  have kz_0_14 := fdq_188 hD hth r0
  have kz_0_15 := fdq_239 hD hth r0
  obtain ⟨x, ex, hx⟩ := iv_ex (ta := ta) (lo := 0) (hi := 5) (z := w_fi ws (n_v vs 0) 8) (by omega) (by omega) (by omega) (by omega)
  have ex2 : v_iv (Value.int x) = w_fi ws (n_v vs 0) 8 := ex
  have ex3 : 0 ≤ v_iv (Value.int x) ∧ v_iv (Value.int x) ≤ 5 := tv_rng hx
  have e_0 : n_v (vs ++ [Value.int x]) 0 = n_v vs 0 := n_v_old (by rw [hl]; decide)
  have e_9 : n_v (vs ++ [Value.int x]) 9 = n_v vs 9 := n_v_old (by rw [hl]; decide)
  have e_10 : n_v (vs ++ [Value.int x]) 10 = n_v vs 10 := n_v_old (by rw [hl]; decide)
  have e_11 : n_v (vs ++ [Value.int x]) 11 = Value.int x := n_v_new hl
  have nf0 : fc_1 PRD (20, [0, 9, 10], [60, 1, 1, 1026, 10, 1]) ws (vs ++ [Value.int x]) := by
    refine ⟨nf_inA hl rfl, sgq_1724 ?_⟩
    · show FSX (w_fi ws (n_v (vs ++ [Value.int x]) 0) 10) (w_ei ws (w_ar ws (n_v (vs ++ [Value.int x]) 0) 1)) (v_iv (n_v (vs ++ [Value.int x]) 9)) (v_iv (n_v (vs ++ [Value.int x]) 10))
      simp only [e_0, e_9, e_10]
      exact vc_Mo_groupItem_at_k2_9_0 (v_iv (n_v vs 1)) (v_iv (n_v vs 2)) (v_iv (n_v vs 7)) (v_iv (n_v vs 8)) (v_iv (n_v vs 9)) (v_iv (n_v vs 10)) (w_fi ws (n_v vs 0) 13) (w_ei ws (w_ar ws (n_v vs 0) 1)) (w_ei ws (w_ar ws (n_v vs 0) 2)) (w_fi ws (n_v vs 0) 10) (w_fi ws (n_v vs 0) 8) (w_fi ws (n_v vs 0) 5) (w_fi ws (n_v vs 0) 15) (w_fi ws (n_v vs 0) 11) (w_fi ws (n_v vs 0) 12) (w_fi ws (n_v vs 0) 14) (v_iv (Value.int x)) k1 k2 k7 k8 k9 k10 g0 f1 f2 f11 f13 kz_0_8 kz_0_10 kz_0_11 kz_0_12 kz_0_13 kz_0_14 kz_0_15 ex2
  have nf1 : fc_1 PRD (20, [0, 11], [30, 0, 1, 1, 8, -1, 0, 0]) ws (vs ++ [Value.int x]) := by
    refine ⟨nf_inA hl rfl, sgq_303 ?_⟩
    · show 1 * w_fi ws (n_v (vs ++ [Value.int x]) 0) 8 + ((-1) * v_iv (n_v (vs ++ [Value.int x]) 11) + 0) ≤ 0
      simp only [e_0, e_11]
      exact vc_Mo_groupItem_at_k2_9_1 (w_fi ws (n_v vs 0) 8) (w_fi ws (n_v vs 0) 5) (v_iv (Value.int x)) kz_0_8 ex2
  have nf2 : fc_1 PRD (20, [0, 11], [30, 0, -1, 1, 8, 1, 0, 0]) ws (vs ++ [Value.int x]) := by
    refine ⟨nf_inA hl rfl, sgq_304 ?_⟩
    · show (-1) * w_fi ws (n_v (vs ++ [Value.int x]) 0) 8 + (1 * v_iv (n_v (vs ++ [Value.int x]) 11) + 0) ≤ 0
      simp only [e_0, e_11]
      exact vc_Mo_groupItem_at_k2_9_2 (w_fi ws (n_v vs 0) 8) (w_fi ws (n_v vs 0) 5) (v_iv (Value.int x)) kz_0_8 ex2
  have nf3 : fc_1 PRD (20, [11], [61, 0, 1029]) ws (vs ++ [Value.int x]) := by
    refine ⟨nf_inA hl rfl, sgq_1725 ?_⟩
    · show ZH0 (v_iv (n_v (vs ++ [Value.int x]) 11))
      rw [e_11]
      exact vc_Mo_groupItem_at_k2_9_3 (v_iv (n_v vs 1)) (v_iv (n_v vs 2)) (v_iv (n_v vs 7)) (w_ei ws (w_ar ws (n_v vs 0) 1)) (w_ei ws (w_ar ws (n_v vs 0) 2)) (w_fi ws (n_v vs 0) 10) (w_fi ws (n_v vs 0) 8) (w_fi ws (n_v vs 0) 5) (v_iv (Value.int x)) k1 k2 k7 f2 kz_0_8 kz_0_10 ex2
  exact ⟨(fun _ h => (by cases h)), [Value.int x], ag_one hx, List.forall_mem_cons.mpr ⟨⟨show (20 : Nat) < 100 from by decide, nf0⟩, List.forall_mem_cons.mpr ⟨⟨show (20 : Nat) < 100 from by decide, nf1⟩, List.forall_mem_cons.mpr ⟨⟨show (20 : Nat) < 100 from by decide, nf2⟩, List.forall_mem_cons.mpr ⟨⟨show (20 : Nat) < 100 from by decide, nf3⟩, (fun _ h => (by cases h))⟩⟩⟩⟩, (fun _ h => (by cases h))⟩
set_option maxHeartbeats 4000000 in
theorem vc_Mo_groupItem_at_k2_10_0 (x3 : Int) (x7 : Int) (r_0 : Int) (from_0 : Int) (pos_0 : Int) (k3 : 0 ≤ x3 ∧ x3 ≤ 2000) (k7 : 0 ≤ x7 ∧ x7 ≤ 2000) (f3 : 1 * x3 + ((-1) * x7 + 0) ≤ 0) (f8 : 1 * from_0 + ((-1) * pos_0 + 0) ≤ 0) (f10 : 1 * x7 + ((-1) * from_0 + 0) ≤ 0) (kz_0_11 : 0 ≤ pos_0 ∧ pos_0 ≤ 2000) (kz_0_15 : 0 ≤ from_0 ∧ from_0 ≤ 2000) : 1 * x3 + ((-1) * pos_0 + 0) ≤ 0 := by
  first
    | omega
    | (have q1 := (hE_0_2_1 (r_0 + 2) (by omega)).2 (by omega)
       have q2 := (hE_0_2_2 (r_0 + 2) (by omega)).2 (by omega)
       omega)
    | (have q1 := (hE_0_2_1 (r_0 + 1) (by omega)).2 (by omega)
       have q2 := (hE_0_2_2 (r_0 + 1) (by omega)).2 (by omega)
       omega)
    | (have q1 := (hE_0_2_1 (r_0 + 2) (by omega)).2 (by omega)
       omega)
    | (have q1 := (hE_0_2_1 (r_0 + 1) (by omega)).2 (by omega)
       omega)
    | (have q1 := (hE_0_2_1 (r_0 + 2) (by omega)).2 (by omega)
       have q2 := (hE_0_2_2 (r_0 + 2) (by omega)).2 (by omega)
       have q3 := (hE_0_2_3 (r_0 + 2) (by omega)).1 (by omega)
       omega)
    | (have q1 := (hE_0_2_1 (r_0 + 2) (by omega)).2 (by omega)
       have q2 := (hE_0_2_2 (r_0 + 2) (by omega)).2 (by omega)
       have q3 := (hE_0_2_3 (r_0 + 2) (by omega)).2 (by omega)
       omega)
    | (have q1 := (hE_0_2_1 (r_0 + 2) (by omega)).2 (by omega)
       have q2 := (hE_0_2_2 (r_0 + 2) (by omega)).2 (by omega)
       have q3 := (hE_0_2_3 (r_0 + 2) (by omega)).1 (by omega)
       have q4 : x13 = r_0 + 2 := by omega
       simp only [q4] at *
       omega)
set_option maxHeartbeats 4000000 in
theorem vc_Mo_groupItem_at_k2_10_1 (x3 : Int) (r_0 : Int) (pos_0 : Int) (fault_0 : Int) (k3 : 0 ≤ x3 ∧ x3 ≤ 2000) (f14 : (-1) * fault_0 + 0 ≤ (-1)) (kz_0_8 : 0 ≤ fault_0 ∧ fault_0 ≤ 5) (kz_0_11 : 0 ≤ pos_0 ∧ pos_0 ≤ 2000) : (1 ≤ fault_0) ∨ ((x3 + 1) ≤ pos_0) := by
  first
    | omega
    | (have q1 := (hE_0_2_1 (r_0 + 2) (by omega)).2 (by omega)
       have q2 := (hE_0_2_2 (r_0 + 2) (by omega)).2 (by omega)
       omega)
    | (have q1 := (hE_0_2_1 (r_0 + 1) (by omega)).2 (by omega)
       have q2 := (hE_0_2_2 (r_0 + 1) (by omega)).2 (by omega)
       omega)
    | (have q1 := (hE_0_2_1 (r_0 + 2) (by omega)).2 (by omega)
       omega)
    | (have q1 := (hE_0_2_1 (r_0 + 1) (by omega)).2 (by omega)
       omega)
    | (have q1 := (hE_0_2_1 (r_0 + 2) (by omega)).2 (by omega)
       have q2 := (hE_0_2_2 (r_0 + 2) (by omega)).2 (by omega)
       have q3 := (hE_0_2_3 (r_0 + 2) (by omega)).1 (by omega)
       omega)
    | (have q1 := (hE_0_2_1 (r_0 + 2) (by omega)).2 (by omega)
       have q2 := (hE_0_2_2 (r_0 + 2) (by omega)).2 (by omega)
       have q3 := (hE_0_2_3 (r_0 + 2) (by omega)).2 (by omega)
       omega)
    | (have q1 := (hE_0_2_1 (r_0 + 2) (by omega)).2 (by omega)
       have q2 := (hE_0_2_2 (r_0 + 2) (by omega)).2 (by omega)
       have q3 := (hE_0_2_3 (r_0 + 2) (by omega)).1 (by omega)
       have q4 : x13 = r_0 + 2 := by omega
       simp only [q4] at *
       omega)
set_option maxHeartbeats 4000000 in
theorem vc_Mo_groupItem_at_k2_10_2 (x1 : Int) (x2 : Int) (x9 : Int) (x10 : Int) (x11 : Int) (place_0 : Int) (tape_0 : Int → Int) (limit_0 : Int) (all_0 : Int → Int) (r_0 : Int) (from_0 : Int) (pos_0 : Int) (kind_0 : Int) (value_0 : Int) (fault_0 : Int) (faultPlace_0 : Int) (k1 : 0 ≤ x1 ∧ x1 ≤ 7) (k2 : 2 ≤ x2 ∧ x2 ≤ 2) (k9 : 1 ≤ x9 ∧ x9 ≤ 1) (k10 : 0 ≤ x10 ∧ x10 ≤ 2000) (k11 : 0 ≤ x11 ∧ x11 ≤ 5) (g0 : x10 = place_0) (f1 : FSX (limit_0) (tape_0) (x9) (x10)) (f2 : ZH0 (x11)) (f15 : ((1 ≤ x11) ∧ (fault_0 = x11)) ∨ ((x11 = 0) ∧ ((fault_0 = x9) ∧ (faultPlace_0 = x10)))) (kz_0_8 : 0 ≤ fault_0 ∧ fault_0 ≤ 5) (kz_0_9 : 0 ≤ faultPlace_0 ∧ faultPlace_0 ≤ 2000) (kz_0_10 : 0 ≤ limit_0 ∧ limit_0 ≤ 2000) (kz_0_11 : 0 ≤ pos_0 ∧ pos_0 ≤ 2000) (kz_0_12 : 0 ≤ kind_0 ∧ kind_0 ≤ 4) (kz_0_13 : 0 ≤ place_0 ∧ place_0 ≤ 2000) (kz_0_14 : (-49) ≤ value_0 ∧ value_0 ≤ 1048575) (kz_0_15 : 0 ≤ from_0 ∧ from_0 ≤ 2000) : zOS0 (limit_0) (pos_0) (kind_0) (place_0) (value_0) (from_0) (fault_0) (faultPlace_0) (r_0) (tape_0) (all_0) (x1) (x2) := by
  first | subst g0 | skip
  first
    | assumption
    | (refine Or.inl (fs_w ?_ ?_ (by assumption)) <;> assumption)
def o_Mo_groupItem_at_k2_10 : or_T := (44, 12, [(0, (2, 0, 0, [165])), (1, (0, 0, 7, [])), (2, (0, 2, 2, [])), (3, (0, 0, 2000, [])), (7, (0, 0, 2000, [])), (9, (0, 1, 1, [])), (10, (0, 0, 2000, [])), (11, (0, 0, 5, []))], [(9, [10, 0], [13]), (20, [0, 9, 10], [60, 1, 1, 1026, 10, 1]), (20, [11], [61, 0, 1029]), (20, [3, 7], [30, 0, 1, 0, 0, -1, 0, 0]), (20, [0, 0], [30, 0, 1, 1, 15, -1, 1, 11]), (20, [7, 0], [30, 0, 1, 0, 0, -1, 1, 15]), (20, [0], [30, -1, -1, 1, 8]), (20, [11, 0, 9, 10], [50, 2, 0, 1008, 1009, 3, 15, 2, 6, 0, 2, 0, 1, 1, 0, 1, 3, 2, 1, 8, 1, 0, 2, 6, 1, 2, 1, 0, 0, 0, 2, 7, 1, 3, 2, 1, 8, 1, 2, 1, 3, 2, 1, 9, 1, 3])], [], [], [(20, [3, 0], [30, 0, 1, 0, 0, -1, 1, 11]), (20, [0, 3], [50, 2, 0, 8, 11, 3, 7, 0, 2, 0, 1, 2, 0, 8, 0, 6, 4, 2, 1, 1, 0, 1, 2, 0, 11]), (20, [0, 1, 2], [60, 9, 2, 1007, 10, 11, 12, 13, 14, 15, 8, 9, 5, 1, 2])], [], [])
theorem oo_Mo_groupItem_at_k2_10 {kA : Nat → ClassId} : or_ok PRD kA GG o_Mo_groupItem_at_k2_10 := by
  refine or_mk fun A ta ws vs hD hth hl => ?_
  intro t0 r0 t1 k1 t2 k2 t3 k3 t7 k7 t9 k9 t10 k10 t11 k11 f0 f1 f2 f3 f8 f10 f14 f15
  replace f0 := shm_361 f0
  have g0 : v_iv (n_v vs 10) = w_fi ws (n_v vs 0) 13 := congrArg v_iv f0
  have kz_0_8 := fdq_34 hD hth r0
  have kz_0_9 := fdq_44 hD hth r0
  have kz_0_10 := fdq_43 hD hth r0
  have kz_0_11 := fdq_237 hD hth r0
  have kz_0_12 := fdq_187 hD hth r0
  have kz_0_13 := fdq_238 hD hth r0
  have kz_0_14 := fdq_188 hD hth r0
  have kz_0_15 := fdq_239 hD hth r0
  have nf0 : fc_1 PRD (20, [3, 0], [30, 0, 1, 0, 0, -1, 1, 11]) ws (vs) := ⟨nf_in hl rfl, sgq_1431 (vc_Mo_groupItem_at_k2_10_0 (v_iv (n_v vs 3)) (v_iv (n_v vs 7)) (w_fi ws (n_v vs 0) 5) (w_fi ws (n_v vs 0) 15) (w_fi ws (n_v vs 0) 11) k3 k7 (shm_201 f3) (shm_1437 f8) (shm_1436 f10) kz_0_11 kz_0_15)⟩
  have nf1 : fc_1 PRD (20, [0, 3], [50, 2, 0, 8, 11, 3, 7, 0, 2, 0, 1, 2, 0, 8, 0, 6, 4, 2, 1, 1, 0, 1, 2, 0, 11]) ws (vs) := ⟨nf_in hl rfl, sgq_1726 (vc_Mo_groupItem_at_k2_10_1 (v_iv (n_v vs 3)) (w_fi ws (n_v vs 0) 5) (w_fi ws (n_v vs 0) 11) (w_fi ws (n_v vs 0) 8) k3 (shm_305 f14) kz_0_8 kz_0_11)⟩
  have nf2 : fc_1 PRD (20, [0, 1, 2], [60, 9, 2, 1007, 10, 11, 12, 13, 14, 15, 8, 9, 5, 1, 2]) ws (vs) := ⟨nf_in hl rfl, sgq_1727 (vc_Mo_groupItem_at_k2_10_2 (v_iv (n_v vs 1)) (v_iv (n_v vs 2)) (v_iv (n_v vs 9)) (v_iv (n_v vs 10)) (v_iv (n_v vs 11)) (w_fi ws (n_v vs 0) 13) (w_ei ws (w_ar ws (n_v vs 0) 1)) (w_fi ws (n_v vs 0) 10) (w_ei ws (w_ar ws (n_v vs 0) 2)) (w_fi ws (n_v vs 0) 5) (w_fi ws (n_v vs 0) 15) (w_fi ws (n_v vs 0) 11) (w_fi ws (n_v vs 0) 12) (w_fi ws (n_v vs 0) 14) (w_fi ws (n_v vs 0) 8) (w_fi ws (n_v vs 0) 9) k1 k2 k9 k10 k11 g0 (shm_1724 f1) (shm_1725 f2) (shm_306 f15) kz_0_8 kz_0_9 kz_0_10 kz_0_11 kz_0_12 kz_0_13 kz_0_14 kz_0_15)⟩
  refine ⟨(fun _ h => (by cases h)), [], trivial, ?_, (fun _ h => (by cases h))⟩
  rw [List.append_nil]
  exact List.forall_mem_cons.mpr ⟨⟨show (20 : Nat) < 100 from by decide, nf0⟩, List.forall_mem_cons.mpr ⟨⟨show (20 : Nat) < 100 from by decide, nf1⟩, List.forall_mem_cons.mpr ⟨⟨show (20 : Nat) < 100 from by decide, nf2⟩, (fun _ h => (by cases h))⟩⟩⟩
set_option maxHeartbeats 4000000 in
theorem vc_Mo_groupItem_at_k2_11_0 (x1 : Int) (x2 : Int) (x7 : Int) (x8 : Int) (from_0 : Int) (pos_0 : Int) (kind_0 : Int) (all_0 : Int → Int) (r_0 : Int) (tape_0 : Int → Int) (limit_0 : Int) (place_0 : Int) (value_0 : Int) (fault_0 : Int) (k1 : 0 ≤ x1 ∧ x1 ≤ 7) (k2 : 2 ≤ x2 ∧ x2 ≤ 2) (k7 : 0 ≤ x7 ∧ x7 ≤ 7) (k8 : 0 ≤ x8 ∧ x8 ≤ 8) (f11 : zMG (limit_0) (pos_0) (kind_0) (place_0) (value_0) (from_0) (fault_0) (r_0) (tape_0) (all_0) (x7) (x8) (x1) (x2)) (kz_0_8 : 0 ≤ fault_0 ∧ fault_0 ≤ 5) (kz_0_10 : 0 ≤ limit_0 ∧ limit_0 ≤ 2000) (kz_0_11 : 0 ≤ pos_0 ∧ pos_0 ≤ 2000) (kz_0_12 : 0 ≤ kind_0 ∧ kind_0 ≤ 4) (kz_0_13 : 0 ≤ place_0 ∧ place_0 ≤ 2000) (kz_0_14 : (-49) ≤ value_0 ∧ value_0 ≤ 1048575) (kz_0_15 : 0 ≤ from_0 ∧ from_0 ≤ 2000) : HST (limit_0) (tape_0) (x7) (x1) := by
  first
    | assumption
    | exact mg_hst ‹zMG _ _ _ _ _ _ _ _ _ _ _ _ _ _›
set_option maxHeartbeats 4000000 in
theorem vc_Mo_groupItem_at_k2_11_1 (pos_0 : Int) (r_0 : Int) (gx : Int) (kz_0_11 : 0 ≤ pos_0 ∧ pos_0 ≤ 2000) (ex2 : gx = pos_0) : 1 * gx + ((-1) * pos_0 + 0) ≤ 0 := by
  first
    | omega
    | (have q1 := (hE_0_2_1 (r_0 + 2) (by omega)).2 (by omega)
       have q2 := (hE_0_2_2 (r_0 + 2) (by omega)).2 (by omega)
       omega)
    | (have q1 := (hE_0_2_1 (r_0 + 1) (by omega)).2 (by omega)
       have q2 := (hE_0_2_2 (r_0 + 1) (by omega)).2 (by omega)
       omega)
    | (have q1 := (hE_0_2_1 (r_0 + 2) (by omega)).2 (by omega)
       omega)
    | (have q1 := (hE_0_2_1 (r_0 + 1) (by omega)).2 (by omega)
       omega)
    | (have q1 := (hE_0_2_1 (r_0 + 2) (by omega)).2 (by omega)
       have q2 := (hE_0_2_2 (r_0 + 2) (by omega)).2 (by omega)
       have q3 := (hE_0_2_3 (r_0 + 2) (by omega)).1 (by omega)
       omega)
    | (have q1 := (hE_0_2_1 (r_0 + 2) (by omega)).2 (by omega)
       have q2 := (hE_0_2_2 (r_0 + 2) (by omega)).2 (by omega)
       have q3 := (hE_0_2_3 (r_0 + 2) (by omega)).2 (by omega)
       omega)
    | (have q1 := (hE_0_2_1 (r_0 + 2) (by omega)).2 (by omega)
       have q2 := (hE_0_2_2 (r_0 + 2) (by omega)).2 (by omega)
       have q3 := (hE_0_2_3 (r_0 + 2) (by omega)).1 (by omega)
       have q4 : x13 = r_0 + 2 := by omega
       simp only [q4] at *
       omega)
set_option maxHeartbeats 4000000 in
theorem vc_Mo_groupItem_at_k2_11_2 (pos_0 : Int) (r_0 : Int) (gx : Int) (kz_0_11 : 0 ≤ pos_0 ∧ pos_0 ≤ 2000) (ex2 : gx = pos_0) : gx = pos_0 := by
  first
    | omega
    | (have q1 := (hE_0_2_1 (r_0 + 2) (by omega)).2 (by omega)
       have q2 := (hE_0_2_2 (r_0 + 2) (by omega)).2 (by omega)
       omega)
    | (have q1 := (hE_0_2_1 (r_0 + 1) (by omega)).2 (by omega)
       have q2 := (hE_0_2_2 (r_0 + 1) (by omega)).2 (by omega)
       omega)
    | (have q1 := (hE_0_2_1 (r_0 + 2) (by omega)).2 (by omega)
       omega)
    | (have q1 := (hE_0_2_1 (r_0 + 1) (by omega)).2 (by omega)
       omega)
    | (have q1 := (hE_0_2_1 (r_0 + 2) (by omega)).2 (by omega)
       have q2 := (hE_0_2_2 (r_0 + 2) (by omega)).2 (by omega)
       have q3 := (hE_0_2_3 (r_0 + 2) (by omega)).1 (by omega)
       omega)
    | (have q1 := (hE_0_2_1 (r_0 + 2) (by omega)).2 (by omega)
       have q2 := (hE_0_2_2 (r_0 + 2) (by omega)).2 (by omega)
       have q3 := (hE_0_2_3 (r_0 + 2) (by omega)).2 (by omega)
       omega)
    | (have q1 := (hE_0_2_1 (r_0 + 2) (by omega)).2 (by omega)
       have q2 := (hE_0_2_2 (r_0 + 2) (by omega)).2 (by omega)
       have q3 := (hE_0_2_3 (r_0 + 2) (by omega)).1 (by omega)
       have q4 : x13 = r_0 + 2 := by omega
       simp only [q4] at *
       omega)
set_option maxHeartbeats 4000000 in
theorem vc_Mo_groupItem_at_k2_11_3 (x1 : Int) (x2 : Int) (x7 : Int) (x8 : Int) (from_0 : Int) (pos_0 : Int) (kind_0 : Int) (all_0 : Int → Int) (r_0 : Int) (tape_0 : Int → Int) (limit_0 : Int) (place_0 : Int) (value_0 : Int) (fault_0 : Int) (k1 : 0 ≤ x1 ∧ x1 ≤ 7) (k2 : 2 ≤ x2 ∧ x2 ≤ 2) (k7 : 0 ≤ x7 ∧ x7 ≤ 7) (k8 : 0 ≤ x8 ∧ x8 ≤ 8) (f11 : zMG (limit_0) (pos_0) (kind_0) (place_0) (value_0) (from_0) (fault_0) (r_0) (tape_0) (all_0) (x7) (x8) (x1) (x2)) (kz_0_8 : 0 ≤ fault_0 ∧ fault_0 ≤ 5) (kz_0_10 : 0 ≤ limit_0 ∧ limit_0 ≤ 2000) (kz_0_11 : 0 ≤ pos_0 ∧ pos_0 ≤ 2000) (kz_0_12 : 0 ≤ kind_0 ∧ kind_0 ≤ 4) (kz_0_13 : 0 ≤ place_0 ∧ place_0 ≤ 2000) (kz_0_14 : (-49) ≤ value_0 ∧ value_0 ≤ 1048575) (kz_0_15 : 0 ≤ from_0 ∧ from_0 ≤ 2000) : ZLM (limit_0) (pos_0) := by
  exact (mg_tk ‹zMG _ _ _ _ _ _ _ _ _ _ _ _ _ _›).1.1
set_option maxHeartbeats 4000000 in
theorem vc_Mo_groupItem_at_k2_11_4 (x3 : Int) (pos_0 : Int) (r_0 : Int) (gx : Int) (k3 : 0 ≤ x3 ∧ x3 ≤ 2000) (f6 : 1 * x3 + ((-1) * pos_0 + 0) ≤ (-1)) (kz_0_11 : 0 ≤ pos_0 ∧ pos_0 ≤ 2000) (ex2 : gx = pos_0) : 1 * x3 + ((-1) * gx + 0) ≤ (-1) := by
  first
    | omega
    | (have q1 := (hE_0_2_1 (r_0 + 2) (by omega)).2 (by omega)
       have q2 := (hE_0_2_2 (r_0 + 2) (by omega)).2 (by omega)
       omega)
    | (have q1 := (hE_0_2_1 (r_0 + 1) (by omega)).2 (by omega)
       have q2 := (hE_0_2_2 (r_0 + 1) (by omega)).2 (by omega)
       omega)
    | (have q1 := (hE_0_2_1 (r_0 + 2) (by omega)).2 (by omega)
       omega)
    | (have q1 := (hE_0_2_1 (r_0 + 1) (by omega)).2 (by omega)
       omega)
    | (have q1 := (hE_0_2_1 (r_0 + 2) (by omega)).2 (by omega)
       have q2 := (hE_0_2_2 (r_0 + 2) (by omega)).2 (by omega)
       have q3 := (hE_0_2_3 (r_0 + 2) (by omega)).1 (by omega)
       omega)
    | (have q1 := (hE_0_2_1 (r_0 + 2) (by omega)).2 (by omega)
       have q2 := (hE_0_2_2 (r_0 + 2) (by omega)).2 (by omega)
       have q3 := (hE_0_2_3 (r_0 + 2) (by omega)).2 (by omega)
       omega)
    | (have q1 := (hE_0_2_1 (r_0 + 2) (by omega)).2 (by omega)
       have q2 := (hE_0_2_2 (r_0 + 2) (by omega)).2 (by omega)
       have q3 := (hE_0_2_3 (r_0 + 2) (by omega)).1 (by omega)
       have q4 : x13 = r_0 + 2 := by omega
       simp only [q4] at *
       omega)
set_option maxHeartbeats 4000000 in
theorem vc_Mo_groupItem_at_k2_11_5 (x1 : Int) (x2 : Int) (x7 : Int) (x8 : Int) (x9 : Int) (x10 : Int) (x11 : Int) (from_0 : Int) (pos_0 : Int) (kind_0 : Int) (all_0 : Int → Int) (r_0 : Int) (tape_0 : Int → Int) (limit_0 : Int) (place_0 : Int) (value_0 : Int) (fault_0 : Int) (gx : Int) (k1 : 0 ≤ x1 ∧ x1 ≤ 7) (k2 : 2 ≤ x2 ∧ x2 ≤ 2) (k7 : 0 ≤ x7 ∧ x7 ≤ 7) (k8 : 0 ≤ x8 ∧ x8 ≤ 8) (k9 : 0 ≤ x9 ∧ x9 ≤ 2000) (k10 : 0 ≤ x10 ∧ x10 ≤ 2000) (k11 : (-2000) ≤ x11 ∧ x11 ≤ 8) (d0 : x11 + 0 ≤ x8 ∧ x8 ≤ x11 + 4294967296) (f1 : x11 = x9 - x10) (g2 : x10 = from_0) (g3 : x9 = pos_0) (f11 : zMG (limit_0) (pos_0) (kind_0) (place_0) (value_0) (from_0) (fault_0) (r_0) (tape_0) (all_0) (x7) (x8) (x1) (x2)) (kz_0_8 : 0 ≤ fault_0 ∧ fault_0 ≤ 5) (kz_0_10 : 0 ≤ limit_0 ∧ limit_0 ≤ 2000) (kz_0_11 : 0 ≤ pos_0 ∧ pos_0 ≤ 2000) (kz_0_12 : 0 ≤ kind_0 ∧ kind_0 ≤ 4) (kz_0_13 : 0 ≤ place_0 ∧ place_0 ≤ 2000) (kz_0_14 : (-49) ≤ value_0 ∧ value_0 ≤ 1048575) (kz_0_15 : 0 ≤ from_0 ∧ from_0 ≤ 2000) (ex2 : gx = pos_0) : zTS7p (limit_0) (fault_0) (r_0) (tape_0) (all_0) (x7) (x2) (gx) := by
  first | subst g2 | skip
  first | subst g3 | skip
  first | subst ex2 | skip
  exact mg_end ‹zMG _ _ _ _ _ _ _ _ _ _ _ _ _ _› (by omega) (by omega)
set_option maxHeartbeats 4000000 in
theorem vc_Mo_groupItem_at_k2_11_6 (x3 : Int) (pos_0 : Int) (r_0 : Int) (gx : Int) (k3 : 0 ≤ x3 ∧ x3 ≤ 2000) (f6 : 1 * x3 + ((-1) * pos_0 + 0) ≤ (-1)) (kz_0_11 : 0 ≤ pos_0 ∧ pos_0 ≤ 2000) (ex2 : gx = pos_0) : 1 * x3 + ((-1) * gx + 0) ≤ (-1) := by
  first
    | omega
    | (have q1 := (hE_0_2_1 (r_0 + 2) (by omega)).2 (by omega)
       have q2 := (hE_0_2_2 (r_0 + 2) (by omega)).2 (by omega)
       omega)
    | (have q1 := (hE_0_2_1 (r_0 + 1) (by omega)).2 (by omega)
       have q2 := (hE_0_2_2 (r_0 + 1) (by omega)).2 (by omega)
       omega)
    | (have q1 := (hE_0_2_1 (r_0 + 2) (by omega)).2 (by omega)
       omega)
    | (have q1 := (hE_0_2_1 (r_0 + 1) (by omega)).2 (by omega)
       omega)
    | (have q1 := (hE_0_2_1 (r_0 + 2) (by omega)).2 (by omega)
       have q2 := (hE_0_2_2 (r_0 + 2) (by omega)).2 (by omega)
       have q3 := (hE_0_2_3 (r_0 + 2) (by omega)).1 (by omega)
       omega)
    | (have q1 := (hE_0_2_1 (r_0 + 2) (by omega)).2 (by omega)
       have q2 := (hE_0_2_2 (r_0 + 2) (by omega)).2 (by omega)
       have q3 := (hE_0_2_3 (r_0 + 2) (by omega)).2 (by omega)
       omega)
    | (have q1 := (hE_0_2_1 (r_0 + 2) (by omega)).2 (by omega)
       have q2 := (hE_0_2_2 (r_0 + 2) (by omega)).2 (by omega)
       have q3 := (hE_0_2_3 (r_0 + 2) (by omega)).1 (by omega)
       have q4 : x13 = r_0 + 2 := by omega
       simp only [q4] at *
       omega)
def o_Mo_groupItem_at_k2_11 : or_T := (161, 12, [(0, (2, 0, 0, [165])), (1, (0, 0, 7, [])), (2, (0, 2, 2, [])), (3, (0, 0, 2000, [])), (7, (0, 0, 7, [])), (8, (0, 0, 8, [])), (9, (0, 0, 2000, [])), (10, (0, 0, 2000, [])), (11, (0, -2000, 8, []))], [(2, [11, 9, 10], []), (9, [10, 4], [15]), (9, [9, 4], [11]), (20, [3, 4], [30, -1, 1, 0, 0, -1, 1, 11]), (20, [4, 7, 8, 5, 6], [60, 8, 2, 1006, 10, 11, 12, 13, 14, 15, 8, 5, 1, 2]), (24, [0, 4], []), (24, [1, 5], []), (24, [2, 6], [])], [], [(0, 0, 2000, [])], [(20, [4, 7, 5], [60, 1, 1, 1028, 10, 1]), (20, [12, 4], [30, 0, 1, 0, 0, -1, 1, 11]), (20, [12, 4], [50, 1, 0, 1011, 1, 2, 1, 0, 2, 1, 11]), (20, [4], [60, 2, 0, 947, 10, 11]), (23, [3, 12], [-1, 1, -1]), (20, [4, 7, 6, 12], [60, 3, 2, 978, 10, 8, 5, 1, 2]), (20, [3, 12], [30, -1, 1, 0, 0, -1, 0, 0])], [], [(8, 11, 0, 4294967296)])
theorem oo_Mo_groupItem_at_k2_11 {kA : Nat → ClassId} : or_ok PRD kA GG o_Mo_groupItem_at_k2_11 := by
  refine or_mk fun A ta ws vs hD hth hl => ?_
  intro t0 r0 t1 k1 t2 k2 t3 k3 t7 k7 t8 k8 t9 k9 t10 k10 t11 k11 d0 f1 f2 f3 f6 f11 f12 f13 f14
  replace f1 := shm_14 f1
  replace f2 := shm_177 f2
  replace f3 := shm_116 f3
  replace f6 := shm_2005 f6
  replace f11 := shm_2175 f11
  replace f12 := shm_5 f12
  replace f13 := shm_5 f13
  replace f14 := shm_5 f14
  have q4 : n_v vs 4 = n_v vs 0 := f12.symm
  have q5 : n_v vs 5 = n_v vs 1 := f13.symm
  have q6 : n_v vs 6 = n_v vs 2 := f14.symm
  simp only [q4, q5, q6] at f2 f3 f6 f11
  have g2 : v_iv (n_v vs 10) = w_fi ws (n_v vs 0) 15 := congrArg v_iv f2
  have g3 : v_iv (n_v vs 9) = w_fi ws (n_v vs 0) 11 := congrArg v_iv f3
  have kz_0_8 := fdq_34 hD hth r0
  have kz_0_10 := fdq_43 hD hth r0
  have kz_0_11 := fdq_237 hD hth r0
  have kz_0_12 := fdq_187 hD hth r0
  have kz_0_13 := fdq_238 hD hth r0
  have kz_0_14 := fdq_188 hD hth r0
  have kz_0_15 := fdq_239 hD hth r0
  obtain ⟨x, ex, hx⟩ := iv_ex (ta := ta) (lo := 0) (hi := 2000) (z := w_fi ws (n_v vs 0) 11) (by omega) (by omega) (by omega) (by omega)
  have ex2 : v_iv (Value.int x) = w_fi ws (n_v vs 0) 11 := ex
  have ex3 : 0 ≤ v_iv (Value.int x) ∧ v_iv (Value.int x) ≤ 2000 := tv_rng hx
  have e_3 : n_v (vs ++ [Value.int x]) 3 = n_v vs 3 := n_v_old (by rw [hl]; decide)
  have e_4 : n_v (vs ++ [Value.int x]) 4 = n_v vs 4 := n_v_old (by rw [hl]; decide)
  have e_5 : n_v (vs ++ [Value.int x]) 5 = n_v vs 5 := n_v_old (by rw [hl]; decide)
  have e_6 : n_v (vs ++ [Value.int x]) 6 = n_v vs 6 := n_v_old (by rw [hl]; decide)
  have e_7 : n_v (vs ++ [Value.int x]) 7 = n_v vs 7 := n_v_old (by rw [hl]; decide)
  have e_12 : n_v (vs ++ [Value.int x]) 12 = Value.int x := n_v_new hl
  have nf0 : fc_1 PRD (20, [4, 7, 5], [60, 1, 1, 1028, 10, 1]) ws (vs ++ [Value.int x]) := by
    refine ⟨nf_inA hl rfl, sgq_2176 ?_⟩
    · show HST (w_fi ws (n_v (vs ++ [Value.int x]) 4) 10) (w_ei ws (w_ar ws (n_v (vs ++ [Value.int x]) 4) 1)) (v_iv (n_v (vs ++ [Value.int x]) 7)) (v_iv (n_v (vs ++ [Value.int x]) 5))
      simp only [e_4, e_5, e_7, q4, q5]
      exact vc_Mo_groupItem_at_k2_11_0 (v_iv (n_v vs 1)) (v_iv (n_v vs 2)) (v_iv (n_v vs 7)) (v_iv (n_v vs 8)) (w_fi ws (n_v vs 0) 15) (w_fi ws (n_v vs 0) 11) (w_fi ws (n_v vs 0) 12) (w_ei ws (w_ar ws (n_v vs 0) 2)) (w_fi ws (n_v vs 0) 5) (w_ei ws (w_ar ws (n_v vs 0) 1)) (w_fi ws (n_v vs 0) 10) (w_fi ws (n_v vs 0) 13) (w_fi ws (n_v vs 0) 14) (w_fi ws (n_v vs 0) 8) k1 k2 k7 k8 f11 kz_0_8 kz_0_10 kz_0_11 kz_0_12 kz_0_13 kz_0_14 kz_0_15
  have nf1 : fc_1 PRD (20, [12, 4], [30, 0, 1, 0, 0, -1, 1, 11]) ws (vs ++ [Value.int x]) := by
    refine ⟨nf_inA hl rfl, sgq_1431 ?_⟩
    · show 1 * v_iv (n_v (vs ++ [Value.int x]) 12) + ((-1) * w_fi ws (n_v (vs ++ [Value.int x]) 4) 11 + 0) ≤ 0
      simp only [e_4, e_12, q4]
      exact vc_Mo_groupItem_at_k2_11_1 (w_fi ws (n_v vs 0) 11) (w_fi ws (n_v vs 0) 5) (v_iv (Value.int x)) kz_0_11 ex2
  have nf2 : fc_1 PRD (20, [12, 4], [50, 1, 0, 1011, 1, 2, 1, 0, 2, 1, 11]) ws (vs ++ [Value.int x]) := by
    refine ⟨nf_inA hl rfl, sgq_1432 ?_⟩
    · show v_iv (n_v (vs ++ [Value.int x]) 12) = w_fi ws (n_v (vs ++ [Value.int x]) 4) 11
      simp only [e_4, e_12, q4]
      exact vc_Mo_groupItem_at_k2_11_2 (w_fi ws (n_v vs 0) 11) (w_fi ws (n_v vs 0) 5) (v_iv (Value.int x)) kz_0_11 ex2
  have nf3 : fc_1 PRD (20, [4], [60, 2, 0, 947, 10, 11]) ws (vs ++ [Value.int x]) := by
    refine ⟨nf_inA hl rfl, sgq_1433 ?_⟩
    · show ZLM (w_fi ws (n_v (vs ++ [Value.int x]) 4) 10) (w_fi ws (n_v (vs ++ [Value.int x]) 4) 11)
      simp only [e_4, q4]
      exact vc_Mo_groupItem_at_k2_11_3 (v_iv (n_v vs 1)) (v_iv (n_v vs 2)) (v_iv (n_v vs 7)) (v_iv (n_v vs 8)) (w_fi ws (n_v vs 0) 15) (w_fi ws (n_v vs 0) 11) (w_fi ws (n_v vs 0) 12) (w_ei ws (w_ar ws (n_v vs 0) 2)) (w_fi ws (n_v vs 0) 5) (w_ei ws (w_ar ws (n_v vs 0) 1)) (w_fi ws (n_v vs 0) 10) (w_fi ws (n_v vs 0) 13) (w_fi ws (n_v vs 0) 14) (w_fi ws (n_v vs 0) 8) k1 k2 k7 k8 f11 kz_0_8 kz_0_10 kz_0_11 kz_0_12 kz_0_13 kz_0_14 kz_0_15
  have nf4 : fc_1 PRD (23, [3, 12], [-1, 1, -1]) ws (vs ++ [Value.int x]) := by
    refine ⟨nf_inA hl rfl, sgq_193 ?_⟩
    · show 1 * v_iv (n_v (vs ++ [Value.int x]) 3) + ((-1) * v_iv (n_v (vs ++ [Value.int x]) 12) + 0) ≤ (-1)
      simp only [e_3, e_12]
      exact vc_Mo_groupItem_at_k2_11_4 (v_iv (n_v vs 3)) (w_fi ws (n_v vs 0) 11) (w_fi ws (n_v vs 0) 5) (v_iv (Value.int x)) k3 f6 kz_0_11 ex2
  have nf5 : fc_1 PRD (20, [4, 7, 6, 12], [60, 3, 2, 978, 10, 8, 5, 1, 2]) ws (vs ++ [Value.int x]) := by
    refine ⟨nf_inA hl rfl, sgq_2177 ?_⟩
    · show zTS7p (w_fi ws (n_v (vs ++ [Value.int x]) 4) 10) (w_fi ws (n_v (vs ++ [Value.int x]) 4) 8) (w_fi ws (n_v (vs ++ [Value.int x]) 4) 5) (w_ei ws (w_ar ws (n_v (vs ++ [Value.int x]) 4) 1)) (w_ei ws (w_ar ws (n_v (vs ++ [Value.int x]) 4) 2)) (v_iv (n_v (vs ++ [Value.int x]) 7)) (v_iv (n_v (vs ++ [Value.int x]) 6)) (v_iv (n_v (vs ++ [Value.int x]) 12))
      simp only [e_4, e_6, e_7, e_12, q4, q6]
      exact vc_Mo_groupItem_at_k2_11_5 (v_iv (n_v vs 1)) (v_iv (n_v vs 2)) (v_iv (n_v vs 7)) (v_iv (n_v vs 8)) (v_iv (n_v vs 9)) (v_iv (n_v vs 10)) (v_iv (n_v vs 11)) (w_fi ws (n_v vs 0) 15) (w_fi ws (n_v vs 0) 11) (w_fi ws (n_v vs 0) 12) (w_ei ws (w_ar ws (n_v vs 0) 2)) (w_fi ws (n_v vs 0) 5) (w_ei ws (w_ar ws (n_v vs 0) 1)) (w_fi ws (n_v vs 0) 10) (w_fi ws (n_v vs 0) 13) (w_fi ws (n_v vs 0) 14) (w_fi ws (n_v vs 0) 8) (v_iv (Value.int x)) k1 k2 k7 k8 k9 k10 k11 d0 f1 g2 g3 f11 kz_0_8 kz_0_10 kz_0_11 kz_0_12 kz_0_13 kz_0_14 kz_0_15 ex2
  have nf6 : fc_1 PRD (20, [3, 12], [30, -1, 1, 0, 0, -1, 0, 0]) ws (vs ++ [Value.int x]) := by
    refine ⟨nf_inA hl rfl, sgq_2151 ?_⟩
    · show 1 * v_iv (n_v (vs ++ [Value.int x]) 3) + ((-1) * v_iv (n_v (vs ++ [Value.int x]) 12) + 0) ≤ (-1)
      simp only [e_3, e_12]
      exact vc_Mo_groupItem_at_k2_11_6 (v_iv (n_v vs 3)) (w_fi ws (n_v vs 0) 11) (w_fi ws (n_v vs 0) 5) (v_iv (Value.int x)) k3 f6 kz_0_11 ex2
  exact ⟨(fun _ h => (by cases h)), [Value.int x], ag_one hx, List.forall_mem_cons.mpr ⟨⟨show (20 : Nat) < 100 from by decide, nf0⟩, List.forall_mem_cons.mpr ⟨⟨show (20 : Nat) < 100 from by decide, nf1⟩, List.forall_mem_cons.mpr ⟨⟨show (20 : Nat) < 100 from by decide, nf2⟩, List.forall_mem_cons.mpr ⟨⟨show (20 : Nat) < 100 from by decide, nf3⟩, List.forall_mem_cons.mpr ⟨⟨show (23 : Nat) < 100 from by decide, nf4⟩, List.forall_mem_cons.mpr ⟨⟨show (20 : Nat) < 100 from by decide, nf5⟩, List.forall_mem_cons.mpr ⟨⟨show (20 : Nat) < 100 from by decide, nf6⟩, (fun _ h => (by cases h))⟩⟩⟩⟩⟩⟩⟩, (fun _ h => (by cases h))⟩
set_option maxHeartbeats 4000000 in
theorem vc_Mo_groupItem_at_k2_12_0 (x3 : Int) (r_0 : Int) (gx : Int) (k3 : 0 ≤ x3 ∧ x3 ≤ 2000) (ex2 : gx = x3) : 1 * gx + ((-1) * x3 + 0) ≤ 0 := by
  first
    | omega
    | (have q1 := (hE_0_2_1 (r_0 + 2) (by omega)).2 (by omega)
       have q2 := (hE_0_2_2 (r_0 + 2) (by omega)).2 (by omega)
       omega)
    | (have q1 := (hE_0_2_1 (r_0 + 1) (by omega)).2 (by omega)
       have q2 := (hE_0_2_2 (r_0 + 1) (by omega)).2 (by omega)
       omega)
    | (have q1 := (hE_0_2_1 (r_0 + 2) (by omega)).2 (by omega)
       omega)
    | (have q1 := (hE_0_2_1 (r_0 + 1) (by omega)).2 (by omega)
       omega)
    | (have q1 := (hE_0_2_1 (r_0 + 2) (by omega)).2 (by omega)
       have q2 := (hE_0_2_2 (r_0 + 2) (by omega)).2 (by omega)
       have q3 := (hE_0_2_3 (r_0 + 2) (by omega)).1 (by omega)
       omega)
    | (have q1 := (hE_0_2_1 (r_0 + 2) (by omega)).2 (by omega)
       have q2 := (hE_0_2_2 (r_0 + 2) (by omega)).2 (by omega)
       have q3 := (hE_0_2_3 (r_0 + 2) (by omega)).2 (by omega)
       omega)
    | (have q1 := (hE_0_2_1 (r_0 + 2) (by omega)).2 (by omega)
       have q2 := (hE_0_2_2 (r_0 + 2) (by omega)).2 (by omega)
       have q3 := (hE_0_2_3 (r_0 + 2) (by omega)).1 (by omega)
       have q4 : x13 = r_0 + 2 := by omega
       simp only [q4] at *
       omega)
set_option maxHeartbeats 4000000 in
theorem vc_Mo_groupItem_at_k2_12_1 (x3 : Int) (r_0 : Int) (gx : Int) (k3 : 0 ≤ x3 ∧ x3 ≤ 2000) (ex2 : gx = x3) : (-1) * gx + (1 * x3 + 0) ≤ 0 := by
  first
    | omega
    | (have q1 := (hE_0_2_1 (r_0 + 2) (by omega)).2 (by omega)
       have q2 := (hE_0_2_2 (r_0 + 2) (by omega)).2 (by omega)
       omega)
    | (have q1 := (hE_0_2_1 (r_0 + 1) (by omega)).2 (by omega)
       have q2 := (hE_0_2_2 (r_0 + 1) (by omega)).2 (by omega)
       omega)
    | (have q1 := (hE_0_2_1 (r_0 + 2) (by omega)).2 (by omega)
       omega)
    | (have q1 := (hE_0_2_1 (r_0 + 1) (by omega)).2 (by omega)
       omega)
    | (have q1 := (hE_0_2_1 (r_0 + 2) (by omega)).2 (by omega)
       have q2 := (hE_0_2_2 (r_0 + 2) (by omega)).2 (by omega)
       have q3 := (hE_0_2_3 (r_0 + 2) (by omega)).1 (by omega)
       omega)
    | (have q1 := (hE_0_2_1 (r_0 + 2) (by omega)).2 (by omega)
       have q2 := (hE_0_2_2 (r_0 + 2) (by omega)).2 (by omega)
       have q3 := (hE_0_2_3 (r_0 + 2) (by omega)).2 (by omega)
       omega)
    | (have q1 := (hE_0_2_1 (r_0 + 2) (by omega)).2 (by omega)
       have q2 := (hE_0_2_2 (r_0 + 2) (by omega)).2 (by omega)
       have q3 := (hE_0_2_3 (r_0 + 2) (by omega)).1 (by omega)
       have q4 : x13 = r_0 + 2 := by omega
       simp only [q4] at *
       omega)
set_option maxHeartbeats 4000000 in
theorem vc_Mo_groupItem_at_k2_12_2 (x7 : Int) (r_0 : Int) (gy : Int) (k7 : 0 ≤ x7 ∧ x7 ≤ 7) (ey2 : gy = x7) : 1 * gy + ((-1) * x7 + 0) ≤ 0 := by
  first
    | omega
    | (have q1 := (hE_0_2_1 (r_0 + 2) (by omega)).2 (by omega)
       have q2 := (hE_0_2_2 (r_0 + 2) (by omega)).2 (by omega)
       omega)
    | (have q1 := (hE_0_2_1 (r_0 + 1) (by omega)).2 (by omega)
       have q2 := (hE_0_2_2 (r_0 + 1) (by omega)).2 (by omega)
       omega)
    | (have q1 := (hE_0_2_1 (r_0 + 2) (by omega)).2 (by omega)
       omega)
    | (have q1 := (hE_0_2_1 (r_0 + 1) (by omega)).2 (by omega)
       omega)
    | (have q1 := (hE_0_2_1 (r_0 + 2) (by omega)).2 (by omega)
       have q2 := (hE_0_2_2 (r_0 + 2) (by omega)).2 (by omega)
       have q3 := (hE_0_2_3 (r_0 + 2) (by omega)).1 (by omega)
       omega)
    | (have q1 := (hE_0_2_1 (r_0 + 2) (by omega)).2 (by omega)
       have q2 := (hE_0_2_2 (r_0 + 2) (by omega)).2 (by omega)
       have q3 := (hE_0_2_3 (r_0 + 2) (by omega)).2 (by omega)
       omega)
    | (have q1 := (hE_0_2_1 (r_0 + 2) (by omega)).2 (by omega)
       have q2 := (hE_0_2_2 (r_0 + 2) (by omega)).2 (by omega)
       have q3 := (hE_0_2_3 (r_0 + 2) (by omega)).1 (by omega)
       have q4 : x13 = r_0 + 2 := by omega
       simp only [q4] at *
       omega)
set_option maxHeartbeats 4000000 in
theorem vc_Mo_groupItem_at_k2_12_3 (x7 : Int) (r_0 : Int) (gy : Int) (k7 : 0 ≤ x7 ∧ x7 ≤ 7) (ey2 : gy = x7) : (-1) * gy + (1 * x7 + 0) ≤ 0 := by
  first
    | omega
    | (have q1 := (hE_0_2_1 (r_0 + 2) (by omega)).2 (by omega)
       have q2 := (hE_0_2_2 (r_0 + 2) (by omega)).2 (by omega)
       omega)
    | (have q1 := (hE_0_2_1 (r_0 + 1) (by omega)).2 (by omega)
       have q2 := (hE_0_2_2 (r_0 + 1) (by omega)).2 (by omega)
       omega)
    | (have q1 := (hE_0_2_1 (r_0 + 2) (by omega)).2 (by omega)
       omega)
    | (have q1 := (hE_0_2_1 (r_0 + 1) (by omega)).2 (by omega)
       omega)
    | (have q1 := (hE_0_2_1 (r_0 + 2) (by omega)).2 (by omega)
       have q2 := (hE_0_2_2 (r_0 + 2) (by omega)).2 (by omega)
       have q3 := (hE_0_2_3 (r_0 + 2) (by omega)).1 (by omega)
       omega)
    | (have q1 := (hE_0_2_1 (r_0 + 2) (by omega)).2 (by omega)
       have q2 := (hE_0_2_2 (r_0 + 2) (by omega)).2 (by omega)
       have q3 := (hE_0_2_3 (r_0 + 2) (by omega)).2 (by omega)
       omega)
    | (have q1 := (hE_0_2_1 (r_0 + 2) (by omega)).2 (by omega)
       have q2 := (hE_0_2_2 (r_0 + 2) (by omega)).2 (by omega)
       have q3 := (hE_0_2_3 (r_0 + 2) (by omega)).1 (by omega)
       have q4 : x13 = r_0 + 2 := by omega
       simp only [q4] at *
       omega)
set_option maxHeartbeats 4000000 in
theorem vc_Mo_groupItem_at_k2_12_4 (x2 : Int) (r_0 : Int) (gu : Int) (k2 : 2 ≤ x2 ∧ x2 ≤ 2) (eu2 : gu = x2) : 1 * gu + ((-1) * x2 + 0) ≤ 0 := by
  first
    | omega
    | (have q1 := (hE_0_2_1 (r_0 + 2) (by omega)).2 (by omega)
       have q2 := (hE_0_2_2 (r_0 + 2) (by omega)).2 (by omega)
       omega)
    | (have q1 := (hE_0_2_1 (r_0 + 1) (by omega)).2 (by omega)
       have q2 := (hE_0_2_2 (r_0 + 1) (by omega)).2 (by omega)
       omega)
    | (have q1 := (hE_0_2_1 (r_0 + 2) (by omega)).2 (by omega)
       omega)
    | (have q1 := (hE_0_2_1 (r_0 + 1) (by omega)).2 (by omega)
       omega)
    | (have q1 := (hE_0_2_1 (r_0 + 2) (by omega)).2 (by omega)
       have q2 := (hE_0_2_2 (r_0 + 2) (by omega)).2 (by omega)
       have q3 := (hE_0_2_3 (r_0 + 2) (by omega)).1 (by omega)
       omega)
    | (have q1 := (hE_0_2_1 (r_0 + 2) (by omega)).2 (by omega)
       have q2 := (hE_0_2_2 (r_0 + 2) (by omega)).2 (by omega)
       have q3 := (hE_0_2_3 (r_0 + 2) (by omega)).2 (by omega)
       omega)
    | (have q1 := (hE_0_2_1 (r_0 + 2) (by omega)).2 (by omega)
       have q2 := (hE_0_2_2 (r_0 + 2) (by omega)).2 (by omega)
       have q3 := (hE_0_2_3 (r_0 + 2) (by omega)).1 (by omega)
       have q4 : x13 = r_0 + 2 := by omega
       simp only [q4] at *
       omega)
set_option maxHeartbeats 4000000 in
theorem vc_Mo_groupItem_at_k2_12_5 (x2 : Int) (r_0 : Int) (gu : Int) (k2 : 2 ≤ x2 ∧ x2 ≤ 2) (eu2 : gu = x2) : (-1) * gu + (1 * x2 + 0) ≤ 0 := by
  first
    | omega
    | (have q1 := (hE_0_2_1 (r_0 + 2) (by omega)).2 (by omega)
       have q2 := (hE_0_2_2 (r_0 + 2) (by omega)).2 (by omega)
       omega)
    | (have q1 := (hE_0_2_1 (r_0 + 1) (by omega)).2 (by omega)
       have q2 := (hE_0_2_2 (r_0 + 1) (by omega)).2 (by omega)
       omega)
    | (have q1 := (hE_0_2_1 (r_0 + 2) (by omega)).2 (by omega)
       omega)
    | (have q1 := (hE_0_2_1 (r_0 + 1) (by omega)).2 (by omega)
       omega)
    | (have q1 := (hE_0_2_1 (r_0 + 2) (by omega)).2 (by omega)
       have q2 := (hE_0_2_2 (r_0 + 2) (by omega)).2 (by omega)
       have q3 := (hE_0_2_3 (r_0 + 2) (by omega)).1 (by omega)
       omega)
    | (have q1 := (hE_0_2_1 (r_0 + 2) (by omega)).2 (by omega)
       have q2 := (hE_0_2_2 (r_0 + 2) (by omega)).2 (by omega)
       have q3 := (hE_0_2_3 (r_0 + 2) (by omega)).2 (by omega)
       omega)
    | (have q1 := (hE_0_2_1 (r_0 + 2) (by omega)).2 (by omega)
       have q2 := (hE_0_2_2 (r_0 + 2) (by omega)).2 (by omega)
       have q3 := (hE_0_2_3 (r_0 + 2) (by omega)).1 (by omega)
       have q4 : x13 = r_0 + 2 := by omega
       simp only [q4] at *
       omega)
set_option maxHeartbeats 4000000 in
theorem vc_Mo_groupItem_at_k2_12_6 (r_0 : Int) (from_0 : Int) (pos_0 : Int) (f10 : 1 * from_0 + ((-1) * pos_0 + 0) ≤ 0) (kz_0_11 : 0 ≤ pos_0 ∧ pos_0 ≤ 2000) (kz_0_15 : 0 ≤ from_0 ∧ from_0 ≤ 2000) : 1 * from_0 + ((-1) * pos_0 + 0) ≤ 0 := by
  first
    | omega
    | (have q1 := (hE_0_2_1 (r_0 + 2) (by omega)).2 (by omega)
       have q2 := (hE_0_2_2 (r_0 + 2) (by omega)).2 (by omega)
       omega)
    | (have q1 := (hE_0_2_1 (r_0 + 1) (by omega)).2 (by omega)
       have q2 := (hE_0_2_2 (r_0 + 1) (by omega)).2 (by omega)
       omega)
    | (have q1 := (hE_0_2_1 (r_0 + 2) (by omega)).2 (by omega)
       omega)
    | (have q1 := (hE_0_2_1 (r_0 + 1) (by omega)).2 (by omega)
       omega)
    | (have q1 := (hE_0_2_1 (r_0 + 2) (by omega)).2 (by omega)
       have q2 := (hE_0_2_2 (r_0 + 2) (by omega)).2 (by omega)
       have q3 := (hE_0_2_3 (r_0 + 2) (by omega)).1 (by omega)
       omega)
    | (have q1 := (hE_0_2_1 (r_0 + 2) (by omega)).2 (by omega)
       have q2 := (hE_0_2_2 (r_0 + 2) (by omega)).2 (by omega)
       have q3 := (hE_0_2_3 (r_0 + 2) (by omega)).2 (by omega)
       omega)
    | (have q1 := (hE_0_2_1 (r_0 + 2) (by omega)).2 (by omega)
       have q2 := (hE_0_2_2 (r_0 + 2) (by omega)).2 (by omega)
       have q3 := (hE_0_2_3 (r_0 + 2) (by omega)).1 (by omega)
       have q4 : x13 = r_0 + 2 := by omega
       simp only [q4] at *
       omega)
set_option maxHeartbeats 4000000 in
theorem vc_Mo_groupItem_at_k2_12_7 (r_0 : Int) (from_0 : Int) (pos_0 : Int) (kind_0 : Int) (f11 : ((kind_0 = 1) → (pos_0 ≤ (from_0 + 8))) ∧ ((kind_0 = 0) ∨ ((from_0 + 1) ≤ pos_0))) (kz_0_11 : 0 ≤ pos_0 ∧ pos_0 ≤ 2000) (kz_0_12 : 0 ≤ kind_0 ∧ kind_0 ≤ 4) (kz_0_15 : 0 ≤ from_0 ∧ from_0 ≤ 2000) : ((kind_0 = 1) → (pos_0 ≤ (from_0 + 8))) ∧ ((kind_0 = 0) ∨ ((from_0 + 1) ≤ pos_0)) := by
  first
    | omega
    | (have q1 := (hE_0_2_1 (r_0 + 2) (by omega)).2 (by omega)
       have q2 := (hE_0_2_2 (r_0 + 2) (by omega)).2 (by omega)
       omega)
    | (have q1 := (hE_0_2_1 (r_0 + 1) (by omega)).2 (by omega)
       have q2 := (hE_0_2_2 (r_0 + 1) (by omega)).2 (by omega)
       omega)
    | (have q1 := (hE_0_2_1 (r_0 + 2) (by omega)).2 (by omega)
       omega)
    | (have q1 := (hE_0_2_1 (r_0 + 1) (by omega)).2 (by omega)
       omega)
    | (have q1 := (hE_0_2_1 (r_0 + 2) (by omega)).2 (by omega)
       have q2 := (hE_0_2_2 (r_0 + 2) (by omega)).2 (by omega)
       have q3 := (hE_0_2_3 (r_0 + 2) (by omega)).1 (by omega)
       omega)
    | (have q1 := (hE_0_2_1 (r_0 + 2) (by omega)).2 (by omega)
       have q2 := (hE_0_2_2 (r_0 + 2) (by omega)).2 (by omega)
       have q3 := (hE_0_2_3 (r_0 + 2) (by omega)).2 (by omega)
       omega)
    | (have q1 := (hE_0_2_1 (r_0 + 2) (by omega)).2 (by omega)
       have q2 := (hE_0_2_2 (r_0 + 2) (by omega)).2 (by omega)
       have q3 := (hE_0_2_3 (r_0 + 2) (by omega)).1 (by omega)
       have q4 : x13 = r_0 + 2 := by omega
       simp only [q4] at *
       omega)
set_option maxHeartbeats 4000000 in
theorem vc_Mo_groupItem_at_k2_12_8 (x3 : Int) (x12 : Int) (r_0 : Int) (from_0 : Int) (pos_0 : Int) (gx : Int) (k3 : 0 ≤ x3 ∧ x3 ≤ 2000) (k12 : 0 ≤ x12 ∧ x12 ≤ 2000) (f1 : 1 * x3 + ((-1) * x12 + 0) ≤ (-1)) (f10 : 1 * from_0 + ((-1) * pos_0 + 0) ≤ 0) (f12 : 1 * x12 + ((-1) * from_0 + 0) ≤ 0) (kz_0_11 : 0 ≤ pos_0 ∧ pos_0 ≤ 2000) (kz_0_15 : 0 ≤ from_0 ∧ from_0 ≤ 2000) (ex2 : gx = x3) : 1 * gx + ((-1) * pos_0 + 0) ≤ 0 := by
  first
    | omega
    | (have q1 := (hE_0_2_1 (r_0 + 2) (by omega)).2 (by omega)
       have q2 := (hE_0_2_2 (r_0 + 2) (by omega)).2 (by omega)
       omega)
    | (have q1 := (hE_0_2_1 (r_0 + 1) (by omega)).2 (by omega)
       have q2 := (hE_0_2_2 (r_0 + 1) (by omega)).2 (by omega)
       omega)
    | (have q1 := (hE_0_2_1 (r_0 + 2) (by omega)).2 (by omega)
       omega)
    | (have q1 := (hE_0_2_1 (r_0 + 1) (by omega)).2 (by omega)
       omega)
    | (have q1 := (hE_0_2_1 (r_0 + 2) (by omega)).2 (by omega)
       have q2 := (hE_0_2_2 (r_0 + 2) (by omega)).2 (by omega)
       have q3 := (hE_0_2_3 (r_0 + 2) (by omega)).1 (by omega)
       omega)
    | (have q1 := (hE_0_2_1 (r_0 + 2) (by omega)).2 (by omega)
       have q2 := (hE_0_2_2 (r_0 + 2) (by omega)).2 (by omega)
       have q3 := (hE_0_2_3 (r_0 + 2) (by omega)).2 (by omega)
       omega)
    | (have q1 := (hE_0_2_1 (r_0 + 2) (by omega)).2 (by omega)
       have q2 := (hE_0_2_2 (r_0 + 2) (by omega)).2 (by omega)
       have q3 := (hE_0_2_3 (r_0 + 2) (by omega)).1 (by omega)
       have q4 : x13 = r_0 + 2 := by omega
       simp only [q4] at *
       omega)
set_option maxHeartbeats 4000000 in
theorem vc_Mo_groupItem_at_k2_12_9 (x3 : Int) (x12 : Int) (fault_0 : Int) (r_0 : Int) (from_0 : Int) (pos_0 : Int) (kind_0 : Int) (gx : Int) (k3 : 0 ≤ x3 ∧ x3 ≤ 2000) (k12 : 0 ≤ x12 ∧ x12 ≤ 2000) (f1 : 1 * x3 + ((-1) * x12 + 0) ≤ (-1)) (f10 : 1 * from_0 + ((-1) * pos_0 + 0) ≤ 0) (f12 : 1 * x12 + ((-1) * from_0 + 0) ≤ 0) (kz_0_8 : 0 ≤ fault_0 ∧ fault_0 ≤ 5) (kz_0_11 : 0 ≤ pos_0 ∧ pos_0 ≤ 2000) (kz_0_12 : 0 ≤ kind_0 ∧ kind_0 ≤ 4) (kz_0_15 : 0 ≤ from_0 ∧ from_0 ≤ 2000) (ex2 : gx = x3) : (1 ≤ fault_0) ∨ ((kind_0 = 0) ∨ ((gx + 1) ≤ pos_0)) := by
  first
    | omega
    | (have q1 := (hE_0_2_1 (r_0 + 2) (by omega)).2 (by omega)
       have q2 := (hE_0_2_2 (r_0 + 2) (by omega)).2 (by omega)
       omega)
    | (have q1 := (hE_0_2_1 (r_0 + 1) (by omega)).2 (by omega)
       have q2 := (hE_0_2_2 (r_0 + 1) (by omega)).2 (by omega)
       omega)
    | (have q1 := (hE_0_2_1 (r_0 + 2) (by omega)).2 (by omega)
       omega)
    | (have q1 := (hE_0_2_1 (r_0 + 1) (by omega)).2 (by omega)
       omega)
    | (have q1 := (hE_0_2_1 (r_0 + 2) (by omega)).2 (by omega)
       have q2 := (hE_0_2_2 (r_0 + 2) (by omega)).2 (by omega)
       have q3 := (hE_0_2_3 (r_0 + 2) (by omega)).1 (by omega)
       omega)
    | (have q1 := (hE_0_2_1 (r_0 + 2) (by omega)).2 (by omega)
       have q2 := (hE_0_2_2 (r_0 + 2) (by omega)).2 (by omega)
       have q3 := (hE_0_2_3 (r_0 + 2) (by omega)).2 (by omega)
       omega)
    | (have q1 := (hE_0_2_1 (r_0 + 2) (by omega)).2 (by omega)
       have q2 := (hE_0_2_2 (r_0 + 2) (by omega)).2 (by omega)
       have q3 := (hE_0_2_3 (r_0 + 2) (by omega)).1 (by omega)
       have q4 : x13 = r_0 + 2 := by omega
       simp only [q4] at *
       omega)
set_option maxHeartbeats 4000000 in
theorem vc_Mo_groupItem_at_k2_12_10 (x2 : Int) (x3 : Int) (x7 : Int) (x12 : Int) (tape_0 : Int → Int) (limit_0 : Int) (all_0 : Int → Int) (fault_0 : Int) (r_0 : Int) (from_0 : Int) (pos_0 : Int) (kind_0 : Int) (place_0 : Int) (value_0 : Int) (faultPlace_0 : Int) (gx : Int) (gy : Int) (gu : Int) (k2 : 2 ≤ x2 ∧ x2 ≤ 2) (k3 : 0 ≤ x3 ∧ x3 ≤ 2000) (k7 : 0 ≤ x7 ∧ x7 ≤ 7) (k12 : 0 ≤ x12 ∧ x12 ≤ 2000) (f2 : zTS7p (limit_0) (fault_0) (r_0) (tape_0) (all_0) (x7) (x2) (x12)) (f13 : TKR (limit_0) (pos_0) (kind_0) (place_0) (value_0) (from_0) (tape_0) (x12)) (kz_0_8 : 0 ≤ fault_0 ∧ fault_0 ≤ 5) (kz_0_9 : 0 ≤ faultPlace_0 ∧ faultPlace_0 ≤ 2000) (kz_0_10 : 0 ≤ limit_0 ∧ limit_0 ≤ 2000) (kz_0_11 : 0 ≤ pos_0 ∧ pos_0 ≤ 2000) (kz_0_12 : 0 ≤ kind_0 ∧ kind_0 ≤ 4) (kz_0_13 : 0 ≤ place_0 ∧ place_0 ≤ 2000) (kz_0_14 : (-49) ≤ value_0 ∧ value_0 ≤ 1048575) (kz_0_15 : 0 ≤ from_0 ∧ from_0 ≤ 2000) (ex2 : gx = x3) (ey2 : gy = x7) (eu2 : gu = x2) : zONo (limit_0) (pos_0) (kind_0) (place_0) (value_0) (from_0) (fault_0) (faultPlace_0) (r_0) (tape_0) (all_0) (gy) (gu) := by
  first | subst ex2 | skip
  first | subst ey2 | skip
  first | subst eu2 | skip
  exact Or.inr (no_7 (rsq_of ‹zTS7p _ _ _ _ _ _ _ _› ‹TKR _ _ _ _ _ _ _ _›))
def o_Mo_groupItem_at_k2_12 : or_T := (167, 14, [(0, (2, 0, 0, [165])), (2, (0, 2, 2, [])), (3, (0, 0, 2000, [])), (7, (0, 0, 7, [])), (12, (0, 0, 2000, []))], [(23, [3, 12], [-1, 1, -1]), (20, [4, 7, 6, 12], [60, 3, 2, 978, 10, 8, 5, 1, 2]), (24, [0, 4], []), (24, [2, 6], []), (20, [4, 4], [30, 0, 1, 1, 15, -1, 1, 11]), (20, [4], [50, 3, 0, 12, 11, 15, 2, 21, 4, 7, 1, 3, 2, 0, 12, 0, 1, 0, 3, 2, 0, 11, 4, 3, 2, 0, 15, 0, 8, 3, 7, 1, 3, 2, 0, 12, 0, 0, 0, 7, 4, 3, 2, 0, 15, 0, 1, 2, 0, 11]), (20, [12, 4], [30, 0, 1, 0, 0, -1, 1, 15]), (20, [4, 12], [60, 6, 1, 948, 10, 11, 12, 13, 14, 15, 1])], [], [(0, 0, 2000, []), (0, 0, 7, []), (0, 0, 4, [])], [(23, [14, 3], [0, 1, -1]), (23, [14, 3], [0, -1, 1]), (23, [15, 7], [0, 1, -1]), (23, [15, 7], [0, -1, 1]), (23, [16, 6], [0, 1, -1]), (23, [16, 6], [0, -1, 1]), (20, [4, 4], [30, 0, 1, 1, 15, -1, 1, 11]), (20, [4], [50, 3, 0, 12, 11, 15, 2, 21, 4, 7, 1, 3, 2, 0, 12, 0, 1, 0, 3, 2, 0, 11, 4, 3, 2, 0, 15, 0, 8, 3, 7, 1, 3, 2, 0, 12, 0, 0, 0, 7, 4, 3, 2, 0, 15, 0, 1, 2, 0, 11]), (20, [14, 4], [30, 0, 1, 0, 0, -1, 1, 11]), (20, [4, 14], [50, 3, 0, 8, 12, 11, 3, 7, 0, 2, 0, 1, 2, 0, 8, 3, 7, 1, 3, 2, 0, 12, 0, 0, 0, 6, 4, 2, 1, 1, 0, 1, 2, 0, 11]), (20, [4, 15, 16], [60, 9, 2, 1021, 10, 11, 12, 13, 14, 15, 8, 9, 5, 1, 2])], [], [])
theorem oo_Mo_groupItem_at_k2_12 {kA : Nat → ClassId} : or_ok PRD kA GG o_Mo_groupItem_at_k2_12 := by
  refine or_mk fun A ta ws vs hD hth hl => ?_
  intro t0 r0 t2 k2 t3 k3 t7 k7 t12 k12 f1 f2 f7 f9 f10 f11 f12 f13
  replace f1 := shm_193 f1
  replace f2 := shm_2177 f2
  replace f7 := shm_5 f7
  replace f9 := shm_5 f9
  replace f10 := shm_1437 f10
  replace f11 := shm_1438 f11
  replace f12 := shm_1436 f12
  replace f13 := shm_1439 f13
  have q4 : n_v vs 4 = n_v vs 0 := f7.symm
  have q6 : n_v vs 6 = n_v vs 2 := f9.symm
  simp only [q4, q6] at f2 f10 f11 f12 f13
  have kz_0_8 := fdq_34 hD hth r0
  have kz_0_9 := fdq_44 hD hth r0
  have kz_0_10 := fdq_43 hD hth r0
  have kz_0_11 := fdq_237 hD hth r0
  have kz_0_12 := fdq_187 hD hth r0
  have kz_0_13 := fdq_238 hD hth r0
  have kz_0_14 := fdq_188 hD hth r0
  have kz_0_15 := fdq_239 hD hth r0
  obtain ⟨x, ex, hx⟩ := iv_ex (ta := ta) (lo := 0) (hi := 2000) (z := v_iv (n_v vs 3)) (by omega) (by omega) (by omega) (by omega)
  have ex2 : v_iv (Value.int x) = v_iv (n_v vs 3) := ex
  have ex3 : 0 ≤ v_iv (Value.int x) ∧ v_iv (Value.int x) ≤ 2000 := tv_rng hx
  obtain ⟨y, ey, hy⟩ := iv_ex (ta := ta) (lo := 0) (hi := 7) (z := v_iv (n_v vs 7)) (by omega) (by omega) (by omega) (by omega)
  have ey2 : v_iv (Value.int y) = v_iv (n_v vs 7) := ey
  have ey3 : 0 ≤ v_iv (Value.int y) ∧ v_iv (Value.int y) ≤ 7 := tv_rng hy
  obtain ⟨u, eu, hu⟩ := iv_ex (ta := ta) (lo := 0) (hi := 4) (z := v_iv (n_v vs 2)) (by omega) (by omega) (by omega) (by omega)
  have eu2 : v_iv (Value.int u) = v_iv (n_v vs 2) := eu
  have eu3 : 0 ≤ v_iv (Value.int u) ∧ v_iv (Value.int u) ≤ 4 := tv_rng hu
  have e_3 : n_v (vs ++ [Value.int x, Value.int y, Value.int u]) 3 = n_v vs 3 := n_v_old (by rw [hl]; decide)
  have e_4 : n_v (vs ++ [Value.int x, Value.int y, Value.int u]) 4 = n_v vs 4 := n_v_old (by rw [hl]; decide)
  have e_6 : n_v (vs ++ [Value.int x, Value.int y, Value.int u]) 6 = n_v vs 6 := n_v_old (by rw [hl]; decide)
  have e_7 : n_v (vs ++ [Value.int x, Value.int y, Value.int u]) 7 = n_v vs 7 := n_v_old (by rw [hl]; decide)
  have e_14 : n_v (vs ++ [Value.int x, Value.int y, Value.int u]) 14 = Value.int x := n_v_newk (k := 0) hl rfl
  have e_15 : n_v (vs ++ [Value.int x, Value.int y, Value.int u]) 15 = Value.int y := n_v_newk (k := 1) hl rfl
  have e_16 : n_v (vs ++ [Value.int x, Value.int y, Value.int u]) 16 = Value.int u := n_v_newk (k := 2) hl rfl
  have nf0 : fc_1 PRD (23, [14, 3], [0, 1, -1]) ws (vs ++ [Value.int x, Value.int y, Value.int u]) := by
    refine ⟨nf_inA hl rfl, sgq_7 ?_⟩
    · show 1 * v_iv (n_v (vs ++ [Value.int x, Value.int y, Value.int u]) 14) + ((-1) * v_iv (n_v (vs ++ [Value.int x, Value.int y, Value.int u]) 3) + 0) ≤ 0
      simp only [e_3, e_14]
      exact vc_Mo_groupItem_at_k2_12_0 (v_iv (n_v vs 3)) (w_fi ws (n_v vs 0) 5) (v_iv (Value.int x)) k3 ex2
  have nf1 : fc_1 PRD (23, [14, 3], [0, -1, 1]) ws (vs ++ [Value.int x, Value.int y, Value.int u]) := by
    refine ⟨nf_inA hl rfl, sgq_22 ?_⟩
    · show (-1) * v_iv (n_v (vs ++ [Value.int x, Value.int y, Value.int u]) 14) + (1 * v_iv (n_v (vs ++ [Value.int x, Value.int y, Value.int u]) 3) + 0) ≤ 0
      simp only [e_3, e_14]
      exact vc_Mo_groupItem_at_k2_12_1 (v_iv (n_v vs 3)) (w_fi ws (n_v vs 0) 5) (v_iv (Value.int x)) k3 ex2
  have nf2 : fc_1 PRD (23, [15, 7], [0, 1, -1]) ws (vs ++ [Value.int x, Value.int y, Value.int u]) := by
    refine ⟨nf_inA hl rfl, sgq_7 ?_⟩
    · show 1 * v_iv (n_v (vs ++ [Value.int x, Value.int y, Value.int u]) 15) + ((-1) * v_iv (n_v (vs ++ [Value.int x, Value.int y, Value.int u]) 7) + 0) ≤ 0
      simp only [e_7, e_15]
      exact vc_Mo_groupItem_at_k2_12_2 (v_iv (n_v vs 7)) (w_fi ws (n_v vs 0) 5) (v_iv (Value.int y)) k7 ey2
  have nf3 : fc_1 PRD (23, [15, 7], [0, -1, 1]) ws (vs ++ [Value.int x, Value.int y, Value.int u]) := by
    refine ⟨nf_inA hl rfl, sgq_22 ?_⟩
    · show (-1) * v_iv (n_v (vs ++ [Value.int x, Value.int y, Value.int u]) 15) + (1 * v_iv (n_v (vs ++ [Value.int x, Value.int y, Value.int u]) 7) + 0) ≤ 0
      simp only [e_7, e_15]
      exact vc_Mo_groupItem_at_k2_12_3 (v_iv (n_v vs 7)) (w_fi ws (n_v vs 0) 5) (v_iv (Value.int y)) k7 ey2
  have nf4 : fc_1 PRD (23, [16, 6], [0, 1, -1]) ws (vs ++ [Value.int x, Value.int y, Value.int u]) := by
    refine ⟨nf_inA hl rfl, sgq_7 ?_⟩
    · show 1 * v_iv (n_v (vs ++ [Value.int x, Value.int y, Value.int u]) 16) + ((-1) * v_iv (n_v (vs ++ [Value.int x, Value.int y, Value.int u]) 6) + 0) ≤ 0
      simp only [e_6, e_16, q6]
      exact vc_Mo_groupItem_at_k2_12_4 (v_iv (n_v vs 2)) (w_fi ws (n_v vs 0) 5) (v_iv (Value.int u)) k2 eu2
  have nf5 : fc_1 PRD (23, [16, 6], [0, -1, 1]) ws (vs ++ [Value.int x, Value.int y, Value.int u]) := by
    refine ⟨nf_inA hl rfl, sgq_22 ?_⟩
    · show (-1) * v_iv (n_v (vs ++ [Value.int x, Value.int y, Value.int u]) 16) + (1 * v_iv (n_v (vs ++ [Value.int x, Value.int y, Value.int u]) 6) + 0) ≤ 0
      simp only [e_6, e_16, q6]
      exact vc_Mo_groupItem_at_k2_12_5 (v_iv (n_v vs 2)) (w_fi ws (n_v vs 0) 5) (v_iv (Value.int u)) k2 eu2
  have nf6 : fc_1 PRD (20, [4, 4], [30, 0, 1, 1, 15, -1, 1, 11]) ws (vs ++ [Value.int x, Value.int y, Value.int u]) := by
    refine ⟨nf_inA hl rfl, sgq_1437 ?_⟩
    · show 1 * w_fi ws (n_v (vs ++ [Value.int x, Value.int y, Value.int u]) 4) 15 + ((-1) * w_fi ws (n_v (vs ++ [Value.int x, Value.int y, Value.int u]) 4) 11 + 0) ≤ 0
      simp only [e_4, q4]
      exact vc_Mo_groupItem_at_k2_12_6 (w_fi ws (n_v vs 0) 5) (w_fi ws (n_v vs 0) 15) (w_fi ws (n_v vs 0) 11) f10 kz_0_11 kz_0_15
  have nf7 : fc_1 PRD (20, [4], [50, 3, 0, 12, 11, 15, 2, 21, 4, 7, 1, 3, 2, 0, 12, 0, 1, 0, 3, 2, 0, 11, 4, 3, 2, 0, 15, 0, 8, 3, 7, 1, 3, 2, 0, 12, 0, 0, 0, 7, 4, 3, 2, 0, 15, 0, 1, 2, 0, 11]) ws (vs ++ [Value.int x, Value.int y, Value.int u]) := by
    refine ⟨nf_inA hl rfl, sgq_1438 ?_⟩
    · show ((w_fi ws (n_v (vs ++ [Value.int x, Value.int y, Value.int u]) 4) 12 = 1) → (w_fi ws (n_v (vs ++ [Value.int x, Value.int y, Value.int u]) 4) 11 ≤ (w_fi ws (n_v (vs ++ [Value.int x, Value.int y, Value.int u]) 4) 15 + 8))) ∧ ((w_fi ws (n_v (vs ++ [Value.int x, Value.int y, Value.int u]) 4) 12 = 0) ∨ ((w_fi ws (n_v (vs ++ [Value.int x, Value.int y, Value.int u]) 4) 15 + 1) ≤ w_fi ws (n_v (vs ++ [Value.int x, Value.int y, Value.int u]) 4) 11))
      simp only [e_4, q4]
      exact vc_Mo_groupItem_at_k2_12_7 (w_fi ws (n_v vs 0) 5) (w_fi ws (n_v vs 0) 15) (w_fi ws (n_v vs 0) 11) (w_fi ws (n_v vs 0) 12) f11 kz_0_11 kz_0_12 kz_0_15
  have nf8 : fc_1 PRD (20, [14, 4], [30, 0, 1, 0, 0, -1, 1, 11]) ws (vs ++ [Value.int x, Value.int y, Value.int u]) := by
    refine ⟨nf_inA hl rfl, sgq_1431 ?_⟩
    · show 1 * v_iv (n_v (vs ++ [Value.int x, Value.int y, Value.int u]) 14) + ((-1) * w_fi ws (n_v (vs ++ [Value.int x, Value.int y, Value.int u]) 4) 11 + 0) ≤ 0
      simp only [e_4, e_14, q4]
      exact vc_Mo_groupItem_at_k2_12_8 (v_iv (n_v vs 3)) (v_iv (n_v vs 12)) (w_fi ws (n_v vs 0) 5) (w_fi ws (n_v vs 0) 15) (w_fi ws (n_v vs 0) 11) (v_iv (Value.int x)) k3 k12 f1 f10 f12 kz_0_11 kz_0_15 ex2
  have nf9 : fc_1 PRD (20, [4, 14], [50, 3, 0, 8, 12, 11, 3, 7, 0, 2, 0, 1, 2, 0, 8, 3, 7, 1, 3, 2, 0, 12, 0, 0, 0, 6, 4, 2, 1, 1, 0, 1, 2, 0, 11]) ws (vs ++ [Value.int x, Value.int y, Value.int u]) := by
    refine ⟨nf_inA hl rfl, sgq_1722 ?_⟩
    · show (1 ≤ w_fi ws (n_v (vs ++ [Value.int x, Value.int y, Value.int u]) 4) 8) ∨ ((w_fi ws (n_v (vs ++ [Value.int x, Value.int y, Value.int u]) 4) 12 = 0) ∨ ((v_iv (n_v (vs ++ [Value.int x, Value.int y, Value.int u]) 14) + 1) ≤ w_fi ws (n_v (vs ++ [Value.int x, Value.int y, Value.int u]) 4) 11))
      simp only [e_4, e_14, q4]
      exact vc_Mo_groupItem_at_k2_12_9 (v_iv (n_v vs 3)) (v_iv (n_v vs 12)) (w_fi ws (n_v vs 0) 8) (w_fi ws (n_v vs 0) 5) (w_fi ws (n_v vs 0) 15) (w_fi ws (n_v vs 0) 11) (w_fi ws (n_v vs 0) 12) (v_iv (Value.int x)) k3 k12 f1 f10 f12 kz_0_8 kz_0_11 kz_0_12 kz_0_15 ex2
  have nf10 : fc_1 PRD (20, [4, 15, 16], [60, 9, 2, 1021, 10, 11, 12, 13, 14, 15, 8, 9, 5, 1, 2]) ws (vs ++ [Value.int x, Value.int y, Value.int u]) := by
    refine ⟨nf_inA hl rfl, sgq_1729 ?_⟩
    · show zONo (w_fi ws (n_v (vs ++ [Value.int x, Value.int y, Value.int u]) 4) 10) (w_fi ws (n_v (vs ++ [Value.int x, Value.int y, Value.int u]) 4) 11) (w_fi ws (n_v (vs ++ [Value.int x, Value.int y, Value.int u]) 4) 12) (w_fi ws (n_v (vs ++ [Value.int x, Value.int y, Value.int u]) 4) 13) (w_fi ws (n_v (vs ++ [Value.int x, Value.int y, Value.int u]) 4) 14) (w_fi ws (n_v (vs ++ [Value.int x, Value.int y, Value.int u]) 4) 15) (w_fi ws (n_v (vs ++ [Value.int x, Value.int y, Value.int u]) 4) 8) (w_fi ws (n_v (vs ++ [Value.int x, Value.int y, Value.int u]) 4) 9) (w_fi ws (n_v (vs ++ [Value.int x, Value.int y, Value.int u]) 4) 5) (w_ei ws (w_ar ws (n_v (vs ++ [Value.int x, Value.int y, Value.int u]) 4) 1)) (w_ei ws (w_ar ws (n_v (vs ++ [Value.int x, Value.int y, Value.int u]) 4) 2)) (v_iv (n_v (vs ++ [Value.int x, Value.int y, Value.int u]) 15)) (v_iv (n_v (vs ++ [Value.int x, Value.int y, Value.int u]) 16))
      simp only [e_4, e_15, e_16, q4]
      exact vc_Mo_groupItem_at_k2_12_10 (v_iv (n_v vs 2)) (v_iv (n_v vs 3)) (v_iv (n_v vs 7)) (v_iv (n_v vs 12)) (w_ei ws (w_ar ws (n_v vs 0) 1)) (w_fi ws (n_v vs 0) 10) (w_ei ws (w_ar ws (n_v vs 0) 2)) (w_fi ws (n_v vs 0) 8) (w_fi ws (n_v vs 0) 5) (w_fi ws (n_v vs 0) 15) (w_fi ws (n_v vs 0) 11) (w_fi ws (n_v vs 0) 12) (w_fi ws (n_v vs 0) 13) (w_fi ws (n_v vs 0) 14) (w_fi ws (n_v vs 0) 9) (v_iv (Value.int x)) (v_iv (Value.int y)) (v_iv (Value.int u)) k2 k3 k7 k12 f2 f13 kz_0_8 kz_0_9 kz_0_10 kz_0_11 kz_0_12 kz_0_13 kz_0_14 kz_0_15 ex2 ey2 eu2
  exact ⟨(fun _ h => (by cases h)), [Value.int x, Value.int y, Value.int u], ag_three hx hy hu, List.forall_mem_cons.mpr ⟨⟨show (23 : Nat) < 100 from by decide, nf0⟩, List.forall_mem_cons.mpr ⟨⟨show (23 : Nat) < 100 from by decide, nf1⟩, List.forall_mem_cons.mpr ⟨⟨show (23 : Nat) < 100 from by decide, nf2⟩, List.forall_mem_cons.mpr ⟨⟨show (23 : Nat) < 100 from by decide, nf3⟩, List.forall_mem_cons.mpr ⟨⟨show (23 : Nat) < 100 from by decide, nf4⟩, List.forall_mem_cons.mpr ⟨⟨show (23 : Nat) < 100 from by decide, nf5⟩, List.forall_mem_cons.mpr ⟨⟨show (20 : Nat) < 100 from by decide, nf6⟩, List.forall_mem_cons.mpr ⟨⟨show (20 : Nat) < 100 from by decide, nf7⟩, List.forall_mem_cons.mpr ⟨⟨show (20 : Nat) < 100 from by decide, nf8⟩, List.forall_mem_cons.mpr ⟨⟨show (20 : Nat) < 100 from by decide, nf9⟩, List.forall_mem_cons.mpr ⟨⟨show (20 : Nat) < 100 from by decide, nf10⟩, (fun _ h => (by cases h))⟩⟩⟩⟩⟩⟩⟩⟩⟩⟩⟩, (fun _ h => (by cases h))⟩
set_option maxHeartbeats 4000000 in
theorem vc_Mo_groupItem_at_k2_13_0 (r_0 : Int) (from_0 : Int) (pos_0 : Int) (f15 : 1 * from_0 + ((-1) * pos_0 + 0) ≤ 0) (kz_0_11 : 0 ≤ pos_0 ∧ pos_0 ≤ 2000) (kz_0_15 : 0 ≤ from_0 ∧ from_0 ≤ 2000) : 1 * from_0 + ((-1) * pos_0 + 0) ≤ 0 := by
  first
    | omega
    | (have q1 := (hE_0_2_1 (r_0 + 2) (by omega)).2 (by omega)
       have q2 := (hE_0_2_2 (r_0 + 2) (by omega)).2 (by omega)
       omega)
    | (have q1 := (hE_0_2_1 (r_0 + 1) (by omega)).2 (by omega)
       have q2 := (hE_0_2_2 (r_0 + 1) (by omega)).2 (by omega)
       omega)
    | (have q1 := (hE_0_2_1 (r_0 + 2) (by omega)).2 (by omega)
       omega)
    | (have q1 := (hE_0_2_1 (r_0 + 1) (by omega)).2 (by omega)
       omega)
    | (have q1 := (hE_0_2_1 (r_0 + 2) (by omega)).2 (by omega)
       have q2 := (hE_0_2_2 (r_0 + 2) (by omega)).2 (by omega)
       have q3 := (hE_0_2_3 (r_0 + 2) (by omega)).1 (by omega)
       omega)
    | (have q1 := (hE_0_2_1 (r_0 + 2) (by omega)).2 (by omega)
       have q2 := (hE_0_2_2 (r_0 + 2) (by omega)).2 (by omega)
       have q3 := (hE_0_2_3 (r_0 + 2) (by omega)).2 (by omega)
       omega)
    | (have q1 := (hE_0_2_1 (r_0 + 2) (by omega)).2 (by omega)
       have q2 := (hE_0_2_2 (r_0 + 2) (by omega)).2 (by omega)
       have q3 := (hE_0_2_3 (r_0 + 2) (by omega)).1 (by omega)
       have q4 : x13 = r_0 + 2 := by omega
       simp only [q4] at *
       omega)
set_option maxHeartbeats 4000000 in
theorem vc_Mo_groupItem_at_k2_13_1 (r_0 : Int) (from_0 : Int) (pos_0 : Int) (kind_0 : Int) (f16 : ((kind_0 = 1) → (pos_0 ≤ (from_0 + 8))) ∧ ((kind_0 = 0) ∨ ((from_0 + 1) ≤ pos_0))) (kz_0_11 : 0 ≤ pos_0 ∧ pos_0 ≤ 2000) (kz_0_12 : 0 ≤ kind_0 ∧ kind_0 ≤ 4) (kz_0_15 : 0 ≤ from_0 ∧ from_0 ≤ 2000) : ((kind_0 = 1) → (pos_0 ≤ (from_0 + 8))) ∧ ((kind_0 = 0) ∨ ((from_0 + 1) ≤ pos_0)) := by
  first
    | omega
    | (have q1 := (hE_0_2_1 (r_0 + 2) (by omega)).2 (by omega)
       have q2 := (hE_0_2_2 (r_0 + 2) (by omega)).2 (by omega)
       omega)
    | (have q1 := (hE_0_2_1 (r_0 + 1) (by omega)).2 (by omega)
       have q2 := (hE_0_2_2 (r_0 + 1) (by omega)).2 (by omega)
       omega)
    | (have q1 := (hE_0_2_1 (r_0 + 2) (by omega)).2 (by omega)
       omega)
    | (have q1 := (hE_0_2_1 (r_0 + 1) (by omega)).2 (by omega)
       omega)
    | (have q1 := (hE_0_2_1 (r_0 + 2) (by omega)).2 (by omega)
       have q2 := (hE_0_2_2 (r_0 + 2) (by omega)).2 (by omega)
       have q3 := (hE_0_2_3 (r_0 + 2) (by omega)).1 (by omega)
       omega)
    | (have q1 := (hE_0_2_1 (r_0 + 2) (by omega)).2 (by omega)
       have q2 := (hE_0_2_2 (r_0 + 2) (by omega)).2 (by omega)
       have q3 := (hE_0_2_3 (r_0 + 2) (by omega)).2 (by omega)
       omega)
    | (have q1 := (hE_0_2_1 (r_0 + 2) (by omega)).2 (by omega)
       have q2 := (hE_0_2_2 (r_0 + 2) (by omega)).2 (by omega)
       have q3 := (hE_0_2_3 (r_0 + 2) (by omega)).1 (by omega)
       have q4 : x13 = r_0 + 2 := by omega
       simp only [q4] at *
       omega)
set_option maxHeartbeats 4000000 in
theorem vc_Mo_groupItem_at_k2_13_2 (x3 : Int) (x14 : Int) (r_0 : Int) (pos_0 : Int) (fault_0 : Int) (gx : Int) (k3 : 0 ≤ x3 ∧ x3 ≤ 2000) (k14 : 0 ≤ x14 ∧ x14 ≤ 2000) (f0 : 1 * x14 + ((-1) * x3 + 0) ≤ 0) (f1 : (-1) * x14 + (1 * x3 + 0) ≤ 0) (f17 : 1 * x14 + ((-1) * pos_0 + 0) ≤ 0) (kz_0_8 : 0 ≤ fault_0 ∧ fault_0 ≤ 5) (kz_0_11 : 0 ≤ pos_0 ∧ pos_0 ≤ 2000) (ex2 : gx = 2005 + ((-1) * pos_0 + ((-1) * fault_0 + 0))) : 1 * x3 + ((-1) * pos_0 + 0) ≤ 0 := by
  first
    | omega
    | (have q1 := (hE_0_2_1 (r_0 + 2) (by omega)).2 (by omega)
       have q2 := (hE_0_2_2 (r_0 + 2) (by omega)).2 (by omega)
       omega)
    | (have q1 := (hE_0_2_1 (r_0 + 1) (by omega)).2 (by omega)
       have q2 := (hE_0_2_2 (r_0 + 1) (by omega)).2 (by omega)
       omega)
    | (have q1 := (hE_0_2_1 (r_0 + 2) (by omega)).2 (by omega)
       omega)
    | (have q1 := (hE_0_2_1 (r_0 + 1) (by omega)).2 (by omega)
       omega)
    | (have q1 := (hE_0_2_1 (r_0 + 2) (by omega)).2 (by omega)
       have q2 := (hE_0_2_2 (r_0 + 2) (by omega)).2 (by omega)
       have q3 := (hE_0_2_3 (r_0 + 2) (by omega)).1 (by omega)
       omega)
    | (have q1 := (hE_0_2_1 (r_0 + 2) (by omega)).2 (by omega)
       have q2 := (hE_0_2_2 (r_0 + 2) (by omega)).2 (by omega)
       have q3 := (hE_0_2_3 (r_0 + 2) (by omega)).2 (by omega)
       omega)
    | (have q1 := (hE_0_2_1 (r_0 + 2) (by omega)).2 (by omega)
       have q2 := (hE_0_2_2 (r_0 + 2) (by omega)).2 (by omega)
       have q3 := (hE_0_2_3 (r_0 + 2) (by omega)).1 (by omega)
       have q4 : x13 = r_0 + 2 := by omega
       simp only [q4] at *
       omega)
set_option maxHeartbeats 4000000 in
theorem vc_Mo_groupItem_at_k2_13_3 (x3 : Int) (x14 : Int) (r_0 : Int) (pos_0 : Int) (fault_0 : Int) (gx : Int) (k3 : 0 ≤ x3 ∧ x3 ≤ 2000) (k14 : 0 ≤ x14 ∧ x14 ≤ 2000) (f0 : 1 * x14 + ((-1) * x3 + 0) ≤ 0) (f1 : (-1) * x14 + (1 * x3 + 0) ≤ 0) (f17 : 1 * x14 + ((-1) * pos_0 + 0) ≤ 0) (f18 : (1 ≤ fault_0) ∨ ((x14 + 1) ≤ pos_0)) (kz_0_8 : 0 ≤ fault_0 ∧ fault_0 ≤ 5) (kz_0_11 : 0 ≤ pos_0 ∧ pos_0 ≤ 2000) (ex2 : gx = 2005 + ((-1) * pos_0 + ((-1) * fault_0 + 0))) : (1 ≤ fault_0) ∨ ((x3 + 1) ≤ pos_0) := by
  first
    | omega
    | (have q1 := (hE_0_2_1 (r_0 + 2) (by omega)).2 (by omega)
       have q2 := (hE_0_2_2 (r_0 + 2) (by omega)).2 (by omega)
       omega)
    | (have q1 := (hE_0_2_1 (r_0 + 1) (by omega)).2 (by omega)
       have q2 := (hE_0_2_2 (r_0 + 1) (by omega)).2 (by omega)
       omega)
    | (have q1 := (hE_0_2_1 (r_0 + 2) (by omega)).2 (by omega)
       omega)
    | (have q1 := (hE_0_2_1 (r_0 + 1) (by omega)).2 (by omega)
       omega)
    | (have q1 := (hE_0_2_1 (r_0 + 2) (by omega)).2 (by omega)
       have q2 := (hE_0_2_2 (r_0 + 2) (by omega)).2 (by omega)
       have q3 := (hE_0_2_3 (r_0 + 2) (by omega)).1 (by omega)
       omega)
    | (have q1 := (hE_0_2_1 (r_0 + 2) (by omega)).2 (by omega)
       have q2 := (hE_0_2_2 (r_0 + 2) (by omega)).2 (by omega)
       have q3 := (hE_0_2_3 (r_0 + 2) (by omega)).2 (by omega)
       omega)
    | (have q1 := (hE_0_2_1 (r_0 + 2) (by omega)).2 (by omega)
       have q2 := (hE_0_2_2 (r_0 + 2) (by omega)).2 (by omega)
       have q3 := (hE_0_2_3 (r_0 + 2) (by omega)).1 (by omega)
       have q4 : x13 = r_0 + 2 := by omega
       simp only [q4] at *
       omega)
set_option maxHeartbeats 4000000 in
theorem vc_Mo_groupItem_at_k2_13_4 (x7 : Int) (all_0 : Int → Int) (r_0 : Int) (k7 : 0 ≤ x7 ∧ x7 ≤ 7) (f9 : (x7 + 1) ≤ all_0 ((r_0 + 2))) : (x7 + 1) ≤ all_0 ((r_0 + 2)) := by
  first
    | omega
    | (have q1 := (hE_0_2_1 (r_0 + 2) (by omega)).2 (by omega)
       have q2 := (hE_0_2_2 (r_0 + 2) (by omega)).2 (by omega)
       omega)
    | (have q1 := (hE_0_2_1 (r_0 + 1) (by omega)).2 (by omega)
       have q2 := (hE_0_2_2 (r_0 + 1) (by omega)).2 (by omega)
       omega)
    | (have q1 := (hE_0_2_1 (r_0 + 2) (by omega)).2 (by omega)
       omega)
    | (have q1 := (hE_0_2_1 (r_0 + 1) (by omega)).2 (by omega)
       omega)
    | (have q1 := (hE_0_2_1 (r_0 + 2) (by omega)).2 (by omega)
       have q2 := (hE_0_2_2 (r_0 + 2) (by omega)).2 (by omega)
       have q3 := (hE_0_2_3 (r_0 + 2) (by omega)).1 (by omega)
       omega)
    | (have q1 := (hE_0_2_1 (r_0 + 2) (by omega)).2 (by omega)
       have q2 := (hE_0_2_2 (r_0 + 2) (by omega)).2 (by omega)
       have q3 := (hE_0_2_3 (r_0 + 2) (by omega)).2 (by omega)
       omega)
    | (have q1 := (hE_0_2_1 (r_0 + 2) (by omega)).2 (by omega)
       have q2 := (hE_0_2_2 (r_0 + 2) (by omega)).2 (by omega)
       have q3 := (hE_0_2_3 (r_0 + 2) (by omega)).1 (by omega)
       have q4 : x13 = r_0 + 2 := by omega
       simp only [q4] at *
       omega)
set_option maxHeartbeats 4000000 in
theorem vc_Mo_groupItem_at_k2_13_5 (x1 : Int) (x7 : Int) (r_0 : Int) (k1 : 0 ≤ x1 ∧ x1 ≤ 7) (k7 : 0 ≤ x7 ∧ x7 ≤ 7) (f31 : 1 * x1 + ((-1) * x7 + 0) ≤ (-1)) : 1 * x1 + ((-1) * x7 + 0) ≤ (-1) := by
  first
    | omega
    | (have q1 := (hE_0_2_1 (r_0 + 2) (by omega)).2 (by omega)
       have q2 := (hE_0_2_2 (r_0 + 2) (by omega)).2 (by omega)
       omega)
    | (have q1 := (hE_0_2_1 (r_0 + 1) (by omega)).2 (by omega)
       have q2 := (hE_0_2_2 (r_0 + 1) (by omega)).2 (by omega)
       omega)
    | (have q1 := (hE_0_2_1 (r_0 + 2) (by omega)).2 (by omega)
       omega)
    | (have q1 := (hE_0_2_1 (r_0 + 1) (by omega)).2 (by omega)
       omega)
    | (have q1 := (hE_0_2_1 (r_0 + 2) (by omega)).2 (by omega)
       have q2 := (hE_0_2_2 (r_0 + 2) (by omega)).2 (by omega)
       have q3 := (hE_0_2_3 (r_0 + 2) (by omega)).1 (by omega)
       omega)
    | (have q1 := (hE_0_2_1 (r_0 + 2) (by omega)).2 (by omega)
       have q2 := (hE_0_2_2 (r_0 + 2) (by omega)).2 (by omega)
       have q3 := (hE_0_2_3 (r_0 + 2) (by omega)).2 (by omega)
       omega)
    | (have q1 := (hE_0_2_1 (r_0 + 2) (by omega)).2 (by omega)
       have q2 := (hE_0_2_2 (r_0 + 2) (by omega)).2 (by omega)
       have q3 := (hE_0_2_3 (r_0 + 2) (by omega)).1 (by omega)
       have q4 : x13 = r_0 + 2 := by omega
       simp only [q4] at *
       omega)
end
section

set_option maxHeartbeats 4000000 in
theorem vc_Mo_groupItem_at_k2_13_6 (all_0 : Int → Int) (r_0 : Int) (now_0 : Int → Int) (latest_0 : Int → Int) (f11 : RWS (r_0) (all_0) (now_0) (latest_0)) : RWS (r_0) (all_0) (now_0) (latest_0) := by
  first
    | assumption
set_option maxHeartbeats 4000000 in
theorem vc_Mo_groupItem_at_k2_13_7 (x2 : Int) (x3 : Int) (x7 : Int) (x14 : Int) (x15 : Int) (x16 : Int) (tape_0 : Int → Int) (limit_0 : Int) (all_0 : Int → Int) (r_0 : Int) (from_0 : Int) (pos_0 : Int) (kind_0 : Int) (fault_0 : Int) (place_0 : Int) (value_0 : Int) (faultPlace_0 : Int) (k2 : 2 ≤ x2 ∧ x2 ≤ 2) (k3 : 0 ≤ x3 ∧ x3 ≤ 2000) (k7 : 0 ≤ x7 ∧ x7 ≤ 7) (k14 : 0 ≤ x14 ∧ x14 ≤ 2000) (k15 : 0 ≤ x15 ∧ x15 ≤ 7) (k16 : 0 ≤ x16 ∧ x16 ≤ 4) (f0 : 1 * x14 + ((-1) * x3 + 0) ≤ 0) (f1 : (-1) * x14 + (1 * x3 + 0) ≤ 0) (f2 : 1 * x15 + ((-1) * x7 + 0) ≤ 0) (f3 : (-1) * x15 + (1 * x7 + 0) ≤ 0) (f4 : 1 * x16 + ((-1) * x2 + 0) ≤ 0) (f5 : (-1) * x16 + (1 * x2 + 0) ≤ 0) (f19 : zOP0 (limit_0) (pos_0) (kind_0) (place_0) (value_0) (from_0) (fault_0) (faultPlace_0) (r_0) (tape_0) (all_0) (x15) (x16)) (kz_0_8 : 0 ≤ fault_0 ∧ fault_0 ≤ 5) (kz_0_9 : 0 ≤ faultPlace_0 ∧ faultPlace_0 ≤ 2000) (kz_0_10 : 0 ≤ limit_0 ∧ limit_0 ≤ 2000) (kz_0_11 : 0 ≤ pos_0 ∧ pos_0 ≤ 2000) (kz_0_12 : 0 ≤ kind_0 ∧ kind_0 ≤ 4) (kz_0_13 : 0 ≤ place_0 ∧ place_0 ≤ 2000) (kz_0_14 : (-49) ≤ value_0 ∧ value_0 ≤ 1048575) (kz_0_15 : 0 ≤ from_0 ∧ from_0 ≤ 2000) : zOP0 (limit_0) (pos_0) (kind_0) (place_0) (value_0) (from_0) (fault_0) (faultPlace_0) (r_0) (tape_0) (all_0) (x7) (x2) := by
  first | (have el_x14 : x14 = x3 := by omega); subst el_x14 | skip
  first | (have el_x15 : x15 = x7 := by omega); subst el_x15 | skip
  first | (have el_x16 : x16 = x2 := by omega); subst el_x16 | skip
  first
    | assumption
    | exact op0_of ‹zOS0 _ _ _ _ _ _ _ _ _ _ _ _ _› (by omega)
set_option maxHeartbeats 4000000 in
theorem vc_Mo_groupItem_at_k2_13_8 (x1 : Int) (x7 : Int) (tape_0 : Int → Int) (limit_0 : Int) (k1 : 0 ≤ x1 ∧ x1 ≤ 7) (k7 : 0 ≤ x7 ∧ x7 ≤ 7) (f6 : HST (limit_0) (tape_0) (x7) (x1)) (kz_0_10 : 0 ≤ limit_0 ∧ limit_0 ≤ 2000) : HST (limit_0) (tape_0) (x7) (x1) := by
  assumption
set_option maxHeartbeats 4000000 in
theorem vc_Mo_groupItem_at_k2_13_12 (r_0 : Int) (pos_0 : Int) (fault_0 : Int) (gx : Int) (kz_0_8 : 0 ≤ fault_0 ∧ fault_0 ≤ 5) (kz_0_11 : 0 ≤ pos_0 ∧ pos_0 ≤ 2000) (ex2 : gx = 2005 + ((-1) * pos_0 + ((-1) * fault_0 + 0))) : 1 * gx + (1 * pos_0 + (1 * fault_0 + 0)) ≤ 2005 := by
  first
    | omega
    | (have q1 := (hE_0_2_1 (r_0 + 2) (by omega)).2 (by omega)
       have q2 := (hE_0_2_2 (r_0 + 2) (by omega)).2 (by omega)
       omega)
    | (have q1 := (hE_0_2_1 (r_0 + 1) (by omega)).2 (by omega)
       have q2 := (hE_0_2_2 (r_0 + 1) (by omega)).2 (by omega)
       omega)
    | (have q1 := (hE_0_2_1 (r_0 + 2) (by omega)).2 (by omega)
       omega)
    | (have q1 := (hE_0_2_1 (r_0 + 1) (by omega)).2 (by omega)
       omega)
    | (have q1 := (hE_0_2_1 (r_0 + 2) (by omega)).2 (by omega)
       have q2 := (hE_0_2_2 (r_0 + 2) (by omega)).2 (by omega)
       have q3 := (hE_0_2_3 (r_0 + 2) (by omega)).1 (by omega)
       omega)
    | (have q1 := (hE_0_2_1 (r_0 + 2) (by omega)).2 (by omega)
       have q2 := (hE_0_2_2 (r_0 + 2) (by omega)).2 (by omega)
       have q3 := (hE_0_2_3 (r_0 + 2) (by omega)).2 (by omega)
       omega)
    | (have q1 := (hE_0_2_1 (r_0 + 2) (by omega)).2 (by omega)
       have q2 := (hE_0_2_2 (r_0 + 2) (by omega)).2 (by omega)
       have q3 := (hE_0_2_3 (r_0 + 2) (by omega)).1 (by omega)
       have q4 : x13 = r_0 + 2 := by omega
       simp only [q4] at *
       omega)
set_option maxHeartbeats 4000000 in
theorem vc_Mo_groupItem_at_k2_13_13 (r_0 : Int) (pos_0 : Int) (fault_0 : Int) (gx : Int) (kz_0_8 : 0 ≤ fault_0 ∧ fault_0 ≤ 5) (kz_0_11 : 0 ≤ pos_0 ∧ pos_0 ≤ 2000) (ex2 : gx = 2005 + ((-1) * pos_0 + ((-1) * fault_0 + 0))) : (-1) * gx + ((-1) * pos_0 + ((-1) * fault_0 + 0)) ≤ (-2005) := by
  first
    | omega
    | (have q1 := (hE_0_2_1 (r_0 + 2) (by omega)).2 (by omega)
       have q2 := (hE_0_2_2 (r_0 + 2) (by omega)).2 (by omega)
       omega)
    | (have q1 := (hE_0_2_1 (r_0 + 1) (by omega)).2 (by omega)
       have q2 := (hE_0_2_2 (r_0 + 1) (by omega)).2 (by omega)
       omega)
    | (have q1 := (hE_0_2_1 (r_0 + 2) (by omega)).2 (by omega)
       omega)
    | (have q1 := (hE_0_2_1 (r_0 + 1) (by omega)).2 (by omega)
       omega)
    | (have q1 := (hE_0_2_1 (r_0 + 2) (by omega)).2 (by omega)
       have q2 := (hE_0_2_2 (r_0 + 2) (by omega)).2 (by omega)
       have q3 := (hE_0_2_3 (r_0 + 2) (by omega)).1 (by omega)
       omega)
    | (have q1 := (hE_0_2_1 (r_0 + 2) (by omega)).2 (by omega)
       have q2 := (hE_0_2_2 (r_0 + 2) (by omega)).2 (by omega)
       have q3 := (hE_0_2_3 (r_0 + 2) (by omega)).2 (by omega)
       omega)
    | (have q1 := (hE_0_2_1 (r_0 + 2) (by omega)).2 (by omega)
       have q2 := (hE_0_2_2 (r_0 + 2) (by omega)).2 (by omega)
       have q3 := (hE_0_2_3 (r_0 + 2) (by omega)).1 (by omega)
       have q4 : x13 = r_0 + 2 := by omega
       simp only [q4] at *
       omega)
def o_Mo_groupItem_at_k2_13 : or_T := (170, 17, [(0, (2, 0, 0, [165])), (1, (0, 0, 7, [])), (2, (0, 2, 2, [])), (3, (0, 0, 2000, [])), (7, (0, 0, 7, [])), (14, (0, 0, 2000, [])), (15, (0, 0, 7, [])), (16, (0, 0, 4, []))], [(23, [14, 3], [0, 1, -1]), (23, [14, 3], [0, -1, 1]), (23, [15, 7], [0, 1, -1]), (23, [15, 7], [0, -1, 1]), (23, [16, 6], [0, 1, -1]), (23, [16, 6], [0, -1, 1]), (20, [4, 7, 5], [60, 1, 1, 1028, 10, 1]), (20, [7, 4], [50, 1, 1, 1005, 1002, 0, 6, 4, 2, 1, 0, 0, 1, 3, 1, 2, 4, 3, 2, 1, 5, 0, 2]), (20, [4], [60, 1, 3, 199, 5, 2, 3, 4]), (24, [0, 4], []), (24, [1, 5], []), (24, [2, 6], []), (20, [4, 4], [30, 0, 1, 1, 15, -1, 1, 11]), (20, [4], [50, 3, 0, 12, 11, 15, 2, 21, 4, 7, 1, 3, 2, 0, 12, 0, 1, 0, 3, 2, 0, 11, 4, 3, 2, 0, 15, 0, 8, 3, 7, 1, 3, 2, 0, 12, 0, 0, 0, 7, 4, 3, 2, 0, 15, 0, 1, 2, 0, 11]), (20, [14, 4], [30, 0, 1, 0, 0, -1, 1, 11]), (20, [4, 14], [50, 2, 0, 8, 11, 3, 7, 0, 2, 0, 1, 2, 0, 8, 0, 6, 4, 2, 1, 1, 0, 1, 2, 0, 11]), (20, [4, 15, 16], [60, 9, 2, 1023, 10, 11, 12, 13, 14, 15, 8, 9, 5, 1, 2]), (102, [16], [0, 165008, 165009, 165011, 165012, 165013, 165014, 165015]), (102, [12], [0, 165011, 165012, 165013, 165014, 165015]), (23, [5, 7], [-1, 1, -1])], [], [(0, 0, 2005, [])], [(20, [4, 4], [30, 0, 1, 1, 15, -1, 1, 11]), (20, [4], [50, 3, 0, 12, 11, 15, 2, 21, 4, 7, 1, 3, 2, 0, 12, 0, 1, 0, 3, 2, 0, 11, 4, 3, 2, 0, 15, 0, 8, 3, 7, 1, 3, 2, 0, 12, 0, 0, 0, 7, 4, 3, 2, 0, 15, 0, 1, 2, 0, 11]), (20, [3, 4], [30, 0, 1, 0, 0, -1, 1, 11]), (20, [4, 3], [50, 2, 0, 8, 11, 3, 7, 0, 2, 0, 1, 2, 0, 8, 0, 6, 4, 2, 1, 1, 0, 1, 2, 0, 11]), (20, [7, 4], [50, 1, 1, 1005, 1002, 0, 6, 4, 2, 1, 0, 0, 1, 3, 1, 2, 4, 3, 2, 1, 5, 0, 2]), (23, [5, 7], [-1, 1, -1]), (20, [4], [60, 1, 3, 199, 5, 2, 3, 4]), (20, [4, 7, 6], [60, 9, 2, 1023, 10, 11, 12, 13, 14, 15, 8, 9, 5, 1, 2]), (20, [4, 7, 5], [60, 1, 1, 1028, 10, 1]), (24, [0, 4], []), (24, [1, 5], []), (24, [2, 6], []), (20, [17, 4, 4], [30, 2005, 1, 0, 0, 1, 1, 11, 1, 1, 8]), (20, [17, 4, 4], [30, -2005, -1, 0, 0, -1, 1, 11, -1, 1, 8])], [], [])
theorem oo_Mo_groupItem_at_k2_13 {kA : Nat → ClassId} : or_ok PRD kA GG o_Mo_groupItem_at_k2_13 := by
  refine or_mk fun A ta ws vs hD hth hl => ?_
  intro t0 r0 t1 k1 t2 k2 t3 k3 t7 k7 t14 k14 t15 k15 t16 k16 f0 f1 f2 f3 f4 f5 f6 f9 f11 f12 f13 f14 f15 f16 f17 f18 f19 ta1 w1 le1 s1 ta2 w2 le2 s2 f31
  replace f0 := shm_7 f0
  replace f1 := shm_22 f1
  replace f2 := shm_7 f2
  replace f3 := shm_22 f3
  replace f4 := shm_7 f4
  replace f5 := shm_22 f5
  replace f6 := shm_2176 f6
  replace f9 := shm_1009 f9
  replace f11 := shm_980 f11
  replace f12 := shm_5 f12
  replace f13 := shm_5 f13
  replace f14 := shm_5 f14
  replace f15 := shm_1437 f15
  replace f16 := shm_1438 f16
  replace f17 := shm_1431 f17
  replace f18 := shm_1726 f18
  replace f19 := shm_1730 f19
  replace f31 := shm_193 f31
  have q4 : n_v vs 4 = n_v vs 0 := f12.symm
  have q5 : n_v vs 5 = n_v vs 1 := f13.symm
  have q6 : n_v vs 6 = n_v vs 2 := f14.symm
  simp only [q6, q4, q5] at f4 f5 f6 f9 f11 f15 f16 f17 f18 f19 f31
  have kz_0_8 := fdq_34 hD hth r0
  have kz_0_9 := fdq_44 hD hth r0
  have kz_0_10 := fdq_43 hD hth r0
  have kz_0_11 := fdq_237 hD hth r0
  have kz_0_12 := fdq_187 hD hth r0
  have kz_0_13 := fdq_238 hD hth r0
  have kz_0_14 := fdq_188 hD hth r0
  have kz_0_15 := fdq_239 hD hth r0
  obtain ⟨x, ex, hx⟩ := iv_ex (ta := ta) (lo := 0) (hi := 2005) (z := 2005 + ((-1) * w_fi ws (n_v vs 0) 11 + ((-1) * w_fi ws (n_v vs 0) 8 + 0))) (by omega) (by omega) (by omega) (by omega)
  have ex2 : v_iv (Value.int x) = 2005 + ((-1) * w_fi ws (n_v vs 0) 11 + ((-1) * w_fi ws (n_v vs 0) 8 + 0)) := ex
  have ex3 : 0 ≤ v_iv (Value.int x) ∧ v_iv (Value.int x) ≤ 2005 := tv_rng hx
  have e_0 : n_v (vs ++ [Value.int x]) 0 = n_v vs 0 := n_v_old (by rw [hl]; decide)
  have e_1 : n_v (vs ++ [Value.int x]) 1 = n_v vs 1 := n_v_old (by rw [hl]; decide)
  have e_2 : n_v (vs ++ [Value.int x]) 2 = n_v vs 2 := n_v_old (by rw [hl]; decide)
  have e_3 : n_v (vs ++ [Value.int x]) 3 = n_v vs 3 := n_v_old (by rw [hl]; decide)
  have e_4 : n_v (vs ++ [Value.int x]) 4 = n_v vs 4 := n_v_old (by rw [hl]; decide)
  have e_5 : n_v (vs ++ [Value.int x]) 5 = n_v vs 5 := n_v_old (by rw [hl]; decide)
  have e_6 : n_v (vs ++ [Value.int x]) 6 = n_v vs 6 := n_v_old (by rw [hl]; decide)
  have e_7 : n_v (vs ++ [Value.int x]) 7 = n_v vs 7 := n_v_old (by rw [hl]; decide)
  have e_17 : n_v (vs ++ [Value.int x]) 17 = Value.int x := n_v_new hl
  have nf0 : fc_1 PRD (20, [4, 4], [30, 0, 1, 1, 15, -1, 1, 11]) ws (vs ++ [Value.int x]) := by
    refine ⟨nf_inA hl rfl, sgq_1437 ?_⟩
    · show 1 * w_fi ws (n_v (vs ++ [Value.int x]) 4) 15 + ((-1) * w_fi ws (n_v (vs ++ [Value.int x]) 4) 11 + 0) ≤ 0
      simp only [e_4, q4]
      exact vc_Mo_groupItem_at_k2_13_0 (w_fi ws (n_v vs 0) 5) (w_fi ws (n_v vs 0) 15) (w_fi ws (n_v vs 0) 11) f15 kz_0_11 kz_0_15
  have nf1 : fc_1 PRD (20, [4], [50, 3, 0, 12, 11, 15, 2, 21, 4, 7, 1, 3, 2, 0, 12, 0, 1, 0, 3, 2, 0, 11, 4, 3, 2, 0, 15, 0, 8, 3, 7, 1, 3, 2, 0, 12, 0, 0, 0, 7, 4, 3, 2, 0, 15, 0, 1, 2, 0, 11]) ws (vs ++ [Value.int x]) := by
    refine ⟨nf_inA hl rfl, sgq_1438 ?_⟩
    · show ((w_fi ws (n_v (vs ++ [Value.int x]) 4) 12 = 1) → (w_fi ws (n_v (vs ++ [Value.int x]) 4) 11 ≤ (w_fi ws (n_v (vs ++ [Value.int x]) 4) 15 + 8))) ∧ ((w_fi ws (n_v (vs ++ [Value.int x]) 4) 12 = 0) ∨ ((w_fi ws (n_v (vs ++ [Value.int x]) 4) 15 + 1) ≤ w_fi ws (n_v (vs ++ [Value.int x]) 4) 11))
      simp only [e_4, q4]
      exact vc_Mo_groupItem_at_k2_13_1 (w_fi ws (n_v vs 0) 5) (w_fi ws (n_v vs 0) 15) (w_fi ws (n_v vs 0) 11) (w_fi ws (n_v vs 0) 12) f16 kz_0_11 kz_0_12 kz_0_15
  have nf2 : fc_1 PRD (20, [3, 4], [30, 0, 1, 0, 0, -1, 1, 11]) ws (vs ++ [Value.int x]) := by
    refine ⟨nf_inA hl rfl, sgq_1431 ?_⟩
    · show 1 * v_iv (n_v (vs ++ [Value.int x]) 3) + ((-1) * w_fi ws (n_v (vs ++ [Value.int x]) 4) 11 + 0) ≤ 0
      simp only [e_3, e_4, q4]
      exact vc_Mo_groupItem_at_k2_13_2 (v_iv (n_v vs 3)) (v_iv (n_v vs 14)) (w_fi ws (n_v vs 0) 5) (w_fi ws (n_v vs 0) 11) (w_fi ws (n_v vs 0) 8) (v_iv (Value.int x)) k3 k14 f0 f1 f17 kz_0_8 kz_0_11 ex2
  have nf3 : fc_1 PRD (20, [4, 3], [50, 2, 0, 8, 11, 3, 7, 0, 2, 0, 1, 2, 0, 8, 0, 6, 4, 2, 1, 1, 0, 1, 2, 0, 11]) ws (vs ++ [Value.int x]) := by
    refine ⟨nf_inA hl rfl, sgq_1726 ?_⟩
    · show (1 ≤ w_fi ws (n_v (vs ++ [Value.int x]) 4) 8) ∨ ((v_iv (n_v (vs ++ [Value.int x]) 3) + 1) ≤ w_fi ws (n_v (vs ++ [Value.int x]) 4) 11)
      simp only [e_3, e_4, q4]
      exact vc_Mo_groupItem_at_k2_13_3 (v_iv (n_v vs 3)) (v_iv (n_v vs 14)) (w_fi ws (n_v vs 0) 5) (w_fi ws (n_v vs 0) 11) (w_fi ws (n_v vs 0) 8) (v_iv (Value.int x)) k3 k14 f0 f1 f17 f18 kz_0_8 kz_0_11 ex2
  have nf4 : fc_1 PRD (20, [7, 4], [50, 1, 1, 1005, 1002, 0, 6, 4, 2, 1, 0, 0, 1, 3, 1, 2, 4, 3, 2, 1, 5, 0, 2]) ws (vs ++ [Value.int x]) := by
    refine ⟨nf_inA hl rfl, sgq_1009 ?_⟩
    · show (v_iv (n_v (vs ++ [Value.int x]) 7) + 1) ≤ w_ei ws (w_ar ws (n_v (vs ++ [Value.int x]) 4) 2) ((w_fi ws (n_v (vs ++ [Value.int x]) 4) 5 + 2))
      simp only [e_4, e_7, q4]
      exact vc_Mo_groupItem_at_k2_13_4 (v_iv (n_v vs 7)) (w_ei ws (w_ar ws (n_v vs 0) 2)) (w_fi ws (n_v vs 0) 5) k7 f9
  have nf5 : fc_1 PRD (23, [5, 7], [-1, 1, -1]) ws (vs ++ [Value.int x]) := by
    refine ⟨nf_inA hl rfl, sgq_193 ?_⟩
    · show 1 * v_iv (n_v (vs ++ [Value.int x]) 5) + ((-1) * v_iv (n_v (vs ++ [Value.int x]) 7) + 0) ≤ (-1)
      simp only [e_5, e_7, q5]
      exact vc_Mo_groupItem_at_k2_13_5 (v_iv (n_v vs 1)) (v_iv (n_v vs 7)) (w_fi ws (n_v vs 0) 5) k1 k7 f31
  have nf6 : fc_1 PRD (20, [4], [60, 1, 3, 199, 5, 2, 3, 4]) ws (vs ++ [Value.int x]) := by
    refine ⟨nf_inA hl rfl, sgq_980 ?_⟩
    · show RWS (w_fi ws (n_v (vs ++ [Value.int x]) 4) 5) (w_ei ws (w_ar ws (n_v (vs ++ [Value.int x]) 4) 2)) (w_ei ws (w_ar ws (n_v (vs ++ [Value.int x]) 4) 3)) (w_ei ws (w_ar ws (n_v (vs ++ [Value.int x]) 4) 4))
      simp only [e_4, q4]
      exact vc_Mo_groupItem_at_k2_13_6 (w_ei ws (w_ar ws (n_v vs 0) 2)) (w_fi ws (n_v vs 0) 5) (w_ei ws (w_ar ws (n_v vs 0) 3)) (w_ei ws (w_ar ws (n_v vs 0) 4)) f11
  have nf7 : fc_1 PRD (20, [4, 7, 6], [60, 9, 2, 1023, 10, 11, 12, 13, 14, 15, 8, 9, 5, 1, 2]) ws (vs ++ [Value.int x]) := by
    refine ⟨nf_inA hl rfl, sgq_1730 ?_⟩
    · show zOP0 (w_fi ws (n_v (vs ++ [Value.int x]) 4) 10) (w_fi ws (n_v (vs ++ [Value.int x]) 4) 11) (w_fi ws (n_v (vs ++ [Value.int x]) 4) 12) (w_fi ws (n_v (vs ++ [Value.int x]) 4) 13) (w_fi ws (n_v (vs ++ [Value.int x]) 4) 14) (w_fi ws (n_v (vs ++ [Value.int x]) 4) 15) (w_fi ws (n_v (vs ++ [Value.int x]) 4) 8) (w_fi ws (n_v (vs ++ [Value.int x]) 4) 9) (w_fi ws (n_v (vs ++ [Value.int x]) 4) 5) (w_ei ws (w_ar ws (n_v (vs ++ [Value.int x]) 4) 1)) (w_ei ws (w_ar ws (n_v (vs ++ [Value.int x]) 4) 2)) (v_iv (n_v (vs ++ [Value.int x]) 7)) (v_iv (n_v (vs ++ [Value.int x]) 6))
      simp only [e_4, e_6, e_7, q4, q6]
      exact vc_Mo_groupItem_at_k2_13_7 (v_iv (n_v vs 2)) (v_iv (n_v vs 3)) (v_iv (n_v vs 7)) (v_iv (n_v vs 14)) (v_iv (n_v vs 15)) (v_iv (n_v vs 16)) (w_ei ws (w_ar ws (n_v vs 0) 1)) (w_fi ws (n_v vs 0) 10) (w_ei ws (w_ar ws (n_v vs 0) 2)) (w_fi ws (n_v vs 0) 5) (w_fi ws (n_v vs 0) 15) (w_fi ws (n_v vs 0) 11) (w_fi ws (n_v vs 0) 12) (w_fi ws (n_v vs 0) 8) (w_fi ws (n_v vs 0) 13) (w_fi ws (n_v vs 0) 14) (w_fi ws (n_v vs 0) 9) k2 k3 k7 k14 k15 k16 f0 f1 f2 f3 f4 f5 f19 kz_0_8 kz_0_9 kz_0_10 kz_0_11 kz_0_12 kz_0_13 kz_0_14 kz_0_15
  have nf8 : fc_1 PRD (20, [4, 7, 5], [60, 1, 1, 1028, 10, 1]) ws (vs ++ [Value.int x]) := by
    refine ⟨nf_inA hl rfl, sgq_2176 ?_⟩
    · show HST (w_fi ws (n_v (vs ++ [Value.int x]) 4) 10) (w_ei ws (w_ar ws (n_v (vs ++ [Value.int x]) 4) 1)) (v_iv (n_v (vs ++ [Value.int x]) 7)) (v_iv (n_v (vs ++ [Value.int x]) 5))
      simp only [e_4, e_5, e_7, q4, q5]
      exact vc_Mo_groupItem_at_k2_13_8 (v_iv (n_v vs 1)) (v_iv (n_v vs 7)) (w_ei ws (w_ar ws (n_v vs 0) 1)) (w_fi ws (n_v vs 0) 10) k1 k7 f6 kz_0_10
  have nf9 : fc_1 PRD (24, [0, 4], []) ws (vs ++ [Value.int x]) := by
    refine ⟨nf_inA hl rfl, sgq_5 ?_⟩
    · show n_v (vs ++ [Value.int x]) 0 = n_v (vs ++ [Value.int x]) 4
      first | rfl | simp only [e_0, e_4, q4, q5, q6]
  have nf10 : fc_1 PRD (24, [1, 5], []) ws (vs ++ [Value.int x]) := by
    refine ⟨nf_inA hl rfl, sgq_5 ?_⟩
    · show n_v (vs ++ [Value.int x]) 1 = n_v (vs ++ [Value.int x]) 5
      first | rfl | simp only [e_1, e_5, q4, q5, q6]
  have nf11 : fc_1 PRD (24, [2, 6], []) ws (vs ++ [Value.int x]) := by
    refine ⟨nf_inA hl rfl, sgq_5 ?_⟩
    · show n_v (vs ++ [Value.int x]) 2 = n_v (vs ++ [Value.int x]) 6
      first | rfl | simp only [e_2, e_6, q4, q5, q6]
  have nf12 : fc_1 PRD (20, [17, 4, 4], [30, 2005, 1, 0, 0, 1, 1, 11, 1, 1, 8]) ws (vs ++ [Value.int x]) := by
    refine ⟨nf_inA hl rfl, sgq_2178 ?_⟩
    · show 1 * v_iv (n_v (vs ++ [Value.int x]) 17) + (1 * w_fi ws (n_v (vs ++ [Value.int x]) 4) 11 + (1 * w_fi ws (n_v (vs ++ [Value.int x]) 4) 8 + 0)) ≤ 2005
      simp only [e_4, e_17, q4]
      exact vc_Mo_groupItem_at_k2_13_12 (w_fi ws (n_v vs 0) 5) (w_fi ws (n_v vs 0) 11) (w_fi ws (n_v vs 0) 8) (v_iv (Value.int x)) kz_0_8 kz_0_11 ex2
  have nf13 : fc_1 PRD (20, [17, 4, 4], [30, -2005, -1, 0, 0, -1, 1, 11, -1, 1, 8]) ws (vs ++ [Value.int x]) := by
    refine ⟨nf_inA hl rfl, sgq_2179 ?_⟩
    · show (-1) * v_iv (n_v (vs ++ [Value.int x]) 17) + ((-1) * w_fi ws (n_v (vs ++ [Value.int x]) 4) 11 + ((-1) * w_fi ws (n_v (vs ++ [Value.int x]) 4) 8 + 0)) ≤ (-2005)
      simp only [e_4, e_17, q4]
      exact vc_Mo_groupItem_at_k2_13_13 (w_fi ws (n_v vs 0) 5) (w_fi ws (n_v vs 0) 11) (w_fi ws (n_v vs 0) 8) (v_iv (Value.int x)) kz_0_8 kz_0_11 ex2
  exact ⟨(fun _ h => (by cases h)), [Value.int x], ag_one hx, List.forall_mem_cons.mpr ⟨⟨show (20 : Nat) < 100 from by decide, nf0⟩, List.forall_mem_cons.mpr ⟨⟨show (20 : Nat) < 100 from by decide, nf1⟩, List.forall_mem_cons.mpr ⟨⟨show (20 : Nat) < 100 from by decide, nf2⟩, List.forall_mem_cons.mpr ⟨⟨show (20 : Nat) < 100 from by decide, nf3⟩, List.forall_mem_cons.mpr ⟨⟨show (20 : Nat) < 100 from by decide, nf4⟩, List.forall_mem_cons.mpr ⟨⟨show (23 : Nat) < 100 from by decide, nf5⟩, List.forall_mem_cons.mpr ⟨⟨show (20 : Nat) < 100 from by decide, nf6⟩, List.forall_mem_cons.mpr ⟨⟨show (20 : Nat) < 100 from by decide, nf7⟩, List.forall_mem_cons.mpr ⟨⟨show (20 : Nat) < 100 from by decide, nf8⟩, List.forall_mem_cons.mpr ⟨⟨show (24 : Nat) < 100 from by decide, nf9⟩, List.forall_mem_cons.mpr ⟨⟨show (24 : Nat) < 100 from by decide, nf10⟩, List.forall_mem_cons.mpr ⟨⟨show (24 : Nat) < 100 from by decide, nf11⟩, List.forall_mem_cons.mpr ⟨⟨show (20 : Nat) < 100 from by decide, nf12⟩, List.forall_mem_cons.mpr ⟨⟨show (20 : Nat) < 100 from by decide, nf13⟩, (fun _ h => (by cases h))⟩⟩⟩⟩⟩⟩⟩⟩⟩⟩⟩⟩⟩⟩, (fun _ h => (by cases h))⟩
set_option maxHeartbeats 4000000 in
theorem vc_Mo_groupItem_at_k2_14_r0 (x8 : Int) (x9 : Int) (x10 : Int) (x11 : Int) (x13 : Int) (r_0 : Int) (from_0 : Int) (pos_0 : Int) (kind_0 : Int) (k8 : 0 ≤ x8 ∧ x8 ≤ 8) (k9 : 1 ≤ x9 ∧ x9 ≤ 2000) (k10 : 0 ≤ x10 ∧ x10 ≤ 2000) (k11 : 1 ≤ x11 ∧ x11 ≤ 2000) (d1 : x11 + (-4294967296) ≤ x8 ∧ x8 ≤ x11 + (-1)) (f4 : x11 = x9 - x10) (g5 : x10 = from_0) (g6 : x9 = pos_0) (f8 : ((kind_0 = 1) → (pos_0 ≤ (from_0 + 8))) ∧ ((kind_0 = 0) ∨ ((from_0 + 1) ≤ pos_0))) (f10 : kind_0 = 1) (kz_0_11 : 0 ≤ pos_0 ∧ pos_0 ≤ 2000) (kz_0_12 : 0 ≤ kind_0 ∧ kind_0 ≤ 4) (kz_0_15 : 0 ≤ from_0 ∧ from_0 ≤ 2000) : 0 ≤ x8 ∧ x8 ≤ 7 := by
  first
    | omega
    | (have q1 := (hE_0_2_1 (r_0 + 2) (by omega)).2 (by omega)
       have q2 := (hE_0_2_2 (r_0 + 2) (by omega)).2 (by omega)
       omega)
    | (have q1 := (hE_0_2_1 (r_0 + 1) (by omega)).2 (by omega)
       have q2 := (hE_0_2_2 (r_0 + 1) (by omega)).2 (by omega)
       omega)
    | (have q1 := (hE_0_2_1 (r_0 + 2) (by omega)).2 (by omega)
       omega)
    | (have q1 := (hE_0_2_1 (r_0 + 1) (by omega)).2 (by omega)
       omega)
    | (have q1 := (hE_0_2_1 (r_0 + 2) (by omega)).2 (by omega)
       have q2 := (hE_0_2_2 (r_0 + 2) (by omega)).2 (by omega)
       have q3 := (hE_0_2_3 (r_0 + 2) (by omega)).1 (by omega)
       omega)
    | (have q1 := (hE_0_2_1 (r_0 + 2) (by omega)).2 (by omega)
       have q2 := (hE_0_2_2 (r_0 + 2) (by omega)).2 (by omega)
       have q3 := (hE_0_2_3 (r_0 + 2) (by omega)).2 (by omega)
       omega)
    | (have q1 := (hE_0_2_1 (r_0 + 2) (by omega)).2 (by omega)
       have q2 := (hE_0_2_2 (r_0 + 2) (by omega)).2 (by omega)
       have q3 := (hE_0_2_3 (r_0 + 2) (by omega)).1 (by omega)
       have q4 : x13 = r_0 + 2 := by omega
       simp only [q4] at *
       omega)
def o_Mo_groupItem_at_k2_14 : or_T := (141, 19, [(0, (2, 0, 0, [165])), (1, (0, 0, 7, [])), (2, (0, 2, 2, [])), (3, (0, 0, 2000, [])), (4, (2, 0, 0, [165])), (5, (0, 0, 7, [])), (6, (0, 2, 2, [])), (7, (0, 0, 7, [])), (8, (0, 0, 8, [])), (9, (0, 1, 2000, [])), (10, (0, 0, 2000, [])), (11, (0, 1, 2000, [])), (12, (2, 0, 0, [167])), (13, (0, 0, 66297, [])), (14, (0, 459, 459, [])), (15, (0, 459, 66756, []))], [(1, [15, 13, 14], []), (9, [13, 4], [5]), (9, [12, 4], [2]), (7, [8, 11], [2]), (2, [11, 9, 10], []), (9, [10, 4], [15]), (9, [9, 4], [11]), (20, [4, 4], [30, 0, 1, 1, 15, -1, 1, 11]), (20, [4], [50, 3, 0, 12, 11, 15, 2, 21, 4, 7, 1, 3, 2, 0, 12, 0, 1, 0, 3, 2, 0, 11, 4, 3, 2, 0, 15, 0, 8, 3, 7, 1, 3, 2, 0, 12, 0, 0, 0, 7, 4, 3, 2, 0, 15, 0, 1, 2, 0, 11]), (20, [3, 4], [30, -1, 1, 0, 0, -1, 1, 11]), (20, [4], [50, 1, 0, 12, 1, 3, 2, 0, 12, 0, 1]), (20, [7, 4], [50, 1, 1, 1005, 1002, 0, 6, 4, 2, 1, 0, 0, 1, 3, 1, 2, 4, 3, 2, 1, 5, 0, 2]), (23, [5, 7], [-1, 1, -1]), (20, [4], [60, 1, 3, 199, 5, 2, 3, 4]), (20, [4, 7, 8, 5, 6], [60, 8, 2, 1006, 10, 11, 12, 13, 14, 15, 8, 5, 1, 2]), (24, [0, 4], []), (24, [1, 5], []), (24, [2, 6], [])], [(8, (0, 0, 7, []))], [], [], [], [(15, 13, 459, 459), (8, 11, -4294967296, -1), (11, 9, -2000, 0), (1, 5, -4294967296, 0), (5, 1, -4294967296, 0)])
theorem oo_Mo_groupItem_at_k2_14 {kA : Nat → ClassId} : or_ok PRD kA GG o_Mo_groupItem_at_k2_14 := by
  refine or_mk fun A ta ws vs hD hth hl => ?_
  intro t0 r0 t1 k1 t2 k2 t3 k3 t4 r4 t5 k5 t6 k6 t7 k7 t8 k8 t9 k9 t10 k10 t11 k11 t12 r12 t13 k13 t14 k14 t15 k15 d0 d1 d2 d3 d4 f0 f1 f2 f3 f4 f5 f6 f7 f8 f9 f10 f11 f12 f13 f14 f15 f16 f17
  replace f5 := shm_177 f5
  replace f6 := shm_116 f6
  replace f8 := shm_1438 f8
  replace f10 := shm_1890 f10
  replace f15 := shm_5 f15
  have q4 : n_v vs 4 = n_v vs 0 := f15.symm
  simp only [q4] at f5 f6 f8 f10
  have g5 : v_iv (n_v vs 10) = w_fi ws (n_v vs 0) 15 := congrArg v_iv f5
  have g6 : v_iv (n_v vs 9) = w_fi ws (n_v vs 0) 11 := congrArg v_iv f6
  have kz_0_11 := fdq_237 hD hth r0
  have kz_0_12 := fdq_187 hD hth r0
  have kz_0_15 := fdq_239 hD hth r0
  have hrf0 : 0 ≤ v_iv (n_v vs 8) ∧ v_iv (n_v vs 8) ≤ 7 := vc_Mo_groupItem_at_k2_14_r0 (v_iv (n_v vs 8)) (v_iv (n_v vs 9)) (v_iv (n_v vs 10)) (v_iv (n_v vs 11)) (v_iv (n_v vs 13)) (w_fi ws (n_v vs 0) 5) (w_fi ws (n_v vs 0) 15) (w_fi ws (n_v vs 0) 11) (w_fi ws (n_v vs 0) 12) k8 k9 k10 k11 d1 (shm_14 f4) g5 g6 f8 f10 kz_0_11 kz_0_12 kz_0_15
  have rf8 : tv_ok ta (0, 0, 7, []) (n_v vs 8) := tv_in t8 (by first | omega | grind) (by first | omega | grind)
  refine ⟨List.forall_mem_cons.mpr ⟨rf8, (fun _ h => (by cases h))⟩, [], trivial, ?_, (fun _ h => (by cases h))⟩
  rw [List.append_nil]
  exact (fun _ h => (by cases h))
def o_Mo_groupItem_at_k2_15 : or_T := (153, 22, [(7, (0, 0, 7, [])), (8, (0, 0, 7, [])), (13, (5, 0, 66297, [539])), (14, (0, 459, 459, [])), (15, (0, 459, 66756, [])), (16, (0, 8, 8, [])), (17, (0, 0, 56, [])), (18, (0, 459, 66812, [])), (19, (0, 459, 66819, [])), (21, (0, -1, -1, []))], [(1, [19, 18, 8], []), (1, [18, 15, 17], []), (3, [17, 16, 7], []), (1, [15, 13, 14], [])], [], [], [(18, [19, 21], [1])], [], [(19, 8, 459, 66812), (19, 18, 0, 7), (19, 17, 459, 66763), (19, 15, 0, 63), (19, 13, 459, 522), (18, 17, 459, 66756), (18, 15, 0, 56), (18, 13, 459, 515), (15, 13, 459, 459)])
theorem oo_Mo_groupItem_at_k2_15 {kA : Nat → ClassId} : or_ok PRD kA GG o_Mo_groupItem_at_k2_15 := by
  refine or_mk fun A ta ws vs hD hth hl => ?_
  intro t7 k7 t8 k8 t13 t14 k14 t15 k15 t16 k16 t17 k17 t18 k18 t19 k19 t21 k21 d0 d1 d2 d3 d4 d5 d6 d7 d8 f0 f1 f2 f3
  obtain ⟨k13, q13_⟩ : (0 ≤ v_iv (n_v vs 13) ∧ v_iv (n_v vs 13) ≤ 66297) ∧ ∃ q : Int, v_iv (n_v vs 13) = 539 * q := tv_dvk t13
  obtain ⟨q13, hq13⟩ := q13_
  replace f0 := shm_12 f0
  replace f1 := shm_12 f1
  replace f2 := shm_38 f2
  rw [show v_iv (n_v vs 16) = 8 from by omega] at f2
  replace f3 := shm_12 f3
  have nf0 : fc_1 PRD (18, [19, 21], [1]) ws (vs) := by
    refine ⟨nf_in hl rfl, sgq_1302 ?_⟩
    · show pl_ok 1 (v_iv (n_v vs 19)).toNat (v_iv (n_v vs 21))
      exact pl_in pl_M1 (lo := 459) (hi := 522) (a := (-1)) (b := (-1)) (by decide +kernel) (by omega) (by omega) (by omega) (by omega)
  refine ⟨(fun _ h => (by cases h)), [], trivial, ?_, (fun _ h => (by cases h))⟩
  rw [List.append_nil]
  exact List.forall_mem_cons.mpr ⟨⟨show (18 : Nat) < 100 from by decide, nf0⟩, (fun _ h => (by cases h))⟩

set_option maxHeartbeats 4000000 in
theorem vc_Mo_groupItem_at_k2_16_0 (x7 : Int) (x8 : Int) (x13 : Int) (x15 : Int) (x17 : Int) (x18 : Int) (x19 : Int) (x21 : Int) (x22 : Int) (r_0 : Int) (from_0 : Int) (pos_0 : Int) (tape_0 : Int → Int) (limit_0 : Int) (kind_0 : Int) (tape_1 : Int → Int) (limit_1 : Int) (from_1 : Int) (pos_1 : Int) (kind_1 : Int) (all_1 : Int → Int) (r_1 : Int) (now_1 : Int → Int) (latest_1 : Int → Int) (place_1 : Int) (value_1 : Int) (fault_1 : Int) (fault_0 : Int) (place_0 : Int) (value_0 : Int) (all_0 : Int → Int) (now_0 : Int → Int) (latest_0 : Int → Int) (k7 : 0 ≤ x7 ∧ x7 ≤ 7) (k8 : 0 ≤ x8 ∧ x8 ≤ 7) (k13 : 0 ≤ x13 ∧ x13 ≤ 66297) (k15 : 459 ≤ x15 ∧ x15 ≤ 66756) (k17 : 0 ≤ x17 ∧ x17 ≤ 56) (k18 : 459 ≤ x18 ∧ x18 ≤ 66812) (k19 : 459 ≤ x19 ∧ x19 ≤ 66819) (k21 : (-1) ≤ x21 ∧ x21 ≤ (-1)) (k22 : 1 ≤ x22 ∧ x22 ≤ 8) (d0 : x8 + 1 ≤ x22 ∧ x22 ≤ x8 + 1) (d9 : x15 + 0 ≤ x19 ∧ x19 ≤ x15 + 63) (d14 : x13 + 459 ≤ x15 ∧ x15 ≤ x13 + 459) (g0 : x13 = r_0) (f19 : x19 = x18 + x8) (f20 : x18 = x15 + x17) (f21 : x17 = 8 * x7) (f29 : (x7 + 1) ≤ all_1 ((r_1 + 2))) (fe_0_5_1 : r_0 = r_1) (fe_0_8_1 : fault_0 = fault_1) (fe_0_10_1 : limit_0 = limit_1) (fe_0_11_1 : pos_0 = pos_1) (fe_0_12_1 : kind_0 = kind_1) (fe_0_13_1 : place_0 = place_1) (fe_0_14_1 : value_0 = value_1) (fe_0_15_1 : from_0 = from_1) (hE_0_1_1 : ∀ j : Int, tape_0 j = tape_1 j) (hE_0_2_1 : ∀ j : Int, 0 ≤ j → (j = x19 → all_0 j = x21) ∧ (j ≠ x19 → all_0 j = all_1 j)) (hE_0_3_1 : ∀ j : Int, now_0 j = now_1 j) (hE_0_4_1 : ∀ j : Int, latest_0 j = latest_1 j) (kz_0_8 : 0 ≤ fault_0 ∧ fault_0 ≤ 5) (kz_0_10 : 0 ≤ limit_0 ∧ limit_0 ≤ 2000) (kz_0_11 : 0 ≤ pos_0 ∧ pos_0 ≤ 2000) (kz_0_12 : 0 ≤ kind_0 ∧ kind_0 ≤ 4) (kz_0_13 : 0 ≤ place_0 ∧ place_0 ≤ 2000) (kz_0_14 : (-49) ≤ value_0 ∧ value_0 ≤ 1048575) (kz_0_15 : 0 ≤ from_0 ∧ from_0 ≤ 2000) : (x7 + 1) ≤ all_0 ((r_0 + 2)) := by
  subst fe_0_5_1
  subst fe_0_8_1
  subst fe_0_10_1
  subst fe_0_11_1
  subst fe_0_12_1
  subst fe_0_13_1
  subst fe_0_14_1
  subst fe_0_15_1
  have e_hE_0_1_1 := funext hE_0_1_1; subst e_hE_0_1_1
  have e_hE_0_3_1 := funext hE_0_3_1; subst e_hE_0_3_1
  have e_hE_0_4_1 := funext hE_0_4_1; subst e_hE_0_4_1
  first
    | omega
    | (have q1 := (hE_0_2_1 (r_0 + 2) (by omega)).2 (by omega)
       have q2 := (hE_0_2_2 (r_0 + 2) (by omega)).2 (by omega)
       omega)
    | (have q1 := (hE_0_2_1 (r_0 + 1) (by omega)).2 (by omega)
       have q2 := (hE_0_2_2 (r_0 + 1) (by omega)).2 (by omega)
       omega)
    | (have q1 := (hE_0_2_1 (r_0 + 2) (by omega)).2 (by omega)
       omega)
    | (have q1 := (hE_0_2_1 (r_0 + 1) (by omega)).2 (by omega)
       omega)
    | (have q1 := (hE_0_2_1 (r_0 + 2) (by omega)).2 (by omega)
       have q2 := (hE_0_2_2 (r_0 + 2) (by omega)).2 (by omega)
       have q3 := (hE_0_2_3 (r_0 + 2) (by omega)).1 (by omega)
       omega)
    | (have q1 := (hE_0_2_1 (r_0 + 2) (by omega)).2 (by omega)
       have q2 := (hE_0_2_2 (r_0 + 2) (by omega)).2 (by omega)
       have q3 := (hE_0_2_3 (r_0 + 2) (by omega)).2 (by omega)
       omega)
    | (have q1 := (hE_0_2_1 (r_0 + 2) (by omega)).2 (by omega)
       have q2 := (hE_0_2_2 (r_0 + 2) (by omega)).2 (by omega)
       have q3 := (hE_0_2_3 (r_0 + 2) (by omega)).1 (by omega)
       have q4 : x13 = r_0 + 2 := by omega
       simp only [q4] at *
       omega)
set_option maxHeartbeats 4000000 in
theorem vc_Mo_groupItem_at_k2_16_1 (x7 : Int) (x8 : Int) (x13 : Int) (x15 : Int) (x17 : Int) (x18 : Int) (x19 : Int) (x21 : Int) (x22 : Int) (r_0 : Int) (from_0 : Int) (pos_0 : Int) (tape_0 : Int → Int) (limit_0 : Int) (kind_0 : Int) (tape_1 : Int → Int) (limit_1 : Int) (from_1 : Int) (pos_1 : Int) (kind_1 : Int) (all_1 : Int → Int) (r_1 : Int) (now_1 : Int → Int) (latest_1 : Int → Int) (place_1 : Int) (value_1 : Int) (fault_1 : Int) (fault_0 : Int) (place_0 : Int) (value_0 : Int) (all_0 : Int → Int) (now_0 : Int → Int) (latest_0 : Int → Int) (k7 : 0 ≤ x7 ∧ x7 ≤ 7) (k8 : 0 ≤ x8 ∧ x8 ≤ 7) (k13 : 0 ≤ x13 ∧ x13 ≤ 66297) (k15 : 459 ≤ x15 ∧ x15 ≤ 66756) (k17 : 0 ≤ x17 ∧ x17 ≤ 56) (k18 : 459 ≤ x18 ∧ x18 ≤ 66812) (k19 : 459 ≤ x19 ∧ x19 ≤ 66819) (k21 : (-1) ≤ x21 ∧ x21 ≤ (-1)) (k22 : 1 ≤ x22 ∧ x22 ≤ 8) (d0 : x8 + 1 ≤ x22 ∧ x22 ≤ x8 + 1) (d9 : x15 + 0 ≤ x19 ∧ x19 ≤ x15 + 63) (d14 : x13 + 459 ≤ x15 ∧ x15 ≤ x13 + 459) (g0 : x13 = r_0) (f19 : x19 = x18 + x8) (f20 : x18 = x15 + x17) (f21 : x17 = 8 * x7) (f31 : RWS (r_1) (all_1) (now_1) (latest_1)) (fe_0_5_1 : r_0 = r_1) (fe_0_8_1 : fault_0 = fault_1) (fe_0_10_1 : limit_0 = limit_1) (fe_0_11_1 : pos_0 = pos_1) (fe_0_12_1 : kind_0 = kind_1) (fe_0_13_1 : place_0 = place_1) (fe_0_14_1 : value_0 = value_1) (fe_0_15_1 : from_0 = from_1) (hE_0_1_1 : ∀ j : Int, tape_0 j = tape_1 j) (hE_0_2_1 : ∀ j : Int, 0 ≤ j → (j = x19 → all_0 j = x21) ∧ (j ≠ x19 → all_0 j = all_1 j)) (hE_0_3_1 : ∀ j : Int, now_0 j = now_1 j) (hE_0_4_1 : ∀ j : Int, latest_0 j = latest_1 j) (kz_0_8 : 0 ≤ fault_0 ∧ fault_0 ≤ 5) (kz_0_10 : 0 ≤ limit_0 ∧ limit_0 ≤ 2000) (kz_0_11 : 0 ≤ pos_0 ∧ pos_0 ≤ 2000) (kz_0_12 : 0 ≤ kind_0 ∧ kind_0 ≤ 4) (kz_0_13 : 0 ≤ place_0 ∧ place_0 ≤ 2000) (kz_0_14 : (-49) ≤ value_0 ∧ value_0 ≤ 1048575) (kz_0_15 : 0 ≤ from_0 ∧ from_0 ≤ 2000) : RWS (r_0) (all_0) (now_0) (latest_0) := by
  subst fe_0_5_1
  subst fe_0_8_1
  subst fe_0_10_1
  subst fe_0_11_1
  subst fe_0_12_1
  subst fe_0_13_1
  subst fe_0_14_1
  subst fe_0_15_1
  have e_hE_0_1_1 := funext hE_0_1_1; subst e_hE_0_1_1
  have e_hE_0_3_1 := funext hE_0_3_1; subst e_hE_0_3_1
  have e_hE_0_4_1 := funext hE_0_4_1; subst e_hE_0_4_1
  first
    | (have hr := rws_r ‹RWS _ _ _ _›
       exact rws_off (rws_off (rws_off ‹RWS _ _ _ _› (by assumption) (by omega)) (by assumption) (by omega)) (by assumption) (by omega))
    | (have hr := rws_r ‹RWS _ _ _ _›
       exact rws_off ‹RWS _ _ _ _› (by assumption) (by omega))
set_option maxHeartbeats 4000000 in
theorem vc_Mo_groupItem_at_k2_16_2 (x1 : Int) (x2 : Int) (x7 : Int) (x8 : Int) (x9 : Int) (x10 : Int) (x11 : Int) (x13 : Int) (x15 : Int) (x17 : Int) (x18 : Int) (x19 : Int) (x20 : Int) (x21 : Int) (x22 : Int) (r_0 : Int) (from_0 : Int) (pos_0 : Int) (tape_0 : Int → Int) (limit_0 : Int) (kind_0 : Int) (tape_1 : Int → Int) (limit_1 : Int) (from_1 : Int) (pos_1 : Int) (kind_1 : Int) (all_1 : Int → Int) (r_1 : Int) (now_1 : Int → Int) (latest_1 : Int → Int) (place_1 : Int) (value_1 : Int) (fault_1 : Int) (fault_0 : Int) (place_0 : Int) (value_0 : Int) (all_0 : Int → Int) (now_0 : Int → Int) (latest_0 : Int → Int) (k1 : 0 ≤ x1 ∧ x1 ≤ 7) (k2 : 2 ≤ x2 ∧ x2 ≤ 2) (k7 : 0 ≤ x7 ∧ x7 ≤ 7) (k8 : 0 ≤ x8 ∧ x8 ≤ 7) (k9 : 1 ≤ x9 ∧ x9 ≤ 2000) (k10 : 0 ≤ x10 ∧ x10 ≤ 2000) (k11 : 1 ≤ x11 ∧ x11 ≤ 2000) (k13 : 0 ≤ x13 ∧ x13 ≤ 66297) (k15 : 459 ≤ x15 ∧ x15 ≤ 66756) (k17 : 0 ≤ x17 ∧ x17 ≤ 56) (k18 : 459 ≤ x18 ∧ x18 ≤ 66812) (k19 : 459 ≤ x19 ∧ x19 ≤ 66819) (k20 : 0 ≤ x20 ∧ x20 ≤ 2007) (k21 : (-1) ≤ x21 ∧ x21 ≤ (-1)) (k22 : 1 ≤ x22 ∧ x22 ≤ 8) (d0 : x8 + 1 ≤ x22 ∧ x22 ≤ x8 + 1) (d1 : x11 + (-4294967296) ≤ x22 ∧ x22 ≤ x11 + 0) (d4 : x10 + 0 ≤ x20 ∧ x20 ≤ x10 + 7) (d11 : x17 + 459 ≤ x18 ∧ x18 ≤ x17 + 66756) (d14 : x13 + 459 ≤ x15 ∧ x15 ≤ x13 + 459) (d15 : x11 + (-4294967296) ≤ x8 ∧ x8 ≤ x11 + (-1)) (g0 : x13 = r_0) (g2 : x10 = from_0) (g3 : x9 = pos_0) (f4 : x22 = x8 + 1) (f16 : ((x20 + 1) ≤ limit_1) → (x21 = (tape_1 (x20) % 256))) (f18 : x20 = x10 + x8) (f19 : x19 = x18 + x8) (f20 : x18 = x15 + x17) (f21 : x17 = 8 * x7) (f24 : x11 = x9 - x10) (f32 : zMG (limit_1) (pos_1) (kind_1) (place_1) (value_1) (from_1) (fault_1) (r_1) (tape_1) (all_1) (x7) (x8) (x1) (x2)) (fe_0_5_1 : r_0 = r_1) (fe_0_8_1 : fault_0 = fault_1) (fe_0_10_1 : limit_0 = limit_1) (fe_0_11_1 : pos_0 = pos_1) (fe_0_12_1 : kind_0 = kind_1) (fe_0_13_1 : place_0 = place_1) (fe_0_14_1 : value_0 = value_1) (fe_0_15_1 : from_0 = from_1) (hE_0_1_1 : ∀ j : Int, tape_0 j = tape_1 j) (hE_0_2_1 : ∀ j : Int, 0 ≤ j → (j = x19 → all_0 j = x21) ∧ (j ≠ x19 → all_0 j = all_1 j)) (hE_0_3_1 : ∀ j : Int, now_0 j = now_1 j) (hE_0_4_1 : ∀ j : Int, latest_0 j = latest_1 j) (kz_0_8 : 0 ≤ fault_0 ∧ fault_0 ≤ 5) (kz_0_10 : 0 ≤ limit_0 ∧ limit_0 ≤ 2000) (kz_0_11 : 0 ≤ pos_0 ∧ pos_0 ≤ 2000) (kz_0_12 : 0 ≤ kind_0 ∧ kind_0 ≤ 4) (kz_0_13 : 0 ≤ place_0 ∧ place_0 ≤ 2000) (kz_0_14 : (-49) ≤ value_0 ∧ value_0 ≤ 1048575) (kz_0_15 : 0 ≤ from_0 ∧ from_0 ≤ 2000) : zMG (limit_0) (pos_0) (kind_0) (place_0) (value_0) (from_0) (fault_0) (r_0) (tape_0) (all_0) (x7) (x22) (x1) (x2) := by
  subst fe_0_5_1
  subst fe_0_8_1
  subst fe_0_10_1
  subst fe_0_11_1
  subst fe_0_12_1
  subst fe_0_13_1
  subst fe_0_14_1
  subst fe_0_15_1
  have e_hE_0_1_1 := funext hE_0_1_1; subst e_hE_0_1_1
  have e_hE_0_3_1 := funext hE_0_3_1; subst e_hE_0_3_1
  have e_hE_0_4_1 := funext hE_0_4_1; subst e_hE_0_4_1
  first | subst g0 | skip
  first | subst g2 | skip
  first | subst g3 | skip
  first
    | exact mg_step ‹zMG _ _ _ _ _ _ _ _ _ _ _ _ _ _› (by omega) (by assumption) (by omega) (tk_byte (mg_tk ‹zMG _ _ _ _ _ _ _ _ _ _ _ _ _ _›) (by assumption) (by omega) (by omega) (by omega)) (by omega) (by omega)
    | exact mg_start (rsq_of ‹zTS5 _ _ _ _ _ _ _ _› ‹TKR _ _ _ _ _ _ _ _›) (by omega) ‹NMQ _ _ _ _ _ _› (by omega) (by assumption) (by assumption) (by assumption) (by omega) (by omega) (by omega) (by omega) (by omega) (by omega) (by omega) (by omega)
def o_Mo_groupItem_at_k2_16 : or_T := (108, 23, [(0, (2, 0, 0, [165])), (1, (0, 0, 7, [])), (2, (0, 2, 2, [])), (3, (0, 0, 2000, [])), (4, (2, 0, 0, [165])), (5, (0, 0, 7, [])), (6, (0, 2, 2, [])), (7, (0, 0, 7, [])), (8, (0, 0, 7, [])), (9, (0, 1, 2000, [])), (10, (0, 0, 2000, [])), (11, (0, 1, 2000, [])), (12, (2, 0, 0, [167])), (13, (0, 0, 66297, [])), (14, (0, 459, 459, [])), (15, (0, 459, 66756, [])), (16, (0, 8, 8, [])), (17, (0, 0, 56, [])), (18, (0, 459, 66812, [])), (19, (0, 459, 66819, [])), (20, (0, 0, 2007, [])), (21, (0, -1, -1, [])), (22, (0, 1, 8, []))], [(9, [13, 4], [5]), (9, [12, 4], [2]), (9, [10, 4], [15]), (9, [9, 4], [11]), (6, [22, 8], [1]), (20, [20, 4, 21], [50, 1, 1, 1010, 1001, 4, 11, 0, 6, 4, 2, 1, 0, 0, 1, 2, 1, 10, 1, 2, 1, 2, 9, 5, 3, 1, 1, 1, 0, 0, 256]), (20, [4, 20, 21], [50, 1, 0, 10, 4, 7, 0, 3, 2, 0, 10, 1, 1, 1, 2, 1, 2, 0, -1]), (20, [4, 4], [30, 0, 1, 1, 15, -1, 1, 11]), (20, [4], [50, 3, 0, 12, 11, 15, 2, 21, 4, 7, 1, 3, 2, 0, 12, 0, 1, 0, 3, 2, 0, 11, 4, 3, 2, 0, 15, 0, 8, 3, 7, 1, 3, 2, 0, 12, 0, 0, 0, 7, 4, 3, 2, 0, 15, 0, 1, 2, 0, 11]), (20, [3, 4], [30, -1, 1, 0, 0, -1, 1, 11]), (20, [4], [50, 1, 0, 12, 1, 3, 2, 0, 12, 0, 1]), (23, [5, 7], [-1, 1, -1]), (24, [0, 4], []), (24, [1, 5], []), (24, [2, 6], []), (100, [12, 19, 21], []), (20, [20, 4, 21], [50, 1, 1, 1010, 1001, 4, 11, 0, 6, 4, 2, 1, 0, 0, 1, 2, 1, 10, 1, 2, 1, 2, 9, 5, 3, 1, 1, 1, 0, 0, 256]), (20, [4, 20, 21], [50, 1, 0, 10, 4, 7, 0, 3, 2, 0, 10, 1, 1, 1, 2, 1, 2, 0, -1]), (1, [20, 10, 8], []), (1, [19, 18, 8], []), (1, [18, 15, 17], []), (3, [17, 16, 7], []), (1, [15, 13, 14], []), (7, [8, 11], [2]), (2, [11, 9, 10], []), (20, [4, 4], [30, 0, 1, 1, 15, -1, 1, 11]), (20, [4], [50, 3, 0, 12, 11, 15, 2, 21, 4, 7, 1, 3, 2, 0, 12, 0, 1, 0, 3, 2, 0, 11, 4, 3, 2, 0, 15, 0, 8, 3, 7, 1, 3, 2, 0, 12, 0, 0, 0, 7, 4, 3, 2, 0, 15, 0, 1, 2, 0, 11]), (20, [3, 4], [30, -1, 1, 0, 0, -1, 1, 11]), (20, [4], [50, 1, 0, 12, 1, 3, 2, 0, 12, 0, 1]), (20, [7, 4], [50, 1, 1, 1005, 1002, 0, 6, 4, 2, 1, 0, 0, 1, 3, 1, 2, 4, 3, 2, 1, 5, 0, 2]), (23, [5, 7], [-1, 1, -1]), (20, [4], [60, 1, 3, 199, 5, 2, 3, 4]), (20, [4, 7, 8, 5, 6], [60, 8, 2, 1006, 10, 11, 12, 13, 14, 15, 8, 5, 1, 2])], [], [], [(20, [7, 4], [50, 1, 1, 1005, 1002, 0, 6, 4, 2, 1, 0, 0, 1, 3, 1, 2, 4, 3, 2, 1, 5, 0, 2]), (20, [4], [60, 1, 3, 199, 5, 2, 3, 4]), (20, [4, 7, 22, 5, 6], [60, 8, 2, 1006, 10, 11, 12, 13, 14, 15, 8, 5, 1, 2])], [], [(22, 8, 1, 1), (22, 11, -4294967296, 0), (20, 8, 0, 2000), (20, 11, -4294967296, 1999), (20, 10, 0, 7), (19, 8, 459, 66812), (19, 11, -4294967296, 66811), (19, 18, 0, 7), (19, 17, 459, 66763), (19, 15, 0, 63), (19, 13, 459, 522), (18, 17, 459, 66756), (18, 15, 0, 56), (18, 13, 459, 515), (15, 13, 459, 459), (8, 11, -4294967296, -1), (11, 9, -2000, 0), (1, 5, -4294967296, 0), (5, 1, -4294967296, 0)])
theorem oo_Mo_groupItem_at_k2_16 {kA : Nat → ClassId} : or_ok PRD kA GG o_Mo_groupItem_at_k2_16 := by
  refine or_mk fun A ta ws vs hD hth hl => ?_
  intro t0 r0 t1 k1 t2 k2 t3 k3 t4 r4 t5 k5 t6 k6 t7 k7 t8 k8 t9 k9 t10 k10 t11 k11 t12 r12 t13 k13 t14 k14 t15 k15 t16 k16 t17 k17 t18 k18 t19 k19 t20 k20 t21 k21 t22 k22 d0 d1 d2 d3 d4 d5 d6 d7 d8 d9 d10 d11 d12 d13 d14 d15 d16 d17 d18 f0 f1 f2 f3 f4 f5 f6 f7 f8 f9 f10 f11 f12 f13 f14 ta1 w1 le1 s1 f16 f17 f18 f19 f20 f21 f22 f23 f24 f25 f26 f27 f28 f29 f30 f31 f32
  replace f0 := shm_110 f0
  replace f1 := shm_120 f1
  replace f2 := shm_177 f2
  replace f3 := shm_116 f3
  replace f4 := shm_4 f4
  replace f5 := shm_541 f5
  replace f6 := shm_542 f6
  replace f7 := shm_1437 f7
  replace f8 := shm_1438 f8
  replace f9 := shm_2005 f9
  replace f10 := shm_1890 f10
  replace f11 := shm_193 f11
  replace f12 := shm_5 f12
  replace f13 := shm_5 f13
  replace f14 := shm_5 f14
  have s1 : (∀ b j, w_el ws b j = if b = v_ad (n_v vs 12) ∧ j = (v_iv (n_v vs 19)).toNat then v_iv (n_v vs 21) else w_el w1 b j) ∧ ∀ b k, w_fd ws b k = w_fd w1 b k := s1.2
  replace f16 := shm_541 f16
  replace f17 := shm_542 f17
  replace f18 := shm_12 f18
  replace f19 := shm_12 f19
  replace f20 := shm_12 f20
  replace f21 := shm_38 f21
  rw [show v_iv (n_v vs 16) = 8 from by omega] at f21
  replace f22 := shm_12 f22
  replace f23 := shm_6 f23
  replace f24 := shm_14 f24
  replace f25 := shm_1437 f25
  replace f26 := shm_1438 f26
  replace f27 := shm_2005 f27
  replace f28 := shm_1890 f28
  replace f29 := shm_1009 f29
  replace f30 := shm_193 f30
  replace f31 := shm_980 f31
  replace f32 := shm_2175 f32
  have q4 : n_v vs 4 = n_v vs 0 := f12.symm
  have q5 : n_v vs 5 = n_v vs 1 := f13.symm
  have q6 : n_v vs 6 = n_v vs 2 := f14.symm
  simp only [q4, q5, q6] at f0 f1 f2 f3 f5 f6 f7 f8 f9 f10 f11 f16 f17 f25 f26 f27 f28 f29 f30 f31 f32
  have ar_0_1_1 : w_ar w1 (n_v vs 0) 1 = w_ar ws (n_v vs 0) 1 := congrArg v_ad (s1.2 _ _).symm
  have cr_0_1 := fdq_39 hD hth r0
  have ar_0_2_1 : w_ar w1 (n_v vs 0) 2 = w_ar ws (n_v vs 0) 2 := congrArg v_ad (s1.2 _ _).symm
  have cr_0_2 := fdq_10 hD hth r0
  have ar_0_3_1 : w_ar w1 (n_v vs 0) 3 = w_ar ws (n_v vs 0) 3 := congrArg v_ad (s1.2 _ _).symm
  have cr_0_3 := fdq_142 hD hth r0
  have ar_0_4_1 : w_ar w1 (n_v vs 0) 4 = w_ar ws (n_v vs 0) 4 := congrArg v_ad (s1.2 _ _).symm
  have cr_0_4 := fdq_143 hD hth r0
  have ad_12 : v_ad (n_v vs 12) = w_ar ws (n_v vs 0) 2 := congrArg v_ad f1
  have g0 : v_iv (n_v vs 13) = w_fi ws (n_v vs 0) 5 := congrArg v_iv f0
  have g2 : v_iv (n_v vs 10) = w_fi ws (n_v vs 0) 15 := congrArg v_iv f2
  have g3 : v_iv (n_v vs 9) = w_fi ws (n_v vs 0) 11 := congrArg v_iv f3
  simp only [ar_0_1_1, ar_0_2_1, ar_0_3_1, ar_0_4_1] at f16 f29 f31 f32
  have fe_0_5_1 : w_fi ws (n_v vs 0) 5 = w_fi w1 (n_v vs 0) 5 := congrArg v_iv (s1.2 _ _)
  have fe_0_8_1 : w_fi ws (n_v vs 0) 8 = w_fi w1 (n_v vs 0) 8 := congrArg v_iv (s1.2 _ _)
  have fe_0_10_1 : w_fi ws (n_v vs 0) 10 = w_fi w1 (n_v vs 0) 10 := congrArg v_iv (s1.2 _ _)
  have fe_0_11_1 : w_fi ws (n_v vs 0) 11 = w_fi w1 (n_v vs 0) 11 := congrArg v_iv (s1.2 _ _)
  have fe_0_12_1 : w_fi ws (n_v vs 0) 12 = w_fi w1 (n_v vs 0) 12 := congrArg v_iv (s1.2 _ _)
  have fe_0_13_1 : w_fi ws (n_v vs 0) 13 = w_fi w1 (n_v vs 0) 13 := congrArg v_iv (s1.2 _ _)
  have fe_0_14_1 : w_fi ws (n_v vs 0) 14 = w_fi w1 (n_v vs 0) 14 := congrArg v_iv (s1.2 _ _)
  have fe_0_15_1 : w_fi ws (n_v vs 0) 15 = w_fi w1 (n_v vs 0) 15 := congrArg v_iv (s1.2 _ _)
  have hE_0_1_1 : ∀ j : Int, w_ei ws (w_ar ws (n_v vs 0) 1) j = w_ei w1 (w_ar ws (n_v vs 0) 1) j := el_kp s1.1 r12 cr_0_1 (by decide)
  have hK_0_1 := elq_7 hD hth cr_0_1
  have hE_0_2_1 : ∀ j : Int, 0 ≤ j → (j = v_iv (n_v vs 19) → w_ei ws (w_ar ws (n_v vs 0) 2) j = v_iv (n_v vs 21)) ∧ (j ≠ v_iv (n_v vs 19) → w_ei ws (w_ar ws (n_v vs 0) 2) j = w_ei w1 (w_ar ws (n_v vs 0) 2) j) := fun j hj => ⟨fun h => by unfold w_ei; rw [s1.1, if_pos ⟨ad_12.symm, by rw [h]⟩], fun h => by unfold w_ei; rw [s1.1, if_neg (fun e => h (by have := e.2; omega))]⟩
  have hE_0_3_1 : ∀ j : Int, w_ei ws (w_ar ws (n_v vs 0) 3) j = w_ei w1 (w_ar ws (n_v vs 0) 3) j := el_kp s1.1 r12 cr_0_3 (by decide)
  have hK_0_3 := elq_80 hD hth cr_0_3
  have hE_0_4_1 : ∀ j : Int, w_ei ws (w_ar ws (n_v vs 0) 4) j = w_ei w1 (w_ar ws (n_v vs 0) 4) j := el_kp s1.1 r12 cr_0_4 (by decide)
  have hK_0_4 := elq_81 hD hth cr_0_4
  have kz_0_8 := fdq_34 hD hth r0
  have kz_0_10 := fdq_43 hD hth r0
  have kz_0_11 := fdq_237 hD hth r0
  have kz_0_12 := fdq_187 hD hth r0
  have kz_0_13 := fdq_238 hD hth r0
  have kz_0_14 := fdq_188 hD hth r0
  have kz_0_15 := fdq_239 hD hth r0
  first | have hJ0 : w_ei w1 (w_ar ws (n_v vs 0) 2) ((w_fi w1 (n_v vs 0) 5 + 2)) = w_ei w1 (w_ar ws (n_v vs 0) 2) ((w_fi ws (n_v vs 0) 5 + 2)) := congrArg _ (show ((w_fi w1 (n_v vs 0) 5 + 2) : Int) = (w_fi ws (n_v vs 0) 5 + 2) from by omega) | skip
  have hI1 := hE_0_1_1 (v_iv (n_v vs 20))
  first | have hI2 := (hE_0_2_1 ((w_fi ws (n_v vs 0) 5 + 2)) (by omega)).2 (by omega) | have hI2 := (hE_0_2_1 ((w_fi ws (n_v vs 0) 5 + 2)) (by omega)).1 (by omega) | skip
  have nf0 : fc_1 PRD (20, [7, 4], [50, 1, 1, 1005, 1002, 0, 6, 4, 2, 1, 0, 0, 1, 3, 1, 2, 4, 3, 2, 1, 5, 0, 2]) ws (vs) := by
    refine ⟨nf_in hl rfl, sgq_1009 ?_⟩
    · show (v_iv (n_v vs 7) + 1) ≤ w_ei ws (w_ar ws (n_v vs 4) 2) ((w_fi ws (n_v vs 4) 5 + 2))
      rw [q4]
      exact vc_Mo_groupItem_at_k2_16_0 (v_iv (n_v vs 7)) (v_iv (n_v vs 8)) (v_iv (n_v vs 13)) (v_iv (n_v vs 15)) (v_iv (n_v vs 17)) (v_iv (n_v vs 18)) (v_iv (n_v vs 19)) (v_iv (n_v vs 21)) (v_iv (n_v vs 22)) (w_fi ws (n_v vs 0) 5) (w_fi ws (n_v vs 0) 15) (w_fi ws (n_v vs 0) 11) (w_ei ws (w_ar ws (n_v vs 0) 1)) (w_fi ws (n_v vs 0) 10) (w_fi ws (n_v vs 0) 12) (w_ei w1 (w_ar ws (n_v vs 0) 1)) (w_fi w1 (n_v vs 0) 10) (w_fi w1 (n_v vs 0) 15) (w_fi w1 (n_v vs 0) 11) (w_fi w1 (n_v vs 0) 12) (w_ei w1 (w_ar ws (n_v vs 0) 2)) (w_fi w1 (n_v vs 0) 5) (w_ei w1 (w_ar ws (n_v vs 0) 3)) (w_ei w1 (w_ar ws (n_v vs 0) 4)) (w_fi w1 (n_v vs 0) 13) (w_fi w1 (n_v vs 0) 14) (w_fi w1 (n_v vs 0) 8) (w_fi ws (n_v vs 0) 8) (w_fi ws (n_v vs 0) 13) (w_fi ws (n_v vs 0) 14) (w_ei ws (w_ar ws (n_v vs 0) 2)) (w_ei ws (w_ar ws (n_v vs 0) 3)) (w_ei ws (w_ar ws (n_v vs 0) 4)) k7 k8 k13 k15 k17 k18 k19 k21 k22 d0 d9 d14 g0 f19 f20 f21 f29 fe_0_5_1 fe_0_8_1 fe_0_10_1 fe_0_11_1 fe_0_12_1 fe_0_13_1 fe_0_14_1 fe_0_15_1 hE_0_1_1 hE_0_2_1 hE_0_3_1 hE_0_4_1 kz_0_8 kz_0_10 kz_0_11 kz_0_12 kz_0_13 kz_0_14 kz_0_15
  have nf1 : fc_1 PRD (20, [4], [60, 1, 3, 199, 5, 2, 3, 4]) ws (vs) := by
    refine ⟨nf_in hl rfl, sgq_980 ?_⟩
    · show RWS (w_fi ws (n_v vs 4) 5) (w_ei ws (w_ar ws (n_v vs 4) 2)) (w_ei ws (w_ar ws (n_v vs 4) 3)) (w_ei ws (w_ar ws (n_v vs 4) 4))
      rw [q4]
      exact vc_Mo_groupItem_at_k2_16_1 (v_iv (n_v vs 7)) (v_iv (n_v vs 8)) (v_iv (n_v vs 13)) (v_iv (n_v vs 15)) (v_iv (n_v vs 17)) (v_iv (n_v vs 18)) (v_iv (n_v vs 19)) (v_iv (n_v vs 21)) (v_iv (n_v vs 22)) (w_fi ws (n_v vs 0) 5) (w_fi ws (n_v vs 0) 15) (w_fi ws (n_v vs 0) 11) (w_ei ws (w_ar ws (n_v vs 0) 1)) (w_fi ws (n_v vs 0) 10) (w_fi ws (n_v vs 0) 12) (w_ei w1 (w_ar ws (n_v vs 0) 1)) (w_fi w1 (n_v vs 0) 10) (w_fi w1 (n_v vs 0) 15) (w_fi w1 (n_v vs 0) 11) (w_fi w1 (n_v vs 0) 12) (w_ei w1 (w_ar ws (n_v vs 0) 2)) (w_fi w1 (n_v vs 0) 5) (w_ei w1 (w_ar ws (n_v vs 0) 3)) (w_ei w1 (w_ar ws (n_v vs 0) 4)) (w_fi w1 (n_v vs 0) 13) (w_fi w1 (n_v vs 0) 14) (w_fi w1 (n_v vs 0) 8) (w_fi ws (n_v vs 0) 8) (w_fi ws (n_v vs 0) 13) (w_fi ws (n_v vs 0) 14) (w_ei ws (w_ar ws (n_v vs 0) 2)) (w_ei ws (w_ar ws (n_v vs 0) 3)) (w_ei ws (w_ar ws (n_v vs 0) 4)) k7 k8 k13 k15 k17 k18 k19 k21 k22 d0 d9 d14 g0 f19 f20 f21 f31 fe_0_5_1 fe_0_8_1 fe_0_10_1 fe_0_11_1 fe_0_12_1 fe_0_13_1 fe_0_14_1 fe_0_15_1 hE_0_1_1 hE_0_2_1 hE_0_3_1 hE_0_4_1 kz_0_8 kz_0_10 kz_0_11 kz_0_12 kz_0_13 kz_0_14 kz_0_15
  have nf2 : fc_1 PRD (20, [4, 7, 22, 5, 6], [60, 8, 2, 1006, 10, 11, 12, 13, 14, 15, 8, 5, 1, 2]) ws (vs) := by
    refine ⟨nf_in hl rfl, sgq_2175 ?_⟩
    · show zMG (w_fi ws (n_v vs 4) 10) (w_fi ws (n_v vs 4) 11) (w_fi ws (n_v vs 4) 12) (w_fi ws (n_v vs 4) 13) (w_fi ws (n_v vs 4) 14) (w_fi ws (n_v vs 4) 15) (w_fi ws (n_v vs 4) 8) (w_fi ws (n_v vs 4) 5) (w_ei ws (w_ar ws (n_v vs 4) 1)) (w_ei ws (w_ar ws (n_v vs 4) 2)) (v_iv (n_v vs 7)) (v_iv (n_v vs 22)) (v_iv (n_v vs 5)) (v_iv (n_v vs 6))
      simp only [q4, q5, q6]
      exact vc_Mo_groupItem_at_k2_16_2 (v_iv (n_v vs 1)) (v_iv (n_v vs 2)) (v_iv (n_v vs 7)) (v_iv (n_v vs 8)) (v_iv (n_v vs 9)) (v_iv (n_v vs 10)) (v_iv (n_v vs 11)) (v_iv (n_v vs 13)) (v_iv (n_v vs 15)) (v_iv (n_v vs 17)) (v_iv (n_v vs 18)) (v_iv (n_v vs 19)) (v_iv (n_v vs 20)) (v_iv (n_v vs 21)) (v_iv (n_v vs 22)) (w_fi ws (n_v vs 0) 5) (w_fi ws (n_v vs 0) 15) (w_fi ws (n_v vs 0) 11) (w_ei ws (w_ar ws (n_v vs 0) 1)) (w_fi ws (n_v vs 0) 10) (w_fi ws (n_v vs 0) 12) (w_ei w1 (w_ar ws (n_v vs 0) 1)) (w_fi w1 (n_v vs 0) 10) (w_fi w1 (n_v vs 0) 15) (w_fi w1 (n_v vs 0) 11) (w_fi w1 (n_v vs 0) 12) (w_ei w1 (w_ar ws (n_v vs 0) 2)) (w_fi w1 (n_v vs 0) 5) (w_ei w1 (w_ar ws (n_v vs 0) 3)) (w_ei w1 (w_ar ws (n_v vs 0) 4)) (w_fi w1 (n_v vs 0) 13) (w_fi w1 (n_v vs 0) 14) (w_fi w1 (n_v vs 0) 8) (w_fi ws (n_v vs 0) 8) (w_fi ws (n_v vs 0) 13) (w_fi ws (n_v vs 0) 14) (w_ei ws (w_ar ws (n_v vs 0) 2)) (w_ei ws (w_ar ws (n_v vs 0) 3)) (w_ei ws (w_ar ws (n_v vs 0) 4)) k1 k2 k7 k8 k9 k10 k11 k13 k15 k17 k18 k19 k20 k21 k22 d0 d1 d4 d11 d14 d15 g0 g2 g3 f4 f16 f18 f19 f20 f21 f24 f32 fe_0_5_1 fe_0_8_1 fe_0_10_1 fe_0_11_1 fe_0_12_1 fe_0_13_1 fe_0_14_1 fe_0_15_1 hE_0_1_1 hE_0_2_1 hE_0_3_1 hE_0_4_1 kz_0_8 kz_0_10 kz_0_11 kz_0_12 kz_0_13 kz_0_14 kz_0_15
  refine ⟨(fun _ h => (by cases h)), [], trivial, ?_, (fun _ h => (by cases h))⟩
  rw [List.append_nil]
  exact List.forall_mem_cons.mpr ⟨⟨show (20 : Nat) < 100 from by decide, nf0⟩, List.forall_mem_cons.mpr ⟨⟨show (20 : Nat) < 100 from by decide, nf1⟩, List.forall_mem_cons.mpr ⟨⟨show (20 : Nat) < 100 from by decide, nf2⟩, (fun _ h => (by cases h))⟩⟩⟩
def o_Mo_groupItem_at_k2_17 : or_T := (153, 22, [(7, (0, 0, 7, [])), (8, (0, 0, 7, [])), (13, (5, 0, 66297, [539])), (14, (0, 459, 459, [])), (15, (0, 459, 66756, [])), (16, (0, 8, 8, [])), (17, (0, 0, 56, [])), (18, (0, 459, 66812, [])), (19, (0, 459, 66819, [])), (21, (0, 0, 255, []))], [(1, [19, 18, 8], []), (1, [18, 15, 17], []), (3, [17, 16, 7], []), (1, [15, 13, 14], [])], [], [], [(18, [19, 21], [1])], [], [(19, 8, 459, 66812), (19, 18, 0, 7), (19, 17, 459, 66763), (19, 15, 0, 63), (19, 13, 459, 522), (18, 17, 459, 66756), (18, 15, 0, 56), (18, 13, 459, 515), (15, 13, 459, 459)])
theorem oo_Mo_groupItem_at_k2_17 {kA : Nat → ClassId} : or_ok PRD kA GG o_Mo_groupItem_at_k2_17 := by
  refine or_mk fun A ta ws vs hD hth hl => ?_
  intro t7 k7 t8 k8 t13 t14 k14 t15 k15 t16 k16 t17 k17 t18 k18 t19 k19 t21 k21 d0 d1 d2 d3 d4 d5 d6 d7 d8 f0 f1 f2 f3
  obtain ⟨k13, q13_⟩ : (0 ≤ v_iv (n_v vs 13) ∧ v_iv (n_v vs 13) ≤ 66297) ∧ ∃ q : Int, v_iv (n_v vs 13) = 539 * q := tv_dvk t13
  obtain ⟨q13, hq13⟩ := q13_
  replace f0 := shm_12 f0
  replace f1 := shm_12 f1
  replace f2 := shm_38 f2
  rw [show v_iv (n_v vs 16) = 8 from by omega] at f2
  replace f3 := shm_12 f3
  have nf0 : fc_1 PRD (18, [19, 21], [1]) ws (vs) := by
    refine ⟨nf_in hl rfl, sgq_1302 ?_⟩
    · show pl_ok 1 (v_iv (n_v vs 19)).toNat (v_iv (n_v vs 21))
      exact pl_in pl_M1 (lo := 459) (hi := 522) (a := 0) (b := 255) (by decide +kernel) (by omega) (by omega) (by omega) (by omega)
  refine ⟨(fun _ h => (by cases h)), [], trivial, ?_, (fun _ h => (by cases h))⟩
  rw [List.append_nil]
  exact List.forall_mem_cons.mpr ⟨⟨show (18 : Nat) < 100 from by decide, nf0⟩, (fun _ h => (by cases h))⟩
set_option maxHeartbeats 4000000 in
theorem vc_Mo_groupItem_at_k2_18_0 (x7 : Int) (x8 : Int) (x13 : Int) (x15 : Int) (x17 : Int) (x18 : Int) (x19 : Int) (x21 : Int) (x22 : Int) (r_0 : Int) (from_0 : Int) (pos_0 : Int) (tape_0 : Int → Int) (limit_0 : Int) (kind_0 : Int) (tape_1 : Int → Int) (limit_1 : Int) (from_1 : Int) (pos_1 : Int) (kind_1 : Int) (all_1 : Int → Int) (r_1 : Int) (now_1 : Int → Int) (latest_1 : Int → Int) (place_1 : Int) (value_1 : Int) (fault_1 : Int) (fault_0 : Int) (place_0 : Int) (value_0 : Int) (all_0 : Int → Int) (now_0 : Int → Int) (latest_0 : Int → Int) (k7 : 0 ≤ x7 ∧ x7 ≤ 7) (k8 : 0 ≤ x8 ∧ x8 ≤ 7) (k13 : 0 ≤ x13 ∧ x13 ≤ 66297) (k15 : 459 ≤ x15 ∧ x15 ≤ 66756) (k17 : 0 ≤ x17 ∧ x17 ≤ 56) (k18 : 459 ≤ x18 ∧ x18 ≤ 66812) (k19 : 459 ≤ x19 ∧ x19 ≤ 66819) (k21 : 0 ≤ x21 ∧ x21 ≤ 255) (k22 : 1 ≤ x22 ∧ x22 ≤ 8) (d0 : x8 + 1 ≤ x22 ∧ x22 ≤ x8 + 1) (d8 : x15 + 0 ≤ x19 ∧ x19 ≤ x15 + 63) (d13 : x13 + 459 ≤ x15 ∧ x15 ≤ x13 + 459) (g0 : x13 = r_0) (f19 : x19 = x18 + x8) (f20 : x18 = x15 + x17) (f21 : x17 = 8 * x7) (f29 : (x7 + 1) ≤ all_1 ((r_1 + 2))) (fe_0_5_1 : r_0 = r_1) (fe_0_8_1 : fault_0 = fault_1) (fe_0_10_1 : limit_0 = limit_1) (fe_0_11_1 : pos_0 = pos_1) (fe_0_12_1 : kind_0 = kind_1) (fe_0_13_1 : place_0 = place_1) (fe_0_14_1 : value_0 = value_1) (fe_0_15_1 : from_0 = from_1) (hE_0_1_1 : ∀ j : Int, tape_0 j = tape_1 j) (hE_0_2_1 : ∀ j : Int, 0 ≤ j → (j = x19 → all_0 j = x21) ∧ (j ≠ x19 → all_0 j = all_1 j)) (hE_0_3_1 : ∀ j : Int, now_0 j = now_1 j) (hE_0_4_1 : ∀ j : Int, latest_0 j = latest_1 j) (kz_0_8 : 0 ≤ fault_0 ∧ fault_0 ≤ 5) (kz_0_10 : 0 ≤ limit_0 ∧ limit_0 ≤ 2000) (kz_0_11 : 0 ≤ pos_0 ∧ pos_0 ≤ 2000) (kz_0_12 : 0 ≤ kind_0 ∧ kind_0 ≤ 4) (kz_0_13 : 0 ≤ place_0 ∧ place_0 ≤ 2000) (kz_0_14 : (-49) ≤ value_0 ∧ value_0 ≤ 1048575) (kz_0_15 : 0 ≤ from_0 ∧ from_0 ≤ 2000) : (x7 + 1) ≤ all_0 ((r_0 + 2)) := by
  subst fe_0_5_1
  subst fe_0_8_1
  subst fe_0_10_1
  subst fe_0_11_1
  subst fe_0_12_1
  subst fe_0_13_1
  subst fe_0_14_1
  subst fe_0_15_1
  have e_hE_0_1_1 := funext hE_0_1_1; subst e_hE_0_1_1
  have e_hE_0_3_1 := funext hE_0_3_1; subst e_hE_0_3_1
  have e_hE_0_4_1 := funext hE_0_4_1; subst e_hE_0_4_1
  first
    | omega
    | (have q1 := (hE_0_2_1 (r_0 + 2) (by omega)).2 (by omega)
       have q2 := (hE_0_2_2 (r_0 + 2) (by omega)).2 (by omega)
       omega)
    | (have q1 := (hE_0_2_1 (r_0 + 1) (by omega)).2 (by omega)
       have q2 := (hE_0_2_2 (r_0 + 1) (by omega)).2 (by omega)
       omega)
    | (have q1 := (hE_0_2_1 (r_0 + 2) (by omega)).2 (by omega)
       omega)
    | (have q1 := (hE_0_2_1 (r_0 + 1) (by omega)).2 (by omega)
       omega)
    | (have q1 := (hE_0_2_1 (r_0 + 2) (by omega)).2 (by omega)
       have q2 := (hE_0_2_2 (r_0 + 2) (by omega)).2 (by omega)
       have q3 := (hE_0_2_3 (r_0 + 2) (by omega)).1 (by omega)
       omega)
    | (have q1 := (hE_0_2_1 (r_0 + 2) (by omega)).2 (by omega)
       have q2 := (hE_0_2_2 (r_0 + 2) (by omega)).2 (by omega)
       have q3 := (hE_0_2_3 (r_0 + 2) (by omega)).2 (by omega)
       omega)
    | (have q1 := (hE_0_2_1 (r_0 + 2) (by omega)).2 (by omega)
       have q2 := (hE_0_2_2 (r_0 + 2) (by omega)).2 (by omega)
       have q3 := (hE_0_2_3 (r_0 + 2) (by omega)).1 (by omega)
       have q4 : x13 = r_0 + 2 := by omega
       simp only [q4] at *
       omega)
set_option maxHeartbeats 4000000 in
theorem vc_Mo_groupItem_at_k2_18_1 (x7 : Int) (x8 : Int) (x13 : Int) (x15 : Int) (x17 : Int) (x18 : Int) (x19 : Int) (x21 : Int) (x22 : Int) (r_0 : Int) (from_0 : Int) (pos_0 : Int) (tape_0 : Int → Int) (limit_0 : Int) (kind_0 : Int) (tape_1 : Int → Int) (limit_1 : Int) (from_1 : Int) (pos_1 : Int) (kind_1 : Int) (all_1 : Int → Int) (r_1 : Int) (now_1 : Int → Int) (latest_1 : Int → Int) (place_1 : Int) (value_1 : Int) (fault_1 : Int) (fault_0 : Int) (place_0 : Int) (value_0 : Int) (all_0 : Int → Int) (now_0 : Int → Int) (latest_0 : Int → Int) (k7 : 0 ≤ x7 ∧ x7 ≤ 7) (k8 : 0 ≤ x8 ∧ x8 ≤ 7) (k13 : 0 ≤ x13 ∧ x13 ≤ 66297) (k15 : 459 ≤ x15 ∧ x15 ≤ 66756) (k17 : 0 ≤ x17 ∧ x17 ≤ 56) (k18 : 459 ≤ x18 ∧ x18 ≤ 66812) (k19 : 459 ≤ x19 ∧ x19 ≤ 66819) (k21 : 0 ≤ x21 ∧ x21 ≤ 255) (k22 : 1 ≤ x22 ∧ x22 ≤ 8) (d0 : x8 + 1 ≤ x22 ∧ x22 ≤ x8 + 1) (d8 : x15 + 0 ≤ x19 ∧ x19 ≤ x15 + 63) (d13 : x13 + 459 ≤ x15 ∧ x15 ≤ x13 + 459) (g0 : x13 = r_0) (f19 : x19 = x18 + x8) (f20 : x18 = x15 + x17) (f21 : x17 = 8 * x7) (f31 : RWS (r_1) (all_1) (now_1) (latest_1)) (fe_0_5_1 : r_0 = r_1) (fe_0_8_1 : fault_0 = fault_1) (fe_0_10_1 : limit_0 = limit_1) (fe_0_11_1 : pos_0 = pos_1) (fe_0_12_1 : kind_0 = kind_1) (fe_0_13_1 : place_0 = place_1) (fe_0_14_1 : value_0 = value_1) (fe_0_15_1 : from_0 = from_1) (hE_0_1_1 : ∀ j : Int, tape_0 j = tape_1 j) (hE_0_2_1 : ∀ j : Int, 0 ≤ j → (j = x19 → all_0 j = x21) ∧ (j ≠ x19 → all_0 j = all_1 j)) (hE_0_3_1 : ∀ j : Int, now_0 j = now_1 j) (hE_0_4_1 : ∀ j : Int, latest_0 j = latest_1 j) (kz_0_8 : 0 ≤ fault_0 ∧ fault_0 ≤ 5) (kz_0_10 : 0 ≤ limit_0 ∧ limit_0 ≤ 2000) (kz_0_11 : 0 ≤ pos_0 ∧ pos_0 ≤ 2000) (kz_0_12 : 0 ≤ kind_0 ∧ kind_0 ≤ 4) (kz_0_13 : 0 ≤ place_0 ∧ place_0 ≤ 2000) (kz_0_14 : (-49) ≤ value_0 ∧ value_0 ≤ 1048575) (kz_0_15 : 0 ≤ from_0 ∧ from_0 ≤ 2000) : RWS (r_0) (all_0) (now_0) (latest_0) := by
  subst fe_0_5_1
  subst fe_0_8_1
  subst fe_0_10_1
  subst fe_0_11_1
  subst fe_0_12_1
  subst fe_0_13_1
  subst fe_0_14_1
  subst fe_0_15_1
  have e_hE_0_1_1 := funext hE_0_1_1; subst e_hE_0_1_1
  have e_hE_0_3_1 := funext hE_0_3_1; subst e_hE_0_3_1
  have e_hE_0_4_1 := funext hE_0_4_1; subst e_hE_0_4_1
  first
    | (have hr := rws_r ‹RWS _ _ _ _›
       exact rws_off (rws_off (rws_off ‹RWS _ _ _ _› (by assumption) (by omega)) (by assumption) (by omega)) (by assumption) (by omega))
    | (have hr := rws_r ‹RWS _ _ _ _›
       exact rws_off ‹RWS _ _ _ _› (by assumption) (by omega))
set_option maxHeartbeats 4000000 in
theorem vc_Mo_groupItem_at_k2_18_2 (x1 : Int) (x2 : Int) (x7 : Int) (x8 : Int) (x9 : Int) (x10 : Int) (x11 : Int) (x13 : Int) (x15 : Int) (x17 : Int) (x18 : Int) (x19 : Int) (x20 : Int) (x21 : Int) (x22 : Int) (r_0 : Int) (from_0 : Int) (pos_0 : Int) (tape_0 : Int → Int) (limit_0 : Int) (kind_0 : Int) (tape_1 : Int → Int) (limit_1 : Int) (from_1 : Int) (pos_1 : Int) (kind_1 : Int) (all_1 : Int → Int) (r_1 : Int) (now_1 : Int → Int) (latest_1 : Int → Int) (place_1 : Int) (value_1 : Int) (fault_1 : Int) (fault_0 : Int) (place_0 : Int) (value_0 : Int) (all_0 : Int → Int) (now_0 : Int → Int) (latest_0 : Int → Int) (k1 : 0 ≤ x1 ∧ x1 ≤ 7) (k2 : 2 ≤ x2 ∧ x2 ≤ 2) (k7 : 0 ≤ x7 ∧ x7 ≤ 7) (k8 : 0 ≤ x8 ∧ x8 ≤ 7) (k9 : 1 ≤ x9 ∧ x9 ≤ 2000) (k10 : 0 ≤ x10 ∧ x10 ≤ 1999) (k11 : 1 ≤ x11 ∧ x11 ≤ 2000) (k13 : 0 ≤ x13 ∧ x13 ≤ 66297) (k15 : 459 ≤ x15 ∧ x15 ≤ 66756) (k17 : 0 ≤ x17 ∧ x17 ≤ 56) (k18 : 459 ≤ x18 ∧ x18 ≤ 66812) (k19 : 459 ≤ x19 ∧ x19 ≤ 66819) (k20 : 0 ≤ x20 ∧ x20 ≤ 1999) (k21 : 0 ≤ x21 ∧ x21 ≤ 255) (k22 : 1 ≤ x22 ∧ x22 ≤ 8) (d0 : x8 + 1 ≤ x22 ∧ x22 ≤ x8 + 1) (d1 : x11 + (-4294967296) ≤ x22 ∧ x22 ≤ x11 + 0) (d3 : x10 + 0 ≤ x20 ∧ x20 ≤ x10 + 7) (d10 : x17 + 459 ≤ x18 ∧ x18 ≤ x17 + 66756) (d13 : x13 + 459 ≤ x15 ∧ x15 ≤ x13 + 459) (d14 : x11 + (-4294967296) ≤ x8 ∧ x8 ≤ x11 + (-1)) (g0 : x13 = r_0) (g2 : x10 = from_0) (g3 : x9 = pos_0) (f4 : x22 = x8 + 1) (f16 : ((x20 + 1) ≤ limit_1) → (x21 = (tape_1 (x20) % 256))) (f18 : x20 = x10 + x8) (f19 : x19 = x18 + x8) (f20 : x18 = x15 + x17) (f21 : x17 = 8 * x7) (f24 : x11 = x9 - x10) (f32 : zMG (limit_1) (pos_1) (kind_1) (place_1) (value_1) (from_1) (fault_1) (r_1) (tape_1) (all_1) (x7) (x8) (x1) (x2)) (fe_0_5_1 : r_0 = r_1) (fe_0_8_1 : fault_0 = fault_1) (fe_0_10_1 : limit_0 = limit_1) (fe_0_11_1 : pos_0 = pos_1) (fe_0_12_1 : kind_0 = kind_1) (fe_0_13_1 : place_0 = place_1) (fe_0_14_1 : value_0 = value_1) (fe_0_15_1 : from_0 = from_1) (hE_0_1_1 : ∀ j : Int, tape_0 j = tape_1 j) (hE_0_2_1 : ∀ j : Int, 0 ≤ j → (j = x19 → all_0 j = x21) ∧ (j ≠ x19 → all_0 j = all_1 j)) (hE_0_3_1 : ∀ j : Int, now_0 j = now_1 j) (hE_0_4_1 : ∀ j : Int, latest_0 j = latest_1 j) (kz_0_8 : 0 ≤ fault_0 ∧ fault_0 ≤ 5) (kz_0_10 : 0 ≤ limit_0 ∧ limit_0 ≤ 2000) (kz_0_11 : 0 ≤ pos_0 ∧ pos_0 ≤ 2000) (kz_0_12 : 0 ≤ kind_0 ∧ kind_0 ≤ 4) (kz_0_13 : 0 ≤ place_0 ∧ place_0 ≤ 2000) (kz_0_14 : (-49) ≤ value_0 ∧ value_0 ≤ 1048575) (kz_0_15 : 0 ≤ from_0 ∧ from_0 ≤ 2000) : zMG (limit_0) (pos_0) (kind_0) (place_0) (value_0) (from_0) (fault_0) (r_0) (tape_0) (all_0) (x7) (x22) (x1) (x2) := by
  subst fe_0_5_1
  subst fe_0_8_1
  subst fe_0_10_1
  subst fe_0_11_1
  subst fe_0_12_1
  subst fe_0_13_1
  subst fe_0_14_1
  subst fe_0_15_1
  have e_hE_0_1_1 := funext hE_0_1_1; subst e_hE_0_1_1
  have e_hE_0_3_1 := funext hE_0_3_1; subst e_hE_0_3_1
  have e_hE_0_4_1 := funext hE_0_4_1; subst e_hE_0_4_1
  first | subst g0 | skip
  first | subst g2 | skip
  first | subst g3 | skip
  first
    | exact mg_step ‹zMG _ _ _ _ _ _ _ _ _ _ _ _ _ _› (by omega) (by assumption) (by omega) (tk_byte (mg_tk ‹zMG _ _ _ _ _ _ _ _ _ _ _ _ _ _›) (by assumption) (by omega) (by omega) (by omega)) (by omega) (by omega)
    | exact mg_start (rsq_of ‹zTS5 _ _ _ _ _ _ _ _› ‹TKR _ _ _ _ _ _ _ _›) (by omega) ‹NMQ _ _ _ _ _ _› (by omega) (by assumption) (by assumption) (by assumption) (by omega) (by omega) (by omega) (by omega) (by omega) (by omega) (by omega) (by omega)
def o_Mo_groupItem_at_k2_18 : or_T := (108, 23, [(0, (2, 0, 0, [165])), (1, (0, 0, 7, [])), (2, (0, 2, 2, [])), (3, (0, 0, 2000, [])), (4, (2, 0, 0, [165])), (5, (0, 0, 7, [])), (6, (0, 2, 2, [])), (7, (0, 0, 7, [])), (8, (0, 0, 7, [])), (9, (0, 1, 2000, [])), (10, (0, 0, 1999, [])), (11, (0, 1, 2000, [])), (12, (2, 0, 0, [167])), (13, (0, 0, 66297, [])), (14, (0, 459, 459, [])), (15, (0, 459, 66756, [])), (16, (0, 8, 8, [])), (17, (0, 0, 56, [])), (18, (0, 459, 66812, [])), (19, (0, 459, 66819, [])), (20, (0, 0, 1999, [])), (21, (0, 0, 255, [])), (22, (0, 1, 8, []))], [(9, [13, 4], [5]), (9, [12, 4], [2]), (9, [10, 4], [15]), (9, [9, 4], [11]), (6, [22, 8], [1]), (20, [20, 4, 21], [50, 1, 1, 1010, 1001, 4, 11, 0, 6, 4, 2, 1, 0, 0, 1, 2, 1, 10, 1, 2, 1, 2, 9, 5, 3, 1, 1, 1, 0, 0, 256]), (20, [4, 20, 21], [50, 1, 0, 10, 4, 7, 0, 3, 2, 0, 10, 1, 1, 1, 2, 1, 2, 0, -1]), (20, [4, 4], [30, 0, 1, 1, 15, -1, 1, 11]), (20, [4], [50, 3, 0, 12, 11, 15, 2, 21, 4, 7, 1, 3, 2, 0, 12, 0, 1, 0, 3, 2, 0, 11, 4, 3, 2, 0, 15, 0, 8, 3, 7, 1, 3, 2, 0, 12, 0, 0, 0, 7, 4, 3, 2, 0, 15, 0, 1, 2, 0, 11]), (20, [3, 4], [30, -1, 1, 0, 0, -1, 1, 11]), (20, [4], [50, 1, 0, 12, 1, 3, 2, 0, 12, 0, 1]), (23, [5, 7], [-1, 1, -1]), (24, [0, 4], []), (24, [1, 5], []), (24, [2, 6], []), (100, [12, 19, 21], []), (20, [20, 4, 21], [50, 1, 1, 1010, 1001, 4, 11, 0, 6, 4, 2, 1, 0, 0, 1, 2, 1, 10, 1, 2, 1, 2, 9, 5, 3, 1, 1, 1, 0, 0, 256]), (20, [4, 20, 21], [50, 1, 0, 10, 4, 7, 0, 3, 2, 0, 10, 1, 1, 1, 2, 1, 2, 0, -1]), (1, [20, 10, 8], []), (1, [19, 18, 8], []), (1, [18, 15, 17], []), (3, [17, 16, 7], []), (1, [15, 13, 14], []), (7, [8, 11], [2]), (2, [11, 9, 10], []), (20, [4, 4], [30, 0, 1, 1, 15, -1, 1, 11]), (20, [4], [50, 3, 0, 12, 11, 15, 2, 21, 4, 7, 1, 3, 2, 0, 12, 0, 1, 0, 3, 2, 0, 11, 4, 3, 2, 0, 15, 0, 8, 3, 7, 1, 3, 2, 0, 12, 0, 0, 0, 7, 4, 3, 2, 0, 15, 0, 1, 2, 0, 11]), (20, [3, 4], [30, -1, 1, 0, 0, -1, 1, 11]), (20, [4], [50, 1, 0, 12, 1, 3, 2, 0, 12, 0, 1]), (20, [7, 4], [50, 1, 1, 1005, 1002, 0, 6, 4, 2, 1, 0, 0, 1, 3, 1, 2, 4, 3, 2, 1, 5, 0, 2]), (23, [5, 7], [-1, 1, -1]), (20, [4], [60, 1, 3, 199, 5, 2, 3, 4]), (20, [4, 7, 8, 5, 6], [60, 8, 2, 1006, 10, 11, 12, 13, 14, 15, 8, 5, 1, 2])], [], [], [(20, [7, 4], [50, 1, 1, 1005, 1002, 0, 6, 4, 2, 1, 0, 0, 1, 3, 1, 2, 4, 3, 2, 1, 5, 0, 2]), (20, [4], [60, 1, 3, 199, 5, 2, 3, 4]), (20, [4, 7, 22, 5, 6], [60, 8, 2, 1006, 10, 11, 12, 13, 14, 15, 8, 5, 1, 2])], [], [(22, 8, 1, 1), (22, 11, -4294967296, 0), (20, 8, 0, 2000), (20, 10, 0, 7), (19, 8, 459, 66812), (19, 11, -4294967296, 66811), (19, 18, 0, 7), (19, 17, 459, 66763), (19, 15, 0, 63), (19, 13, 459, 522), (18, 17, 459, 66756), (18, 15, 0, 56), (18, 13, 459, 515), (15, 13, 459, 459), (8, 11, -4294967296, -1), (11, 9, -2000, 0), (1, 5, -4294967296, 0), (5, 1, -4294967296, 0)])
theorem oo_Mo_groupItem_at_k2_18 {kA : Nat → ClassId} : or_ok PRD kA GG o_Mo_groupItem_at_k2_18 := by
  refine or_mk fun A ta ws vs hD hth hl => ?_
  intro t0 r0 t1 k1 t2 k2 t3 k3 t4 r4 t5 k5 t6 k6 t7 k7 t8 k8 t9 k9 t10 k10 t11 k11 t12 r12 t13 k13 t14 k14 t15 k15 t16 k16 t17 k17 t18 k18 t19 k19 t20 k20 t21 k21 t22 k22 d0 d1 d2 d3 d4 d5 d6 d7 d8 d9 d10 d11 d12 d13 d14 d15 d16 d17 f0 f1 f2 f3 f4 f5 f6 f7 f8 f9 f10 f11 f12 f13 f14 ta1 w1 le1 s1 f16 f17 f18 f19 f20 f21 f22 f23 f24 f25 f26 f27 f28 f29 f30 f31 f32
  replace f0 := shm_110 f0
  replace f1 := shm_120 f1
  replace f2 := shm_177 f2
  replace f3 := shm_116 f3
  replace f4 := shm_4 f4
  replace f5 := shm_541 f5
  replace f6 := shm_542 f6
  replace f7 := shm_1437 f7
  replace f8 := shm_1438 f8
  replace f9 := shm_2005 f9
  replace f10 := shm_1890 f10
  replace f11 := shm_193 f11
  replace f12 := shm_5 f12
  replace f13 := shm_5 f13
  replace f14 := shm_5 f14
  have s1 : (∀ b j, w_el ws b j = if b = v_ad (n_v vs 12) ∧ j = (v_iv (n_v vs 19)).toNat then v_iv (n_v vs 21) else w_el w1 b j) ∧ ∀ b k, w_fd ws b k = w_fd w1 b k := s1.2
  replace f16 := shm_541 f16
  replace f17 := shm_542 f17
  replace f18 := shm_12 f18
  replace f19 := shm_12 f19
  replace f20 := shm_12 f20
  replace f21 := shm_38 f21
  rw [show v_iv (n_v vs 16) = 8 from by omega] at f21
  replace f22 := shm_12 f22
  replace f23 := shm_6 f23
  replace f24 := shm_14 f24
  replace f25 := shm_1437 f25
  replace f26 := shm_1438 f26
  replace f27 := shm_2005 f27
  replace f28 := shm_1890 f28
  replace f29 := shm_1009 f29
  replace f30 := shm_193 f30
  replace f31 := shm_980 f31
  replace f32 := shm_2175 f32
  have q4 : n_v vs 4 = n_v vs 0 := f12.symm
  have q5 : n_v vs 5 = n_v vs 1 := f13.symm
  have q6 : n_v vs 6 = n_v vs 2 := f14.symm
  simp only [q4, q5, q6] at f0 f1 f2 f3 f5 f6 f7 f8 f9 f10 f11 f16 f17 f25 f26 f27 f28 f29 f30 f31 f32
  have ar_0_1_1 : w_ar w1 (n_v vs 0) 1 = w_ar ws (n_v vs 0) 1 := congrArg v_ad (s1.2 _ _).symm
  have cr_0_1 := fdq_39 hD hth r0
  have ar_0_2_1 : w_ar w1 (n_v vs 0) 2 = w_ar ws (n_v vs 0) 2 := congrArg v_ad (s1.2 _ _).symm
  have cr_0_2 := fdq_10 hD hth r0
  have ar_0_3_1 : w_ar w1 (n_v vs 0) 3 = w_ar ws (n_v vs 0) 3 := congrArg v_ad (s1.2 _ _).symm
  have cr_0_3 := fdq_142 hD hth r0
  have ar_0_4_1 : w_ar w1 (n_v vs 0) 4 = w_ar ws (n_v vs 0) 4 := congrArg v_ad (s1.2 _ _).symm
  have cr_0_4 := fdq_143 hD hth r0
  have ad_12 : v_ad (n_v vs 12) = w_ar ws (n_v vs 0) 2 := congrArg v_ad f1
  have g0 : v_iv (n_v vs 13) = w_fi ws (n_v vs 0) 5 := congrArg v_iv f0
  have g2 : v_iv (n_v vs 10) = w_fi ws (n_v vs 0) 15 := congrArg v_iv f2
  have g3 : v_iv (n_v vs 9) = w_fi ws (n_v vs 0) 11 := congrArg v_iv f3
  simp only [ar_0_1_1, ar_0_2_1, ar_0_3_1, ar_0_4_1] at f16 f29 f31 f32
  have fe_0_5_1 : w_fi ws (n_v vs 0) 5 = w_fi w1 (n_v vs 0) 5 := congrArg v_iv (s1.2 _ _)
  have fe_0_8_1 : w_fi ws (n_v vs 0) 8 = w_fi w1 (n_v vs 0) 8 := congrArg v_iv (s1.2 _ _)
  have fe_0_10_1 : w_fi ws (n_v vs 0) 10 = w_fi w1 (n_v vs 0) 10 := congrArg v_iv (s1.2 _ _)
  have fe_0_11_1 : w_fi ws (n_v vs 0) 11 = w_fi w1 (n_v vs 0) 11 := congrArg v_iv (s1.2 _ _)
  have fe_0_12_1 : w_fi ws (n_v vs 0) 12 = w_fi w1 (n_v vs 0) 12 := congrArg v_iv (s1.2 _ _)
  have fe_0_13_1 : w_fi ws (n_v vs 0) 13 = w_fi w1 (n_v vs 0) 13 := congrArg v_iv (s1.2 _ _)
  have fe_0_14_1 : w_fi ws (n_v vs 0) 14 = w_fi w1 (n_v vs 0) 14 := congrArg v_iv (s1.2 _ _)
  have fe_0_15_1 : w_fi ws (n_v vs 0) 15 = w_fi w1 (n_v vs 0) 15 := congrArg v_iv (s1.2 _ _)
  have hE_0_1_1 : ∀ j : Int, w_ei ws (w_ar ws (n_v vs 0) 1) j = w_ei w1 (w_ar ws (n_v vs 0) 1) j := el_kp s1.1 r12 cr_0_1 (by decide)
  have hK_0_1 := elq_7 hD hth cr_0_1
  have hE_0_2_1 : ∀ j : Int, 0 ≤ j → (j = v_iv (n_v vs 19) → w_ei ws (w_ar ws (n_v vs 0) 2) j = v_iv (n_v vs 21)) ∧ (j ≠ v_iv (n_v vs 19) → w_ei ws (w_ar ws (n_v vs 0) 2) j = w_ei w1 (w_ar ws (n_v vs 0) 2) j) := fun j hj => ⟨fun h => by unfold w_ei; rw [s1.1, if_pos ⟨ad_12.symm, by rw [h]⟩], fun h => by unfold w_ei; rw [s1.1, if_neg (fun e => h (by have := e.2; omega))]⟩
  have hE_0_3_1 : ∀ j : Int, w_ei ws (w_ar ws (n_v vs 0) 3) j = w_ei w1 (w_ar ws (n_v vs 0) 3) j := el_kp s1.1 r12 cr_0_3 (by decide)
  have hK_0_3 := elq_80 hD hth cr_0_3
  have hE_0_4_1 : ∀ j : Int, w_ei ws (w_ar ws (n_v vs 0) 4) j = w_ei w1 (w_ar ws (n_v vs 0) 4) j := el_kp s1.1 r12 cr_0_4 (by decide)
  have hK_0_4 := elq_81 hD hth cr_0_4
  have kz_0_8 := fdq_34 hD hth r0
  have kz_0_10 := fdq_43 hD hth r0
  have kz_0_11 := fdq_237 hD hth r0
  have kz_0_12 := fdq_187 hD hth r0
  have kz_0_13 := fdq_238 hD hth r0
  have kz_0_14 := fdq_188 hD hth r0
  have kz_0_15 := fdq_239 hD hth r0
  first | have hJ0 : w_ei w1 (w_ar ws (n_v vs 0) 2) ((w_fi w1 (n_v vs 0) 5 + 2)) = w_ei w1 (w_ar ws (n_v vs 0) 2) ((w_fi ws (n_v vs 0) 5 + 2)) := congrArg _ (show ((w_fi w1 (n_v vs 0) 5 + 2) : Int) = (w_fi ws (n_v vs 0) 5 + 2) from by omega) | skip
  have hI1 := hE_0_1_1 (v_iv (n_v vs 20))
  first | have hI2 := (hE_0_2_1 ((w_fi ws (n_v vs 0) 5 + 2)) (by omega)).2 (by omega) | have hI2 := (hE_0_2_1 ((w_fi ws (n_v vs 0) 5 + 2)) (by omega)).1 (by omega) | skip
  have nf0 : fc_1 PRD (20, [7, 4], [50, 1, 1, 1005, 1002, 0, 6, 4, 2, 1, 0, 0, 1, 3, 1, 2, 4, 3, 2, 1, 5, 0, 2]) ws (vs) := by
    refine ⟨nf_in hl rfl, sgq_1009 ?_⟩
    · show (v_iv (n_v vs 7) + 1) ≤ w_ei ws (w_ar ws (n_v vs 4) 2) ((w_fi ws (n_v vs 4) 5 + 2))
      rw [q4]
      exact vc_Mo_groupItem_at_k2_18_0 (v_iv (n_v vs 7)) (v_iv (n_v vs 8)) (v_iv (n_v vs 13)) (v_iv (n_v vs 15)) (v_iv (n_v vs 17)) (v_iv (n_v vs 18)) (v_iv (n_v vs 19)) (v_iv (n_v vs 21)) (v_iv (n_v vs 22)) (w_fi ws (n_v vs 0) 5) (w_fi ws (n_v vs 0) 15) (w_fi ws (n_v vs 0) 11) (w_ei ws (w_ar ws (n_v vs 0) 1)) (w_fi ws (n_v vs 0) 10) (w_fi ws (n_v vs 0) 12) (w_ei w1 (w_ar ws (n_v vs 0) 1)) (w_fi w1 (n_v vs 0) 10) (w_fi w1 (n_v vs 0) 15) (w_fi w1 (n_v vs 0) 11) (w_fi w1 (n_v vs 0) 12) (w_ei w1 (w_ar ws (n_v vs 0) 2)) (w_fi w1 (n_v vs 0) 5) (w_ei w1 (w_ar ws (n_v vs 0) 3)) (w_ei w1 (w_ar ws (n_v vs 0) 4)) (w_fi w1 (n_v vs 0) 13) (w_fi w1 (n_v vs 0) 14) (w_fi w1 (n_v vs 0) 8) (w_fi ws (n_v vs 0) 8) (w_fi ws (n_v vs 0) 13) (w_fi ws (n_v vs 0) 14) (w_ei ws (w_ar ws (n_v vs 0) 2)) (w_ei ws (w_ar ws (n_v vs 0) 3)) (w_ei ws (w_ar ws (n_v vs 0) 4)) k7 k8 k13 k15 k17 k18 k19 k21 k22 d0 d8 d13 g0 f19 f20 f21 f29 fe_0_5_1 fe_0_8_1 fe_0_10_1 fe_0_11_1 fe_0_12_1 fe_0_13_1 fe_0_14_1 fe_0_15_1 hE_0_1_1 hE_0_2_1 hE_0_3_1 hE_0_4_1 kz_0_8 kz_0_10 kz_0_11 kz_0_12 kz_0_13 kz_0_14 kz_0_15
  have nf1 : fc_1 PRD (20, [4], [60, 1, 3, 199, 5, 2, 3, 4]) ws (vs) := by
    refine ⟨nf_in hl rfl, sgq_980 ?_⟩
    · show RWS (w_fi ws (n_v vs 4) 5) (w_ei ws (w_ar ws (n_v vs 4) 2)) (w_ei ws (w_ar ws (n_v vs 4) 3)) (w_ei ws (w_ar ws (n_v vs 4) 4))
      rw [q4]
      exact vc_Mo_groupItem_at_k2_18_1 (v_iv (n_v vs 7)) (v_iv (n_v vs 8)) (v_iv (n_v vs 13)) (v_iv (n_v vs 15)) (v_iv (n_v vs 17)) (v_iv (n_v vs 18)) (v_iv (n_v vs 19)) (v_iv (n_v vs 21)) (v_iv (n_v vs 22)) (w_fi ws (n_v vs 0) 5) (w_fi ws (n_v vs 0) 15) (w_fi ws (n_v vs 0) 11) (w_ei ws (w_ar ws (n_v vs 0) 1)) (w_fi ws (n_v vs 0) 10) (w_fi ws (n_v vs 0) 12) (w_ei w1 (w_ar ws (n_v vs 0) 1)) (w_fi w1 (n_v vs 0) 10) (w_fi w1 (n_v vs 0) 15) (w_fi w1 (n_v vs 0) 11) (w_fi w1 (n_v vs 0) 12) (w_ei w1 (w_ar ws (n_v vs 0) 2)) (w_fi w1 (n_v vs 0) 5) (w_ei w1 (w_ar ws (n_v vs 0) 3)) (w_ei w1 (w_ar ws (n_v vs 0) 4)) (w_fi w1 (n_v vs 0) 13) (w_fi w1 (n_v vs 0) 14) (w_fi w1 (n_v vs 0) 8) (w_fi ws (n_v vs 0) 8) (w_fi ws (n_v vs 0) 13) (w_fi ws (n_v vs 0) 14) (w_ei ws (w_ar ws (n_v vs 0) 2)) (w_ei ws (w_ar ws (n_v vs 0) 3)) (w_ei ws (w_ar ws (n_v vs 0) 4)) k7 k8 k13 k15 k17 k18 k19 k21 k22 d0 d8 d13 g0 f19 f20 f21 f31 fe_0_5_1 fe_0_8_1 fe_0_10_1 fe_0_11_1 fe_0_12_1 fe_0_13_1 fe_0_14_1 fe_0_15_1 hE_0_1_1 hE_0_2_1 hE_0_3_1 hE_0_4_1 kz_0_8 kz_0_10 kz_0_11 kz_0_12 kz_0_13 kz_0_14 kz_0_15
  have nf2 : fc_1 PRD (20, [4, 7, 22, 5, 6], [60, 8, 2, 1006, 10, 11, 12, 13, 14, 15, 8, 5, 1, 2]) ws (vs) := by
    refine ⟨nf_in hl rfl, sgq_2175 ?_⟩
    · show zMG (w_fi ws (n_v vs 4) 10) (w_fi ws (n_v vs 4) 11) (w_fi ws (n_v vs 4) 12) (w_fi ws (n_v vs 4) 13) (w_fi ws (n_v vs 4) 14) (w_fi ws (n_v vs 4) 15) (w_fi ws (n_v vs 4) 8) (w_fi ws (n_v vs 4) 5) (w_ei ws (w_ar ws (n_v vs 4) 1)) (w_ei ws (w_ar ws (n_v vs 4) 2)) (v_iv (n_v vs 7)) (v_iv (n_v vs 22)) (v_iv (n_v vs 5)) (v_iv (n_v vs 6))
      simp only [q4, q5, q6]
      exact vc_Mo_groupItem_at_k2_18_2 (v_iv (n_v vs 1)) (v_iv (n_v vs 2)) (v_iv (n_v vs 7)) (v_iv (n_v vs 8)) (v_iv (n_v vs 9)) (v_iv (n_v vs 10)) (v_iv (n_v vs 11)) (v_iv (n_v vs 13)) (v_iv (n_v vs 15)) (v_iv (n_v vs 17)) (v_iv (n_v vs 18)) (v_iv (n_v vs 19)) (v_iv (n_v vs 20)) (v_iv (n_v vs 21)) (v_iv (n_v vs 22)) (w_fi ws (n_v vs 0) 5) (w_fi ws (n_v vs 0) 15) (w_fi ws (n_v vs 0) 11) (w_ei ws (w_ar ws (n_v vs 0) 1)) (w_fi ws (n_v vs 0) 10) (w_fi ws (n_v vs 0) 12) (w_ei w1 (w_ar ws (n_v vs 0) 1)) (w_fi w1 (n_v vs 0) 10) (w_fi w1 (n_v vs 0) 15) (w_fi w1 (n_v vs 0) 11) (w_fi w1 (n_v vs 0) 12) (w_ei w1 (w_ar ws (n_v vs 0) 2)) (w_fi w1 (n_v vs 0) 5) (w_ei w1 (w_ar ws (n_v vs 0) 3)) (w_ei w1 (w_ar ws (n_v vs 0) 4)) (w_fi w1 (n_v vs 0) 13) (w_fi w1 (n_v vs 0) 14) (w_fi w1 (n_v vs 0) 8) (w_fi ws (n_v vs 0) 8) (w_fi ws (n_v vs 0) 13) (w_fi ws (n_v vs 0) 14) (w_ei ws (w_ar ws (n_v vs 0) 2)) (w_ei ws (w_ar ws (n_v vs 0) 3)) (w_ei ws (w_ar ws (n_v vs 0) 4)) k1 k2 k7 k8 k9 k10 k11 k13 k15 k17 k18 k19 k20 k21 k22 d0 d1 d3 d10 d13 d14 g0 g2 g3 f4 f16 f18 f19 f20 f21 f24 f32 fe_0_5_1 fe_0_8_1 fe_0_10_1 fe_0_11_1 fe_0_12_1 fe_0_13_1 fe_0_14_1 fe_0_15_1 hE_0_1_1 hE_0_2_1 hE_0_3_1 hE_0_4_1 kz_0_8 kz_0_10 kz_0_11 kz_0_12 kz_0_13 kz_0_14 kz_0_15
  refine ⟨(fun _ h => (by cases h)), [], trivial, ?_, (fun _ h => (by cases h))⟩
  rw [List.append_nil]
  exact List.forall_mem_cons.mpr ⟨⟨show (20 : Nat) < 100 from by decide, nf0⟩, List.forall_mem_cons.mpr ⟨⟨show (20 : Nat) < 100 from by decide, nf1⟩, List.forall_mem_cons.mpr ⟨⟨show (20 : Nat) < 100 from by decide, nf2⟩, (fun _ h => (by cases h))⟩⟩⟩
set_option maxHeartbeats 4000000 in
theorem vc_Mo_groupItem_at_k2_19_0 (x3 : Int) (r_0 : Int) (gx : Int) (k3 : 0 ≤ x3 ∧ x3 ≤ 2000) (ex2 : gx = x3) : 1 * gx + ((-1) * x3 + 0) ≤ 0 := by
  first
    | omega
    | (have q1 := (hE_0_2_1 (r_0 + 2) (by omega)).2 (by omega)
       have q2 := (hE_0_2_2 (r_0 + 2) (by omega)).2 (by omega)
       omega)
    | (have q1 := (hE_0_2_1 (r_0 + 1) (by omega)).2 (by omega)
       have q2 := (hE_0_2_2 (r_0 + 1) (by omega)).2 (by omega)
       omega)
    | (have q1 := (hE_0_2_1 (r_0 + 2) (by omega)).2 (by omega)
       omega)
    | (have q1 := (hE_0_2_1 (r_0 + 1) (by omega)).2 (by omega)
       omega)
    | (have q1 := (hE_0_2_1 (r_0 + 2) (by omega)).2 (by omega)
       have q2 := (hE_0_2_2 (r_0 + 2) (by omega)).2 (by omega)
       have q3 := (hE_0_2_3 (r_0 + 2) (by omega)).1 (by omega)
       omega)
    | (have q1 := (hE_0_2_1 (r_0 + 2) (by omega)).2 (by omega)
       have q2 := (hE_0_2_2 (r_0 + 2) (by omega)).2 (by omega)
       have q3 := (hE_0_2_3 (r_0 + 2) (by omega)).2 (by omega)
       omega)
    | (have q1 := (hE_0_2_1 (r_0 + 2) (by omega)).2 (by omega)
       have q2 := (hE_0_2_2 (r_0 + 2) (by omega)).2 (by omega)
       have q3 := (hE_0_2_3 (r_0 + 2) (by omega)).1 (by omega)
       have q4 : x13 = r_0 + 2 := by omega
       simp only [q4] at *
       omega)
set_option maxHeartbeats 4000000 in
theorem vc_Mo_groupItem_at_k2_19_1 (x3 : Int) (r_0 : Int) (gx : Int) (k3 : 0 ≤ x3 ∧ x3 ≤ 2000) (ex2 : gx = x3) : (-1) * gx + (1 * x3 + 0) ≤ 0 := by
  first
    | omega
    | (have q1 := (hE_0_2_1 (r_0 + 2) (by omega)).2 (by omega)
       have q2 := (hE_0_2_2 (r_0 + 2) (by omega)).2 (by omega)
       omega)
    | (have q1 := (hE_0_2_1 (r_0 + 1) (by omega)).2 (by omega)
       have q2 := (hE_0_2_2 (r_0 + 1) (by omega)).2 (by omega)
       omega)
    | (have q1 := (hE_0_2_1 (r_0 + 2) (by omega)).2 (by omega)
       omega)
    | (have q1 := (hE_0_2_1 (r_0 + 1) (by omega)).2 (by omega)
       omega)
    | (have q1 := (hE_0_2_1 (r_0 + 2) (by omega)).2 (by omega)
       have q2 := (hE_0_2_2 (r_0 + 2) (by omega)).2 (by omega)
       have q3 := (hE_0_2_3 (r_0 + 2) (by omega)).1 (by omega)
       omega)
    | (have q1 := (hE_0_2_1 (r_0 + 2) (by omega)).2 (by omega)
       have q2 := (hE_0_2_2 (r_0 + 2) (by omega)).2 (by omega)
       have q3 := (hE_0_2_3 (r_0 + 2) (by omega)).2 (by omega)
       omega)
    | (have q1 := (hE_0_2_1 (r_0 + 2) (by omega)).2 (by omega)
       have q2 := (hE_0_2_2 (r_0 + 2) (by omega)).2 (by omega)
       have q3 := (hE_0_2_3 (r_0 + 2) (by omega)).1 (by omega)
       have q4 : x13 = r_0 + 2 := by omega
       simp only [q4] at *
       omega)
set_option maxHeartbeats 4000000 in
theorem vc_Mo_groupItem_at_k2_19_2 (x1 : Int) (x5 : Int) (r_0 : Int) (gy : Int) (k1 : 0 ≤ x1 ∧ x1 ≤ 7) (k5 : 0 ≤ x5 ∧ x5 ≤ 7) (d0 : x5 + (-4294967296) ≤ x1 ∧ x1 ≤ x5 + 0) (d1 : x1 + (-4294967296) ≤ x5 ∧ x5 ≤ x1 + 0) (ey2 : gy = x1) : 1 * gy + ((-1) * x1 + 0) ≤ 0 := by
  first
    | omega
    | (have q1 := (hE_0_2_1 (r_0 + 2) (by omega)).2 (by omega)
       have q2 := (hE_0_2_2 (r_0 + 2) (by omega)).2 (by omega)
       omega)
    | (have q1 := (hE_0_2_1 (r_0 + 1) (by omega)).2 (by omega)
       have q2 := (hE_0_2_2 (r_0 + 1) (by omega)).2 (by omega)
       omega)
    | (have q1 := (hE_0_2_1 (r_0 + 2) (by omega)).2 (by omega)
       omega)
    | (have q1 := (hE_0_2_1 (r_0 + 1) (by omega)).2 (by omega)
       omega)
    | (have q1 := (hE_0_2_1 (r_0 + 2) (by omega)).2 (by omega)
       have q2 := (hE_0_2_2 (r_0 + 2) (by omega)).2 (by omega)
       have q3 := (hE_0_2_3 (r_0 + 2) (by omega)).1 (by omega)
       omega)
    | (have q1 := (hE_0_2_1 (r_0 + 2) (by omega)).2 (by omega)
       have q2 := (hE_0_2_2 (r_0 + 2) (by omega)).2 (by omega)
       have q3 := (hE_0_2_3 (r_0 + 2) (by omega)).2 (by omega)
       omega)
    | (have q1 := (hE_0_2_1 (r_0 + 2) (by omega)).2 (by omega)
       have q2 := (hE_0_2_2 (r_0 + 2) (by omega)).2 (by omega)
       have q3 := (hE_0_2_3 (r_0 + 2) (by omega)).1 (by omega)
       have q4 : x13 = r_0 + 2 := by omega
       simp only [q4] at *
       omega)
set_option maxHeartbeats 4000000 in
theorem vc_Mo_groupItem_at_k2_19_3 (x1 : Int) (x5 : Int) (r_0 : Int) (gy : Int) (k1 : 0 ≤ x1 ∧ x1 ≤ 7) (k5 : 0 ≤ x5 ∧ x5 ≤ 7) (d0 : x5 + (-4294967296) ≤ x1 ∧ x1 ≤ x5 + 0) (d1 : x1 + (-4294967296) ≤ x5 ∧ x5 ≤ x1 + 0) (ey2 : gy = x1) : (-1) * gy + (1 * x1 + 0) ≤ 0 := by
  first
    | omega
    | (have q1 := (hE_0_2_1 (r_0 + 2) (by omega)).2 (by omega)
       have q2 := (hE_0_2_2 (r_0 + 2) (by omega)).2 (by omega)
       omega)
    | (have q1 := (hE_0_2_1 (r_0 + 1) (by omega)).2 (by omega)
       have q2 := (hE_0_2_2 (r_0 + 1) (by omega)).2 (by omega)
       omega)
    | (have q1 := (hE_0_2_1 (r_0 + 2) (by omega)).2 (by omega)
       omega)
    | (have q1 := (hE_0_2_1 (r_0 + 1) (by omega)).2 (by omega)
       omega)
    | (have q1 := (hE_0_2_1 (r_0 + 2) (by omega)).2 (by omega)
       have q2 := (hE_0_2_2 (r_0 + 2) (by omega)).2 (by omega)
       have q3 := (hE_0_2_3 (r_0 + 2) (by omega)).1 (by omega)
       omega)
    | (have q1 := (hE_0_2_1 (r_0 + 2) (by omega)).2 (by omega)
       have q2 := (hE_0_2_2 (r_0 + 2) (by omega)).2 (by omega)
       have q3 := (hE_0_2_3 (r_0 + 2) (by omega)).2 (by omega)
       omega)
    | (have q1 := (hE_0_2_1 (r_0 + 2) (by omega)).2 (by omega)
       have q2 := (hE_0_2_2 (r_0 + 2) (by omega)).2 (by omega)
       have q3 := (hE_0_2_3 (r_0 + 2) (by omega)).1 (by omega)
       have q4 : x13 = r_0 + 2 := by omega
       simp only [q4] at *
       omega)
set_option maxHeartbeats 4000000 in
theorem vc_Mo_groupItem_at_k2_19_4 (x2 : Int) (r_0 : Int) (gu : Int) (k2 : 2 ≤ x2 ∧ x2 ≤ 2) (eu2 : gu = x2) : 1 * gu + ((-1) * x2 + 0) ≤ 0 := by
  first
    | omega
    | (have q1 := (hE_0_2_1 (r_0 + 2) (by omega)).2 (by omega)
       have q2 := (hE_0_2_2 (r_0 + 2) (by omega)).2 (by omega)
       omega)
    | (have q1 := (hE_0_2_1 (r_0 + 1) (by omega)).2 (by omega)
       have q2 := (hE_0_2_2 (r_0 + 1) (by omega)).2 (by omega)
       omega)
    | (have q1 := (hE_0_2_1 (r_0 + 2) (by omega)).2 (by omega)
       omega)
    | (have q1 := (hE_0_2_1 (r_0 + 1) (by omega)).2 (by omega)
       omega)
    | (have q1 := (hE_0_2_1 (r_0 + 2) (by omega)).2 (by omega)
       have q2 := (hE_0_2_2 (r_0 + 2) (by omega)).2 (by omega)
       have q3 := (hE_0_2_3 (r_0 + 2) (by omega)).1 (by omega)
       omega)
    | (have q1 := (hE_0_2_1 (r_0 + 2) (by omega)).2 (by omega)
       have q2 := (hE_0_2_2 (r_0 + 2) (by omega)).2 (by omega)
       have q3 := (hE_0_2_3 (r_0 + 2) (by omega)).2 (by omega)
       omega)
    | (have q1 := (hE_0_2_1 (r_0 + 2) (by omega)).2 (by omega)
       have q2 := (hE_0_2_2 (r_0 + 2) (by omega)).2 (by omega)
       have q3 := (hE_0_2_3 (r_0 + 2) (by omega)).1 (by omega)
       have q4 : x13 = r_0 + 2 := by omega
       simp only [q4] at *
       omega)
set_option maxHeartbeats 4000000 in
theorem vc_Mo_groupItem_at_k2_19_5 (x2 : Int) (r_0 : Int) (gu : Int) (k2 : 2 ≤ x2 ∧ x2 ≤ 2) (eu2 : gu = x2) : (-1) * gu + (1 * x2 + 0) ≤ 0 := by
  first
    | omega
    | (have q1 := (hE_0_2_1 (r_0 + 2) (by omega)).2 (by omega)
       have q2 := (hE_0_2_2 (r_0 + 2) (by omega)).2 (by omega)
       omega)
    | (have q1 := (hE_0_2_1 (r_0 + 1) (by omega)).2 (by omega)
       have q2 := (hE_0_2_2 (r_0 + 1) (by omega)).2 (by omega)
       omega)
    | (have q1 := (hE_0_2_1 (r_0 + 2) (by omega)).2 (by omega)
       omega)
    | (have q1 := (hE_0_2_1 (r_0 + 1) (by omega)).2 (by omega)
       omega)
    | (have q1 := (hE_0_2_1 (r_0 + 2) (by omega)).2 (by omega)
       have q2 := (hE_0_2_2 (r_0 + 2) (by omega)).2 (by omega)
       have q3 := (hE_0_2_3 (r_0 + 2) (by omega)).1 (by omega)
       omega)
    | (have q1 := (hE_0_2_1 (r_0 + 2) (by omega)).2 (by omega)
       have q2 := (hE_0_2_2 (r_0 + 2) (by omega)).2 (by omega)
       have q3 := (hE_0_2_3 (r_0 + 2) (by omega)).2 (by omega)
       omega)
    | (have q1 := (hE_0_2_1 (r_0 + 2) (by omega)).2 (by omega)
       have q2 := (hE_0_2_2 (r_0 + 2) (by omega)).2 (by omega)
       have q3 := (hE_0_2_3 (r_0 + 2) (by omega)).1 (by omega)
       have q4 : x13 = r_0 + 2 := by omega
       simp only [q4] at *
       omega)
set_option maxHeartbeats 4000000 in
theorem vc_Mo_groupItem_at_k2_19_6 (from_0 : Int) (pos_0 : Int) (r_0 : Int) (f2 : 1 * from_0 + ((-1) * pos_0 + 0) ≤ 0) (kz_0_11 : 0 ≤ pos_0 ∧ pos_0 ≤ 2000) (kz_0_15 : 0 ≤ from_0 ∧ from_0 ≤ 2000) : 1 * from_0 + ((-1) * pos_0 + 0) ≤ 0 := by
  first
    | omega
    | (have q1 := (hE_0_2_1 (r_0 + 2) (by omega)).2 (by omega)
       have q2 := (hE_0_2_2 (r_0 + 2) (by omega)).2 (by omega)
       omega)
    | (have q1 := (hE_0_2_1 (r_0 + 1) (by omega)).2 (by omega)
       have q2 := (hE_0_2_2 (r_0 + 1) (by omega)).2 (by omega)
       omega)
    | (have q1 := (hE_0_2_1 (r_0 + 2) (by omega)).2 (by omega)
       omega)
    | (have q1 := (hE_0_2_1 (r_0 + 1) (by omega)).2 (by omega)
       omega)
    | (have q1 := (hE_0_2_1 (r_0 + 2) (by omega)).2 (by omega)
       have q2 := (hE_0_2_2 (r_0 + 2) (by omega)).2 (by omega)
       have q3 := (hE_0_2_3 (r_0 + 2) (by omega)).1 (by omega)
       omega)
    | (have q1 := (hE_0_2_1 (r_0 + 2) (by omega)).2 (by omega)
       have q2 := (hE_0_2_2 (r_0 + 2) (by omega)).2 (by omega)
       have q3 := (hE_0_2_3 (r_0 + 2) (by omega)).2 (by omega)
       omega)
    | (have q1 := (hE_0_2_1 (r_0 + 2) (by omega)).2 (by omega)
       have q2 := (hE_0_2_2 (r_0 + 2) (by omega)).2 (by omega)
       have q3 := (hE_0_2_3 (r_0 + 2) (by omega)).1 (by omega)
       have q4 : x13 = r_0 + 2 := by omega
       simp only [q4] at *
       omega)
set_option maxHeartbeats 4000000 in
theorem vc_Mo_groupItem_at_k2_19_7 (from_0 : Int) (pos_0 : Int) (kind_0 : Int) (r_0 : Int) (f3 : ((kind_0 = 1) → (pos_0 ≤ (from_0 + 8))) ∧ ((kind_0 = 0) ∨ ((from_0 + 1) ≤ pos_0))) (kz_0_11 : 0 ≤ pos_0 ∧ pos_0 ≤ 2000) (kz_0_12 : 0 ≤ kind_0 ∧ kind_0 ≤ 4) (kz_0_15 : 0 ≤ from_0 ∧ from_0 ≤ 2000) : ((kind_0 = 1) → (pos_0 ≤ (from_0 + 8))) ∧ ((kind_0 = 0) ∨ ((from_0 + 1) ≤ pos_0)) := by
  first
    | omega
    | (have q1 := (hE_0_2_1 (r_0 + 2) (by omega)).2 (by omega)
       have q2 := (hE_0_2_2 (r_0 + 2) (by omega)).2 (by omega)
       omega)
    | (have q1 := (hE_0_2_1 (r_0 + 1) (by omega)).2 (by omega)
       have q2 := (hE_0_2_2 (r_0 + 1) (by omega)).2 (by omega)
       omega)
    | (have q1 := (hE_0_2_1 (r_0 + 2) (by omega)).2 (by omega)
       omega)
    | (have q1 := (hE_0_2_1 (r_0 + 1) (by omega)).2 (by omega)
       omega)
    | (have q1 := (hE_0_2_1 (r_0 + 2) (by omega)).2 (by omega)
       have q2 := (hE_0_2_2 (r_0 + 2) (by omega)).2 (by omega)
       have q3 := (hE_0_2_3 (r_0 + 2) (by omega)).1 (by omega)
       omega)
    | (have q1 := (hE_0_2_1 (r_0 + 2) (by omega)).2 (by omega)
       have q2 := (hE_0_2_2 (r_0 + 2) (by omega)).2 (by omega)
       have q3 := (hE_0_2_3 (r_0 + 2) (by omega)).2 (by omega)
       omega)
    | (have q1 := (hE_0_2_1 (r_0 + 2) (by omega)).2 (by omega)
       have q2 := (hE_0_2_2 (r_0 + 2) (by omega)).2 (by omega)
       have q3 := (hE_0_2_3 (r_0 + 2) (by omega)).1 (by omega)
       have q4 : x13 = r_0 + 2 := by omega
       simp only [q4] at *
       omega)
set_option maxHeartbeats 4000000 in
theorem vc_Mo_groupItem_at_k2_19_8 (x3 : Int) (pos_0 : Int) (r_0 : Int) (gx : Int) (k3 : 0 ≤ x3 ∧ x3 ≤ 2000) (f4 : 1 * x3 + ((-1) * pos_0 + 0) ≤ 0) (kz_0_11 : 0 ≤ pos_0 ∧ pos_0 ≤ 2000) (ex2 : gx = x3) : 1 * gx + ((-1) * pos_0 + 0) ≤ 0 := by
  first
    | omega
    | (have q1 := (hE_0_2_1 (r_0 + 2) (by omega)).2 (by omega)
       have q2 := (hE_0_2_2 (r_0 + 2) (by omega)).2 (by omega)
       omega)
    | (have q1 := (hE_0_2_1 (r_0 + 1) (by omega)).2 (by omega)
       have q2 := (hE_0_2_2 (r_0 + 1) (by omega)).2 (by omega)
       omega)
    | (have q1 := (hE_0_2_1 (r_0 + 2) (by omega)).2 (by omega)
       omega)
    | (have q1 := (hE_0_2_1 (r_0 + 1) (by omega)).2 (by omega)
       omega)
    | (have q1 := (hE_0_2_1 (r_0 + 2) (by omega)).2 (by omega)
       have q2 := (hE_0_2_2 (r_0 + 2) (by omega)).2 (by omega)
       have q3 := (hE_0_2_3 (r_0 + 2) (by omega)).1 (by omega)
       omega)
    | (have q1 := (hE_0_2_1 (r_0 + 2) (by omega)).2 (by omega)
       have q2 := (hE_0_2_2 (r_0 + 2) (by omega)).2 (by omega)
       have q3 := (hE_0_2_3 (r_0 + 2) (by omega)).2 (by omega)
       omega)
    | (have q1 := (hE_0_2_1 (r_0 + 2) (by omega)).2 (by omega)
       have q2 := (hE_0_2_2 (r_0 + 2) (by omega)).2 (by omega)
       have q3 := (hE_0_2_3 (r_0 + 2) (by omega)).1 (by omega)
       have q4 : x13 = r_0 + 2 := by omega
       simp only [q4] at *
       omega)
set_option maxHeartbeats 4000000 in
theorem vc_Mo_groupItem_at_k2_19_9 (x10 : Int) (fault_0 : Int) (pos_0 : Int) (kind_0 : Int) (r_0 : Int) (gx : Int) (k10 : 1 ≤ x10 ∧ x10 ≤ 5) (g1 : x10 = fault_0) (kz_0_8 : 0 ≤ fault_0 ∧ fault_0 ≤ 5) (kz_0_11 : 0 ≤ pos_0 ∧ pos_0 ≤ 2000) (kz_0_12 : 0 ≤ kind_0 ∧ kind_0 ≤ 4) : (1 ≤ fault_0) ∨ ((kind_0 = 0) ∨ ((gx + 1) ≤ pos_0)) := by
  first
    | omega
    | (have q1 := (hE_0_2_1 (r_0 + 2) (by omega)).2 (by omega)
       have q2 := (hE_0_2_2 (r_0 + 2) (by omega)).2 (by omega)
       omega)
    | (have q1 := (hE_0_2_1 (r_0 + 1) (by omega)).2 (by omega)
       have q2 := (hE_0_2_2 (r_0 + 1) (by omega)).2 (by omega)
       omega)
    | (have q1 := (hE_0_2_1 (r_0 + 2) (by omega)).2 (by omega)
       omega)
    | (have q1 := (hE_0_2_1 (r_0 + 1) (by omega)).2 (by omega)
       omega)
    | (have q1 := (hE_0_2_1 (r_0 + 2) (by omega)).2 (by omega)
       have q2 := (hE_0_2_2 (r_0 + 2) (by omega)).2 (by omega)
       have q3 := (hE_0_2_3 (r_0 + 2) (by omega)).1 (by omega)
       omega)
    | (have q1 := (hE_0_2_1 (r_0 + 2) (by omega)).2 (by omega)
       have q2 := (hE_0_2_2 (r_0 + 2) (by omega)).2 (by omega)
       have q3 := (hE_0_2_3 (r_0 + 2) (by omega)).2 (by omega)
       omega)
    | (have q1 := (hE_0_2_1 (r_0 + 2) (by omega)).2 (by omega)
       have q2 := (hE_0_2_2 (r_0 + 2) (by omega)).2 (by omega)
       have q3 := (hE_0_2_3 (r_0 + 2) (by omega)).1 (by omega)
       have q4 : x13 = r_0 + 2 := by omega
       simp only [q4] at *
       omega)
set_option maxHeartbeats 4000000 in
theorem vc_Mo_groupItem_at_k2_19_10 (x1 : Int) (x2 : Int) (x3 : Int) (x7 : Int) (x10 : Int) (fault_0 : Int) (from_0 : Int) (pos_0 : Int) (kind_0 : Int) (all_0 : Int → Int) (r_0 : Int) (tape_0 : Int → Int) (limit_0 : Int) (place_0 : Int) (value_0 : Int) (faultPlace_0 : Int) (gx : Int) (gy : Int) (gu : Int) (k1 : 0 ≤ x1 ∧ x1 ≤ 7) (k2 : 2 ≤ x2 ∧ x2 ≤ 2) (k3 : 0 ≤ x3 ∧ x3 ≤ 2000) (k7 : 0 ≤ x7 ∧ x7 ≤ 7) (k10 : 1 ≤ x10 ∧ x10 ≤ 5) (f0 : x10 ≠ 0) (g1 : x10 = fault_0) (f6 : (x7 + 1) ≤ all_0 ((r_0 + 2))) (f9 : zOP0 (limit_0) (pos_0) (kind_0) (place_0) (value_0) (from_0) (fault_0) (faultPlace_0) (r_0) (tape_0) (all_0) (x7) (x2)) (f10 : HST (limit_0) (tape_0) (x7) (x1)) (kz_0_8 : 0 ≤ fault_0 ∧ fault_0 ≤ 5) (kz_0_9 : 0 ≤ faultPlace_0 ∧ faultPlace_0 ≤ 2000) (kz_0_10 : 0 ≤ limit_0 ∧ limit_0 ≤ 2000) (kz_0_11 : 0 ≤ pos_0 ∧ pos_0 ≤ 2000) (kz_0_12 : 0 ≤ kind_0 ∧ kind_0 ≤ 4) (kz_0_13 : 0 ≤ place_0 ∧ place_0 ≤ 2000) (kz_0_14 : (-49) ≤ value_0 ∧ value_0 ≤ 1048575) (kz_0_15 : 0 ≤ from_0 ∧ from_0 ≤ 2000) (ex2 : gx = x3) (ey2 : gy = x1) (eu2 : gu = x2) (eu3 : 0 ≤ gu ∧ gu ≤ 4) : zNc (limit_0) (pos_0) (kind_0) (place_0) (value_0) (from_0) (fault_0) (faultPlace_0) (r_0) (tape_0) (all_0) (gy) (gu) := by
  first | subst g1 | skip
  first | subst ex2 | skip
  first | subst ey2 | skip
  first | subst eu2 | skip
  first
    | exact gr_close ‹zOP0 _ _ _ _ _ _ _ _ _ _ _ _ _› ‹HST _ _ _ _› (by omega) (by omega) (Or.inl (by omega))
    | exact gr_close ‹zOP0 _ _ _ _ _ _ _ _ _ _ _ _ _› ‹HST _ _ _ _› (by omega) (by omega) (Or.inr (sgq_t (C := 125) ‹SGQ _ _ _ _ _› (by omega) (by omega)))
def o_Mo_groupItem_at_k2_19 : or_T := (200, 12, [(0, (2, 0, 0, [165])), (1, (0, 0, 7, [])), (2, (0, 2, 2, [])), (3, (0, 0, 2000, [])), (5, (0, 0, 7, [])), (7, (0, 0, 7, [])), (10, (0, 1, 5, []))], [(8, [10], [1]), (9, [10, 4], [8]), (20, [4, 4], [30, 0, 1, 1, 15, -1, 1, 11]), (20, [4], [50, 3, 0, 12, 11, 15, 2, 21, 4, 7, 1, 3, 2, 0, 12, 0, 1, 0, 3, 2, 0, 11, 4, 3, 2, 0, 15, 0, 8, 3, 7, 1, 3, 2, 0, 12, 0, 0, 0, 7, 4, 3, 2, 0, 15, 0, 1, 2, 0, 11]), (20, [3, 4], [30, 0, 1, 0, 0, -1, 1, 11]), (20, [7, 4], [50, 1, 1, 1005, 1002, 0, 6, 4, 2, 1, 0, 0, 1, 3, 1, 2, 4, 3, 2, 1, 5, 0, 2]), (20, [4, 7, 6], [60, 9, 2, 1023, 10, 11, 12, 13, 14, 15, 8, 9, 5, 1, 2]), (20, [4, 7, 5], [60, 1, 1, 1028, 10, 1]), (24, [0, 4], []), (24, [1, 5], []), (24, [2, 6], [])], [], [(0, 0, 2000, []), (0, 0, 7, []), (0, 0, 4, [])], [(23, [12, 3], [0, 1, -1]), (23, [12, 3], [0, -1, 1]), (23, [13, 5], [0, 1, -1]), (23, [13, 5], [0, -1, 1]), (23, [14, 6], [0, 1, -1]), (23, [14, 6], [0, -1, 1]), (20, [4, 4], [30, 0, 1, 1, 15, -1, 1, 11]), (20, [4], [50, 3, 0, 12, 11, 15, 2, 21, 4, 7, 1, 3, 2, 0, 12, 0, 1, 0, 3, 2, 0, 11, 4, 3, 2, 0, 15, 0, 8, 3, 7, 1, 3, 2, 0, 12, 0, 0, 0, 7, 4, 3, 2, 0, 15, 0, 1, 2, 0, 11]), (20, [12, 4], [30, 0, 1, 0, 0, -1, 1, 11]), (20, [4, 12], [50, 3, 0, 8, 12, 11, 3, 7, 0, 2, 0, 1, 2, 0, 8, 3, 7, 1, 3, 2, 0, 12, 0, 0, 0, 6, 4, 2, 1, 1, 0, 1, 2, 0, 11]), (20, [4, 13, 14], [60, 9, 2, 1022, 10, 11, 12, 13, 14, 15, 8, 9, 5, 1, 2])], [], [(1, 5, -4294967296, 0), (5, 1, -4294967296, 0)])
theorem oo_Mo_groupItem_at_k2_19 {kA : Nat → ClassId} : or_ok PRD kA GG o_Mo_groupItem_at_k2_19 := by
  refine or_mk fun A ta ws vs hD hth hl => ?_
  intro t0 r0 t1 k1 t2 k2 t3 k3 t5 k5 t7 k7 t10 k10 d0 d1 f0 f1 f2 f3 f4 f6 f9 f10 f11 f12 f13
  replace f0 := shm_142 f0
  replace f1 := shm_293 f1
  replace f2 := shm_1437 f2
  replace f3 := shm_1438 f3
  replace f4 := shm_1431 f4
  replace f6 := shm_1009 f6
  replace f9 := shm_1730 f9
  replace f10 := shm_2176 f10
  replace f11 := shm_5 f11
  replace f12 := shm_5 f12
  replace f13 := shm_5 f13
  have q4 : n_v vs 4 = n_v vs 0 := f11.symm
  have q5 : n_v vs 5 = n_v vs 1 := f12.symm
  have q6 : n_v vs 6 = n_v vs 2 := f13.symm
  simp only [q4, q5, q6] at f1 f2 f3 f4 f6 f9 f10
  have g1 : v_iv (n_v vs 10) = w_fi ws (n_v vs 0) 8 := congrArg v_iv f1
  have kz_0_8 := fdq_34 hD hth r0
  have kz_0_9 := fdq_44 hD hth r0
  have kz_0_10 := fdq_43 hD hth r0
  have kz_0_11 := fdq_237 hD hth r0
  have kz_0_12 := fdq_187 hD hth r0
  have kz_0_13 := fdq_238 hD hth r0
  have kz_0_14 := fdq_188 hD hth r0
  have kz_0_15 := fdq_239 hD hth r0
  obtain ⟨x, ex, hx⟩ := iv_ex (ta := ta) (lo := 0) (hi := 2000) (z := v_iv (n_v vs 3)) (by omega) (by omega) (by omega) (by omega)
  have ex2 : v_iv (Value.int x) = v_iv (n_v vs 3) := ex
  have ex3 : 0 ≤ v_iv (Value.int x) ∧ v_iv (Value.int x) ≤ 2000 := tv_rng hx
  obtain ⟨y, ey, hy⟩ := iv_ex (ta := ta) (lo := 0) (hi := 7) (z := v_iv (n_v vs 1)) (by omega) (by omega) (by omega) (by omega)
  have ey2 : v_iv (Value.int y) = v_iv (n_v vs 1) := ey
  have ey3 : 0 ≤ v_iv (Value.int y) ∧ v_iv (Value.int y) ≤ 7 := tv_rng hy
  obtain ⟨u, eu, hu⟩ := iv_ex (ta := ta) (lo := 0) (hi := 4) (z := v_iv (n_v vs 2)) (by omega) (by omega) (by omega) (by omega)
  have eu2 : v_iv (Value.int u) = v_iv (n_v vs 2) := eu
  have eu3 : 0 ≤ v_iv (Value.int u) ∧ v_iv (Value.int u) ≤ 4 := tv_rng hu
  have e_3 : n_v (vs ++ [Value.int x, Value.int y, Value.int u]) 3 = n_v vs 3 := n_v_old (by rw [hl]; decide)
  have e_4 : n_v (vs ++ [Value.int x, Value.int y, Value.int u]) 4 = n_v vs 4 := n_v_old (by rw [hl]; decide)
  have e_5 : n_v (vs ++ [Value.int x, Value.int y, Value.int u]) 5 = n_v vs 5 := n_v_old (by rw [hl]; decide)
  have e_6 : n_v (vs ++ [Value.int x, Value.int y, Value.int u]) 6 = n_v vs 6 := n_v_old (by rw [hl]; decide)
  have e_12 : n_v (vs ++ [Value.int x, Value.int y, Value.int u]) 12 = Value.int x := n_v_newk (k := 0) hl rfl
  have e_13 : n_v (vs ++ [Value.int x, Value.int y, Value.int u]) 13 = Value.int y := n_v_newk (k := 1) hl rfl
  have e_14 : n_v (vs ++ [Value.int x, Value.int y, Value.int u]) 14 = Value.int u := n_v_newk (k := 2) hl rfl
  have nf0 : fc_1 PRD (23, [12, 3], [0, 1, -1]) ws (vs ++ [Value.int x, Value.int y, Value.int u]) := by
    refine ⟨nf_inA hl rfl, sgq_7 ?_⟩
    · show 1 * v_iv (n_v (vs ++ [Value.int x, Value.int y, Value.int u]) 12) + ((-1) * v_iv (n_v (vs ++ [Value.int x, Value.int y, Value.int u]) 3) + 0) ≤ 0
      simp only [e_3, e_12]
      exact vc_Mo_groupItem_at_k2_19_0 (v_iv (n_v vs 3)) (w_fi ws (n_v vs 0) 5) (v_iv (Value.int x)) k3 ex2
  have nf1 : fc_1 PRD (23, [12, 3], [0, -1, 1]) ws (vs ++ [Value.int x, Value.int y, Value.int u]) := by
    refine ⟨nf_inA hl rfl, sgq_22 ?_⟩
    · show (-1) * v_iv (n_v (vs ++ [Value.int x, Value.int y, Value.int u]) 12) + (1 * v_iv (n_v (vs ++ [Value.int x, Value.int y, Value.int u]) 3) + 0) ≤ 0
      simp only [e_3, e_12]
      exact vc_Mo_groupItem_at_k2_19_1 (v_iv (n_v vs 3)) (w_fi ws (n_v vs 0) 5) (v_iv (Value.int x)) k3 ex2
  have nf2 : fc_1 PRD (23, [13, 5], [0, 1, -1]) ws (vs ++ [Value.int x, Value.int y, Value.int u]) := by
    refine ⟨nf_inA hl rfl, sgq_7 ?_⟩
    · show 1 * v_iv (n_v (vs ++ [Value.int x, Value.int y, Value.int u]) 13) + ((-1) * v_iv (n_v (vs ++ [Value.int x, Value.int y, Value.int u]) 5) + 0) ≤ 0
      simp only [e_5, e_13, q5]
      exact vc_Mo_groupItem_at_k2_19_2 (v_iv (n_v vs 1)) (v_iv (n_v vs 5)) (w_fi ws (n_v vs 0) 5) (v_iv (Value.int y)) k1 k5 d0 d1 ey2
  have nf3 : fc_1 PRD (23, [13, 5], [0, -1, 1]) ws (vs ++ [Value.int x, Value.int y, Value.int u]) := by
    refine ⟨nf_inA hl rfl, sgq_22 ?_⟩
    · show (-1) * v_iv (n_v (vs ++ [Value.int x, Value.int y, Value.int u]) 13) + (1 * v_iv (n_v (vs ++ [Value.int x, Value.int y, Value.int u]) 5) + 0) ≤ 0
      simp only [e_5, e_13, q5]
      exact vc_Mo_groupItem_at_k2_19_3 (v_iv (n_v vs 1)) (v_iv (n_v vs 5)) (w_fi ws (n_v vs 0) 5) (v_iv (Value.int y)) k1 k5 d0 d1 ey2
  have nf4 : fc_1 PRD (23, [14, 6], [0, 1, -1]) ws (vs ++ [Value.int x, Value.int y, Value.int u]) := by
    refine ⟨nf_inA hl rfl, sgq_7 ?_⟩
    · show 1 * v_iv (n_v (vs ++ [Value.int x, Value.int y, Value.int u]) 14) + ((-1) * v_iv (n_v (vs ++ [Value.int x, Value.int y, Value.int u]) 6) + 0) ≤ 0
      simp only [e_6, e_14, q6]
      exact vc_Mo_groupItem_at_k2_19_4 (v_iv (n_v vs 2)) (w_fi ws (n_v vs 0) 5) (v_iv (Value.int u)) k2 eu2
  have nf5 : fc_1 PRD (23, [14, 6], [0, -1, 1]) ws (vs ++ [Value.int x, Value.int y, Value.int u]) := by
    refine ⟨nf_inA hl rfl, sgq_22 ?_⟩
    · show (-1) * v_iv (n_v (vs ++ [Value.int x, Value.int y, Value.int u]) 14) + (1 * v_iv (n_v (vs ++ [Value.int x, Value.int y, Value.int u]) 6) + 0) ≤ 0
      simp only [e_6, e_14, q6]
      exact vc_Mo_groupItem_at_k2_19_5 (v_iv (n_v vs 2)) (w_fi ws (n_v vs 0) 5) (v_iv (Value.int u)) k2 eu2
  have nf6 : fc_1 PRD (20, [4, 4], [30, 0, 1, 1, 15, -1, 1, 11]) ws (vs ++ [Value.int x, Value.int y, Value.int u]) := by
    refine ⟨nf_inA hl rfl, sgq_1437 ?_⟩
    · show 1 * w_fi ws (n_v (vs ++ [Value.int x, Value.int y, Value.int u]) 4) 15 + ((-1) * w_fi ws (n_v (vs ++ [Value.int x, Value.int y, Value.int u]) 4) 11 + 0) ≤ 0
      simp only [e_4, q4]
      exact vc_Mo_groupItem_at_k2_19_6 (w_fi ws (n_v vs 0) 15) (w_fi ws (n_v vs 0) 11) (w_fi ws (n_v vs 0) 5) f2 kz_0_11 kz_0_15
  have nf7 : fc_1 PRD (20, [4], [50, 3, 0, 12, 11, 15, 2, 21, 4, 7, 1, 3, 2, 0, 12, 0, 1, 0, 3, 2, 0, 11, 4, 3, 2, 0, 15, 0, 8, 3, 7, 1, 3, 2, 0, 12, 0, 0, 0, 7, 4, 3, 2, 0, 15, 0, 1, 2, 0, 11]) ws (vs ++ [Value.int x, Value.int y, Value.int u]) := by
    refine ⟨nf_inA hl rfl, sgq_1438 ?_⟩
    · show ((w_fi ws (n_v (vs ++ [Value.int x, Value.int y, Value.int u]) 4) 12 = 1) → (w_fi ws (n_v (vs ++ [Value.int x, Value.int y, Value.int u]) 4) 11 ≤ (w_fi ws (n_v (vs ++ [Value.int x, Value.int y, Value.int u]) 4) 15 + 8))) ∧ ((w_fi ws (n_v (vs ++ [Value.int x, Value.int y, Value.int u]) 4) 12 = 0) ∨ ((w_fi ws (n_v (vs ++ [Value.int x, Value.int y, Value.int u]) 4) 15 + 1) ≤ w_fi ws (n_v (vs ++ [Value.int x, Value.int y, Value.int u]) 4) 11))
      simp only [e_4, q4]
      exact vc_Mo_groupItem_at_k2_19_7 (w_fi ws (n_v vs 0) 15) (w_fi ws (n_v vs 0) 11) (w_fi ws (n_v vs 0) 12) (w_fi ws (n_v vs 0) 5) f3 kz_0_11 kz_0_12 kz_0_15
  have nf8 : fc_1 PRD (20, [12, 4], [30, 0, 1, 0, 0, -1, 1, 11]) ws (vs ++ [Value.int x, Value.int y, Value.int u]) := by
    refine ⟨nf_inA hl rfl, sgq_1431 ?_⟩
    · show 1 * v_iv (n_v (vs ++ [Value.int x, Value.int y, Value.int u]) 12) + ((-1) * w_fi ws (n_v (vs ++ [Value.int x, Value.int y, Value.int u]) 4) 11 + 0) ≤ 0
      simp only [e_4, e_12, q4]
      exact vc_Mo_groupItem_at_k2_19_8 (v_iv (n_v vs 3)) (w_fi ws (n_v vs 0) 11) (w_fi ws (n_v vs 0) 5) (v_iv (Value.int x)) k3 f4 kz_0_11 ex2
  have nf9 : fc_1 PRD (20, [4, 12], [50, 3, 0, 8, 12, 11, 3, 7, 0, 2, 0, 1, 2, 0, 8, 3, 7, 1, 3, 2, 0, 12, 0, 0, 0, 6, 4, 2, 1, 1, 0, 1, 2, 0, 11]) ws (vs ++ [Value.int x, Value.int y, Value.int u]) := by
    refine ⟨nf_inA hl rfl, sgq_1722 ?_⟩
    · show (1 ≤ w_fi ws (n_v (vs ++ [Value.int x, Value.int y, Value.int u]) 4) 8) ∨ ((w_fi ws (n_v (vs ++ [Value.int x, Value.int y, Value.int u]) 4) 12 = 0) ∨ ((v_iv (n_v (vs ++ [Value.int x, Value.int y, Value.int u]) 12) + 1) ≤ w_fi ws (n_v (vs ++ [Value.int x, Value.int y, Value.int u]) 4) 11))
      simp only [e_4, e_12, q4]
      exact vc_Mo_groupItem_at_k2_19_9 (v_iv (n_v vs 10)) (w_fi ws (n_v vs 0) 8) (w_fi ws (n_v vs 0) 11) (w_fi ws (n_v vs 0) 12) (w_fi ws (n_v vs 0) 5) (v_iv (Value.int x)) k10 g1 kz_0_8 kz_0_11 kz_0_12
  have nf10 : fc_1 PRD (20, [4, 13, 14], [60, 9, 2, 1022, 10, 11, 12, 13, 14, 15, 8, 9, 5, 1, 2]) ws (vs ++ [Value.int x, Value.int y, Value.int u]) := by
    refine ⟨nf_inA hl rfl, sgq_1723 ?_⟩
    · show zNc (w_fi ws (n_v (vs ++ [Value.int x, Value.int y, Value.int u]) 4) 10) (w_fi ws (n_v (vs ++ [Value.int x, Value.int y, Value.int u]) 4) 11) (w_fi ws (n_v (vs ++ [Value.int x, Value.int y, Value.int u]) 4) 12) (w_fi ws (n_v (vs ++ [Value.int x, Value.int y, Value.int u]) 4) 13) (w_fi ws (n_v (vs ++ [Value.int x, Value.int y, Value.int u]) 4) 14) (w_fi ws (n_v (vs ++ [Value.int x, Value.int y, Value.int u]) 4) 15) (w_fi ws (n_v (vs ++ [Value.int x, Value.int y, Value.int u]) 4) 8) (w_fi ws (n_v (vs ++ [Value.int x, Value.int y, Value.int u]) 4) 9) (w_fi ws (n_v (vs ++ [Value.int x, Value.int y, Value.int u]) 4) 5) (w_ei ws (w_ar ws (n_v (vs ++ [Value.int x, Value.int y, Value.int u]) 4) 1)) (w_ei ws (w_ar ws (n_v (vs ++ [Value.int x, Value.int y, Value.int u]) 4) 2)) (v_iv (n_v (vs ++ [Value.int x, Value.int y, Value.int u]) 13)) (v_iv (n_v (vs ++ [Value.int x, Value.int y, Value.int u]) 14))
      simp only [e_4, e_13, e_14, q4]
      exact vc_Mo_groupItem_at_k2_19_10 (v_iv (n_v vs 1)) (v_iv (n_v vs 2)) (v_iv (n_v vs 3)) (v_iv (n_v vs 7)) (v_iv (n_v vs 10)) (w_fi ws (n_v vs 0) 8) (w_fi ws (n_v vs 0) 15) (w_fi ws (n_v vs 0) 11) (w_fi ws (n_v vs 0) 12) (w_ei ws (w_ar ws (n_v vs 0) 2)) (w_fi ws (n_v vs 0) 5) (w_ei ws (w_ar ws (n_v vs 0) 1)) (w_fi ws (n_v vs 0) 10) (w_fi ws (n_v vs 0) 13) (w_fi ws (n_v vs 0) 14) (w_fi ws (n_v vs 0) 9) (v_iv (Value.int x)) (v_iv (Value.int y)) (v_iv (Value.int u)) k1 k2 k3 k7 k10 f0 g1 f6 f9 f10 kz_0_8 kz_0_9 kz_0_10 kz_0_11 kz_0_12 kz_0_13 kz_0_14 kz_0_15 ex2 ey2 eu2 eu3
  exact ⟨(fun _ h => (by cases h)), [Value.int x, Value.int y, Value.int u], ag_three hx hy hu, List.forall_mem_cons.mpr ⟨⟨show (23 : Nat) < 100 from by decide, nf0⟩, List.forall_mem_cons.mpr ⟨⟨show (23 : Nat) < 100 from by decide, nf1⟩, List.forall_mem_cons.mpr ⟨⟨show (23 : Nat) < 100 from by decide, nf2⟩, List.forall_mem_cons.mpr ⟨⟨show (23 : Nat) < 100 from by decide, nf3⟩, List.forall_mem_cons.mpr ⟨⟨show (23 : Nat) < 100 from by decide, nf4⟩, List.forall_mem_cons.mpr ⟨⟨show (23 : Nat) < 100 from by decide, nf5⟩, List.forall_mem_cons.mpr ⟨⟨show (20 : Nat) < 100 from by decide, nf6⟩, List.forall_mem_cons.mpr ⟨⟨show (20 : Nat) < 100 from by decide, nf7⟩, List.forall_mem_cons.mpr ⟨⟨show (20 : Nat) < 100 from by decide, nf8⟩, List.forall_mem_cons.mpr ⟨⟨show (20 : Nat) < 100 from by decide, nf9⟩, List.forall_mem_cons.mpr ⟨⟨show (20 : Nat) < 100 from by decide, nf10⟩, (fun _ h => (by cases h))⟩⟩⟩⟩⟩⟩⟩⟩⟩⟩⟩, (fun _ h => (by cases h))⟩
set_option maxHeartbeats 4000000 in
theorem vc_Mo_groupItem_at_k2_20_0 (x13 : Int) (r_0 : Int) (from_0 : Int) (pos_0 : Int) (f13 : 1 * from_0 + ((-1) * pos_0 + 0) ≤ 0) (kz_0_11 : 0 ≤ pos_0 ∧ pos_0 ≤ 2000) (kz_0_15 : 0 ≤ from_0 ∧ from_0 ≤ 2000) : 1 * from_0 + ((-1) * pos_0 + 0) ≤ 0 := by
  first
    | omega
    | (have q1 := (hE_0_2_1 (r_0 + 2) (by omega)).2 (by omega)
       have q2 := (hE_0_2_2 (r_0 + 2) (by omega)).2 (by omega)
       omega)
    | (have q1 := (hE_0_2_1 (r_0 + 1) (by omega)).2 (by omega)
       have q2 := (hE_0_2_2 (r_0 + 1) (by omega)).2 (by omega)
       omega)
    | (have q1 := (hE_0_2_1 (r_0 + 2) (by omega)).2 (by omega)
       omega)
    | (have q1 := (hE_0_2_1 (r_0 + 1) (by omega)).2 (by omega)
       omega)
    | (have q1 := (hE_0_2_1 (r_0 + 2) (by omega)).2 (by omega)
       have q2 := (hE_0_2_2 (r_0 + 2) (by omega)).2 (by omega)
       have q3 := (hE_0_2_3 (r_0 + 2) (by omega)).1 (by omega)
       omega)
    | (have q1 := (hE_0_2_1 (r_0 + 2) (by omega)).2 (by omega)
       have q2 := (hE_0_2_2 (r_0 + 2) (by omega)).2 (by omega)
       have q3 := (hE_0_2_3 (r_0 + 2) (by omega)).2 (by omega)
       omega)
    | (have q1 := (hE_0_2_1 (r_0 + 2) (by omega)).2 (by omega)
       have q2 := (hE_0_2_2 (r_0 + 2) (by omega)).2 (by omega)
       have q3 := (hE_0_2_3 (r_0 + 2) (by omega)).1 (by omega)
       have q4 : x13 = r_0 + 2 := by omega
       simp only [q4] at *
       omega)
set_option maxHeartbeats 4000000 in
theorem vc_Mo_groupItem_at_k2_20_1 (x13 : Int) (r_0 : Int) (from_0 : Int) (pos_0 : Int) (kind_0 : Int) (f14 : ((kind_0 = 1) → (pos_0 ≤ (from_0 + 8))) ∧ ((kind_0 = 0) ∨ ((from_0 + 1) ≤ pos_0))) (kz_0_11 : 0 ≤ pos_0 ∧ pos_0 ≤ 2000) (kz_0_12 : 0 ≤ kind_0 ∧ kind_0 ≤ 4) (kz_0_15 : 0 ≤ from_0 ∧ from_0 ≤ 2000) : ((kind_0 = 1) → (pos_0 ≤ (from_0 + 8))) ∧ ((kind_0 = 0) ∨ ((from_0 + 1) ≤ pos_0)) := by
  first
    | omega
    | (have q1 := (hE_0_2_1 (r_0 + 2) (by omega)).2 (by omega)
       have q2 := (hE_0_2_2 (r_0 + 2) (by omega)).2 (by omega)
       omega)
    | (have q1 := (hE_0_2_1 (r_0 + 1) (by omega)).2 (by omega)
       have q2 := (hE_0_2_2 (r_0 + 1) (by omega)).2 (by omega)
       omega)
    | (have q1 := (hE_0_2_1 (r_0 + 2) (by omega)).2 (by omega)
       omega)
    | (have q1 := (hE_0_2_1 (r_0 + 1) (by omega)).2 (by omega)
       omega)
    | (have q1 := (hE_0_2_1 (r_0 + 2) (by omega)).2 (by omega)
       have q2 := (hE_0_2_2 (r_0 + 2) (by omega)).2 (by omega)
       have q3 := (hE_0_2_3 (r_0 + 2) (by omega)).1 (by omega)
       omega)
    | (have q1 := (hE_0_2_1 (r_0 + 2) (by omega)).2 (by omega)
       have q2 := (hE_0_2_2 (r_0 + 2) (by omega)).2 (by omega)
       have q3 := (hE_0_2_3 (r_0 + 2) (by omega)).2 (by omega)
       omega)
    | (have q1 := (hE_0_2_1 (r_0 + 2) (by omega)).2 (by omega)
       have q2 := (hE_0_2_2 (r_0 + 2) (by omega)).2 (by omega)
       have q3 := (hE_0_2_3 (r_0 + 2) (by omega)).1 (by omega)
       have q4 : x13 = r_0 + 2 := by omega
       simp only [q4] at *
       omega)
set_option maxHeartbeats 4000000 in
theorem vc_Mo_groupItem_at_k2_20_2 (x3 : Int) (x12 : Int) (x13 : Int) (r_0 : Int) (pos_0 : Int) (k3 : 0 ≤ x3 ∧ x3 ≤ 2000) (k12 : 0 ≤ x12 ∧ x12 ≤ 2000) (f0 : 1 * x12 + ((-1) * x3 + 0) ≤ 0) (f1 : (-1) * x12 + (1 * x3 + 0) ≤ 0) (f15 : 1 * x12 + ((-1) * pos_0 + 0) ≤ 0) (kz_0_11 : 0 ≤ pos_0 ∧ pos_0 ≤ 2000) : 1 * x3 + ((-1) * pos_0 + 0) ≤ 0 := by
  first
    | omega
    | (have q1 := (hE_0_2_1 (r_0 + 2) (by omega)).2 (by omega)
       have q2 := (hE_0_2_2 (r_0 + 2) (by omega)).2 (by omega)
       omega)
    | (have q1 := (hE_0_2_1 (r_0 + 1) (by omega)).2 (by omega)
       have q2 := (hE_0_2_2 (r_0 + 1) (by omega)).2 (by omega)
       omega)
    | (have q1 := (hE_0_2_1 (r_0 + 2) (by omega)).2 (by omega)
       omega)
    | (have q1 := (hE_0_2_1 (r_0 + 1) (by omega)).2 (by omega)
       omega)
    | (have q1 := (hE_0_2_1 (r_0 + 2) (by omega)).2 (by omega)
       have q2 := (hE_0_2_2 (r_0 + 2) (by omega)).2 (by omega)
       have q3 := (hE_0_2_3 (r_0 + 2) (by omega)).1 (by omega)
       omega)
    | (have q1 := (hE_0_2_1 (r_0 + 2) (by omega)).2 (by omega)
       have q2 := (hE_0_2_2 (r_0 + 2) (by omega)).2 (by omega)
       have q3 := (hE_0_2_3 (r_0 + 2) (by omega)).2 (by omega)
       omega)
    | (have q1 := (hE_0_2_1 (r_0 + 2) (by omega)).2 (by omega)
       have q2 := (hE_0_2_2 (r_0 + 2) (by omega)).2 (by omega)
       have q3 := (hE_0_2_3 (r_0 + 2) (by omega)).1 (by omega)
       have q4 : x13 = r_0 + 2 := by omega
       simp only [q4] at *
       omega)
set_option maxHeartbeats 4000000 in
theorem vc_Mo_groupItem_at_k2_20_3 (x3 : Int) (x12 : Int) (x13 : Int) (r_0 : Int) (pos_0 : Int) (fault_0 : Int) (k3 : 0 ≤ x3 ∧ x3 ≤ 2000) (k12 : 0 ≤ x12 ∧ x12 ≤ 2000) (f0 : 1 * x12 + ((-1) * x3 + 0) ≤ 0) (f1 : (-1) * x12 + (1 * x3 + 0) ≤ 0) (f15 : 1 * x12 + ((-1) * pos_0 + 0) ≤ 0) (f16 : (1 ≤ fault_0) ∨ ((x12 + 1) ≤ pos_0)) (kz_0_8 : 0 ≤ fault_0 ∧ fault_0 ≤ 5) (kz_0_11 : 0 ≤ pos_0 ∧ pos_0 ≤ 2000) : (1 ≤ fault_0) ∨ ((x3 + 1) ≤ pos_0) := by
  first
    | omega
    | (have q1 := (hE_0_2_1 (r_0 + 2) (by omega)).2 (by omega)
       have q2 := (hE_0_2_2 (r_0 + 2) (by omega)).2 (by omega)
       omega)
    | (have q1 := (hE_0_2_1 (r_0 + 1) (by omega)).2 (by omega)
       have q2 := (hE_0_2_2 (r_0 + 1) (by omega)).2 (by omega)
       omega)
    | (have q1 := (hE_0_2_1 (r_0 + 2) (by omega)).2 (by omega)
       omega)
    | (have q1 := (hE_0_2_1 (r_0 + 1) (by omega)).2 (by omega)
       omega)
    | (have q1 := (hE_0_2_1 (r_0 + 2) (by omega)).2 (by omega)
       have q2 := (hE_0_2_2 (r_0 + 2) (by omega)).2 (by omega)
       have q3 := (hE_0_2_3 (r_0 + 2) (by omega)).1 (by omega)
       omega)
    | (have q1 := (hE_0_2_1 (r_0 + 2) (by omega)).2 (by omega)
       have q2 := (hE_0_2_2 (r_0 + 2) (by omega)).2 (by omega)
       have q3 := (hE_0_2_3 (r_0 + 2) (by omega)).2 (by omega)
       omega)
    | (have q1 := (hE_0_2_1 (r_0 + 2) (by omega)).2 (by omega)
       have q2 := (hE_0_2_2 (r_0 + 2) (by omega)).2 (by omega)
       have q3 := (hE_0_2_3 (r_0 + 2) (by omega)).1 (by omega)
       have q4 : x13 = r_0 + 2 := by omega
       simp only [q4] at *
       omega)
set_option maxHeartbeats 4000000 in
theorem vc_Mo_groupItem_at_k2_20_4 (x1 : Int) (x5 : Int) (x7 : Int) (x13 : Int) (all_0 : Int → Int) (r_0 : Int) (k1 : 0 ≤ x1 ∧ x1 ≤ 7) (k5 : 0 ≤ x5 ∧ x5 ≤ 7) (k7 : 0 ≤ x7 ∧ x7 ≤ 7) (k13 : 0 ≤ x13 ∧ x13 ≤ 7) (d0 : x5 + (-4294967296) ≤ x1 ∧ x1 ≤ x5 + 0) (d1 : x1 + (-4294967296) ≤ x5 ∧ x5 ≤ x1 + 0) (f2 : 1 * x13 + ((-1) * x1 + 0) ≤ 0) (f3 : (-1) * x13 + (1 * x1 + 0) ≤ 0) (f6 : (x7 + 1) ≤ all_0 ((r_0 + 2))) (f7 : 1 * x1 + ((-1) * x7 + 0) ≤ (-1)) : (x1 + 1) ≤ all_0 ((r_0 + 2)) := by
  first
    | omega
    | (have q1 := (hE_0_2_1 (r_0 + 2) (by omega)).2 (by omega)
       have q2 := (hE_0_2_2 (r_0 + 2) (by omega)).2 (by omega)
       omega)
    | (have q1 := (hE_0_2_1 (r_0 + 1) (by omega)).2 (by omega)
       have q2 := (hE_0_2_2 (r_0 + 1) (by omega)).2 (by omega)
       omega)
    | (have q1 := (hE_0_2_1 (r_0 + 2) (by omega)).2 (by omega)
       omega)
    | (have q1 := (hE_0_2_1 (r_0 + 1) (by omega)).2 (by omega)
       omega)
    | (have q1 := (hE_0_2_1 (r_0 + 2) (by omega)).2 (by omega)
       have q2 := (hE_0_2_2 (r_0 + 2) (by omega)).2 (by omega)
       have q3 := (hE_0_2_3 (r_0 + 2) (by omega)).1 (by omega)
       omega)
    | (have q1 := (hE_0_2_1 (r_0 + 2) (by omega)).2 (by omega)
       have q2 := (hE_0_2_2 (r_0 + 2) (by omega)).2 (by omega)
       have q3 := (hE_0_2_3 (r_0 + 2) (by omega)).2 (by omega)
       omega)
    | (have q1 := (hE_0_2_1 (r_0 + 2) (by omega)).2 (by omega)
       have q2 := (hE_0_2_2 (r_0 + 2) (by omega)).2 (by omega)
       have q3 := (hE_0_2_3 (r_0 + 2) (by omega)).1 (by omega)
       have q4 : x13 = r_0 + 2 := by omega
       simp only [q4] at *
       omega)
set_option maxHeartbeats 4000000 in
theorem vc_Mo_groupItem_at_k2_20_5 (all_0 : Int → Int) (r_0 : Int) (now_0 : Int → Int) (latest_0 : Int → Int) (f8 : RWS (r_0) (all_0) (now_0) (latest_0)) : RWS (r_0) (all_0) (now_0) (latest_0) := by
  first
    | assumption
set_option maxHeartbeats 4000000 in
theorem vc_Mo_groupItem_at_k2_20_6 (x1 : Int) (x2 : Int) (x3 : Int) (x5 : Int) (x12 : Int) (x13 : Int) (x14 : Int) (all_0 : Int → Int) (r_0 : Int) (tape_0 : Int → Int) (limit_0 : Int) (from_0 : Int) (pos_0 : Int) (kind_0 : Int) (fault_0 : Int) (place_0 : Int) (value_0 : Int) (faultPlace_0 : Int) (k1 : 0 ≤ x1 ∧ x1 ≤ 7) (k2 : 2 ≤ x2 ∧ x2 ≤ 2) (k3 : 0 ≤ x3 ∧ x3 ≤ 2000) (k5 : 0 ≤ x5 ∧ x5 ≤ 7) (k12 : 0 ≤ x12 ∧ x12 ≤ 2000) (k13 : 0 ≤ x13 ∧ x13 ≤ 7) (k14 : 0 ≤ x14 ∧ x14 ≤ 4) (d0 : x5 + (-4294967296) ≤ x1 ∧ x1 ≤ x5 + 0) (d1 : x1 + (-4294967296) ≤ x5 ∧ x5 ≤ x1 + 0) (f0 : 1 * x12 + ((-1) * x3 + 0) ≤ 0) (f1 : (-1) * x12 + (1 * x3 + 0) ≤ 0) (f2 : 1 * x13 + ((-1) * x1 + 0) ≤ 0) (f3 : (-1) * x13 + (1 * x1 + 0) ≤ 0) (f4 : 1 * x14 + ((-1) * x2 + 0) ≤ 0) (f5 : (-1) * x14 + (1 * x2 + 0) ≤ 0) (f17 : zOS0 (limit_0) (pos_0) (kind_0) (place_0) (value_0) (from_0) (fault_0) (faultPlace_0) (r_0) (tape_0) (all_0) (x13) (x14)) (kz_0_8 : 0 ≤ fault_0 ∧ fault_0 ≤ 5) (kz_0_9 : 0 ≤ faultPlace_0 ∧ faultPlace_0 ≤ 2000) (kz_0_10 : 0 ≤ limit_0 ∧ limit_0 ≤ 2000) (kz_0_11 : 0 ≤ pos_0 ∧ pos_0 ≤ 2000) (kz_0_12 : 0 ≤ kind_0 ∧ kind_0 ≤ 4) (kz_0_13 : 0 ≤ place_0 ∧ place_0 ≤ 2000) (kz_0_14 : (-49) ≤ value_0 ∧ value_0 ≤ 1048575) (kz_0_15 : 0 ≤ from_0 ∧ from_0 ≤ 2000) : zOS0 (limit_0) (pos_0) (kind_0) (place_0) (value_0) (from_0) (fault_0) (faultPlace_0) (r_0) (tape_0) (all_0) (x1) (x2) := by
  first | (have el_x12 : x12 = x3 := by omega); subst el_x12 | skip
  first | (have el_x13 : x13 = x1 := by omega); subst el_x13 | skip
  first | (have el_x14 : x14 = x2 := by omega); subst el_x14 | skip
  first
    | assumption
    | (refine Or.inl (fs_w ?_ ?_ (by assumption)) <;> assumption)
def o_Mo_groupItem_at_k2_20 : or_T := (203, 15, [(0, (2, 0, 0, [165])), (1, (0, 0, 7, [])), (2, (0, 2, 2, [])), (3, (0, 0, 2000, [])), (5, (0, 0, 7, [])), (7, (0, 0, 7, [])), (12, (0, 0, 2000, [])), (13, (0, 0, 7, [])), (14, (0, 0, 4, []))], [(23, [12, 3], [0, 1, -1]), (23, [12, 3], [0, -1, 1]), (23, [13, 5], [0, 1, -1]), (23, [13, 5], [0, -1, 1]), (23, [14, 6], [0, 1, -1]), (23, [14, 6], [0, -1, 1]), (20, [7, 4], [50, 1, 1, 1005, 1002, 0, 6, 4, 2, 1, 0, 0, 1, 3, 1, 2, 4, 3, 2, 1, 5, 0, 2]), (23, [5, 7], [-1, 1, -1]), (20, [4], [60, 1, 3, 199, 5, 2, 3, 4]), (24, [0, 4], []), (24, [1, 5], []), (24, [2, 6], []), (20, [4, 4], [30, 0, 1, 1, 15, -1, 1, 11]), (20, [4], [50, 3, 0, 12, 11, 15, 2, 21, 4, 7, 1, 3, 2, 0, 12, 0, 1, 0, 3, 2, 0, 11, 4, 3, 2, 0, 15, 0, 8, 3, 7, 1, 3, 2, 0, 12, 0, 0, 0, 7, 4, 3, 2, 0, 15, 0, 1, 2, 0, 11]), (20, [12, 4], [30, 0, 1, 0, 0, -1, 1, 11]), (20, [4, 12], [50, 2, 0, 8, 11, 3, 7, 0, 2, 0, 1, 2, 0, 8, 0, 6, 4, 2, 1, 1, 0, 1, 2, 0, 11]), (20, [4, 13, 14], [60, 9, 2, 1007, 10, 11, 12, 13, 14, 15, 8, 9, 5, 1, 2])], [], [], [(20, [0, 0], [30, 0, 1, 1, 15, -1, 1, 11]), (20, [0], [50, 3, 0, 12, 11, 15, 2, 21, 4, 7, 1, 3, 2, 0, 12, 0, 1, 0, 3, 2, 0, 11, 4, 3, 2, 0, 15, 0, 8, 3, 7, 1, 3, 2, 0, 12, 0, 0, 0, 7, 4, 3, 2, 0, 15, 0, 1, 2, 0, 11]), (20, [3, 0], [30, 0, 1, 0, 0, -1, 1, 11]), (20, [0, 3], [50, 2, 0, 8, 11, 3, 7, 0, 2, 0, 1, 2, 0, 8, 0, 6, 4, 2, 1, 1, 0, 1, 2, 0, 11]), (20, [1, 0], [50, 1, 1, 1005, 1002, 0, 6, 4, 2, 1, 0, 0, 1, 3, 1, 2, 4, 3, 2, 1, 5, 0, 2]), (20, [0], [60, 1, 3, 199, 5, 2, 3, 4]), (20, [0, 1, 2], [60, 9, 2, 1007, 10, 11, 12, 13, 14, 15, 8, 9, 5, 1, 2])], [], [(1, 5, -4294967296, 0), (5, 1, -4294967296, 0)])
theorem oo_Mo_groupItem_at_k2_20 {kA : Nat → ClassId} : or_ok PRD kA GG o_Mo_groupItem_at_k2_20 := by
  refine or_mk fun A ta ws vs hD hth hl => ?_
  intro t0 r0 t1 k1 t2 k2 t3 k3 t5 k5 t7 k7 t12 k12 t13 k13 t14 k14 d0 d1 f0 f1 f2 f3 f4 f5 f6 f7 f8 f10 f11 f12 f13 f14 f15 f16 f17
  replace f2 := shm_7 f2
  replace f3 := shm_22 f3
  replace f4 := shm_7 f4
  replace f5 := shm_22 f5
  replace f6 := shm_1009 f6
  replace f7 := shm_193 f7
  replace f8 := shm_980 f8
  replace f10 := shm_5 f10
  replace f11 := shm_5 f11
  replace f12 := shm_5 f12
  replace f13 := shm_1437 f13
  replace f14 := shm_1438 f14
  replace f15 := shm_1431 f15
  replace f16 := shm_1726 f16
  replace f17 := shm_1727 f17
  have q4 : n_v vs 4 = n_v vs 0 := f10.symm
  have q5 : n_v vs 5 = n_v vs 1 := f11.symm
  have q6 : n_v vs 6 = n_v vs 2 := f12.symm
  simp only [q5, q6, q4] at f2 f3 f4 f5 f6 f7 f8 f13 f14 f15 f16 f17
  have kz_0_8 := fdq_34 hD hth r0
  have kz_0_9 := fdq_44 hD hth r0
  have kz_0_10 := fdq_43 hD hth r0
  have kz_0_11 := fdq_237 hD hth r0
  have kz_0_12 := fdq_187 hD hth r0
  have kz_0_13 := fdq_238 hD hth r0
  have kz_0_14 := fdq_188 hD hth r0
  have kz_0_15 := fdq_239 hD hth r0
  have nf0 : fc_1 PRD (20, [0, 0], [30, 0, 1, 1, 15, -1, 1, 11]) ws (vs) := ⟨nf_in hl rfl, sgq_1437 (vc_Mo_groupItem_at_k2_20_0 (v_iv (n_v vs 13)) (w_fi ws (n_v vs 0) 5) (w_fi ws (n_v vs 0) 15) (w_fi ws (n_v vs 0) 11) f13 kz_0_11 kz_0_15)⟩
  have nf1 : fc_1 PRD (20, [0], [50, 3, 0, 12, 11, 15, 2, 21, 4, 7, 1, 3, 2, 0, 12, 0, 1, 0, 3, 2, 0, 11, 4, 3, 2, 0, 15, 0, 8, 3, 7, 1, 3, 2, 0, 12, 0, 0, 0, 7, 4, 3, 2, 0, 15, 0, 1, 2, 0, 11]) ws (vs) := ⟨nf_in hl rfl, sgq_1438 (vc_Mo_groupItem_at_k2_20_1 (v_iv (n_v vs 13)) (w_fi ws (n_v vs 0) 5) (w_fi ws (n_v vs 0) 15) (w_fi ws (n_v vs 0) 11) (w_fi ws (n_v vs 0) 12) f14 kz_0_11 kz_0_12 kz_0_15)⟩
  have nf2 : fc_1 PRD (20, [3, 0], [30, 0, 1, 0, 0, -1, 1, 11]) ws (vs) := ⟨nf_in hl rfl, sgq_1431 (vc_Mo_groupItem_at_k2_20_2 (v_iv (n_v vs 3)) (v_iv (n_v vs 12)) (v_iv (n_v vs 13)) (w_fi ws (n_v vs 0) 5) (w_fi ws (n_v vs 0) 11) k3 k12 (shm_7 f0) (shm_22 f1) f15 kz_0_11)⟩
  have nf3 : fc_1 PRD (20, [0, 3], [50, 2, 0, 8, 11, 3, 7, 0, 2, 0, 1, 2, 0, 8, 0, 6, 4, 2, 1, 1, 0, 1, 2, 0, 11]) ws (vs) := ⟨nf_in hl rfl, sgq_1726 (vc_Mo_groupItem_at_k2_20_3 (v_iv (n_v vs 3)) (v_iv (n_v vs 12)) (v_iv (n_v vs 13)) (w_fi ws (n_v vs 0) 5) (w_fi ws (n_v vs 0) 11) (w_fi ws (n_v vs 0) 8) k3 k12 (shm_7 f0) (shm_22 f1) f15 f16 kz_0_8 kz_0_11)⟩
  have nf4 : fc_1 PRD (20, [1, 0], [50, 1, 1, 1005, 1002, 0, 6, 4, 2, 1, 0, 0, 1, 3, 1, 2, 4, 3, 2, 1, 5, 0, 2]) ws (vs) := ⟨nf_in hl rfl, sgq_1009 (vc_Mo_groupItem_at_k2_20_4 (v_iv (n_v vs 1)) (v_iv (n_v vs 5)) (v_iv (n_v vs 7)) (v_iv (n_v vs 13)) (w_ei ws (w_ar ws (n_v vs 0) 2)) (w_fi ws (n_v vs 0) 5) k1 k5 k7 k13 d0 d1 f2 f3 f6 f7)⟩
  have nf5 : fc_1 PRD (20, [0], [60, 1, 3, 199, 5, 2, 3, 4]) ws (vs) := ⟨nf_in hl rfl, sgq_980 (vc_Mo_groupItem_at_k2_20_5 (w_ei ws (w_ar ws (n_v vs 0) 2)) (w_fi ws (n_v vs 0) 5) (w_ei ws (w_ar ws (n_v vs 0) 3)) (w_ei ws (w_ar ws (n_v vs 0) 4)) f8)⟩
  have nf6 : fc_1 PRD (20, [0, 1, 2], [60, 9, 2, 1007, 10, 11, 12, 13, 14, 15, 8, 9, 5, 1, 2]) ws (vs) := ⟨nf_in hl rfl, sgq_1727 (vc_Mo_groupItem_at_k2_20_6 (v_iv (n_v vs 1)) (v_iv (n_v vs 2)) (v_iv (n_v vs 3)) (v_iv (n_v vs 5)) (v_iv (n_v vs 12)) (v_iv (n_v vs 13)) (v_iv (n_v vs 14)) (w_ei ws (w_ar ws (n_v vs 0) 2)) (w_fi ws (n_v vs 0) 5) (w_ei ws (w_ar ws (n_v vs 0) 1)) (w_fi ws (n_v vs 0) 10) (w_fi ws (n_v vs 0) 15) (w_fi ws (n_v vs 0) 11) (w_fi ws (n_v vs 0) 12) (w_fi ws (n_v vs 0) 8) (w_fi ws (n_v vs 0) 13) (w_fi ws (n_v vs 0) 14) (w_fi ws (n_v vs 0) 9) k1 k2 k3 k5 k12 k13 k14 d0 d1 (shm_7 f0) (shm_22 f1) f2 f3 f4 f5 f17 kz_0_8 kz_0_9 kz_0_10 kz_0_11 kz_0_12 kz_0_13 kz_0_14 kz_0_15)⟩
  refine ⟨(fun _ h => (by cases h)), [], trivial, ?_, (fun _ h => (by cases h))⟩
  rw [List.append_nil]
  exact List.forall_mem_cons.mpr ⟨⟨show (20 : Nat) < 100 from by decide, nf0⟩, List.forall_mem_cons.mpr ⟨⟨show (20 : Nat) < 100 from by decide, nf1⟩, List.forall_mem_cons.mpr ⟨⟨show (20 : Nat) < 100 from by decide, nf2⟩, List.forall_mem_cons.mpr ⟨⟨show (20 : Nat) < 100 from by decide, nf3⟩, List.forall_mem_cons.mpr ⟨⟨show (20 : Nat) < 100 from by decide, nf4⟩, List.forall_mem_cons.mpr ⟨⟨show (20 : Nat) < 100 from by decide, nf5⟩, List.forall_mem_cons.mpr ⟨⟨show (20 : Nat) < 100 from by decide, nf6⟩, (fun _ h => (by cases h))⟩⟩⟩⟩⟩⟩⟩
set_option maxHeartbeats 4000000 in
theorem vc_Mo_groupItem_at_k2_21_0 (x13 : Int) (from_0 : Int) (pos_0 : Int) (r_0 : Int) (f6 : 1 * from_0 + ((-1) * pos_0 + 0) ≤ 0) (kz_0_11 : 0 ≤ pos_0 ∧ pos_0 ≤ 2000) (kz_0_15 : 0 ≤ from_0 ∧ from_0 ≤ 2000) : 1 * from_0 + ((-1) * pos_0 + 0) ≤ 0 := by
  first
    | omega
    | (have q1 := (hE_0_2_1 (r_0 + 2) (by omega)).2 (by omega)
       have q2 := (hE_0_2_2 (r_0 + 2) (by omega)).2 (by omega)
       omega)
    | (have q1 := (hE_0_2_1 (r_0 + 1) (by omega)).2 (by omega)
       have q2 := (hE_0_2_2 (r_0 + 1) (by omega)).2 (by omega)
       omega)
    | (have q1 := (hE_0_2_1 (r_0 + 2) (by omega)).2 (by omega)
       omega)
    | (have q1 := (hE_0_2_1 (r_0 + 1) (by omega)).2 (by omega)
       omega)
    | (have q1 := (hE_0_2_1 (r_0 + 2) (by omega)).2 (by omega)
       have q2 := (hE_0_2_2 (r_0 + 2) (by omega)).2 (by omega)
       have q3 := (hE_0_2_3 (r_0 + 2) (by omega)).1 (by omega)
       omega)
    | (have q1 := (hE_0_2_1 (r_0 + 2) (by omega)).2 (by omega)
       have q2 := (hE_0_2_2 (r_0 + 2) (by omega)).2 (by omega)
       have q3 := (hE_0_2_3 (r_0 + 2) (by omega)).2 (by omega)
       omega)
    | (have q1 := (hE_0_2_1 (r_0 + 2) (by omega)).2 (by omega)
       have q2 := (hE_0_2_2 (r_0 + 2) (by omega)).2 (by omega)
       have q3 := (hE_0_2_3 (r_0 + 2) (by omega)).1 (by omega)
       have q4 : x13 = r_0 + 2 := by omega
       simp only [q4] at *
       omega)
set_option maxHeartbeats 4000000 in
theorem vc_Mo_groupItem_at_k2_21_1 (x13 : Int) (kind_0 : Int) (from_0 : Int) (pos_0 : Int) (r_0 : Int) (f7 : ((kind_0 = 1) → (pos_0 ≤ (from_0 + 8))) ∧ ((kind_0 = 0) ∨ ((from_0 + 1) ≤ pos_0))) (kz_0_11 : 0 ≤ pos_0 ∧ pos_0 ≤ 2000) (kz_0_12 : 0 ≤ kind_0 ∧ kind_0 ≤ 4) (kz_0_15 : 0 ≤ from_0 ∧ from_0 ≤ 2000) : ((kind_0 = 1) → (pos_0 ≤ (from_0 + 8))) ∧ ((kind_0 = 0) ∨ ((from_0 + 1) ≤ pos_0)) := by
  first
    | omega
    | (have q1 := (hE_0_2_1 (r_0 + 2) (by omega)).2 (by omega)
       have q2 := (hE_0_2_2 (r_0 + 2) (by omega)).2 (by omega)
       omega)
    | (have q1 := (hE_0_2_1 (r_0 + 1) (by omega)).2 (by omega)
       have q2 := (hE_0_2_2 (r_0 + 1) (by omega)).2 (by omega)
       omega)
    | (have q1 := (hE_0_2_1 (r_0 + 2) (by omega)).2 (by omega)
       omega)
    | (have q1 := (hE_0_2_1 (r_0 + 1) (by omega)).2 (by omega)
       omega)
    | (have q1 := (hE_0_2_1 (r_0 + 2) (by omega)).2 (by omega)
       have q2 := (hE_0_2_2 (r_0 + 2) (by omega)).2 (by omega)
       have q3 := (hE_0_2_3 (r_0 + 2) (by omega)).1 (by omega)
       omega)
    | (have q1 := (hE_0_2_1 (r_0 + 2) (by omega)).2 (by omega)
       have q2 := (hE_0_2_2 (r_0 + 2) (by omega)).2 (by omega)
       have q3 := (hE_0_2_3 (r_0 + 2) (by omega)).2 (by omega)
       omega)
    | (have q1 := (hE_0_2_1 (r_0 + 2) (by omega)).2 (by omega)
       have q2 := (hE_0_2_2 (r_0 + 2) (by omega)).2 (by omega)
       have q3 := (hE_0_2_3 (r_0 + 2) (by omega)).1 (by omega)
       have q4 : x13 = r_0 + 2 := by omega
       simp only [q4] at *
       omega)
set_option maxHeartbeats 4000000 in
theorem vc_Mo_groupItem_at_k2_21_2 (x13 : Int) (pos_0 : Int) (r_0 : Int) (gx : Int) (kz_0_11 : 0 ≤ pos_0 ∧ pos_0 ≤ 2000) (ex2 : gx = pos_0) : 1 * gx + ((-1) * pos_0 + 0) ≤ 0 := by
  first
    | omega
    | (have q1 := (hE_0_2_1 (r_0 + 2) (by omega)).2 (by omega)
       have q2 := (hE_0_2_2 (r_0 + 2) (by omega)).2 (by omega)
       omega)
    | (have q1 := (hE_0_2_1 (r_0 + 1) (by omega)).2 (by omega)
       have q2 := (hE_0_2_2 (r_0 + 1) (by omega)).2 (by omega)
       omega)
    | (have q1 := (hE_0_2_1 (r_0 + 2) (by omega)).2 (by omega)
       omega)
    | (have q1 := (hE_0_2_1 (r_0 + 1) (by omega)).2 (by omega)
       omega)
    | (have q1 := (hE_0_2_1 (r_0 + 2) (by omega)).2 (by omega)
       have q2 := (hE_0_2_2 (r_0 + 2) (by omega)).2 (by omega)
       have q3 := (hE_0_2_3 (r_0 + 2) (by omega)).1 (by omega)
       omega)
    | (have q1 := (hE_0_2_1 (r_0 + 2) (by omega)).2 (by omega)
       have q2 := (hE_0_2_2 (r_0 + 2) (by omega)).2 (by omega)
       have q3 := (hE_0_2_3 (r_0 + 2) (by omega)).2 (by omega)
       omega)
    | (have q1 := (hE_0_2_1 (r_0 + 2) (by omega)).2 (by omega)
       have q2 := (hE_0_2_2 (r_0 + 2) (by omega)).2 (by omega)
       have q3 := (hE_0_2_3 (r_0 + 2) (by omega)).1 (by omega)
       have q4 : x13 = r_0 + 2 := by omega
       simp only [q4] at *
       omega)
set_option maxHeartbeats 4000000 in
theorem vc_Mo_groupItem_at_k2_21_3 (x7 : Int) (x13 : Int) (all_0 : Int → Int) (r_0 : Int) (k7 : 0 ≤ x7 ∧ x7 ≤ 7) (f10 : (x7 + 1) ≤ all_0 ((r_0 + 2))) : (x7 + 1) ≤ all_0 ((r_0 + 2)) := by
  first
    | omega
    | (have q1 := (hE_0_2_1 (r_0 + 2) (by omega)).2 (by omega)
       have q2 := (hE_0_2_2 (r_0 + 2) (by omega)).2 (by omega)
       omega)
    | (have q1 := (hE_0_2_1 (r_0 + 1) (by omega)).2 (by omega)
       have q2 := (hE_0_2_2 (r_0 + 1) (by omega)).2 (by omega)
       omega)
    | (have q1 := (hE_0_2_1 (r_0 + 2) (by omega)).2 (by omega)
       omega)
    | (have q1 := (hE_0_2_1 (r_0 + 1) (by omega)).2 (by omega)
       omega)
    | (have q1 := (hE_0_2_1 (r_0 + 2) (by omega)).2 (by omega)
       have q2 := (hE_0_2_2 (r_0 + 2) (by omega)).2 (by omega)
       have q3 := (hE_0_2_3 (r_0 + 2) (by omega)).1 (by omega)
       omega)
    | (have q1 := (hE_0_2_1 (r_0 + 2) (by omega)).2 (by omega)
       have q2 := (hE_0_2_2 (r_0 + 2) (by omega)).2 (by omega)
       have q3 := (hE_0_2_3 (r_0 + 2) (by omega)).2 (by omega)
       omega)
    | (have q1 := (hE_0_2_1 (r_0 + 2) (by omega)).2 (by omega)
       have q2 := (hE_0_2_2 (r_0 + 2) (by omega)).2 (by omega)
       have q3 := (hE_0_2_3 (r_0 + 2) (by omega)).1 (by omega)
       have q4 : x13 = r_0 + 2 := by omega
       simp only [q4] at *
       omega)
set_option maxHeartbeats 4000000 in
theorem vc_Mo_groupItem_at_k2_21_4 (all_0 : Int → Int) (r_0 : Int) (now_0 : Int → Int) (latest_0 : Int → Int) (f12 : RWS (r_0) (all_0) (now_0) (latest_0)) : RWS (r_0) (all_0) (now_0) (latest_0) := by
  first
    | assumption
set_option maxHeartbeats 4000000 in
theorem vc_Mo_groupItem_at_k2_21_5 (x2 : Int) (x7 : Int) (x10 : Int) (x11 : Int) (x12 : Int) (x14 : Int) (kind_0 : Int) (fault_0 : Int) (value_0 : Int) (from_0 : Int) (pos_0 : Int) (all_0 : Int → Int) (r_0 : Int) (tape_0 : Int → Int) (limit_0 : Int) (place_0 : Int) (faultPlace_0 : Int) (gx : Int) (k2 : 2 ≤ x2 ∧ x2 ≤ 2) (k7 : 0 ≤ x7 ∧ x7 ≤ 7) (k10 : 0 ≤ x10 ∧ x10 ≤ 0) (k11 : 125 ≤ x11 ∧ x11 ≤ 125) (k12 : 0 ≤ x12 ∧ x12 ≤ 0) (k14 : 3 ≤ x14 ∧ x14 ≤ 3) (f1 : x12 = 0) (f3 : SGQ (fault_0) (kind_0) (value_0) (x11) (x12)) (f4 : x10 = 0) (g5 : x10 = fault_0) (f13 : zOP0 (limit_0) (pos_0) (kind_0) (place_0) (value_0) (from_0) (fault_0) (faultPlace_0) (r_0) (tape_0) (all_0) (x7) (x2)) (kz_0_8 : 0 ≤ fault_0 ∧ fault_0 ≤ 5) (kz_0_9 : 0 ≤ faultPlace_0 ∧ faultPlace_0 ≤ 2000) (kz_0_10 : 0 ≤ limit_0 ∧ limit_0 ≤ 2000) (kz_0_11 : 0 ≤ pos_0 ∧ pos_0 ≤ 2000) (kz_0_12 : 0 ≤ kind_0 ∧ kind_0 ≤ 4) (kz_0_13 : 0 ≤ place_0 ∧ place_0 ≤ 2000) (kz_0_14 : (-49) ≤ value_0 ∧ value_0 ≤ 1048575) (kz_0_15 : 0 ≤ from_0 ∧ from_0 ≤ 2000) (ex2 : gx = pos_0) : zRSI (limit_0) (pos_0) (kind_0) (place_0) (value_0) (from_0) (fault_0) (r_0) (tape_0) (all_0) (x7) (x14) := by
  first | subst g5 | skip
  first | subst ex2 | skip
  exact gr_item ‹zOP0 _ _ _ _ _ _ _ _ _ _ _ _ _› (by omega) ‹SGQ _ _ _ _ _› (by omega) (by omega) (by omega) (by omega)
set_option maxHeartbeats 4000000 in
theorem vc_Mo_groupItem_at_k2_21_6 (x3 : Int) (x10 : Int) (x13 : Int) (fault_0 : Int) (pos_0 : Int) (r_0 : Int) (gx : Int) (k3 : 0 ≤ x3 ∧ x3 ≤ 2000) (k10 : 0 ≤ x10 ∧ x10 ≤ 0) (g5 : x10 = fault_0) (f8 : 1 * x3 + ((-1) * pos_0 + 0) ≤ 0) (f9 : (1 ≤ fault_0) ∨ ((x3 + 1) ≤ pos_0)) (kz_0_8 : 0 ≤ fault_0 ∧ fault_0 ≤ 5) (kz_0_11 : 0 ≤ pos_0 ∧ pos_0 ≤ 2000) (ex2 : gx = pos_0) : 1 * x3 + ((-1) * gx + 0) ≤ (-1) := by
  first
    | omega
    | (have q1 := (hE_0_2_1 (r_0 + 2) (by omega)).2 (by omega)
       have q2 := (hE_0_2_2 (r_0 + 2) (by omega)).2 (by omega)
       omega)
    | (have q1 := (hE_0_2_1 (r_0 + 1) (by omega)).2 (by omega)
       have q2 := (hE_0_2_2 (r_0 + 1) (by omega)).2 (by omega)
       omega)
    | (have q1 := (hE_0_2_1 (r_0 + 2) (by omega)).2 (by omega)
       omega)
    | (have q1 := (hE_0_2_1 (r_0 + 1) (by omega)).2 (by omega)
       omega)
    | (have q1 := (hE_0_2_1 (r_0 + 2) (by omega)).2 (by omega)
       have q2 := (hE_0_2_2 (r_0 + 2) (by omega)).2 (by omega)
       have q3 := (hE_0_2_3 (r_0 + 2) (by omega)).1 (by omega)
       omega)
    | (have q1 := (hE_0_2_1 (r_0 + 2) (by omega)).2 (by omega)
       have q2 := (hE_0_2_2 (r_0 + 2) (by omega)).2 (by omega)
       have q3 := (hE_0_2_3 (r_0 + 2) (by omega)).2 (by omega)
       omega)
    | (have q1 := (hE_0_2_1 (r_0 + 2) (by omega)).2 (by omega)
       have q2 := (hE_0_2_2 (r_0 + 2) (by omega)).2 (by omega)
       have q3 := (hE_0_2_3 (r_0 + 2) (by omega)).1 (by omega)
       have q4 : x13 = r_0 + 2 := by omega
       simp only [q4] at *
       omega)
set_option maxHeartbeats 4000000 in
theorem vc_Mo_groupItem_at_k2_21_7 (x9 : Int) (x10 : Int) (x13 : Int) (fault_0 : Int) (pos_0 : Int) (r_0 : Int) (gx : Int) (k9 : 0 ≤ x9 ∧ x9 ≤ 2005) (k10 : 0 ≤ x10 ∧ x10 ≤ 0) (g5 : x10 = fault_0) (f18 : 1 * x9 + (1 * pos_0 + (1 * fault_0 + 0)) ≤ 2005) (f19 : (-1) * x9 + ((-1) * pos_0 + ((-1) * fault_0 + 0)) ≤ (-2005)) (kz_0_8 : 0 ≤ fault_0 ∧ fault_0 ≤ 5) (kz_0_11 : 0 ≤ pos_0 ∧ pos_0 ≤ 2000) (ex2 : gx = pos_0) : (-1) * x9 + ((-1) * gx + 0) ≤ (-2005) := by
  first
    | omega
    | (have q1 := (hE_0_2_1 (r_0 + 2) (by omega)).2 (by omega)
       have q2 := (hE_0_2_2 (r_0 + 2) (by omega)).2 (by omega)
       omega)
    | (have q1 := (hE_0_2_1 (r_0 + 1) (by omega)).2 (by omega)
       have q2 := (hE_0_2_2 (r_0 + 1) (by omega)).2 (by omega)
       omega)
    | (have q1 := (hE_0_2_1 (r_0 + 2) (by omega)).2 (by omega)
       omega)
    | (have q1 := (hE_0_2_1 (r_0 + 1) (by omega)).2 (by omega)
       omega)
    | (have q1 := (hE_0_2_1 (r_0 + 2) (by omega)).2 (by omega)
       have q2 := (hE_0_2_2 (r_0 + 2) (by omega)).2 (by omega)
       have q3 := (hE_0_2_3 (r_0 + 2) (by omega)).1 (by omega)
       omega)
    | (have q1 := (hE_0_2_1 (r_0 + 2) (by omega)).2 (by omega)
       have q2 := (hE_0_2_2 (r_0 + 2) (by omega)).2 (by omega)
       have q3 := (hE_0_2_3 (r_0 + 2) (by omega)).2 (by omega)
       omega)
    | (have q1 := (hE_0_2_1 (r_0 + 2) (by omega)).2 (by omega)
       have q2 := (hE_0_2_2 (r_0 + 2) (by omega)).2 (by omega)
       have q3 := (hE_0_2_3 (r_0 + 2) (by omega)).1 (by omega)
       have q4 : x13 = r_0 + 2 := by omega
       simp only [q4] at *
       omega)
def o_Mo_groupItem_at_k2_21 : or_T := (191, 15, [(0, (2, 0, 0, [165])), (2, (0, 2, 2, [])), (3, (0, 0, 2000, [])), (7, (0, 0, 7, [])), (9, (0, 0, 2005, [])), (10, (0, 0, 0, [])), (11, (0, 125, 125, [])), (12, (0, 0, 0, [])), (14, (0, 3, 3, []))], [(8, [12], [0]), (20, [4, 11, 12], [60, 3, 0, 963, 8, 12, 14]), (8, [10], [0]), (9, [10, 4], [8]), (20, [4, 4], [30, 0, 1, 1, 15, -1, 1, 11]), (20, [4], [50, 3, 0, 12, 11, 15, 2, 21, 4, 7, 1, 3, 2, 0, 12, 0, 1, 0, 3, 2, 0, 11, 4, 3, 2, 0, 15, 0, 8, 3, 7, 1, 3, 2, 0, 12, 0, 0, 0, 7, 4, 3, 2, 0, 15, 0, 1, 2, 0, 11]), (20, [3, 4], [30, 0, 1, 0, 0, -1, 1, 11]), (20, [4, 3], [50, 2, 0, 8, 11, 3, 7, 0, 2, 0, 1, 2, 0, 8, 0, 6, 4, 2, 1, 1, 0, 1, 2, 0, 11]), (20, [7, 4], [50, 1, 1, 1005, 1002, 0, 6, 4, 2, 1, 0, 0, 1, 3, 1, 2, 4, 3, 2, 1, 5, 0, 2]), (20, [4], [60, 1, 3, 199, 5, 2, 3, 4]), (20, [4, 7, 6], [60, 9, 2, 1023, 10, 11, 12, 13, 14, 15, 8, 9, 5, 1, 2]), (24, [0, 4], []), (24, [2, 6], []), (20, [9, 4, 4], [30, 2005, 1, 0, 0, 1, 1, 11, 1, 1, 8]), (20, [9, 4, 4], [30, -2005, -1, 0, 0, -1, 1, 11, -1, 1, 8])], [], [(0, 0, 2000, [])], [(20, [4, 4], [30, 0, 1, 1, 15, -1, 1, 11]), (20, [4], [50, 3, 0, 12, 11, 15, 2, 21, 4, 7, 1, 3, 2, 0, 12, 0, 1, 0, 3, 2, 0, 11, 4, 3, 2, 0, 15, 0, 8, 3, 7, 1, 3, 2, 0, 12, 0, 0, 0, 7, 4, 3, 2, 0, 15, 0, 1, 2, 0, 11]), (20, [15, 4], [30, 0, 1, 0, 0, -1, 1, 11]), (20, [7, 4], [50, 1, 1, 1005, 1002, 0, 6, 4, 2, 1, 0, 0, 1, 3, 1, 2, 4, 3, 2, 1, 5, 0, 2]), (20, [4], [60, 1, 3, 199, 5, 2, 3, 4]), (20, [4, 7, 14], [60, 8, 2, 990, 10, 11, 12, 13, 14, 15, 8, 5, 1, 2]), (23, [3, 15], [-1, 1, -1]), (23, [9, 15], [-2005, -1, -1])], [], [])
theorem oo_Mo_groupItem_at_k2_21 {kA : Nat → ClassId} : or_ok PRD kA GG o_Mo_groupItem_at_k2_21 := by
  refine or_mk fun A ta ws vs hD hth hl => ?_
  intro t0 r0 t2 k2 t3 k3 t7 k7 t9 k9 t10 k10 t11 k11 t12 k12 t14 k14 f1 f3 f4 f5 f6 f7 f8 f9 f10 f12 f13 f15 f17 f18 f19
  replace f1 := shm_192 f1
  replace f3 := shm_731 f3
  replace f4 := shm_192 f4
  replace f5 := shm_293 f5
  replace f6 := shm_1437 f6
  replace f7 := shm_1438 f7
  replace f8 := shm_1431 f8
  replace f9 := shm_1726 f9
  replace f10 := shm_1009 f10
  replace f12 := shm_980 f12
  replace f13 := shm_1730 f13
  replace f15 := shm_5 f15
  replace f17 := shm_5 f17
  replace f18 := shm_2178 f18
  replace f19 := shm_2179 f19
  have q4 : n_v vs 4 = n_v vs 0 := f15.symm
  have q6 : n_v vs 6 = n_v vs 2 := f17.symm
  simp only [q6, q4] at f3 f5 f6 f7 f8 f9 f10 f12 f13 f18 f19
  have g5 : v_iv (n_v vs 10) = w_fi ws (n_v vs 0) 8 := congrArg v_iv f5
  have kz_0_8 := fdq_34 hD hth r0
  have kz_0_9 := fdq_44 hD hth r0
  have kz_0_10 := fdq_43 hD hth r0
  have kz_0_11 := fdq_237 hD hth r0
  have kz_0_12 := fdq_187 hD hth r0
  have kz_0_13 := fdq_238 hD hth r0
  have kz_0_14 := fdq_188 hD hth r0
  have kz_0_15 := fdq_239 hD hth r0
  obtain ⟨x, ex, hx⟩ := iv_ex (ta := ta) (lo := 0) (hi := 2000) (z := w_fi ws (n_v vs 0) 11) (by omega) (by omega) (by omega) (by omega)
  have ex2 : v_iv (Value.int x) = w_fi ws (n_v vs 0) 11 := ex
  have ex3 : 0 ≤ v_iv (Value.int x) ∧ v_iv (Value.int x) ≤ 2000 := tv_rng hx
  have e_3 : n_v (vs ++ [Value.int x]) 3 = n_v vs 3 := n_v_old (by rw [hl]; decide)
  have e_4 : n_v (vs ++ [Value.int x]) 4 = n_v vs 4 := n_v_old (by rw [hl]; decide)
  have e_7 : n_v (vs ++ [Value.int x]) 7 = n_v vs 7 := n_v_old (by rw [hl]; decide)
  have e_9 : n_v (vs ++ [Value.int x]) 9 = n_v vs 9 := n_v_old (by rw [hl]; decide)
  have e_14 : n_v (vs ++ [Value.int x]) 14 = n_v vs 14 := n_v_old (by rw [hl]; decide)
  have e_15 : n_v (vs ++ [Value.int x]) 15 = Value.int x := n_v_new hl
  have nf0 : fc_1 PRD (20, [4, 4], [30, 0, 1, 1, 15, -1, 1, 11]) ws (vs ++ [Value.int x]) := by
    refine ⟨nf_inA hl rfl, sgq_1437 ?_⟩
    · show 1 * w_fi ws (n_v (vs ++ [Value.int x]) 4) 15 + ((-1) * w_fi ws (n_v (vs ++ [Value.int x]) 4) 11 + 0) ≤ 0
      simp only [e_4, q4]
      exact vc_Mo_groupItem_at_k2_21_0 (v_iv (n_v vs 13)) (w_fi ws (n_v vs 0) 15) (w_fi ws (n_v vs 0) 11) (w_fi ws (n_v vs 0) 5) f6 kz_0_11 kz_0_15
  have nf1 : fc_1 PRD (20, [4], [50, 3, 0, 12, 11, 15, 2, 21, 4, 7, 1, 3, 2, 0, 12, 0, 1, 0, 3, 2, 0, 11, 4, 3, 2, 0, 15, 0, 8, 3, 7, 1, 3, 2, 0, 12, 0, 0, 0, 7, 4, 3, 2, 0, 15, 0, 1, 2, 0, 11]) ws (vs ++ [Value.int x]) := by
    refine ⟨nf_inA hl rfl, sgq_1438 ?_⟩
    · show ((w_fi ws (n_v (vs ++ [Value.int x]) 4) 12 = 1) → (w_fi ws (n_v (vs ++ [Value.int x]) 4) 11 ≤ (w_fi ws (n_v (vs ++ [Value.int x]) 4) 15 + 8))) ∧ ((w_fi ws (n_v (vs ++ [Value.int x]) 4) 12 = 0) ∨ ((w_fi ws (n_v (vs ++ [Value.int x]) 4) 15 + 1) ≤ w_fi ws (n_v (vs ++ [Value.int x]) 4) 11))
      simp only [e_4, q4]
      exact vc_Mo_groupItem_at_k2_21_1 (v_iv (n_v vs 13)) (w_fi ws (n_v vs 0) 12) (w_fi ws (n_v vs 0) 15) (w_fi ws (n_v vs 0) 11) (w_fi ws (n_v vs 0) 5) f7 kz_0_11 kz_0_12 kz_0_15
  have nf2 : fc_1 PRD (20, [15, 4], [30, 0, 1, 0, 0, -1, 1, 11]) ws (vs ++ [Value.int x]) := by
    refine ⟨nf_inA hl rfl, sgq_1431 ?_⟩
    · show 1 * v_iv (n_v (vs ++ [Value.int x]) 15) + ((-1) * w_fi ws (n_v (vs ++ [Value.int x]) 4) 11 + 0) ≤ 0
      simp only [e_4, e_15, q4]
      exact vc_Mo_groupItem_at_k2_21_2 (v_iv (n_v vs 13)) (w_fi ws (n_v vs 0) 11) (w_fi ws (n_v vs 0) 5) (v_iv (Value.int x)) kz_0_11 ex2
  have nf3 : fc_1 PRD (20, [7, 4], [50, 1, 1, 1005, 1002, 0, 6, 4, 2, 1, 0, 0, 1, 3, 1, 2, 4, 3, 2, 1, 5, 0, 2]) ws (vs ++ [Value.int x]) := by
    refine ⟨nf_inA hl rfl, sgq_1009 ?_⟩
    · show (v_iv (n_v (vs ++ [Value.int x]) 7) + 1) ≤ w_ei ws (w_ar ws (n_v (vs ++ [Value.int x]) 4) 2) ((w_fi ws (n_v (vs ++ [Value.int x]) 4) 5 + 2))
      simp only [e_4, e_7, q4]
      exact vc_Mo_groupItem_at_k2_21_3 (v_iv (n_v vs 7)) (v_iv (n_v vs 13)) (w_ei ws (w_ar ws (n_v vs 0) 2)) (w_fi ws (n_v vs 0) 5) k7 f10
  have nf4 : fc_1 PRD (20, [4], [60, 1, 3, 199, 5, 2, 3, 4]) ws (vs ++ [Value.int x]) := by
    refine ⟨nf_inA hl rfl, sgq_980 ?_⟩
    · show RWS (w_fi ws (n_v (vs ++ [Value.int x]) 4) 5) (w_ei ws (w_ar ws (n_v (vs ++ [Value.int x]) 4) 2)) (w_ei ws (w_ar ws (n_v (vs ++ [Value.int x]) 4) 3)) (w_ei ws (w_ar ws (n_v (vs ++ [Value.int x]) 4) 4))
      simp only [e_4, q4]
      exact vc_Mo_groupItem_at_k2_21_4 (w_ei ws (w_ar ws (n_v vs 0) 2)) (w_fi ws (n_v vs 0) 5) (w_ei ws (w_ar ws (n_v vs 0) 3)) (w_ei ws (w_ar ws (n_v vs 0) 4)) f12
  have nf5 : fc_1 PRD (20, [4, 7, 14], [60, 8, 2, 990, 10, 11, 12, 13, 14, 15, 8, 5, 1, 2]) ws (vs ++ [Value.int x]) := by
    refine ⟨nf_inA hl rfl, sgq_2180 ?_⟩
    · show zRSI (w_fi ws (n_v (vs ++ [Value.int x]) 4) 10) (w_fi ws (n_v (vs ++ [Value.int x]) 4) 11) (w_fi ws (n_v (vs ++ [Value.int x]) 4) 12) (w_fi ws (n_v (vs ++ [Value.int x]) 4) 13) (w_fi ws (n_v (vs ++ [Value.int x]) 4) 14) (w_fi ws (n_v (vs ++ [Value.int x]) 4) 15) (w_fi ws (n_v (vs ++ [Value.int x]) 4) 8) (w_fi ws (n_v (vs ++ [Value.int x]) 4) 5) (w_ei ws (w_ar ws (n_v (vs ++ [Value.int x]) 4) 1)) (w_ei ws (w_ar ws (n_v (vs ++ [Value.int x]) 4) 2)) (v_iv (n_v (vs ++ [Value.int x]) 7)) (v_iv (n_v (vs ++ [Value.int x]) 14))
      simp only [e_4, e_7, e_14, q4]
      exact vc_Mo_groupItem_at_k2_21_5 (v_iv (n_v vs 2)) (v_iv (n_v vs 7)) (v_iv (n_v vs 10)) (v_iv (n_v vs 11)) (v_iv (n_v vs 12)) (v_iv (n_v vs 14)) (w_fi ws (n_v vs 0) 12) (w_fi ws (n_v vs 0) 8) (w_fi ws (n_v vs 0) 14) (w_fi ws (n_v vs 0) 15) (w_fi ws (n_v vs 0) 11) (w_ei ws (w_ar ws (n_v vs 0) 2)) (w_fi ws (n_v vs 0) 5) (w_ei ws (w_ar ws (n_v vs 0) 1)) (w_fi ws (n_v vs 0) 10) (w_fi ws (n_v vs 0) 13) (w_fi ws (n_v vs 0) 9) (v_iv (Value.int x)) k2 k7 k10 k11 k12 k14 f1 f3 f4 g5 f13 kz_0_8 kz_0_9 kz_0_10 kz_0_11 kz_0_12 kz_0_13 kz_0_14 kz_0_15 ex2
  have nf6 : fc_1 PRD (23, [3, 15], [-1, 1, -1]) ws (vs ++ [Value.int x]) := by
    refine ⟨nf_inA hl rfl, sgq_193 ?_⟩
    · show 1 * v_iv (n_v (vs ++ [Value.int x]) 3) + ((-1) * v_iv (n_v (vs ++ [Value.int x]) 15) + 0) ≤ (-1)
      simp only [e_3, e_15]
      exact vc_Mo_groupItem_at_k2_21_6 (v_iv (n_v vs 3)) (v_iv (n_v vs 10)) (v_iv (n_v vs 13)) (w_fi ws (n_v vs 0) 8) (w_fi ws (n_v vs 0) 11) (w_fi ws (n_v vs 0) 5) (v_iv (Value.int x)) k3 k10 g5 f8 f9 kz_0_8 kz_0_11 ex2
  have nf7 : fc_1 PRD (23, [9, 15], [-2005, -1, -1]) ws (vs ++ [Value.int x]) := by
    refine ⟨nf_inA hl rfl, sgq_2181 ?_⟩
    · show (-1) * v_iv (n_v (vs ++ [Value.int x]) 9) + ((-1) * v_iv (n_v (vs ++ [Value.int x]) 15) + 0) ≤ (-2005)
      simp only [e_9, e_15]
      exact vc_Mo_groupItem_at_k2_21_7 (v_iv (n_v vs 9)) (v_iv (n_v vs 10)) (v_iv (n_v vs 13)) (w_fi ws (n_v vs 0) 8) (w_fi ws (n_v vs 0) 11) (w_fi ws (n_v vs 0) 5) (v_iv (Value.int x)) k9 k10 g5 f18 f19 kz_0_8 kz_0_11 ex2
  exact ⟨(fun _ h => (by cases h)), [Value.int x], ag_one hx, List.forall_mem_cons.mpr ⟨⟨show (20 : Nat) < 100 from by decide, nf0⟩, List.forall_mem_cons.mpr ⟨⟨show (20 : Nat) < 100 from by decide, nf1⟩, List.forall_mem_cons.mpr ⟨⟨show (20 : Nat) < 100 from by decide, nf2⟩, List.forall_mem_cons.mpr ⟨⟨show (20 : Nat) < 100 from by decide, nf3⟩, List.forall_mem_cons.mpr ⟨⟨show (20 : Nat) < 100 from by decide, nf4⟩, List.forall_mem_cons.mpr ⟨⟨show (20 : Nat) < 100 from by decide, nf5⟩, List.forall_mem_cons.mpr ⟨⟨show (23 : Nat) < 100 from by decide, nf6⟩, List.forall_mem_cons.mpr ⟨⟨show (23 : Nat) < 100 from by decide, nf7⟩, (fun _ h => (by cases h))⟩⟩⟩⟩⟩⟩⟩⟩, (fun _ h => (by cases h))⟩
set_option maxHeartbeats 4000000 in
theorem vc_Mo_groupItem_at_k2_22_0 (x13 : Int) (from_0 : Int) (pos_0 : Int) (r_0 : Int) (f7 : 1 * from_0 + ((-1) * pos_0 + 0) ≤ 0) (kz_0_11 : 0 ≤ pos_0 ∧ pos_0 ≤ 2000) (kz_0_15 : 0 ≤ from_0 ∧ from_0 ≤ 2000) : 1 * from_0 + ((-1) * pos_0 + 0) ≤ 0 := by
  first
    | omega
    | (have q1 := (hE_0_2_1 (r_0 + 2) (by omega)).2 (by omega)
       have q2 := (hE_0_2_2 (r_0 + 2) (by omega)).2 (by omega)
       omega)
    | (have q1 := (hE_0_2_1 (r_0 + 1) (by omega)).2 (by omega)
       have q2 := (hE_0_2_2 (r_0 + 1) (by omega)).2 (by omega)
       omega)
    | (have q1 := (hE_0_2_1 (r_0 + 2) (by omega)).2 (by omega)
       omega)
    | (have q1 := (hE_0_2_1 (r_0 + 1) (by omega)).2 (by omega)
       omega)
    | (have q1 := (hE_0_2_1 (r_0 + 2) (by omega)).2 (by omega)
       have q2 := (hE_0_2_2 (r_0 + 2) (by omega)).2 (by omega)
       have q3 := (hE_0_2_3 (r_0 + 2) (by omega)).1 (by omega)
       omega)
    | (have q1 := (hE_0_2_1 (r_0 + 2) (by omega)).2 (by omega)
       have q2 := (hE_0_2_2 (r_0 + 2) (by omega)).2 (by omega)
       have q3 := (hE_0_2_3 (r_0 + 2) (by omega)).2 (by omega)
       omega)
    | (have q1 := (hE_0_2_1 (r_0 + 2) (by omega)).2 (by omega)
       have q2 := (hE_0_2_2 (r_0 + 2) (by omega)).2 (by omega)
       have q3 := (hE_0_2_3 (r_0 + 2) (by omega)).1 (by omega)
       have q4 : x13 = r_0 + 2 := by omega
       simp only [q4] at *
       omega)
set_option maxHeartbeats 4000000 in
theorem vc_Mo_groupItem_at_k2_22_1 (x13 : Int) (from_0 : Int) (pos_0 : Int) (kind_0 : Int) (r_0 : Int) (f8 : ((kind_0 = 1) → (pos_0 ≤ (from_0 + 8))) ∧ ((kind_0 = 0) ∨ ((from_0 + 1) ≤ pos_0))) (kz_0_11 : 0 ≤ pos_0 ∧ pos_0 ≤ 2000) (kz_0_12 : 0 ≤ kind_0 ∧ kind_0 ≤ 4) (kz_0_15 : 0 ≤ from_0 ∧ from_0 ≤ 2000) : ((kind_0 = 1) → (pos_0 ≤ (from_0 + 8))) ∧ ((kind_0 = 0) ∨ ((from_0 + 1) ≤ pos_0)) := by
  first
    | omega
    | (have q1 := (hE_0_2_1 (r_0 + 2) (by omega)).2 (by omega)
       have q2 := (hE_0_2_2 (r_0 + 2) (by omega)).2 (by omega)
       omega)
    | (have q1 := (hE_0_2_1 (r_0 + 1) (by omega)).2 (by omega)
       have q2 := (hE_0_2_2 (r_0 + 1) (by omega)).2 (by omega)
       omega)
    | (have q1 := (hE_0_2_1 (r_0 + 2) (by omega)).2 (by omega)
       omega)
    | (have q1 := (hE_0_2_1 (r_0 + 1) (by omega)).2 (by omega)
       omega)
    | (have q1 := (hE_0_2_1 (r_0 + 2) (by omega)).2 (by omega)
       have q2 := (hE_0_2_2 (r_0 + 2) (by omega)).2 (by omega)
       have q3 := (hE_0_2_3 (r_0 + 2) (by omega)).1 (by omega)
       omega)
    | (have q1 := (hE_0_2_1 (r_0 + 2) (by omega)).2 (by omega)
       have q2 := (hE_0_2_2 (r_0 + 2) (by omega)).2 (by omega)
       have q3 := (hE_0_2_3 (r_0 + 2) (by omega)).2 (by omega)
       omega)
    | (have q1 := (hE_0_2_1 (r_0 + 2) (by omega)).2 (by omega)
       have q2 := (hE_0_2_2 (r_0 + 2) (by omega)).2 (by omega)
       have q3 := (hE_0_2_3 (r_0 + 2) (by omega)).1 (by omega)
       have q4 : x13 = r_0 + 2 := by omega
       simp only [q4] at *
       omega)
set_option maxHeartbeats 4000000 in
theorem vc_Mo_groupItem_at_k2_22_2 (x3 : Int) (x13 : Int) (x15 : Int) (pos_0 : Int) (r_0 : Int) (k3 : 0 ≤ x3 ∧ x3 ≤ 2000) (k15 : 0 ≤ x15 ∧ x15 ≤ 2000) (f0 : 1 * x3 + ((-1) * x15 + 0) ≤ (-1)) (f9 : 1 * x15 + ((-1) * pos_0 + 0) ≤ 0) (kz_0_11 : 0 ≤ pos_0 ∧ pos_0 ≤ 2000) : 1 * x3 + ((-1) * pos_0 + 0) ≤ 0 := by
  first
    | omega
    | (have q1 := (hE_0_2_1 (r_0 + 2) (by omega)).2 (by omega)
       have q2 := (hE_0_2_2 (r_0 + 2) (by omega)).2 (by omega)
       omega)
    | (have q1 := (hE_0_2_1 (r_0 + 1) (by omega)).2 (by omega)
       have q2 := (hE_0_2_2 (r_0 + 1) (by omega)).2 (by omega)
       omega)
    | (have q1 := (hE_0_2_1 (r_0 + 2) (by omega)).2 (by omega)
       omega)
    | (have q1 := (hE_0_2_1 (r_0 + 1) (by omega)).2 (by omega)
       omega)
    | (have q1 := (hE_0_2_1 (r_0 + 2) (by omega)).2 (by omega)
       have q2 := (hE_0_2_2 (r_0 + 2) (by omega)).2 (by omega)
       have q3 := (hE_0_2_3 (r_0 + 2) (by omega)).1 (by omega)
       omega)
    | (have q1 := (hE_0_2_1 (r_0 + 2) (by omega)).2 (by omega)
       have q2 := (hE_0_2_2 (r_0 + 2) (by omega)).2 (by omega)
       have q3 := (hE_0_2_3 (r_0 + 2) (by omega)).2 (by omega)
       omega)
    | (have q1 := (hE_0_2_1 (r_0 + 2) (by omega)).2 (by omega)
       have q2 := (hE_0_2_2 (r_0 + 2) (by omega)).2 (by omega)
       have q3 := (hE_0_2_3 (r_0 + 2) (by omega)).1 (by omega)
       have q4 : x13 = r_0 + 2 := by omega
       simp only [q4] at *
       omega)
set_option maxHeartbeats 4000000 in
theorem vc_Mo_groupItem_at_k2_22_3 (x3 : Int) (x13 : Int) (x15 : Int) (pos_0 : Int) (fault_0 : Int) (r_0 : Int) (k3 : 0 ≤ x3 ∧ x3 ≤ 2000) (k15 : 0 ≤ x15 ∧ x15 ≤ 2000) (f0 : 1 * x3 + ((-1) * x15 + 0) ≤ (-1)) (f9 : 1 * x15 + ((-1) * pos_0 + 0) ≤ 0) (kz_0_8 : 0 ≤ fault_0 ∧ fault_0 ≤ 5) (kz_0_11 : 0 ≤ pos_0 ∧ pos_0 ≤ 2000) : (1 ≤ fault_0) ∨ ((x3 + 1) ≤ pos_0) := by
  first
    | omega
    | (have q1 := (hE_0_2_1 (r_0 + 2) (by omega)).2 (by omega)
       have q2 := (hE_0_2_2 (r_0 + 2) (by omega)).2 (by omega)
       omega)
    | (have q1 := (hE_0_2_1 (r_0 + 1) (by omega)).2 (by omega)
       have q2 := (hE_0_2_2 (r_0 + 1) (by omega)).2 (by omega)
       omega)
    | (have q1 := (hE_0_2_1 (r_0 + 2) (by omega)).2 (by omega)
       omega)
    | (have q1 := (hE_0_2_1 (r_0 + 1) (by omega)).2 (by omega)
       omega)
    | (have q1 := (hE_0_2_1 (r_0 + 2) (by omega)).2 (by omega)
       have q2 := (hE_0_2_2 (r_0 + 2) (by omega)).2 (by omega)
       have q3 := (hE_0_2_3 (r_0 + 2) (by omega)).1 (by omega)
       omega)
    | (have q1 := (hE_0_2_1 (r_0 + 2) (by omega)).2 (by omega)
       have q2 := (hE_0_2_2 (r_0 + 2) (by omega)).2 (by omega)
       have q3 := (hE_0_2_3 (r_0 + 2) (by omega)).2 (by omega)
       omega)
    | (have q1 := (hE_0_2_1 (r_0 + 2) (by omega)).2 (by omega)
       have q2 := (hE_0_2_2 (r_0 + 2) (by omega)).2 (by omega)
       have q3 := (hE_0_2_3 (r_0 + 2) (by omega)).1 (by omega)
       have q4 : x13 = r_0 + 2 := by omega
       simp only [q4] at *
       omega)
set_option maxHeartbeats 4000000 in
theorem vc_Mo_groupItem_at_k2_22_4 (x7 : Int) (x13 : Int) (all_0 : Int → Int) (r_0 : Int) (k7 : 0 ≤ x7 ∧ x7 ≤ 7) (f11 : (x7 + 1) ≤ all_0 ((r_0 + 2))) : (x7 + 1) ≤ all_0 ((r_0 + 2)) := by
  first
    | omega
    | (have q1 := (hE_0_2_1 (r_0 + 2) (by omega)).2 (by omega)
       have q2 := (hE_0_2_2 (r_0 + 2) (by omega)).2 (by omega)
       omega)
    | (have q1 := (hE_0_2_1 (r_0 + 1) (by omega)).2 (by omega)
       have q2 := (hE_0_2_2 (r_0 + 1) (by omega)).2 (by omega)
       omega)
    | (have q1 := (hE_0_2_1 (r_0 + 2) (by omega)).2 (by omega)
       omega)
    | (have q1 := (hE_0_2_1 (r_0 + 1) (by omega)).2 (by omega)
       omega)
    | (have q1 := (hE_0_2_1 (r_0 + 2) (by omega)).2 (by omega)
       have q2 := (hE_0_2_2 (r_0 + 2) (by omega)).2 (by omega)
       have q3 := (hE_0_2_3 (r_0 + 2) (by omega)).1 (by omega)
       omega)
    | (have q1 := (hE_0_2_1 (r_0 + 2) (by omega)).2 (by omega)
       have q2 := (hE_0_2_2 (r_0 + 2) (by omega)).2 (by omega)
       have q3 := (hE_0_2_3 (r_0 + 2) (by omega)).2 (by omega)
       omega)
    | (have q1 := (hE_0_2_1 (r_0 + 2) (by omega)).2 (by omega)
       have q2 := (hE_0_2_2 (r_0 + 2) (by omega)).2 (by omega)
       have q3 := (hE_0_2_3 (r_0 + 2) (by omega)).1 (by omega)
       have q4 : x13 = r_0 + 2 := by omega
       simp only [q4] at *
       omega)
set_option maxHeartbeats 4000000 in
theorem vc_Mo_groupItem_at_k2_22_5 (x1 : Int) (x7 : Int) (x13 : Int) (r_0 : Int) (k1 : 0 ≤ x1 ∧ x1 ≤ 7) (k7 : 0 ≤ x7 ∧ x7 ≤ 7) (f18 : 1 * x1 + ((-1) * x7 + 0) ≤ (-1)) : 1 * x1 + ((-1) * x7 + 0) ≤ (-1) := by
  first
    | omega
    | (have q1 := (hE_0_2_1 (r_0 + 2) (by omega)).2 (by omega)
       have q2 := (hE_0_2_2 (r_0 + 2) (by omega)).2 (by omega)
       omega)
    | (have q1 := (hE_0_2_1 (r_0 + 1) (by omega)).2 (by omega)
       have q2 := (hE_0_2_2 (r_0 + 1) (by omega)).2 (by omega)
       omega)
    | (have q1 := (hE_0_2_1 (r_0 + 2) (by omega)).2 (by omega)
       omega)
    | (have q1 := (hE_0_2_1 (r_0 + 1) (by omega)).2 (by omega)
       omega)
    | (have q1 := (hE_0_2_1 (r_0 + 2) (by omega)).2 (by omega)
       have q2 := (hE_0_2_2 (r_0 + 2) (by omega)).2 (by omega)
       have q3 := (hE_0_2_3 (r_0 + 2) (by omega)).1 (by omega)
       omega)
    | (have q1 := (hE_0_2_1 (r_0 + 2) (by omega)).2 (by omega)
       have q2 := (hE_0_2_2 (r_0 + 2) (by omega)).2 (by omega)
       have q3 := (hE_0_2_3 (r_0 + 2) (by omega)).2 (by omega)
       omega)
    | (have q1 := (hE_0_2_1 (r_0 + 2) (by omega)).2 (by omega)
       have q2 := (hE_0_2_2 (r_0 + 2) (by omega)).2 (by omega)
       have q3 := (hE_0_2_3 (r_0 + 2) (by omega)).1 (by omega)
       have q4 : x13 = r_0 + 2 := by omega
       simp only [q4] at *
       omega)
set_option maxHeartbeats 4000000 in
theorem vc_Mo_groupItem_at_k2_22_6 (all_0 : Int → Int) (r_0 : Int) (now_0 : Int → Int) (latest_0 : Int → Int) (f12 : RWS (r_0) (all_0) (now_0) (latest_0)) : RWS (r_0) (all_0) (now_0) (latest_0) := by
  first
    | assumption
set_option maxHeartbeats 4000000 in
theorem vc_Mo_groupItem_at_k2_22_7 (x9 : Int) (x13 : Int) (x15 : Int) (pos_0 : Int) (fault_0 : Int) (r_0 : Int) (gx : Int) (k9 : 0 ≤ x9 ∧ x9 ≤ 2005) (k15 : 0 ≤ x15 ∧ x15 ≤ 2000) (f1 : (-1) * x9 + ((-1) * x15 + 0) ≤ (-2005)) (f9 : 1 * x15 + ((-1) * pos_0 + 0) ≤ 0) (f10 : (1 ≤ fault_0) ∨ ((x15 + 1) ≤ pos_0)) (kz_0_8 : 0 ≤ fault_0 ∧ fault_0 ≤ 5) (kz_0_11 : 0 ≤ pos_0 ∧ pos_0 ≤ 2000) (ex2 : gx = 0 + (1 * x9 + 0)) : (-1) * gx + ((-1) * pos_0 + ((-1) * fault_0 + 0)) ≤ (-2006) := by
  first
    | omega
    | (have q1 := (hE_0_2_1 (r_0 + 2) (by omega)).2 (by omega)
       have q2 := (hE_0_2_2 (r_0 + 2) (by omega)).2 (by omega)
       omega)
    | (have q1 := (hE_0_2_1 (r_0 + 1) (by omega)).2 (by omega)
       have q2 := (hE_0_2_2 (r_0 + 1) (by omega)).2 (by omega)
       omega)
    | (have q1 := (hE_0_2_1 (r_0 + 2) (by omega)).2 (by omega)
       omega)
    | (have q1 := (hE_0_2_1 (r_0 + 1) (by omega)).2 (by omega)
       omega)
    | (have q1 := (hE_0_2_1 (r_0 + 2) (by omega)).2 (by omega)
       have q2 := (hE_0_2_2 (r_0 + 2) (by omega)).2 (by omega)
       have q3 := (hE_0_2_3 (r_0 + 2) (by omega)).1 (by omega)
       omega)
    | (have q1 := (hE_0_2_1 (r_0 + 2) (by omega)).2 (by omega)
       have q2 := (hE_0_2_2 (r_0 + 2) (by omega)).2 (by omega)
       have q3 := (hE_0_2_3 (r_0 + 2) (by omega)).2 (by omega)
       omega)
    | (have q1 := (hE_0_2_1 (r_0 + 2) (by omega)).2 (by omega)
       have q2 := (hE_0_2_2 (r_0 + 2) (by omega)).2 (by omega)
       have q3 := (hE_0_2_3 (r_0 + 2) (by omega)).1 (by omega)
       have q4 : x13 = r_0 + 2 := by omega
       simp only [q4] at *
       omega)
set_option maxHeartbeats 4000000 in
theorem vc_Mo_groupItem_at_k2_22_8 (x2 : Int) (x7 : Int) (x14 : Int) (tape_0 : Int → Int) (limit_0 : Int) (from_0 : Int) (pos_0 : Int) (kind_0 : Int) (fault_0 : Int) (all_0 : Int → Int) (r_0 : Int) (place_0 : Int) (value_0 : Int) (faultPlace_0 : Int) (k2 : 2 ≤ x2 ∧ x2 ≤ 2) (k7 : 0 ≤ x7 ∧ x7 ≤ 7) (k14 : 3 ≤ x14 ∧ x14 ≤ 3) (f13 : zOS0 (limit_0) (pos_0) (kind_0) (place_0) (value_0) (from_0) (fault_0) (faultPlace_0) (r_0) (tape_0) (all_0) (x7) (x14)) (kz_0_8 : 0 ≤ fault_0 ∧ fault_0 ≤ 5) (kz_0_9 : 0 ≤ faultPlace_0 ∧ faultPlace_0 ≤ 2000) (kz_0_10 : 0 ≤ limit_0 ∧ limit_0 ≤ 2000) (kz_0_11 : 0 ≤ pos_0 ∧ pos_0 ≤ 2000) (kz_0_12 : 0 ≤ kind_0 ∧ kind_0 ≤ 4) (kz_0_13 : 0 ≤ place_0 ∧ place_0 ≤ 2000) (kz_0_14 : (-49) ≤ value_0 ∧ value_0 ≤ 1048575) (kz_0_15 : 0 ≤ from_0 ∧ from_0 ≤ 2000) : zOP0 (limit_0) (pos_0) (kind_0) (place_0) (value_0) (from_0) (fault_0) (faultPlace_0) (r_0) (tape_0) (all_0) (x7) (x2) := by
  first
    | assumption
    | exact op0_of ‹zOS0 _ _ _ _ _ _ _ _ _ _ _ _ _› (by omega)
set_option maxHeartbeats 4000000 in
theorem vc_Mo_groupItem_at_k2_22_9 (x1 : Int) (x7 : Int) (tape_0 : Int → Int) (limit_0 : Int) (k1 : 0 ≤ x1 ∧ x1 ≤ 7) (k7 : 0 ≤ x7 ∧ x7 ≤ 7) (f3 : HST (limit_0) (tape_0) (x7) (x1)) (kz_0_10 : 0 ≤ limit_0 ∧ limit_0 ≤ 2000) : HST (limit_0) (tape_0) (x7) (x1) := by
  assumption
def o_Mo_groupItem_at_k2_22 : or_T := (194, 16, [(0, (2, 0, 0, [165])), (1, (0, 0, 7, [])), (2, (0, 2, 2, [])), (3, (0, 0, 2000, [])), (4, (2, 0, 0, [165])), (5, (0, 0, 7, [])), (6, (0, 2, 2, [])), (7, (0, 0, 7, [])), (9, (0, 0, 2005, [])), (13, (0, 1, 1, [])), (14, (0, 3, 3, [])), (15, (0, 0, 2000, []))], [(23, [3, 15], [-1, 1, -1]), (23, [9, 15], [-2005, -1, -1]), (23, [5, 7], [-1, 1, -1]), (20, [4, 7, 5], [60, 1, 1, 1028, 10, 1]), (24, [0, 4], []), (24, [1, 5], []), (24, [2, 6], []), (20, [4, 4], [30, 0, 1, 1, 15, -1, 1, 11]), (20, [4], [50, 3, 0, 12, 11, 15, 2, 21, 4, 7, 1, 3, 2, 0, 12, 0, 1, 0, 3, 2, 0, 11, 4, 3, 2, 0, 15, 0, 8, 3, 7, 1, 3, 2, 0, 12, 0, 0, 0, 7, 4, 3, 2, 0, 15, 0, 1, 2, 0, 11]), (20, [15, 4], [30, 0, 1, 0, 0, -1, 1, 11]), (20, [4, 15], [50, 2, 0, 8, 11, 3, 7, 0, 2, 0, 1, 2, 0, 8, 0, 6, 4, 2, 1, 1, 0, 1, 2, 0, 11]), (20, [7, 4], [50, 1, 1, 1005, 1002, 0, 6, 4, 2, 1, 0, 0, 1, 3, 1, 2, 4, 3, 2, 1, 5, 0, 2]), (20, [4], [60, 1, 3, 199, 5, 2, 3, 4]), (20, [4, 7, 14], [60, 9, 2, 1007, 10, 11, 12, 13, 14, 15, 8, 9, 5, 1, 2]), (102, [15], [187072209578355573530071658587684226515959365500928, 165008, 165009, 165011, 165012, 165013, 165014, 165015]), (23, [3, 15], [-1, 1, -1]), (23, [9, 15], [-2005, -1, -1]), (1, [14, 6, 13], []), (23, [5, 7], [-1, 1, -1])], [], [(0, 0, 2005, [])], [(20, [4, 4], [30, 0, 1, 1, 15, -1, 1, 11]), (20, [4], [50, 3, 0, 12, 11, 15, 2, 21, 4, 7, 1, 3, 2, 0, 12, 0, 1, 0, 3, 2, 0, 11, 4, 3, 2, 0, 15, 0, 8, 3, 7, 1, 3, 2, 0, 12, 0, 0, 0, 7, 4, 3, 2, 0, 15, 0, 1, 2, 0, 11]), (20, [3, 4], [30, 0, 1, 0, 0, -1, 1, 11]), (20, [4, 3], [50, 2, 0, 8, 11, 3, 7, 0, 2, 0, 1, 2, 0, 8, 0, 6, 4, 2, 1, 1, 0, 1, 2, 0, 11]), (20, [7, 4], [50, 1, 1, 1005, 1002, 0, 6, 4, 2, 1, 0, 0, 1, 3, 1, 2, 4, 3, 2, 1, 5, 0, 2]), (23, [5, 7], [-1, 1, -1]), (20, [4], [60, 1, 3, 199, 5, 2, 3, 4]), (20, [16, 4, 4], [30, -2006, -1, 0, 0, -1, 1, 11, -1, 1, 8]), (20, [4, 7, 6], [60, 9, 2, 1023, 10, 11, 12, 13, 14, 15, 8, 9, 5, 1, 2]), (20, [4, 7, 5], [60, 1, 1, 1028, 10, 1]), (24, [0, 4], []), (24, [1, 5], []), (24, [2, 6], [])], [(16, 9, 0, 0)], [(1, 5, -4294967296, 0), (5, 1, -4294967296, 0)])
theorem oo_Mo_groupItem_at_k2_22 {kA : Nat → ClassId} : or_ok PRD kA GG o_Mo_groupItem_at_k2_22 := by
  refine or_mk fun A ta ws vs hD hth hl => ?_
  intro t0 r0 t1 k1 t2 k2 t3 k3 t4 r4 t5 k5 t6 k6 t7 k7 t9 k9 t13 k13 t14 k14 t15 k15 d0 d1 f0 f1 f2 f3 f4 f5 f6 f7 f8 f9 f10 f11 f12 f13 ta1 w1 le1 s1 f15 f16 f17 f18
  replace f0 := shm_193 f0
  replace f1 := shm_2181 f1
  replace f2 := shm_193 f2
  replace f3 := shm_2176 f3
  replace f4 := shm_5 f4
  replace f5 := shm_5 f5
  replace f6 := shm_5 f6
  replace f7 := shm_1437 f7
  replace f8 := shm_1438 f8
  replace f9 := shm_1431 f9
  replace f10 := shm_1726 f10
  replace f11 := shm_1009 f11
  replace f12 := shm_980 f12
  replace f13 := shm_1727 f13
  replace f15 := shm_193 f15
  replace f16 := shm_2181 f16
  replace f17 := shm_12 f17
  replace f18 := shm_193 f18
  have q4 : n_v vs 4 = n_v vs 0 := f4.symm
  have q5 : n_v vs 5 = n_v vs 1 := f5.symm
  have q6 : n_v vs 6 = n_v vs 2 := f6.symm
  simp only [q5, q4, q6] at f2 f3 f7 f8 f9 f10 f11 f12 f13 f17 f18
  have cr_0_1 := fdq_39 hD hth r0
  have cr_0_2 := fdq_10 hD hth r0
  have cr_0_3 := fdq_142 hD hth r0
  have cr_0_4 := fdq_143 hD hth r0
  have hK_0_1 := elq_7 hD hth cr_0_1
  have hK_0_3 := elq_80 hD hth cr_0_3
  have hK_0_4 := elq_81 hD hth cr_0_4
  have kz_0_8 := fdq_34 hD hth r0
  have kz_0_9 := fdq_44 hD hth r0
  have kz_0_10 := fdq_43 hD hth r0
  have kz_0_11 := fdq_237 hD hth r0
  have kz_0_12 := fdq_187 hD hth r0
  have kz_0_13 := fdq_238 hD hth r0
  have kz_0_14 := fdq_188 hD hth r0
  have kz_0_15 := fdq_239 hD hth r0
  obtain ⟨x, ex, hx⟩ := iv_ex (ta := ta) (lo := 0) (hi := 2005) (z := 0 + (1 * v_iv (n_v vs 9) + 0)) (by omega) (by omega) (by omega) (by omega)
  have ex2 : v_iv (Value.int x) = 0 + (1 * v_iv (n_v vs 9) + 0) := ex
  have ex3 : 0 ≤ v_iv (Value.int x) ∧ v_iv (Value.int x) ≤ 2005 := tv_rng hx
  have e_0 : n_v (vs ++ [Value.int x]) 0 = n_v vs 0 := n_v_old (by rw [hl]; decide)
  have e_1 : n_v (vs ++ [Value.int x]) 1 = n_v vs 1 := n_v_old (by rw [hl]; decide)
  have e_2 : n_v (vs ++ [Value.int x]) 2 = n_v vs 2 := n_v_old (by rw [hl]; decide)
  have e_3 : n_v (vs ++ [Value.int x]) 3 = n_v vs 3 := n_v_old (by rw [hl]; decide)
  have e_4 : n_v (vs ++ [Value.int x]) 4 = n_v vs 4 := n_v_old (by rw [hl]; decide)
  have e_5 : n_v (vs ++ [Value.int x]) 5 = n_v vs 5 := n_v_old (by rw [hl]; decide)
  have e_6 : n_v (vs ++ [Value.int x]) 6 = n_v vs 6 := n_v_old (by rw [hl]; decide)
  have e_7 : n_v (vs ++ [Value.int x]) 7 = n_v vs 7 := n_v_old (by rw [hl]; decide)
  have e_16 : n_v (vs ++ [Value.int x]) 16 = Value.int x := n_v_new hl
  have nf0 : fc_1 PRD (20, [4, 4], [30, 0, 1, 1, 15, -1, 1, 11]) ws (vs ++ [Value.int x]) := by
    refine ⟨nf_inA hl rfl, sgq_1437 ?_⟩
    · show 1 * w_fi ws (n_v (vs ++ [Value.int x]) 4) 15 + ((-1) * w_fi ws (n_v (vs ++ [Value.int x]) 4) 11 + 0) ≤ 0
      simp only [e_4, q4]
      exact vc_Mo_groupItem_at_k2_22_0 (v_iv (n_v vs 13)) (w_fi ws (n_v vs 0) 15) (w_fi ws (n_v vs 0) 11) (w_fi ws (n_v vs 0) 5) f7 kz_0_11 kz_0_15
  have nf1 : fc_1 PRD (20, [4], [50, 3, 0, 12, 11, 15, 2, 21, 4, 7, 1, 3, 2, 0, 12, 0, 1, 0, 3, 2, 0, 11, 4, 3, 2, 0, 15, 0, 8, 3, 7, 1, 3, 2, 0, 12, 0, 0, 0, 7, 4, 3, 2, 0, 15, 0, 1, 2, 0, 11]) ws (vs ++ [Value.int x]) := by
    refine ⟨nf_inA hl rfl, sgq_1438 ?_⟩
    · show ((w_fi ws (n_v (vs ++ [Value.int x]) 4) 12 = 1) → (w_fi ws (n_v (vs ++ [Value.int x]) 4) 11 ≤ (w_fi ws (n_v (vs ++ [Value.int x]) 4) 15 + 8))) ∧ ((w_fi ws (n_v (vs ++ [Value.int x]) 4) 12 = 0) ∨ ((w_fi ws (n_v (vs ++ [Value.int x]) 4) 15 + 1) ≤ w_fi ws (n_v (vs ++ [Value.int x]) 4) 11))
      simp only [e_4, q4]
      exact vc_Mo_groupItem_at_k2_22_1 (v_iv (n_v vs 13)) (w_fi ws (n_v vs 0) 15) (w_fi ws (n_v vs 0) 11) (w_fi ws (n_v vs 0) 12) (w_fi ws (n_v vs 0) 5) f8 kz_0_11 kz_0_12 kz_0_15
  have nf2 : fc_1 PRD (20, [3, 4], [30, 0, 1, 0, 0, -1, 1, 11]) ws (vs ++ [Value.int x]) := by
    refine ⟨nf_inA hl rfl, sgq_1431 ?_⟩
    · show 1 * v_iv (n_v (vs ++ [Value.int x]) 3) + ((-1) * w_fi ws (n_v (vs ++ [Value.int x]) 4) 11 + 0) ≤ 0
      simp only [e_3, e_4, q4]
      exact vc_Mo_groupItem_at_k2_22_2 (v_iv (n_v vs 3)) (v_iv (n_v vs 13)) (v_iv (n_v vs 15)) (w_fi ws (n_v vs 0) 11) (w_fi ws (n_v vs 0) 5) k3 k15 f0 f9 kz_0_11
  have nf3 : fc_1 PRD (20, [4, 3], [50, 2, 0, 8, 11, 3, 7, 0, 2, 0, 1, 2, 0, 8, 0, 6, 4, 2, 1, 1, 0, 1, 2, 0, 11]) ws (vs ++ [Value.int x]) := by
    refine ⟨nf_inA hl rfl, sgq_1726 ?_⟩
    · show (1 ≤ w_fi ws (n_v (vs ++ [Value.int x]) 4) 8) ∨ ((v_iv (n_v (vs ++ [Value.int x]) 3) + 1) ≤ w_fi ws (n_v (vs ++ [Value.int x]) 4) 11)
      simp only [e_3, e_4, q4]
      exact vc_Mo_groupItem_at_k2_22_3 (v_iv (n_v vs 3)) (v_iv (n_v vs 13)) (v_iv (n_v vs 15)) (w_fi ws (n_v vs 0) 11) (w_fi ws (n_v vs 0) 8) (w_fi ws (n_v vs 0) 5) k3 k15 f0 f9 kz_0_8 kz_0_11
  have nf4 : fc_1 PRD (20, [7, 4], [50, 1, 1, 1005, 1002, 0, 6, 4, 2, 1, 0, 0, 1, 3, 1, 2, 4, 3, 2, 1, 5, 0, 2]) ws (vs ++ [Value.int x]) := by
    refine ⟨nf_inA hl rfl, sgq_1009 ?_⟩
    · show (v_iv (n_v (vs ++ [Value.int x]) 7) + 1) ≤ w_ei ws (w_ar ws (n_v (vs ++ [Value.int x]) 4) 2) ((w_fi ws (n_v (vs ++ [Value.int x]) 4) 5 + 2))
      simp only [e_4, e_7, q4]
      exact vc_Mo_groupItem_at_k2_22_4 (v_iv (n_v vs 7)) (v_iv (n_v vs 13)) (w_ei ws (w_ar ws (n_v vs 0) 2)) (w_fi ws (n_v vs 0) 5) k7 f11
  have nf5 : fc_1 PRD (23, [5, 7], [-1, 1, -1]) ws (vs ++ [Value.int x]) := by
    refine ⟨nf_inA hl rfl, sgq_193 ?_⟩
    · show 1 * v_iv (n_v (vs ++ [Value.int x]) 5) + ((-1) * v_iv (n_v (vs ++ [Value.int x]) 7) + 0) ≤ (-1)
      simp only [e_5, e_7, q5]
      exact vc_Mo_groupItem_at_k2_22_5 (v_iv (n_v vs 1)) (v_iv (n_v vs 7)) (v_iv (n_v vs 13)) (w_fi ws (n_v vs 0) 5) k1 k7 f18
  have nf6 : fc_1 PRD (20, [4], [60, 1, 3, 199, 5, 2, 3, 4]) ws (vs ++ [Value.int x]) := by
    refine ⟨nf_inA hl rfl, sgq_980 ?_⟩
    · show RWS (w_fi ws (n_v (vs ++ [Value.int x]) 4) 5) (w_ei ws (w_ar ws (n_v (vs ++ [Value.int x]) 4) 2)) (w_ei ws (w_ar ws (n_v (vs ++ [Value.int x]) 4) 3)) (w_ei ws (w_ar ws (n_v (vs ++ [Value.int x]) 4) 4))
      simp only [e_4, q4]
      exact vc_Mo_groupItem_at_k2_22_6 (w_ei ws (w_ar ws (n_v vs 0) 2)) (w_fi ws (n_v vs 0) 5) (w_ei ws (w_ar ws (n_v vs 0) 3)) (w_ei ws (w_ar ws (n_v vs 0) 4)) f12
  have nf7 : fc_1 PRD (20, [16, 4, 4], [30, -2006, -1, 0, 0, -1, 1, 11, -1, 1, 8]) ws (vs ++ [Value.int x]) := by
    refine ⟨nf_inA hl rfl, sgq_2182 ?_⟩
    · show (-1) * v_iv (n_v (vs ++ [Value.int x]) 16) + ((-1) * w_fi ws (n_v (vs ++ [Value.int x]) 4) 11 + ((-1) * w_fi ws (n_v (vs ++ [Value.int x]) 4) 8 + 0)) ≤ (-2006)
      simp only [e_4, e_16, q4]
      exact vc_Mo_groupItem_at_k2_22_7 (v_iv (n_v vs 9)) (v_iv (n_v vs 13)) (v_iv (n_v vs 15)) (w_fi ws (n_v vs 0) 11) (w_fi ws (n_v vs 0) 8) (w_fi ws (n_v vs 0) 5) (v_iv (Value.int x)) k9 k15 f1 f9 f10 kz_0_8 kz_0_11 ex2
  have nf8 : fc_1 PRD (20, [4, 7, 6], [60, 9, 2, 1023, 10, 11, 12, 13, 14, 15, 8, 9, 5, 1, 2]) ws (vs ++ [Value.int x]) := by
    refine ⟨nf_inA hl rfl, sgq_1730 ?_⟩
    · show zOP0 (w_fi ws (n_v (vs ++ [Value.int x]) 4) 10) (w_fi ws (n_v (vs ++ [Value.int x]) 4) 11) (w_fi ws (n_v (vs ++ [Value.int x]) 4) 12) (w_fi ws (n_v (vs ++ [Value.int x]) 4) 13) (w_fi ws (n_v (vs ++ [Value.int x]) 4) 14) (w_fi ws (n_v (vs ++ [Value.int x]) 4) 15) (w_fi ws (n_v (vs ++ [Value.int x]) 4) 8) (w_fi ws (n_v (vs ++ [Value.int x]) 4) 9) (w_fi ws (n_v (vs ++ [Value.int x]) 4) 5) (w_ei ws (w_ar ws (n_v (vs ++ [Value.int x]) 4) 1)) (w_ei ws (w_ar ws (n_v (vs ++ [Value.int x]) 4) 2)) (v_iv (n_v (vs ++ [Value.int x]) 7)) (v_iv (n_v (vs ++ [Value.int x]) 6))
      simp only [e_4, e_6, e_7, q4, q6]
      exact vc_Mo_groupItem_at_k2_22_8 (v_iv (n_v vs 2)) (v_iv (n_v vs 7)) (v_iv (n_v vs 14)) (w_ei ws (w_ar ws (n_v vs 0) 1)) (w_fi ws (n_v vs 0) 10) (w_fi ws (n_v vs 0) 15) (w_fi ws (n_v vs 0) 11) (w_fi ws (n_v vs 0) 12) (w_fi ws (n_v vs 0) 8) (w_ei ws (w_ar ws (n_v vs 0) 2)) (w_fi ws (n_v vs 0) 5) (w_fi ws (n_v vs 0) 13) (w_fi ws (n_v vs 0) 14) (w_fi ws (n_v vs 0) 9) k2 k7 k14 f13 kz_0_8 kz_0_9 kz_0_10 kz_0_11 kz_0_12 kz_0_13 kz_0_14 kz_0_15
  have nf9 : fc_1 PRD (20, [4, 7, 5], [60, 1, 1, 1028, 10, 1]) ws (vs ++ [Value.int x]) := by
    refine ⟨nf_inA hl rfl, sgq_2176 ?_⟩
    · show HST (w_fi ws (n_v (vs ++ [Value.int x]) 4) 10) (w_ei ws (w_ar ws (n_v (vs ++ [Value.int x]) 4) 1)) (v_iv (n_v (vs ++ [Value.int x]) 7)) (v_iv (n_v (vs ++ [Value.int x]) 5))
      simp only [e_4, e_5, e_7, q4, q5]
      exact vc_Mo_groupItem_at_k2_22_9 (v_iv (n_v vs 1)) (v_iv (n_v vs 7)) (w_ei ws (w_ar ws (n_v vs 0) 1)) (w_fi ws (n_v vs 0) 10) k1 k7 f3 kz_0_10
  have nf10 : fc_1 PRD (24, [0, 4], []) ws (vs ++ [Value.int x]) := by
    refine ⟨nf_inA hl rfl, sgq_5 ?_⟩
    · show n_v (vs ++ [Value.int x]) 0 = n_v (vs ++ [Value.int x]) 4
      first | rfl | simp only [e_0, e_4, q4, q5, q6]
  have nf11 : fc_1 PRD (24, [1, 5], []) ws (vs ++ [Value.int x]) := by
    refine ⟨nf_inA hl rfl, sgq_5 ?_⟩
    · show n_v (vs ++ [Value.int x]) 1 = n_v (vs ++ [Value.int x]) 5
      first | rfl | simp only [e_1, e_5, q4, q5, q6]
  have nf12 : fc_1 PRD (24, [2, 6], []) ws (vs ++ [Value.int x]) := by
    refine ⟨nf_inA hl rfl, sgq_5 ?_⟩
    · show n_v (vs ++ [Value.int x]) 2 = n_v (vs ++ [Value.int x]) 6
      first | rfl | simp only [e_2, e_6, q4, q5, q6]
  obtain ⟨x0, e0, _, _⟩ := tv_int t9 rfl
  have e1 : v_iv (n_v vs 9) = x0.toInt := by rw [e0]; rfl
  have ho : sy_ofs (vs ++ [Value.int x]) (16, 9, 0, 0) := by
    refine ⟨x, x0, by rw [List.getElem?_append_right (by rw [hl]; decide), hl]; rfl, ?_, ?_, ?_⟩
    · rw [List.getElem?_append_left (by rw [hl]; decide)]; exact n_v_some (by rw [hl]; decide) e0
    · show x0.toInt + 0 ≤ x.toInt; omega
    · show x.toInt ≤ x0.toInt + 0; omega
  exact ⟨(fun _ h => (by cases h)), [Value.int x], ag_one hx, List.forall_mem_cons.mpr ⟨⟨show (20 : Nat) < 100 from by decide, nf0⟩, List.forall_mem_cons.mpr ⟨⟨show (20 : Nat) < 100 from by decide, nf1⟩, List.forall_mem_cons.mpr ⟨⟨show (20 : Nat) < 100 from by decide, nf2⟩, List.forall_mem_cons.mpr ⟨⟨show (20 : Nat) < 100 from by decide, nf3⟩, List.forall_mem_cons.mpr ⟨⟨show (20 : Nat) < 100 from by decide, nf4⟩, List.forall_mem_cons.mpr ⟨⟨show (23 : Nat) < 100 from by decide, nf5⟩, List.forall_mem_cons.mpr ⟨⟨show (20 : Nat) < 100 from by decide, nf6⟩, List.forall_mem_cons.mpr ⟨⟨show (20 : Nat) < 100 from by decide, nf7⟩, List.forall_mem_cons.mpr ⟨⟨show (20 : Nat) < 100 from by decide, nf8⟩, List.forall_mem_cons.mpr ⟨⟨show (20 : Nat) < 100 from by decide, nf9⟩, List.forall_mem_cons.mpr ⟨⟨show (24 : Nat) < 100 from by decide, nf10⟩, List.forall_mem_cons.mpr ⟨⟨show (24 : Nat) < 100 from by decide, nf11⟩, List.forall_mem_cons.mpr ⟨⟨show (24 : Nat) < 100 from by decide, nf12⟩, (fun _ h => (by cases h))⟩⟩⟩⟩⟩⟩⟩⟩⟩⟩⟩⟩⟩, List.forall_mem_cons.mpr ⟨ho, (fun _ h => (by cases h))⟩⟩
set_option maxHeartbeats 4000000 in
theorem vc_Mo_groupItem_at_k2_23_0 (x3 : Int) (r_0 : Int) (gx : Int) (k3 : 0 ≤ x3 ∧ x3 ≤ 2000) (ex2 : gx = x3) : 1 * gx + ((-1) * x3 + 0) ≤ 0 := by
  first
    | omega
    | (have q1 := (hE_0_2_1 (r_0 + 2) (by omega)).2 (by omega)
       have q2 := (hE_0_2_2 (r_0 + 2) (by omega)).2 (by omega)
       omega)
    | (have q1 := (hE_0_2_1 (r_0 + 1) (by omega)).2 (by omega)
       have q2 := (hE_0_2_2 (r_0 + 1) (by omega)).2 (by omega)
       omega)
    | (have q1 := (hE_0_2_1 (r_0 + 2) (by omega)).2 (by omega)
       omega)
    | (have q1 := (hE_0_2_1 (r_0 + 1) (by omega)).2 (by omega)
       omega)
    | (have q1 := (hE_0_2_1 (r_0 + 2) (by omega)).2 (by omega)
       have q2 := (hE_0_2_2 (r_0 + 2) (by omega)).2 (by omega)
       have q3 := (hE_0_2_3 (r_0 + 2) (by omega)).1 (by omega)
       omega)
    | (have q1 := (hE_0_2_1 (r_0 + 2) (by omega)).2 (by omega)
       have q2 := (hE_0_2_2 (r_0 + 2) (by omega)).2 (by omega)
       have q3 := (hE_0_2_3 (r_0 + 2) (by omega)).2 (by omega)
       omega)
    | (have q1 := (hE_0_2_1 (r_0 + 2) (by omega)).2 (by omega)
       have q2 := (hE_0_2_2 (r_0 + 2) (by omega)).2 (by omega)
       have q3 := (hE_0_2_3 (r_0 + 2) (by omega)).1 (by omega)
       have q4 : x13 = r_0 + 2 := by omega
       simp only [q4] at *
       omega)
set_option maxHeartbeats 4000000 in
theorem vc_Mo_groupItem_at_k2_23_1 (x3 : Int) (r_0 : Int) (gx : Int) (k3 : 0 ≤ x3 ∧ x3 ≤ 2000) (ex2 : gx = x3) : (-1) * gx + (1 * x3 + 0) ≤ 0 := by
  first
    | omega
    | (have q1 := (hE_0_2_1 (r_0 + 2) (by omega)).2 (by omega)
       have q2 := (hE_0_2_2 (r_0 + 2) (by omega)).2 (by omega)
       omega)
    | (have q1 := (hE_0_2_1 (r_0 + 1) (by omega)).2 (by omega)
       have q2 := (hE_0_2_2 (r_0 + 1) (by omega)).2 (by omega)
       omega)
    | (have q1 := (hE_0_2_1 (r_0 + 2) (by omega)).2 (by omega)
       omega)
    | (have q1 := (hE_0_2_1 (r_0 + 1) (by omega)).2 (by omega)
       omega)
    | (have q1 := (hE_0_2_1 (r_0 + 2) (by omega)).2 (by omega)
       have q2 := (hE_0_2_2 (r_0 + 2) (by omega)).2 (by omega)
       have q3 := (hE_0_2_3 (r_0 + 2) (by omega)).1 (by omega)
       omega)
    | (have q1 := (hE_0_2_1 (r_0 + 2) (by omega)).2 (by omega)
       have q2 := (hE_0_2_2 (r_0 + 2) (by omega)).2 (by omega)
       have q3 := (hE_0_2_3 (r_0 + 2) (by omega)).2 (by omega)
       omega)
    | (have q1 := (hE_0_2_1 (r_0 + 2) (by omega)).2 (by omega)
       have q2 := (hE_0_2_2 (r_0 + 2) (by omega)).2 (by omega)
       have q3 := (hE_0_2_3 (r_0 + 2) (by omega)).1 (by omega)
       have q4 : x13 = r_0 + 2 := by omega
       simp only [q4] at *
       omega)
set_option maxHeartbeats 4000000 in
theorem vc_Mo_groupItem_at_k2_23_2 (x1 : Int) (x5 : Int) (r_0 : Int) (gy : Int) (k1 : 0 ≤ x1 ∧ x1 ≤ 7) (k5 : 0 ≤ x5 ∧ x5 ≤ 7) (d0 : x5 + (-4294967296) ≤ x1 ∧ x1 ≤ x5 + 0) (d1 : x1 + (-4294967296) ≤ x5 ∧ x5 ≤ x1 + 0) (ey2 : gy = x1) : 1 * gy + ((-1) * x1 + 0) ≤ 0 := by
  first
    | omega
    | (have q1 := (hE_0_2_1 (r_0 + 2) (by omega)).2 (by omega)
       have q2 := (hE_0_2_2 (r_0 + 2) (by omega)).2 (by omega)
       omega)
    | (have q1 := (hE_0_2_1 (r_0 + 1) (by omega)).2 (by omega)
       have q2 := (hE_0_2_2 (r_0 + 1) (by omega)).2 (by omega)
       omega)
    | (have q1 := (hE_0_2_1 (r_0 + 2) (by omega)).2 (by omega)
       omega)
    | (have q1 := (hE_0_2_1 (r_0 + 1) (by omega)).2 (by omega)
       omega)
    | (have q1 := (hE_0_2_1 (r_0 + 2) (by omega)).2 (by omega)
       have q2 := (hE_0_2_2 (r_0 + 2) (by omega)).2 (by omega)
       have q3 := (hE_0_2_3 (r_0 + 2) (by omega)).1 (by omega)
       omega)
    | (have q1 := (hE_0_2_1 (r_0 + 2) (by omega)).2 (by omega)
       have q2 := (hE_0_2_2 (r_0 + 2) (by omega)).2 (by omega)
       have q3 := (hE_0_2_3 (r_0 + 2) (by omega)).2 (by omega)
       omega)
    | (have q1 := (hE_0_2_1 (r_0 + 2) (by omega)).2 (by omega)
       have q2 := (hE_0_2_2 (r_0 + 2) (by omega)).2 (by omega)
       have q3 := (hE_0_2_3 (r_0 + 2) (by omega)).1 (by omega)
       have q4 : x13 = r_0 + 2 := by omega
       simp only [q4] at *
       omega)
set_option maxHeartbeats 4000000 in
theorem vc_Mo_groupItem_at_k2_23_3 (x1 : Int) (x5 : Int) (r_0 : Int) (gy : Int) (k1 : 0 ≤ x1 ∧ x1 ≤ 7) (k5 : 0 ≤ x5 ∧ x5 ≤ 7) (d0 : x5 + (-4294967296) ≤ x1 ∧ x1 ≤ x5 + 0) (d1 : x1 + (-4294967296) ≤ x5 ∧ x5 ≤ x1 + 0) (ey2 : gy = x1) : (-1) * gy + (1 * x1 + 0) ≤ 0 := by
  first
    | omega
    | (have q1 := (hE_0_2_1 (r_0 + 2) (by omega)).2 (by omega)
       have q2 := (hE_0_2_2 (r_0 + 2) (by omega)).2 (by omega)
       omega)
    | (have q1 := (hE_0_2_1 (r_0 + 1) (by omega)).2 (by omega)
       have q2 := (hE_0_2_2 (r_0 + 1) (by omega)).2 (by omega)
       omega)
    | (have q1 := (hE_0_2_1 (r_0 + 2) (by omega)).2 (by omega)
       omega)
    | (have q1 := (hE_0_2_1 (r_0 + 1) (by omega)).2 (by omega)
       omega)
    | (have q1 := (hE_0_2_1 (r_0 + 2) (by omega)).2 (by omega)
       have q2 := (hE_0_2_2 (r_0 + 2) (by omega)).2 (by omega)
       have q3 := (hE_0_2_3 (r_0 + 2) (by omega)).1 (by omega)
       omega)
    | (have q1 := (hE_0_2_1 (r_0 + 2) (by omega)).2 (by omega)
       have q2 := (hE_0_2_2 (r_0 + 2) (by omega)).2 (by omega)
       have q3 := (hE_0_2_3 (r_0 + 2) (by omega)).2 (by omega)
       omega)
    | (have q1 := (hE_0_2_1 (r_0 + 2) (by omega)).2 (by omega)
       have q2 := (hE_0_2_2 (r_0 + 2) (by omega)).2 (by omega)
       have q3 := (hE_0_2_3 (r_0 + 2) (by omega)).1 (by omega)
       have q4 : x13 = r_0 + 2 := by omega
       simp only [q4] at *
       omega)
set_option maxHeartbeats 4000000 in
theorem vc_Mo_groupItem_at_k2_23_4 (x2 : Int) (r_0 : Int) (gu : Int) (k2 : 2 ≤ x2 ∧ x2 ≤ 2) (eu2 : gu = x2) : 1 * gu + ((-1) * x2 + 0) ≤ 0 := by
  first
    | omega
    | (have q1 := (hE_0_2_1 (r_0 + 2) (by omega)).2 (by omega)
       have q2 := (hE_0_2_2 (r_0 + 2) (by omega)).2 (by omega)
       omega)
    | (have q1 := (hE_0_2_1 (r_0 + 1) (by omega)).2 (by omega)
       have q2 := (hE_0_2_2 (r_0 + 1) (by omega)).2 (by omega)
       omega)
    | (have q1 := (hE_0_2_1 (r_0 + 2) (by omega)).2 (by omega)
       omega)
    | (have q1 := (hE_0_2_1 (r_0 + 1) (by omega)).2 (by omega)
       omega)
    | (have q1 := (hE_0_2_1 (r_0 + 2) (by omega)).2 (by omega)
       have q2 := (hE_0_2_2 (r_0 + 2) (by omega)).2 (by omega)
       have q3 := (hE_0_2_3 (r_0 + 2) (by omega)).1 (by omega)
       omega)
    | (have q1 := (hE_0_2_1 (r_0 + 2) (by omega)).2 (by omega)
       have q2 := (hE_0_2_2 (r_0 + 2) (by omega)).2 (by omega)
       have q3 := (hE_0_2_3 (r_0 + 2) (by omega)).2 (by omega)
       omega)
    | (have q1 := (hE_0_2_1 (r_0 + 2) (by omega)).2 (by omega)
       have q2 := (hE_0_2_2 (r_0 + 2) (by omega)).2 (by omega)
       have q3 := (hE_0_2_3 (r_0 + 2) (by omega)).1 (by omega)
       have q4 : x13 = r_0 + 2 := by omega
       simp only [q4] at *
       omega)
set_option maxHeartbeats 4000000 in
theorem vc_Mo_groupItem_at_k2_23_5 (x2 : Int) (r_0 : Int) (gu : Int) (k2 : 2 ≤ x2 ∧ x2 ≤ 2) (eu2 : gu = x2) : (-1) * gu + (1 * x2 + 0) ≤ 0 := by
  first
    | omega
    | (have q1 := (hE_0_2_1 (r_0 + 2) (by omega)).2 (by omega)
       have q2 := (hE_0_2_2 (r_0 + 2) (by omega)).2 (by omega)
       omega)
    | (have q1 := (hE_0_2_1 (r_0 + 1) (by omega)).2 (by omega)
       have q2 := (hE_0_2_2 (r_0 + 1) (by omega)).2 (by omega)
       omega)
    | (have q1 := (hE_0_2_1 (r_0 + 2) (by omega)).2 (by omega)
       omega)
    | (have q1 := (hE_0_2_1 (r_0 + 1) (by omega)).2 (by omega)
       omega)
    | (have q1 := (hE_0_2_1 (r_0 + 2) (by omega)).2 (by omega)
       have q2 := (hE_0_2_2 (r_0 + 2) (by omega)).2 (by omega)
       have q3 := (hE_0_2_3 (r_0 + 2) (by omega)).1 (by omega)
       omega)
    | (have q1 := (hE_0_2_1 (r_0 + 2) (by omega)).2 (by omega)
       have q2 := (hE_0_2_2 (r_0 + 2) (by omega)).2 (by omega)
       have q3 := (hE_0_2_3 (r_0 + 2) (by omega)).2 (by omega)
       omega)
    | (have q1 := (hE_0_2_1 (r_0 + 2) (by omega)).2 (by omega)
       have q2 := (hE_0_2_2 (r_0 + 2) (by omega)).2 (by omega)
       have q3 := (hE_0_2_3 (r_0 + 2) (by omega)).1 (by omega)
       have q4 : x13 = r_0 + 2 := by omega
       simp only [q4] at *
       omega)
set_option maxHeartbeats 4000000 in
theorem vc_Mo_groupItem_at_k2_23_6 (from_0 : Int) (pos_0 : Int) (r_0 : Int) (f5 : 1 * from_0 + ((-1) * pos_0 + 0) ≤ 0) (kz_0_11 : 0 ≤ pos_0 ∧ pos_0 ≤ 2000) (kz_0_15 : 0 ≤ from_0 ∧ from_0 ≤ 2000) : 1 * from_0 + ((-1) * pos_0 + 0) ≤ 0 := by
  first
    | omega
    | (have q1 := (hE_0_2_1 (r_0 + 2) (by omega)).2 (by omega)
       have q2 := (hE_0_2_2 (r_0 + 2) (by omega)).2 (by omega)
       omega)
    | (have q1 := (hE_0_2_1 (r_0 + 1) (by omega)).2 (by omega)
       have q2 := (hE_0_2_2 (r_0 + 1) (by omega)).2 (by omega)
       omega)
    | (have q1 := (hE_0_2_1 (r_0 + 2) (by omega)).2 (by omega)
       omega)
    | (have q1 := (hE_0_2_1 (r_0 + 1) (by omega)).2 (by omega)
       omega)
    | (have q1 := (hE_0_2_1 (r_0 + 2) (by omega)).2 (by omega)
       have q2 := (hE_0_2_2 (r_0 + 2) (by omega)).2 (by omega)
       have q3 := (hE_0_2_3 (r_0 + 2) (by omega)).1 (by omega)
       omega)
    | (have q1 := (hE_0_2_1 (r_0 + 2) (by omega)).2 (by omega)
       have q2 := (hE_0_2_2 (r_0 + 2) (by omega)).2 (by omega)
       have q3 := (hE_0_2_3 (r_0 + 2) (by omega)).2 (by omega)
       omega)
    | (have q1 := (hE_0_2_1 (r_0 + 2) (by omega)).2 (by omega)
       have q2 := (hE_0_2_2 (r_0 + 2) (by omega)).2 (by omega)
       have q3 := (hE_0_2_3 (r_0 + 2) (by omega)).1 (by omega)
       have q4 : x13 = r_0 + 2 := by omega
       simp only [q4] at *
       omega)
set_option maxHeartbeats 4000000 in
theorem vc_Mo_groupItem_at_k2_23_7 (kind_0 : Int) (from_0 : Int) (pos_0 : Int) (r_0 : Int) (f6 : ((kind_0 = 1) → (pos_0 ≤ (from_0 + 8))) ∧ ((kind_0 = 0) ∨ ((from_0 + 1) ≤ pos_0))) (kz_0_11 : 0 ≤ pos_0 ∧ pos_0 ≤ 2000) (kz_0_12 : 0 ≤ kind_0 ∧ kind_0 ≤ 4) (kz_0_15 : 0 ≤ from_0 ∧ from_0 ≤ 2000) : ((kind_0 = 1) → (pos_0 ≤ (from_0 + 8))) ∧ ((kind_0 = 0) ∨ ((from_0 + 1) ≤ pos_0)) := by
  first
    | omega
    | (have q1 := (hE_0_2_1 (r_0 + 2) (by omega)).2 (by omega)
       have q2 := (hE_0_2_2 (r_0 + 2) (by omega)).2 (by omega)
       omega)
    | (have q1 := (hE_0_2_1 (r_0 + 1) (by omega)).2 (by omega)
       have q2 := (hE_0_2_2 (r_0 + 1) (by omega)).2 (by omega)
       omega)
    | (have q1 := (hE_0_2_1 (r_0 + 2) (by omega)).2 (by omega)
       omega)
    | (have q1 := (hE_0_2_1 (r_0 + 1) (by omega)).2 (by omega)
       omega)
    | (have q1 := (hE_0_2_1 (r_0 + 2) (by omega)).2 (by omega)
       have q2 := (hE_0_2_2 (r_0 + 2) (by omega)).2 (by omega)
       have q3 := (hE_0_2_3 (r_0 + 2) (by omega)).1 (by omega)
       omega)
    | (have q1 := (hE_0_2_1 (r_0 + 2) (by omega)).2 (by omega)
       have q2 := (hE_0_2_2 (r_0 + 2) (by omega)).2 (by omega)
       have q3 := (hE_0_2_3 (r_0 + 2) (by omega)).2 (by omega)
       omega)
    | (have q1 := (hE_0_2_1 (r_0 + 2) (by omega)).2 (by omega)
       have q2 := (hE_0_2_2 (r_0 + 2) (by omega)).2 (by omega)
       have q3 := (hE_0_2_3 (r_0 + 2) (by omega)).1 (by omega)
       have q4 : x13 = r_0 + 2 := by omega
       simp only [q4] at *
       omega)
set_option maxHeartbeats 4000000 in
theorem vc_Mo_groupItem_at_k2_23_8 (x3 : Int) (pos_0 : Int) (r_0 : Int) (gx : Int) (k3 : 0 ≤ x3 ∧ x3 ≤ 2000) (f7 : 1 * x3 + ((-1) * pos_0 + 0) ≤ 0) (kz_0_11 : 0 ≤ pos_0 ∧ pos_0 ≤ 2000) (ex2 : gx = x3) : 1 * gx + ((-1) * pos_0 + 0) ≤ 0 := by
  first
    | omega
    | (have q1 := (hE_0_2_1 (r_0 + 2) (by omega)).2 (by omega)
       have q2 := (hE_0_2_2 (r_0 + 2) (by omega)).2 (by omega)
       omega)
    | (have q1 := (hE_0_2_1 (r_0 + 1) (by omega)).2 (by omega)
       have q2 := (hE_0_2_2 (r_0 + 1) (by omega)).2 (by omega)
       omega)
    | (have q1 := (hE_0_2_1 (r_0 + 2) (by omega)).2 (by omega)
       omega)
    | (have q1 := (hE_0_2_1 (r_0 + 1) (by omega)).2 (by omega)
       omega)
    | (have q1 := (hE_0_2_1 (r_0 + 2) (by omega)).2 (by omega)
       have q2 := (hE_0_2_2 (r_0 + 2) (by omega)).2 (by omega)
       have q3 := (hE_0_2_3 (r_0 + 2) (by omega)).1 (by omega)
       omega)
    | (have q1 := (hE_0_2_1 (r_0 + 2) (by omega)).2 (by omega)
       have q2 := (hE_0_2_2 (r_0 + 2) (by omega)).2 (by omega)
       have q3 := (hE_0_2_3 (r_0 + 2) (by omega)).2 (by omega)
       omega)
    | (have q1 := (hE_0_2_1 (r_0 + 2) (by omega)).2 (by omega)
       have q2 := (hE_0_2_2 (r_0 + 2) (by omega)).2 (by omega)
       have q3 := (hE_0_2_3 (r_0 + 2) (by omega)).1 (by omega)
       have q4 : x13 = r_0 + 2 := by omega
       simp only [q4] at *
       omega)
set_option maxHeartbeats 4000000 in
theorem vc_Mo_groupItem_at_k2_23_9 (x3 : Int) (x10 : Int) (kind_0 : Int) (fault_0 : Int) (pos_0 : Int) (r_0 : Int) (gx : Int) (k3 : 0 ≤ x3 ∧ x3 ≤ 2000) (k10 : 0 ≤ x10 ∧ x10 ≤ 0) (g4 : x10 = fault_0) (f7 : 1 * x3 + ((-1) * pos_0 + 0) ≤ 0) (f8 : (1 ≤ fault_0) ∨ ((x3 + 1) ≤ pos_0)) (kz_0_8 : 0 ≤ fault_0 ∧ fault_0 ≤ 5) (kz_0_11 : 0 ≤ pos_0 ∧ pos_0 ≤ 2000) (kz_0_12 : 0 ≤ kind_0 ∧ kind_0 ≤ 4) (ex2 : gx = x3) : (1 ≤ fault_0) ∨ ((kind_0 = 0) ∨ ((gx + 1) ≤ pos_0)) := by
  first
    | omega
    | (have q1 := (hE_0_2_1 (r_0 + 2) (by omega)).2 (by omega)
       have q2 := (hE_0_2_2 (r_0 + 2) (by omega)).2 (by omega)
       omega)
    | (have q1 := (hE_0_2_1 (r_0 + 1) (by omega)).2 (by omega)
       have q2 := (hE_0_2_2 (r_0 + 1) (by omega)).2 (by omega)
       omega)
    | (have q1 := (hE_0_2_1 (r_0 + 2) (by omega)).2 (by omega)
       omega)
    | (have q1 := (hE_0_2_1 (r_0 + 1) (by omega)).2 (by omega)
       omega)
    | (have q1 := (hE_0_2_1 (r_0 + 2) (by omega)).2 (by omega)
       have q2 := (hE_0_2_2 (r_0 + 2) (by omega)).2 (by omega)
       have q3 := (hE_0_2_3 (r_0 + 2) (by omega)).1 (by omega)
       omega)
    | (have q1 := (hE_0_2_1 (r_0 + 2) (by omega)).2 (by omega)
       have q2 := (hE_0_2_2 (r_0 + 2) (by omega)).2 (by omega)
       have q3 := (hE_0_2_3 (r_0 + 2) (by omega)).2 (by omega)
       omega)
    | (have q1 := (hE_0_2_1 (r_0 + 2) (by omega)).2 (by omega)
       have q2 := (hE_0_2_2 (r_0 + 2) (by omega)).2 (by omega)
       have q3 := (hE_0_2_3 (r_0 + 2) (by omega)).1 (by omega)
       have q4 : x13 = r_0 + 2 := by omega
       simp only [q4] at *
       omega)
set_option maxHeartbeats 4000000 in
theorem vc_Mo_groupItem_at_k2_23_10 (x1 : Int) (x2 : Int) (x3 : Int) (x7 : Int) (x10 : Int) (x11 : Int) (x12 : Int) (kind_0 : Int) (fault_0 : Int) (value_0 : Int) (from_0 : Int) (pos_0 : Int) (all_0 : Int → Int) (r_0 : Int) (tape_0 : Int → Int) (limit_0 : Int) (place_0 : Int) (faultPlace_0 : Int) (gx : Int) (gy : Int) (gu : Int) (k1 : 0 ≤ x1 ∧ x1 ≤ 7) (k2 : 2 ≤ x2 ∧ x2 ≤ 2) (k3 : 0 ≤ x3 ∧ x3 ≤ 2000) (k7 : 0 ≤ x7 ∧ x7 ≤ 7) (k10 : 0 ≤ x10 ∧ x10 ≤ 0) (k11 : 125 ≤ x11 ∧ x11 ≤ 125) (k12 : 1 ≤ x12 ∧ x12 ≤ 1) (f0 : x12 ≠ 0) (f2 : SGQ (fault_0) (kind_0) (value_0) (x11) (x12)) (g4 : x10 = fault_0) (f9 : (x7 + 1) ≤ all_0 ((r_0 + 2))) (f12 : zOP0 (limit_0) (pos_0) (kind_0) (place_0) (value_0) (from_0) (fault_0) (faultPlace_0) (r_0) (tape_0) (all_0) (x7) (x2)) (f13 : HST (limit_0) (tape_0) (x7) (x1)) (kz_0_8 : 0 ≤ fault_0 ∧ fault_0 ≤ 5) (kz_0_9 : 0 ≤ faultPlace_0 ∧ faultPlace_0 ≤ 2000) (kz_0_10 : 0 ≤ limit_0 ∧ limit_0 ≤ 2000) (kz_0_11 : 0 ≤ pos_0 ∧ pos_0 ≤ 2000) (kz_0_12 : 0 ≤ kind_0 ∧ kind_0 ≤ 4) (kz_0_13 : 0 ≤ place_0 ∧ place_0 ≤ 2000) (kz_0_14 : (-49) ≤ value_0 ∧ value_0 ≤ 1048575) (kz_0_15 : 0 ≤ from_0 ∧ from_0 ≤ 2000) (ex2 : gx = x3) (ey2 : gy = x1) (eu2 : gu = x2) (eu3 : 0 ≤ gu ∧ gu ≤ 4) : zNc (limit_0) (pos_0) (kind_0) (place_0) (value_0) (from_0) (fault_0) (faultPlace_0) (r_0) (tape_0) (all_0) (gy) (gu) := by
  first | subst g4 | skip
  first | subst ex2 | skip
  first | subst ey2 | skip
  first | subst eu2 | skip
  first
    | exact gr_close ‹zOP0 _ _ _ _ _ _ _ _ _ _ _ _ _› ‹HST _ _ _ _› (by omega) (by omega) (Or.inl (by omega))
    | exact gr_close ‹zOP0 _ _ _ _ _ _ _ _ _ _ _ _ _› ‹HST _ _ _ _› (by omega) (by omega) (Or.inr (sgq_t (C := 125) ‹SGQ _ _ _ _ _› (by omega) (by omega)))
def o_Mo_groupItem_at_k2_23 : or_T := (200, 14, [(0, (2, 0, 0, [165])), (1, (0, 0, 7, [])), (2, (0, 2, 2, [])), (3, (0, 0, 2000, [])), (5, (0, 0, 7, [])), (7, (0, 0, 7, [])), (10, (0, 0, 0, [])), (11, (0, 125, 125, [])), (12, (0, 1, 1, []))], [(8, [12], [1]), (20, [4, 11, 12], [60, 3, 0, 963, 8, 12, 14]), (9, [10, 4], [8]), (20, [4, 4], [30, 0, 1, 1, 15, -1, 1, 11]), (20, [4], [50, 3, 0, 12, 11, 15, 2, 21, 4, 7, 1, 3, 2, 0, 12, 0, 1, 0, 3, 2, 0, 11, 4, 3, 2, 0, 15, 0, 8, 3, 7, 1, 3, 2, 0, 12, 0, 0, 0, 7, 4, 3, 2, 0, 15, 0, 1, 2, 0, 11]), (20, [3, 4], [30, 0, 1, 0, 0, -1, 1, 11]), (20, [4, 3], [50, 2, 0, 8, 11, 3, 7, 0, 2, 0, 1, 2, 0, 8, 0, 6, 4, 2, 1, 1, 0, 1, 2, 0, 11]), (20, [7, 4], [50, 1, 1, 1005, 1002, 0, 6, 4, 2, 1, 0, 0, 1, 3, 1, 2, 4, 3, 2, 1, 5, 0, 2]), (20, [4, 7, 6], [60, 9, 2, 1023, 10, 11, 12, 13, 14, 15, 8, 9, 5, 1, 2]), (20, [4, 7, 5], [60, 1, 1, 1028, 10, 1]), (24, [0, 4], []), (24, [1, 5], []), (24, [2, 6], [])], [], [(0, 0, 2000, []), (0, 0, 7, []), (0, 0, 4, [])], [(23, [14, 3], [0, 1, -1]), (23, [14, 3], [0, -1, 1]), (23, [15, 5], [0, 1, -1]), (23, [15, 5], [0, -1, 1]), (23, [16, 6], [0, 1, -1]), (23, [16, 6], [0, -1, 1]), (20, [4, 4], [30, 0, 1, 1, 15, -1, 1, 11]), (20, [4], [50, 3, 0, 12, 11, 15, 2, 21, 4, 7, 1, 3, 2, 0, 12, 0, 1, 0, 3, 2, 0, 11, 4, 3, 2, 0, 15, 0, 8, 3, 7, 1, 3, 2, 0, 12, 0, 0, 0, 7, 4, 3, 2, 0, 15, 0, 1, 2, 0, 11]), (20, [14, 4], [30, 0, 1, 0, 0, -1, 1, 11]), (20, [4, 14], [50, 3, 0, 8, 12, 11, 3, 7, 0, 2, 0, 1, 2, 0, 8, 3, 7, 1, 3, 2, 0, 12, 0, 0, 0, 6, 4, 2, 1, 1, 0, 1, 2, 0, 11]), (20, [4, 15, 16], [60, 9, 2, 1022, 10, 11, 12, 13, 14, 15, 8, 9, 5, 1, 2])], [], [(1, 5, -4294967296, 0), (5, 1, -4294967296, 0)])
theorem oo_Mo_groupItem_at_k2_23 {kA : Nat → ClassId} : or_ok PRD kA GG o_Mo_groupItem_at_k2_23 := by
  refine or_mk fun A ta ws vs hD hth hl => ?_
  intro t0 r0 t1 k1 t2 k2 t3 k3 t5 k5 t7 k7 t10 k10 t11 k11 t12 k12 d0 d1 f0 f2 f4 f5 f6 f7 f8 f9 f12 f13 f14 f15 f16
  replace f0 := shm_142 f0
  replace f2 := shm_731 f2
  replace f4 := shm_293 f4
  replace f5 := shm_1437 f5
  replace f6 := shm_1438 f6
  replace f7 := shm_1431 f7
  replace f8 := shm_1726 f8
  replace f9 := shm_1009 f9
  replace f12 := shm_1730 f12
  replace f13 := shm_2176 f13
  replace f14 := shm_5 f14
  replace f15 := shm_5 f15
  replace f16 := shm_5 f16
  have q4 : n_v vs 4 = n_v vs 0 := f14.symm
  have q5 : n_v vs 5 = n_v vs 1 := f15.symm
  have q6 : n_v vs 6 = n_v vs 2 := f16.symm
  simp only [q4, q5, q6] at f2 f4 f5 f6 f7 f8 f9 f12 f13
  have g4 : v_iv (n_v vs 10) = w_fi ws (n_v vs 0) 8 := congrArg v_iv f4
  have kz_0_8 := fdq_34 hD hth r0
  have kz_0_9 := fdq_44 hD hth r0
  have kz_0_10 := fdq_43 hD hth r0
  have kz_0_11 := fdq_237 hD hth r0
  have kz_0_12 := fdq_187 hD hth r0
  have kz_0_13 := fdq_238 hD hth r0
  have kz_0_14 := fdq_188 hD hth r0
  have kz_0_15 := fdq_239 hD hth r0
  obtain ⟨x, ex, hx⟩ := iv_ex (ta := ta) (lo := 0) (hi := 2000) (z := v_iv (n_v vs 3)) (by omega) (by omega) (by omega) (by omega)
  have ex2 : v_iv (Value.int x) = v_iv (n_v vs 3) := ex
  have ex3 : 0 ≤ v_iv (Value.int x) ∧ v_iv (Value.int x) ≤ 2000 := tv_rng hx
  obtain ⟨y, ey, hy⟩ := iv_ex (ta := ta) (lo := 0) (hi := 7) (z := v_iv (n_v vs 1)) (by omega) (by omega) (by omega) (by omega)
  have ey2 : v_iv (Value.int y) = v_iv (n_v vs 1) := ey
  have ey3 : 0 ≤ v_iv (Value.int y) ∧ v_iv (Value.int y) ≤ 7 := tv_rng hy
  obtain ⟨u, eu, hu⟩ := iv_ex (ta := ta) (lo := 0) (hi := 4) (z := v_iv (n_v vs 2)) (by omega) (by omega) (by omega) (by omega)
  have eu2 : v_iv (Value.int u) = v_iv (n_v vs 2) := eu
  have eu3 : 0 ≤ v_iv (Value.int u) ∧ v_iv (Value.int u) ≤ 4 := tv_rng hu
  have e_3 : n_v (vs ++ [Value.int x, Value.int y, Value.int u]) 3 = n_v vs 3 := n_v_old (by rw [hl]; decide)
  have e_4 : n_v (vs ++ [Value.int x, Value.int y, Value.int u]) 4 = n_v vs 4 := n_v_old (by rw [hl]; decide)
  have e_5 : n_v (vs ++ [Value.int x, Value.int y, Value.int u]) 5 = n_v vs 5 := n_v_old (by rw [hl]; decide)
  have e_6 : n_v (vs ++ [Value.int x, Value.int y, Value.int u]) 6 = n_v vs 6 := n_v_old (by rw [hl]; decide)
  have e_14 : n_v (vs ++ [Value.int x, Value.int y, Value.int u]) 14 = Value.int x := n_v_newk (k := 0) hl rfl
  have e_15 : n_v (vs ++ [Value.int x, Value.int y, Value.int u]) 15 = Value.int y := n_v_newk (k := 1) hl rfl
  have e_16 : n_v (vs ++ [Value.int x, Value.int y, Value.int u]) 16 = Value.int u := n_v_newk (k := 2) hl rfl
  have nf0 : fc_1 PRD (23, [14, 3], [0, 1, -1]) ws (vs ++ [Value.int x, Value.int y, Value.int u]) := by
    refine ⟨nf_inA hl rfl, sgq_7 ?_⟩
    · show 1 * v_iv (n_v (vs ++ [Value.int x, Value.int y, Value.int u]) 14) + ((-1) * v_iv (n_v (vs ++ [Value.int x, Value.int y, Value.int u]) 3) + 0) ≤ 0
      simp only [e_3, e_14]
      exact vc_Mo_groupItem_at_k2_23_0 (v_iv (n_v vs 3)) (w_fi ws (n_v vs 0) 5) (v_iv (Value.int x)) k3 ex2
  have nf1 : fc_1 PRD (23, [14, 3], [0, -1, 1]) ws (vs ++ [Value.int x, Value.int y, Value.int u]) := by
    refine ⟨nf_inA hl rfl, sgq_22 ?_⟩
    · show (-1) * v_iv (n_v (vs ++ [Value.int x, Value.int y, Value.int u]) 14) + (1 * v_iv (n_v (vs ++ [Value.int x, Value.int y, Value.int u]) 3) + 0) ≤ 0
      simp only [e_3, e_14]
      exact vc_Mo_groupItem_at_k2_23_1 (v_iv (n_v vs 3)) (w_fi ws (n_v vs 0) 5) (v_iv (Value.int x)) k3 ex2
  have nf2 : fc_1 PRD (23, [15, 5], [0, 1, -1]) ws (vs ++ [Value.int x, Value.int y, Value.int u]) := by
    refine ⟨nf_inA hl rfl, sgq_7 ?_⟩
    · show 1 * v_iv (n_v (vs ++ [Value.int x, Value.int y, Value.int u]) 15) + ((-1) * v_iv (n_v (vs ++ [Value.int x, Value.int y, Value.int u]) 5) + 0) ≤ 0
      simp only [e_5, e_15, q5]
      exact vc_Mo_groupItem_at_k2_23_2 (v_iv (n_v vs 1)) (v_iv (n_v vs 5)) (w_fi ws (n_v vs 0) 5) (v_iv (Value.int y)) k1 k5 d0 d1 ey2
  have nf3 : fc_1 PRD (23, [15, 5], [0, -1, 1]) ws (vs ++ [Value.int x, Value.int y, Value.int u]) := by
    refine ⟨nf_inA hl rfl, sgq_22 ?_⟩
    · show (-1) * v_iv (n_v (vs ++ [Value.int x, Value.int y, Value.int u]) 15) + (1 * v_iv (n_v (vs ++ [Value.int x, Value.int y, Value.int u]) 5) + 0) ≤ 0
      simp only [e_5, e_15, q5]
      exact vc_Mo_groupItem_at_k2_23_3 (v_iv (n_v vs 1)) (v_iv (n_v vs 5)) (w_fi ws (n_v vs 0) 5) (v_iv (Value.int y)) k1 k5 d0 d1 ey2
  have nf4 : fc_1 PRD (23, [16, 6], [0, 1, -1]) ws (vs ++ [Value.int x, Value.int y, Value.int u]) := by
    refine ⟨nf_inA hl rfl, sgq_7 ?_⟩
    · show 1 * v_iv (n_v (vs ++ [Value.int x, Value.int y, Value.int u]) 16) + ((-1) * v_iv (n_v (vs ++ [Value.int x, Value.int y, Value.int u]) 6) + 0) ≤ 0
      simp only [e_6, e_16, q6]
      exact vc_Mo_groupItem_at_k2_23_4 (v_iv (n_v vs 2)) (w_fi ws (n_v vs 0) 5) (v_iv (Value.int u)) k2 eu2
  have nf5 : fc_1 PRD (23, [16, 6], [0, -1, 1]) ws (vs ++ [Value.int x, Value.int y, Value.int u]) := by
    refine ⟨nf_inA hl rfl, sgq_22 ?_⟩
    · show (-1) * v_iv (n_v (vs ++ [Value.int x, Value.int y, Value.int u]) 16) + (1 * v_iv (n_v (vs ++ [Value.int x, Value.int y, Value.int u]) 6) + 0) ≤ 0
      simp only [e_6, e_16, q6]
      exact vc_Mo_groupItem_at_k2_23_5 (v_iv (n_v vs 2)) (w_fi ws (n_v vs 0) 5) (v_iv (Value.int u)) k2 eu2
  have nf6 : fc_1 PRD (20, [4, 4], [30, 0, 1, 1, 15, -1, 1, 11]) ws (vs ++ [Value.int x, Value.int y, Value.int u]) := by
    refine ⟨nf_inA hl rfl, sgq_1437 ?_⟩
    · show 1 * w_fi ws (n_v (vs ++ [Value.int x, Value.int y, Value.int u]) 4) 15 + ((-1) * w_fi ws (n_v (vs ++ [Value.int x, Value.int y, Value.int u]) 4) 11 + 0) ≤ 0
      simp only [e_4, q4]
      exact vc_Mo_groupItem_at_k2_23_6 (w_fi ws (n_v vs 0) 15) (w_fi ws (n_v vs 0) 11) (w_fi ws (n_v vs 0) 5) f5 kz_0_11 kz_0_15
  have nf7 : fc_1 PRD (20, [4], [50, 3, 0, 12, 11, 15, 2, 21, 4, 7, 1, 3, 2, 0, 12, 0, 1, 0, 3, 2, 0, 11, 4, 3, 2, 0, 15, 0, 8, 3, 7, 1, 3, 2, 0, 12, 0, 0, 0, 7, 4, 3, 2, 0, 15, 0, 1, 2, 0, 11]) ws (vs ++ [Value.int x, Value.int y, Value.int u]) := by
    refine ⟨nf_inA hl rfl, sgq_1438 ?_⟩
    · show ((w_fi ws (n_v (vs ++ [Value.int x, Value.int y, Value.int u]) 4) 12 = 1) → (w_fi ws (n_v (vs ++ [Value.int x, Value.int y, Value.int u]) 4) 11 ≤ (w_fi ws (n_v (vs ++ [Value.int x, Value.int y, Value.int u]) 4) 15 + 8))) ∧ ((w_fi ws (n_v (vs ++ [Value.int x, Value.int y, Value.int u]) 4) 12 = 0) ∨ ((w_fi ws (n_v (vs ++ [Value.int x, Value.int y, Value.int u]) 4) 15 + 1) ≤ w_fi ws (n_v (vs ++ [Value.int x, Value.int y, Value.int u]) 4) 11))
      simp only [e_4, q4]
      exact vc_Mo_groupItem_at_k2_23_7 (w_fi ws (n_v vs 0) 12) (w_fi ws (n_v vs 0) 15) (w_fi ws (n_v vs 0) 11) (w_fi ws (n_v vs 0) 5) f6 kz_0_11 kz_0_12 kz_0_15
  have nf8 : fc_1 PRD (20, [14, 4], [30, 0, 1, 0, 0, -1, 1, 11]) ws (vs ++ [Value.int x, Value.int y, Value.int u]) := by
    refine ⟨nf_inA hl rfl, sgq_1431 ?_⟩
    · show 1 * v_iv (n_v (vs ++ [Value.int x, Value.int y, Value.int u]) 14) + ((-1) * w_fi ws (n_v (vs ++ [Value.int x, Value.int y, Value.int u]) 4) 11 + 0) ≤ 0
      simp only [e_4, e_14, q4]
      exact vc_Mo_groupItem_at_k2_23_8 (v_iv (n_v vs 3)) (w_fi ws (n_v vs 0) 11) (w_fi ws (n_v vs 0) 5) (v_iv (Value.int x)) k3 f7 kz_0_11 ex2
  have nf9 : fc_1 PRD (20, [4, 14], [50, 3, 0, 8, 12, 11, 3, 7, 0, 2, 0, 1, 2, 0, 8, 3, 7, 1, 3, 2, 0, 12, 0, 0, 0, 6, 4, 2, 1, 1, 0, 1, 2, 0, 11]) ws (vs ++ [Value.int x, Value.int y, Value.int u]) := by
    refine ⟨nf_inA hl rfl, sgq_1722 ?_⟩
    · show (1 ≤ w_fi ws (n_v (vs ++ [Value.int x, Value.int y, Value.int u]) 4) 8) ∨ ((w_fi ws (n_v (vs ++ [Value.int x, Value.int y, Value.int u]) 4) 12 = 0) ∨ ((v_iv (n_v (vs ++ [Value.int x, Value.int y, Value.int u]) 14) + 1) ≤ w_fi ws (n_v (vs ++ [Value.int x, Value.int y, Value.int u]) 4) 11))
      simp only [e_4, e_14, q4]
      exact vc_Mo_groupItem_at_k2_23_9 (v_iv (n_v vs 3)) (v_iv (n_v vs 10)) (w_fi ws (n_v vs 0) 12) (w_fi ws (n_v vs 0) 8) (w_fi ws (n_v vs 0) 11) (w_fi ws (n_v vs 0) 5) (v_iv (Value.int x)) k3 k10 g4 f7 f8 kz_0_8 kz_0_11 kz_0_12 ex2
  have nf10 : fc_1 PRD (20, [4, 15, 16], [60, 9, 2, 1022, 10, 11, 12, 13, 14, 15, 8, 9, 5, 1, 2]) ws (vs ++ [Value.int x, Value.int y, Value.int u]) := by
    refine ⟨nf_inA hl rfl, sgq_1723 ?_⟩
    · show zNc (w_fi ws (n_v (vs ++ [Value.int x, Value.int y, Value.int u]) 4) 10) (w_fi ws (n_v (vs ++ [Value.int x, Value.int y, Value.int u]) 4) 11) (w_fi ws (n_v (vs ++ [Value.int x, Value.int y, Value.int u]) 4) 12) (w_fi ws (n_v (vs ++ [Value.int x, Value.int y, Value.int u]) 4) 13) (w_fi ws (n_v (vs ++ [Value.int x, Value.int y, Value.int u]) 4) 14) (w_fi ws (n_v (vs ++ [Value.int x, Value.int y, Value.int u]) 4) 15) (w_fi ws (n_v (vs ++ [Value.int x, Value.int y, Value.int u]) 4) 8) (w_fi ws (n_v (vs ++ [Value.int x, Value.int y, Value.int u]) 4) 9) (w_fi ws (n_v (vs ++ [Value.int x, Value.int y, Value.int u]) 4) 5) (w_ei ws (w_ar ws (n_v (vs ++ [Value.int x, Value.int y, Value.int u]) 4) 1)) (w_ei ws (w_ar ws (n_v (vs ++ [Value.int x, Value.int y, Value.int u]) 4) 2)) (v_iv (n_v (vs ++ [Value.int x, Value.int y, Value.int u]) 15)) (v_iv (n_v (vs ++ [Value.int x, Value.int y, Value.int u]) 16))
      simp only [e_4, e_15, e_16, q4]
      exact vc_Mo_groupItem_at_k2_23_10 (v_iv (n_v vs 1)) (v_iv (n_v vs 2)) (v_iv (n_v vs 3)) (v_iv (n_v vs 7)) (v_iv (n_v vs 10)) (v_iv (n_v vs 11)) (v_iv (n_v vs 12)) (w_fi ws (n_v vs 0) 12) (w_fi ws (n_v vs 0) 8) (w_fi ws (n_v vs 0) 14) (w_fi ws (n_v vs 0) 15) (w_fi ws (n_v vs 0) 11) (w_ei ws (w_ar ws (n_v vs 0) 2)) (w_fi ws (n_v vs 0) 5) (w_ei ws (w_ar ws (n_v vs 0) 1)) (w_fi ws (n_v vs 0) 10) (w_fi ws (n_v vs 0) 13) (w_fi ws (n_v vs 0) 9) (v_iv (Value.int x)) (v_iv (Value.int y)) (v_iv (Value.int u)) k1 k2 k3 k7 k10 k11 k12 f0 f2 g4 f9 f12 f13 kz_0_8 kz_0_9 kz_0_10 kz_0_11 kz_0_12 kz_0_13 kz_0_14 kz_0_15 ex2 ey2 eu2 eu3
  exact ⟨(fun _ h => (by cases h)), [Value.int x, Value.int y, Value.int u], ag_three hx hy hu, List.forall_mem_cons.mpr ⟨⟨show (23 : Nat) < 100 from by decide, nf0⟩, List.forall_mem_cons.mpr ⟨⟨show (23 : Nat) < 100 from by decide, nf1⟩, List.forall_mem_cons.mpr ⟨⟨show (23 : Nat) < 100 from by decide, nf2⟩, List.forall_mem_cons.mpr ⟨⟨show (23 : Nat) < 100 from by decide, nf3⟩, List.forall_mem_cons.mpr ⟨⟨show (23 : Nat) < 100 from by decide, nf4⟩, List.forall_mem_cons.mpr ⟨⟨show (23 : Nat) < 100 from by decide, nf5⟩, List.forall_mem_cons.mpr ⟨⟨show (20 : Nat) < 100 from by decide, nf6⟩, List.forall_mem_cons.mpr ⟨⟨show (20 : Nat) < 100 from by decide, nf7⟩, List.forall_mem_cons.mpr ⟨⟨show (20 : Nat) < 100 from by decide, nf8⟩, List.forall_mem_cons.mpr ⟨⟨show (20 : Nat) < 100 from by decide, nf9⟩, List.forall_mem_cons.mpr ⟨⟨show (20 : Nat) < 100 from by decide, nf10⟩, (fun _ h => (by cases h))⟩⟩⟩⟩⟩⟩⟩⟩⟩⟩⟩, (fun _ h => (by cases h))⟩
set_option maxHeartbeats 4000000 in
theorem vc_Mo_groupItem_at_k2_24_0 (r_0 : Int) (from_0 : Int) (pos_0 : Int) (f13 : 1 * from_0 + ((-1) * pos_0 + 0) ≤ 0) (kz_0_11 : 0 ≤ pos_0 ∧ pos_0 ≤ 2000) (kz_0_15 : 0 ≤ from_0 ∧ from_0 ≤ 2000) : 1 * from_0 + ((-1) * pos_0 + 0) ≤ 0 := by
  first
    | omega
    | (have q1 := (hE_0_2_1 (r_0 + 2) (by omega)).2 (by omega)
       have q2 := (hE_0_2_2 (r_0 + 2) (by omega)).2 (by omega)
       omega)
    | (have q1 := (hE_0_2_1 (r_0 + 1) (by omega)).2 (by omega)
       have q2 := (hE_0_2_2 (r_0 + 1) (by omega)).2 (by omega)
       omega)
    | (have q1 := (hE_0_2_1 (r_0 + 2) (by omega)).2 (by omega)
       omega)
    | (have q1 := (hE_0_2_1 (r_0 + 1) (by omega)).2 (by omega)
       omega)
    | (have q1 := (hE_0_2_1 (r_0 + 2) (by omega)).2 (by omega)
       have q2 := (hE_0_2_2 (r_0 + 2) (by omega)).2 (by omega)
       have q3 := (hE_0_2_3 (r_0 + 2) (by omega)).1 (by omega)
       omega)
    | (have q1 := (hE_0_2_1 (r_0 + 2) (by omega)).2 (by omega)
       have q2 := (hE_0_2_2 (r_0 + 2) (by omega)).2 (by omega)
       have q3 := (hE_0_2_3 (r_0 + 2) (by omega)).2 (by omega)
       omega)
    | (have q1 := (hE_0_2_1 (r_0 + 2) (by omega)).2 (by omega)
       have q2 := (hE_0_2_2 (r_0 + 2) (by omega)).2 (by omega)
       have q3 := (hE_0_2_3 (r_0 + 2) (by omega)).1 (by omega)
       have q4 : x13 = r_0 + 2 := by omega
       simp only [q4] at *
       omega)
set_option maxHeartbeats 4000000 in
theorem vc_Mo_groupItem_at_k2_24_1 (r_0 : Int) (from_0 : Int) (pos_0 : Int) (kind_0 : Int) (f14 : ((kind_0 = 1) → (pos_0 ≤ (from_0 + 8))) ∧ ((kind_0 = 0) ∨ ((from_0 + 1) ≤ pos_0))) (kz_0_11 : 0 ≤ pos_0 ∧ pos_0 ≤ 2000) (kz_0_12 : 0 ≤ kind_0 ∧ kind_0 ≤ 4) (kz_0_15 : 0 ≤ from_0 ∧ from_0 ≤ 2000) : ((kind_0 = 1) → (pos_0 ≤ (from_0 + 8))) ∧ ((kind_0 = 0) ∨ ((from_0 + 1) ≤ pos_0)) := by
  first
    | omega
    | (have q1 := (hE_0_2_1 (r_0 + 2) (by omega)).2 (by omega)
       have q2 := (hE_0_2_2 (r_0 + 2) (by omega)).2 (by omega)
       omega)
    | (have q1 := (hE_0_2_1 (r_0 + 1) (by omega)).2 (by omega)
       have q2 := (hE_0_2_2 (r_0 + 1) (by omega)).2 (by omega)
       omega)
    | (have q1 := (hE_0_2_1 (r_0 + 2) (by omega)).2 (by omega)
       omega)
    | (have q1 := (hE_0_2_1 (r_0 + 1) (by omega)).2 (by omega)
       omega)
    | (have q1 := (hE_0_2_1 (r_0 + 2) (by omega)).2 (by omega)
       have q2 := (hE_0_2_2 (r_0 + 2) (by omega)).2 (by omega)
       have q3 := (hE_0_2_3 (r_0 + 2) (by omega)).1 (by omega)
       omega)
    | (have q1 := (hE_0_2_1 (r_0 + 2) (by omega)).2 (by omega)
       have q2 := (hE_0_2_2 (r_0 + 2) (by omega)).2 (by omega)
       have q3 := (hE_0_2_3 (r_0 + 2) (by omega)).2 (by omega)
       omega)
    | (have q1 := (hE_0_2_1 (r_0 + 2) (by omega)).2 (by omega)
       have q2 := (hE_0_2_2 (r_0 + 2) (by omega)).2 (by omega)
       have q3 := (hE_0_2_3 (r_0 + 2) (by omega)).1 (by omega)
       have q4 : x13 = r_0 + 2 := by omega
       simp only [q4] at *
       omega)
set_option maxHeartbeats 4000000 in
theorem vc_Mo_groupItem_at_k2_24_2 (x3 : Int) (x14 : Int) (r_0 : Int) (pos_0 : Int) (k3 : 0 ≤ x3 ∧ x3 ≤ 2000) (k14 : 0 ≤ x14 ∧ x14 ≤ 2000) (f0 : 1 * x14 + ((-1) * x3 + 0) ≤ 0) (f1 : (-1) * x14 + (1 * x3 + 0) ≤ 0) (f15 : 1 * x14 + ((-1) * pos_0 + 0) ≤ 0) (kz_0_11 : 0 ≤ pos_0 ∧ pos_0 ≤ 2000) : 1 * x3 + ((-1) * pos_0 + 0) ≤ 0 := by
  first
    | omega
    | (have q1 := (hE_0_2_1 (r_0 + 2) (by omega)).2 (by omega)
       have q2 := (hE_0_2_2 (r_0 + 2) (by omega)).2 (by omega)
       omega)
    | (have q1 := (hE_0_2_1 (r_0 + 1) (by omega)).2 (by omega)
       have q2 := (hE_0_2_2 (r_0 + 1) (by omega)).2 (by omega)
       omega)
    | (have q1 := (hE_0_2_1 (r_0 + 2) (by omega)).2 (by omega)
       omega)
    | (have q1 := (hE_0_2_1 (r_0 + 1) (by omega)).2 (by omega)
       omega)
    | (have q1 := (hE_0_2_1 (r_0 + 2) (by omega)).2 (by omega)
       have q2 := (hE_0_2_2 (r_0 + 2) (by omega)).2 (by omega)
       have q3 := (hE_0_2_3 (r_0 + 2) (by omega)).1 (by omega)
       omega)
    | (have q1 := (hE_0_2_1 (r_0 + 2) (by omega)).2 (by omega)
       have q2 := (hE_0_2_2 (r_0 + 2) (by omega)).2 (by omega)
       have q3 := (hE_0_2_3 (r_0 + 2) (by omega)).2 (by omega)
       omega)
    | (have q1 := (hE_0_2_1 (r_0 + 2) (by omega)).2 (by omega)
       have q2 := (hE_0_2_2 (r_0 + 2) (by omega)).2 (by omega)
       have q3 := (hE_0_2_3 (r_0 + 2) (by omega)).1 (by omega)
       have q4 : x13 = r_0 + 2 := by omega
       simp only [q4] at *
       omega)
set_option maxHeartbeats 4000000 in
theorem vc_Mo_groupItem_at_k2_24_3 (x3 : Int) (x14 : Int) (r_0 : Int) (pos_0 : Int) (fault_0 : Int) (k3 : 0 ≤ x3 ∧ x3 ≤ 2000) (k14 : 0 ≤ x14 ∧ x14 ≤ 2000) (f0 : 1 * x14 + ((-1) * x3 + 0) ≤ 0) (f1 : (-1) * x14 + (1 * x3 + 0) ≤ 0) (f15 : 1 * x14 + ((-1) * pos_0 + 0) ≤ 0) (f16 : (1 ≤ fault_0) ∨ ((x14 + 1) ≤ pos_0)) (kz_0_8 : 0 ≤ fault_0 ∧ fault_0 ≤ 5) (kz_0_11 : 0 ≤ pos_0 ∧ pos_0 ≤ 2000) : (1 ≤ fault_0) ∨ ((x3 + 1) ≤ pos_0) := by
  first
    | omega
    | (have q1 := (hE_0_2_1 (r_0 + 2) (by omega)).2 (by omega)
       have q2 := (hE_0_2_2 (r_0 + 2) (by omega)).2 (by omega)
       omega)
    | (have q1 := (hE_0_2_1 (r_0 + 1) (by omega)).2 (by omega)
       have q2 := (hE_0_2_2 (r_0 + 1) (by omega)).2 (by omega)
       omega)
    | (have q1 := (hE_0_2_1 (r_0 + 2) (by omega)).2 (by omega)
       omega)
    | (have q1 := (hE_0_2_1 (r_0 + 1) (by omega)).2 (by omega)
       omega)
    | (have q1 := (hE_0_2_1 (r_0 + 2) (by omega)).2 (by omega)
       have q2 := (hE_0_2_2 (r_0 + 2) (by omega)).2 (by omega)
       have q3 := (hE_0_2_3 (r_0 + 2) (by omega)).1 (by omega)
       omega)
    | (have q1 := (hE_0_2_1 (r_0 + 2) (by omega)).2 (by omega)
       have q2 := (hE_0_2_2 (r_0 + 2) (by omega)).2 (by omega)
       have q3 := (hE_0_2_3 (r_0 + 2) (by omega)).2 (by omega)
       omega)
    | (have q1 := (hE_0_2_1 (r_0 + 2) (by omega)).2 (by omega)
       have q2 := (hE_0_2_2 (r_0 + 2) (by omega)).2 (by omega)
       have q3 := (hE_0_2_3 (r_0 + 2) (by omega)).1 (by omega)
       have q4 : x13 = r_0 + 2 := by omega
       simp only [q4] at *
       omega)
set_option maxHeartbeats 4000000 in
theorem vc_Mo_groupItem_at_k2_24_4 (x1 : Int) (x5 : Int) (x7 : Int) (x15 : Int) (all_0 : Int → Int) (r_0 : Int) (k1 : 0 ≤ x1 ∧ x1 ≤ 7) (k5 : 0 ≤ x5 ∧ x5 ≤ 7) (k7 : 0 ≤ x7 ∧ x7 ≤ 7) (k15 : 0 ≤ x15 ∧ x15 ≤ 7) (d0 : x5 + (-4294967296) ≤ x1 ∧ x1 ≤ x5 + 0) (d1 : x1 + (-4294967296) ≤ x5 ∧ x5 ≤ x1 + 0) (f2 : 1 * x15 + ((-1) * x1 + 0) ≤ 0) (f3 : (-1) * x15 + (1 * x1 + 0) ≤ 0) (f6 : (x7 + 1) ≤ all_0 ((r_0 + 2))) (f7 : 1 * x1 + ((-1) * x7 + 0) ≤ (-1)) : (x1 + 1) ≤ all_0 ((r_0 + 2)) := by
  first
    | omega
    | (have q1 := (hE_0_2_1 (r_0 + 2) (by omega)).2 (by omega)
       have q2 := (hE_0_2_2 (r_0 + 2) (by omega)).2 (by omega)
       omega)
    | (have q1 := (hE_0_2_1 (r_0 + 1) (by omega)).2 (by omega)
       have q2 := (hE_0_2_2 (r_0 + 1) (by omega)).2 (by omega)
       omega)
    | (have q1 := (hE_0_2_1 (r_0 + 2) (by omega)).2 (by omega)
       omega)
    | (have q1 := (hE_0_2_1 (r_0 + 1) (by omega)).2 (by omega)
       omega)
    | (have q1 := (hE_0_2_1 (r_0 + 2) (by omega)).2 (by omega)
       have q2 := (hE_0_2_2 (r_0 + 2) (by omega)).2 (by omega)
       have q3 := (hE_0_2_3 (r_0 + 2) (by omega)).1 (by omega)
       omega)
    | (have q1 := (hE_0_2_1 (r_0 + 2) (by omega)).2 (by omega)
       have q2 := (hE_0_2_2 (r_0 + 2) (by omega)).2 (by omega)
       have q3 := (hE_0_2_3 (r_0 + 2) (by omega)).2 (by omega)
       omega)
    | (have q1 := (hE_0_2_1 (r_0 + 2) (by omega)).2 (by omega)
       have q2 := (hE_0_2_2 (r_0 + 2) (by omega)).2 (by omega)
       have q3 := (hE_0_2_3 (r_0 + 2) (by omega)).1 (by omega)
       have q4 : x13 = r_0 + 2 := by omega
       simp only [q4] at *
       omega)
set_option maxHeartbeats 4000000 in
theorem vc_Mo_groupItem_at_k2_24_5 (all_0 : Int → Int) (r_0 : Int) (now_0 : Int → Int) (latest_0 : Int → Int) (f8 : RWS (r_0) (all_0) (now_0) (latest_0)) : RWS (r_0) (all_0) (now_0) (latest_0) := by
  first
    | assumption
set_option maxHeartbeats 4000000 in
theorem vc_Mo_groupItem_at_k2_24_6 (x1 : Int) (x2 : Int) (x3 : Int) (x5 : Int) (x14 : Int) (x15 : Int) (x16 : Int) (all_0 : Int → Int) (r_0 : Int) (tape_0 : Int → Int) (limit_0 : Int) (from_0 : Int) (pos_0 : Int) (kind_0 : Int) (fault_0 : Int) (place_0 : Int) (value_0 : Int) (faultPlace_0 : Int) (k1 : 0 ≤ x1 ∧ x1 ≤ 7) (k2 : 2 ≤ x2 ∧ x2 ≤ 2) (k3 : 0 ≤ x3 ∧ x3 ≤ 2000) (k5 : 0 ≤ x5 ∧ x5 ≤ 7) (k14 : 0 ≤ x14 ∧ x14 ≤ 2000) (k15 : 0 ≤ x15 ∧ x15 ≤ 7) (k16 : 0 ≤ x16 ∧ x16 ≤ 4) (d0 : x5 + (-4294967296) ≤ x1 ∧ x1 ≤ x5 + 0) (d1 : x1 + (-4294967296) ≤ x5 ∧ x5 ≤ x1 + 0) (f0 : 1 * x14 + ((-1) * x3 + 0) ≤ 0) (f1 : (-1) * x14 + (1 * x3 + 0) ≤ 0) (f2 : 1 * x15 + ((-1) * x1 + 0) ≤ 0) (f3 : (-1) * x15 + (1 * x1 + 0) ≤ 0) (f4 : 1 * x16 + ((-1) * x2 + 0) ≤ 0) (f5 : (-1) * x16 + (1 * x2 + 0) ≤ 0) (f17 : zOS0 (limit_0) (pos_0) (kind_0) (place_0) (value_0) (from_0) (fault_0) (faultPlace_0) (r_0) (tape_0) (all_0) (x15) (x16)) (kz_0_8 : 0 ≤ fault_0 ∧ fault_0 ≤ 5) (kz_0_9 : 0 ≤ faultPlace_0 ∧ faultPlace_0 ≤ 2000) (kz_0_10 : 0 ≤ limit_0 ∧ limit_0 ≤ 2000) (kz_0_11 : 0 ≤ pos_0 ∧ pos_0 ≤ 2000) (kz_0_12 : 0 ≤ kind_0 ∧ kind_0 ≤ 4) (kz_0_13 : 0 ≤ place_0 ∧ place_0 ≤ 2000) (kz_0_14 : (-49) ≤ value_0 ∧ value_0 ≤ 1048575) (kz_0_15 : 0 ≤ from_0 ∧ from_0 ≤ 2000) : zOS0 (limit_0) (pos_0) (kind_0) (place_0) (value_0) (from_0) (fault_0) (faultPlace_0) (r_0) (tape_0) (all_0) (x1) (x2) := by
  first | (have el_x14 : x14 = x3 := by omega); subst el_x14 | skip
  first | (have el_x15 : x15 = x1 := by omega); subst el_x15 | skip
  first | (have el_x16 : x16 = x2 := by omega); subst el_x16 | skip
  first
    | assumption
    | (refine Or.inl (fs_w ?_ ?_ (by assumption)) <;> assumption)
def o_Mo_groupItem_at_k2_24 : or_T := (203, 17, [(0, (2, 0, 0, [165])), (1, (0, 0, 7, [])), (2, (0, 2, 2, [])), (3, (0, 0, 2000, [])), (5, (0, 0, 7, [])), (7, (0, 0, 7, [])), (14, (0, 0, 2000, [])), (15, (0, 0, 7, [])), (16, (0, 0, 4, []))], [(23, [14, 3], [0, 1, -1]), (23, [14, 3], [0, -1, 1]), (23, [15, 5], [0, 1, -1]), (23, [15, 5], [0, -1, 1]), (23, [16, 6], [0, 1, -1]), (23, [16, 6], [0, -1, 1]), (20, [7, 4], [50, 1, 1, 1005, 1002, 0, 6, 4, 2, 1, 0, 0, 1, 3, 1, 2, 4, 3, 2, 1, 5, 0, 2]), (23, [5, 7], [-1, 1, -1]), (20, [4], [60, 1, 3, 199, 5, 2, 3, 4]), (24, [0, 4], []), (24, [1, 5], []), (24, [2, 6], []), (20, [4, 4], [30, 0, 1, 1, 15, -1, 1, 11]), (20, [4], [50, 3, 0, 12, 11, 15, 2, 21, 4, 7, 1, 3, 2, 0, 12, 0, 1, 0, 3, 2, 0, 11, 4, 3, 2, 0, 15, 0, 8, 3, 7, 1, 3, 2, 0, 12, 0, 0, 0, 7, 4, 3, 2, 0, 15, 0, 1, 2, 0, 11]), (20, [14, 4], [30, 0, 1, 0, 0, -1, 1, 11]), (20, [4, 14], [50, 2, 0, 8, 11, 3, 7, 0, 2, 0, 1, 2, 0, 8, 0, 6, 4, 2, 1, 1, 0, 1, 2, 0, 11]), (20, [4, 15, 16], [60, 9, 2, 1007, 10, 11, 12, 13, 14, 15, 8, 9, 5, 1, 2])], [], [], [(20, [0, 0], [30, 0, 1, 1, 15, -1, 1, 11]), (20, [0], [50, 3, 0, 12, 11, 15, 2, 21, 4, 7, 1, 3, 2, 0, 12, 0, 1, 0, 3, 2, 0, 11, 4, 3, 2, 0, 15, 0, 8, 3, 7, 1, 3, 2, 0, 12, 0, 0, 0, 7, 4, 3, 2, 0, 15, 0, 1, 2, 0, 11]), (20, [3, 0], [30, 0, 1, 0, 0, -1, 1, 11]), (20, [0, 3], [50, 2, 0, 8, 11, 3, 7, 0, 2, 0, 1, 2, 0, 8, 0, 6, 4, 2, 1, 1, 0, 1, 2, 0, 11]), (20, [1, 0], [50, 1, 1, 1005, 1002, 0, 6, 4, 2, 1, 0, 0, 1, 3, 1, 2, 4, 3, 2, 1, 5, 0, 2]), (20, [0], [60, 1, 3, 199, 5, 2, 3, 4]), (20, [0, 1, 2], [60, 9, 2, 1007, 10, 11, 12, 13, 14, 15, 8, 9, 5, 1, 2])], [], [(1, 5, -4294967296, 0), (5, 1, -4294967296, 0)])
theorem oo_Mo_groupItem_at_k2_24 {kA : Nat → ClassId} : or_ok PRD kA GG o_Mo_groupItem_at_k2_24 := by
  refine or_mk fun A ta ws vs hD hth hl => ?_
  intro t0 r0 t1 k1 t2 k2 t3 k3 t5 k5 t7 k7 t14 k14 t15 k15 t16 k16 d0 d1 f0 f1 f2 f3 f4 f5 f6 f7 f8 f10 f11 f12 f13 f14 f15 f16 f17
  replace f2 := shm_7 f2
  replace f3 := shm_22 f3
  replace f4 := shm_7 f4
  replace f5 := shm_22 f5
  replace f6 := shm_1009 f6
  replace f7 := shm_193 f7
  replace f8 := shm_980 f8
  replace f10 := shm_5 f10
  replace f11 := shm_5 f11
  replace f12 := shm_5 f12
  replace f13 := shm_1437 f13
  replace f14 := shm_1438 f14
  replace f15 := shm_1431 f15
  replace f16 := shm_1726 f16
  replace f17 := shm_1727 f17
  have q4 : n_v vs 4 = n_v vs 0 := f10.symm
  have q5 : n_v vs 5 = n_v vs 1 := f11.symm
  have q6 : n_v vs 6 = n_v vs 2 := f12.symm
  simp only [q5, q6, q4] at f2 f3 f4 f5 f6 f7 f8 f13 f14 f15 f16 f17
  have kz_0_8 := fdq_34 hD hth r0
  have kz_0_9 := fdq_44 hD hth r0
  have kz_0_10 := fdq_43 hD hth r0
  have kz_0_11 := fdq_237 hD hth r0
  have kz_0_12 := fdq_187 hD hth r0
  have kz_0_13 := fdq_238 hD hth r0
  have kz_0_14 := fdq_188 hD hth r0
  have kz_0_15 := fdq_239 hD hth r0
  have nf0 : fc_1 PRD (20, [0, 0], [30, 0, 1, 1, 15, -1, 1, 11]) ws (vs) := ⟨nf_in hl rfl, sgq_1437 (vc_Mo_groupItem_at_k2_24_0 (w_fi ws (n_v vs 0) 5) (w_fi ws (n_v vs 0) 15) (w_fi ws (n_v vs 0) 11) f13 kz_0_11 kz_0_15)⟩
  have nf1 : fc_1 PRD (20, [0], [50, 3, 0, 12, 11, 15, 2, 21, 4, 7, 1, 3, 2, 0, 12, 0, 1, 0, 3, 2, 0, 11, 4, 3, 2, 0, 15, 0, 8, 3, 7, 1, 3, 2, 0, 12, 0, 0, 0, 7, 4, 3, 2, 0, 15, 0, 1, 2, 0, 11]) ws (vs) := ⟨nf_in hl rfl, sgq_1438 (vc_Mo_groupItem_at_k2_24_1 (w_fi ws (n_v vs 0) 5) (w_fi ws (n_v vs 0) 15) (w_fi ws (n_v vs 0) 11) (w_fi ws (n_v vs 0) 12) f14 kz_0_11 kz_0_12 kz_0_15)⟩
  have nf2 : fc_1 PRD (20, [3, 0], [30, 0, 1, 0, 0, -1, 1, 11]) ws (vs) := ⟨nf_in hl rfl, sgq_1431 (vc_Mo_groupItem_at_k2_24_2 (v_iv (n_v vs 3)) (v_iv (n_v vs 14)) (w_fi ws (n_v vs 0) 5) (w_fi ws (n_v vs 0) 11) k3 k14 (shm_7 f0) (shm_22 f1) f15 kz_0_11)⟩
  have nf3 : fc_1 PRD (20, [0, 3], [50, 2, 0, 8, 11, 3, 7, 0, 2, 0, 1, 2, 0, 8, 0, 6, 4, 2, 1, 1, 0, 1, 2, 0, 11]) ws (vs) := ⟨nf_in hl rfl, sgq_1726 (vc_Mo_groupItem_at_k2_24_3 (v_iv (n_v vs 3)) (v_iv (n_v vs 14)) (w_fi ws (n_v vs 0) 5) (w_fi ws (n_v vs 0) 11) (w_fi ws (n_v vs 0) 8) k3 k14 (shm_7 f0) (shm_22 f1) f15 f16 kz_0_8 kz_0_11)⟩
  have nf4 : fc_1 PRD (20, [1, 0], [50, 1, 1, 1005, 1002, 0, 6, 4, 2, 1, 0, 0, 1, 3, 1, 2, 4, 3, 2, 1, 5, 0, 2]) ws (vs) := ⟨nf_in hl rfl, sgq_1009 (vc_Mo_groupItem_at_k2_24_4 (v_iv (n_v vs 1)) (v_iv (n_v vs 5)) (v_iv (n_v vs 7)) (v_iv (n_v vs 15)) (w_ei ws (w_ar ws (n_v vs 0) 2)) (w_fi ws (n_v vs 0) 5) k1 k5 k7 k15 d0 d1 f2 f3 f6 f7)⟩
  have nf5 : fc_1 PRD (20, [0], [60, 1, 3, 199, 5, 2, 3, 4]) ws (vs) := ⟨nf_in hl rfl, sgq_980 (vc_Mo_groupItem_at_k2_24_5 (w_ei ws (w_ar ws (n_v vs 0) 2)) (w_fi ws (n_v vs 0) 5) (w_ei ws (w_ar ws (n_v vs 0) 3)) (w_ei ws (w_ar ws (n_v vs 0) 4)) f8)⟩
  have nf6 : fc_1 PRD (20, [0, 1, 2], [60, 9, 2, 1007, 10, 11, 12, 13, 14, 15, 8, 9, 5, 1, 2]) ws (vs) := ⟨nf_in hl rfl, sgq_1727 (vc_Mo_groupItem_at_k2_24_6 (v_iv (n_v vs 1)) (v_iv (n_v vs 2)) (v_iv (n_v vs 3)) (v_iv (n_v vs 5)) (v_iv (n_v vs 14)) (v_iv (n_v vs 15)) (v_iv (n_v vs 16)) (w_ei ws (w_ar ws (n_v vs 0) 2)) (w_fi ws (n_v vs 0) 5) (w_ei ws (w_ar ws (n_v vs 0) 1)) (w_fi ws (n_v vs 0) 10) (w_fi ws (n_v vs 0) 15) (w_fi ws (n_v vs 0) 11) (w_fi ws (n_v vs 0) 12) (w_fi ws (n_v vs 0) 8) (w_fi ws (n_v vs 0) 13) (w_fi ws (n_v vs 0) 14) (w_fi ws (n_v vs 0) 9) k1 k2 k3 k5 k14 k15 k16 d0 d1 (shm_7 f0) (shm_22 f1) f2 f3 f4 f5 f17 kz_0_8 kz_0_9 kz_0_10 kz_0_11 kz_0_12 kz_0_13 kz_0_14 kz_0_15)⟩
  refine ⟨(fun _ h => (by cases h)), [], trivial, ?_, (fun _ h => (by cases h))⟩
  rw [List.append_nil]
  exact List.forall_mem_cons.mpr ⟨⟨show (20 : Nat) < 100 from by decide, nf0⟩, List.forall_mem_cons.mpr ⟨⟨show (20 : Nat) < 100 from by decide, nf1⟩, List.forall_mem_cons.mpr ⟨⟨show (20 : Nat) < 100 from by decide, nf2⟩, List.forall_mem_cons.mpr ⟨⟨show (20 : Nat) < 100 from by decide, nf3⟩, List.forall_mem_cons.mpr ⟨⟨show (20 : Nat) < 100 from by decide, nf4⟩, List.forall_mem_cons.mpr ⟨⟨show (20 : Nat) < 100 from by decide, nf5⟩, List.forall_mem_cons.mpr ⟨⟨show (20 : Nat) < 100 from by decide, nf6⟩, (fun _ h => (by cases h))⟩⟩⟩⟩⟩⟩⟩
set_option maxHeartbeats 4000000 in
theorem vc_Mo_groupItem_at_k2_25_0 (from_0 : Int) (pos_0 : Int) (r_0 : Int) (f0 : 1 * from_0 + ((-1) * pos_0 + 0) ≤ 0) (kz_0_11 : 0 ≤ pos_0 ∧ pos_0 ≤ 2000) (kz_0_15 : 0 ≤ from_0 ∧ from_0 ≤ 2000) : 1 * from_0 + ((-1) * pos_0 + 0) ≤ 0 := by
  first
    | omega
    | (have q1 := (hE_0_2_1 (r_0 + 2) (by omega)).2 (by omega)
       have q2 := (hE_0_2_2 (r_0 + 2) (by omega)).2 (by omega)
       omega)
    | (have q1 := (hE_0_2_1 (r_0 + 1) (by omega)).2 (by omega)
       have q2 := (hE_0_2_2 (r_0 + 1) (by omega)).2 (by omega)
       omega)
    | (have q1 := (hE_0_2_1 (r_0 + 2) (by omega)).2 (by omega)
       omega)
    | (have q1 := (hE_0_2_1 (r_0 + 1) (by omega)).2 (by omega)
       omega)
    | (have q1 := (hE_0_2_1 (r_0 + 2) (by omega)).2 (by omega)
       have q2 := (hE_0_2_2 (r_0 + 2) (by omega)).2 (by omega)
       have q3 := (hE_0_2_3 (r_0 + 2) (by omega)).1 (by omega)
       omega)
    | (have q1 := (hE_0_2_1 (r_0 + 2) (by omega)).2 (by omega)
       have q2 := (hE_0_2_2 (r_0 + 2) (by omega)).2 (by omega)
       have q3 := (hE_0_2_3 (r_0 + 2) (by omega)).2 (by omega)
       omega)
    | (have q1 := (hE_0_2_1 (r_0 + 2) (by omega)).2 (by omega)
       have q2 := (hE_0_2_2 (r_0 + 2) (by omega)).2 (by omega)
       have q3 := (hE_0_2_3 (r_0 + 2) (by omega)).1 (by omega)
       have q4 : x13 = r_0 + 2 := by omega
       simp only [q4] at *
       omega)
set_option maxHeartbeats 4000000 in
theorem vc_Mo_groupItem_at_k2_25_1 (from_0 : Int) (pos_0 : Int) (kind_0 : Int) (r_0 : Int) (f1 : ((kind_0 = 1) → (pos_0 ≤ (from_0 + 8))) ∧ ((kind_0 = 0) ∨ ((from_0 + 1) ≤ pos_0))) (kz_0_11 : 0 ≤ pos_0 ∧ pos_0 ≤ 2000) (kz_0_12 : 0 ≤ kind_0 ∧ kind_0 ≤ 4) (kz_0_15 : 0 ≤ from_0 ∧ from_0 ≤ 2000) : ((kind_0 = 1) → (pos_0 ≤ (from_0 + 8))) ∧ ((kind_0 = 0) ∨ ((from_0 + 1) ≤ pos_0)) := by
  first
    | omega
    | (have q1 := (hE_0_2_1 (r_0 + 2) (by omega)).2 (by omega)
       have q2 := (hE_0_2_2 (r_0 + 2) (by omega)).2 (by omega)
       omega)
    | (have q1 := (hE_0_2_1 (r_0 + 1) (by omega)).2 (by omega)
       have q2 := (hE_0_2_2 (r_0 + 1) (by omega)).2 (by omega)
       omega)
    | (have q1 := (hE_0_2_1 (r_0 + 2) (by omega)).2 (by omega)
       omega)
    | (have q1 := (hE_0_2_1 (r_0 + 1) (by omega)).2 (by omega)
       omega)
    | (have q1 := (hE_0_2_1 (r_0 + 2) (by omega)).2 (by omega)
       have q2 := (hE_0_2_2 (r_0 + 2) (by omega)).2 (by omega)
       have q3 := (hE_0_2_3 (r_0 + 2) (by omega)).1 (by omega)
       omega)
    | (have q1 := (hE_0_2_1 (r_0 + 2) (by omega)).2 (by omega)
       have q2 := (hE_0_2_2 (r_0 + 2) (by omega)).2 (by omega)
       have q3 := (hE_0_2_3 (r_0 + 2) (by omega)).2 (by omega)
       omega)
    | (have q1 := (hE_0_2_1 (r_0 + 2) (by omega)).2 (by omega)
       have q2 := (hE_0_2_2 (r_0 + 2) (by omega)).2 (by omega)
       have q3 := (hE_0_2_3 (r_0 + 2) (by omega)).1 (by omega)
       have q4 : x13 = r_0 + 2 := by omega
       simp only [q4] at *
       omega)
set_option maxHeartbeats 4000000 in
theorem vc_Mo_groupItem_at_k2_25_2 (x3 : Int) (pos_0 : Int) (r_0 : Int) (k3 : 0 ≤ x3 ∧ x3 ≤ 2000) (f2 : 1 * x3 + ((-1) * pos_0 + 0) ≤ 0) (kz_0_11 : 0 ≤ pos_0 ∧ pos_0 ≤ 2000) : 1 * x3 + ((-1) * pos_0 + 0) ≤ 0 := by
  first
    | omega
    | (have q1 := (hE_0_2_1 (r_0 + 2) (by omega)).2 (by omega)
       have q2 := (hE_0_2_2 (r_0 + 2) (by omega)).2 (by omega)
       omega)
    | (have q1 := (hE_0_2_1 (r_0 + 1) (by omega)).2 (by omega)
       have q2 := (hE_0_2_2 (r_0 + 1) (by omega)).2 (by omega)
       omega)
    | (have q1 := (hE_0_2_1 (r_0 + 2) (by omega)).2 (by omega)
       omega)
    | (have q1 := (hE_0_2_1 (r_0 + 1) (by omega)).2 (by omega)
       omega)
    | (have q1 := (hE_0_2_1 (r_0 + 2) (by omega)).2 (by omega)
       have q2 := (hE_0_2_2 (r_0 + 2) (by omega)).2 (by omega)
       have q3 := (hE_0_2_3 (r_0 + 2) (by omega)).1 (by omega)
       omega)
    | (have q1 := (hE_0_2_1 (r_0 + 2) (by omega)).2 (by omega)
       have q2 := (hE_0_2_2 (r_0 + 2) (by omega)).2 (by omega)
       have q3 := (hE_0_2_3 (r_0 + 2) (by omega)).2 (by omega)
       omega)
    | (have q1 := (hE_0_2_1 (r_0 + 2) (by omega)).2 (by omega)
       have q2 := (hE_0_2_2 (r_0 + 2) (by omega)).2 (by omega)
       have q3 := (hE_0_2_3 (r_0 + 2) (by omega)).1 (by omega)
       have q4 : x13 = r_0 + 2 := by omega
       simp only [q4] at *
       omega)
set_option maxHeartbeats 4000000 in
theorem vc_Mo_groupItem_at_k2_25_3 (x3 : Int) (pos_0 : Int) (fault_0 : Int) (r_0 : Int) (k3 : 0 ≤ x3 ∧ x3 ≤ 2000) (f3 : (1 ≤ fault_0) ∨ ((x3 + 1) ≤ pos_0)) (kz_0_8 : 0 ≤ fault_0 ∧ fault_0 ≤ 5) (kz_0_11 : 0 ≤ pos_0 ∧ pos_0 ≤ 2000) : (1 ≤ fault_0) ∨ ((x3 + 1) ≤ pos_0) := by
  first
    | omega
    | (have q1 := (hE_0_2_1 (r_0 + 2) (by omega)).2 (by omega)
       have q2 := (hE_0_2_2 (r_0 + 2) (by omega)).2 (by omega)
       omega)
    | (have q1 := (hE_0_2_1 (r_0 + 1) (by omega)).2 (by omega)
       have q2 := (hE_0_2_2 (r_0 + 1) (by omega)).2 (by omega)
       omega)
    | (have q1 := (hE_0_2_1 (r_0 + 2) (by omega)).2 (by omega)
       omega)
    | (have q1 := (hE_0_2_1 (r_0 + 1) (by omega)).2 (by omega)
       omega)
    | (have q1 := (hE_0_2_1 (r_0 + 2) (by omega)).2 (by omega)
       have q2 := (hE_0_2_2 (r_0 + 2) (by omega)).2 (by omega)
       have q3 := (hE_0_2_3 (r_0 + 2) (by omega)).1 (by omega)
       omega)
    | (have q1 := (hE_0_2_1 (r_0 + 2) (by omega)).2 (by omega)
       have q2 := (hE_0_2_2 (r_0 + 2) (by omega)).2 (by omega)
       have q3 := (hE_0_2_3 (r_0 + 2) (by omega)).2 (by omega)
       omega)
    | (have q1 := (hE_0_2_1 (r_0 + 2) (by omega)).2 (by omega)
       have q2 := (hE_0_2_2 (r_0 + 2) (by omega)).2 (by omega)
       have q3 := (hE_0_2_3 (r_0 + 2) (by omega)).1 (by omega)
       have q4 : x13 = r_0 + 2 := by omega
       simp only [q4] at *
       omega)
set_option maxHeartbeats 4000000 in
theorem vc_Mo_groupItem_at_k2_25_4 (x7 : Int) (all_0 : Int → Int) (r_0 : Int) (k7 : 0 ≤ x7 ∧ x7 ≤ 7) (f4 : (x7 + 1) ≤ all_0 ((r_0 + 2))) : (x7 + 1) ≤ all_0 ((r_0 + 2)) := by
  first
    | omega
    | (have q1 := (hE_0_2_1 (r_0 + 2) (by omega)).2 (by omega)
       have q2 := (hE_0_2_2 (r_0 + 2) (by omega)).2 (by omega)
       omega)
    | (have q1 := (hE_0_2_1 (r_0 + 1) (by omega)).2 (by omega)
       have q2 := (hE_0_2_2 (r_0 + 1) (by omega)).2 (by omega)
       omega)
    | (have q1 := (hE_0_2_1 (r_0 + 2) (by omega)).2 (by omega)
       omega)
    | (have q1 := (hE_0_2_1 (r_0 + 1) (by omega)).2 (by omega)
       omega)
    | (have q1 := (hE_0_2_1 (r_0 + 2) (by omega)).2 (by omega)
       have q2 := (hE_0_2_2 (r_0 + 2) (by omega)).2 (by omega)
       have q3 := (hE_0_2_3 (r_0 + 2) (by omega)).1 (by omega)
       omega)
    | (have q1 := (hE_0_2_1 (r_0 + 2) (by omega)).2 (by omega)
       have q2 := (hE_0_2_2 (r_0 + 2) (by omega)).2 (by omega)
       have q3 := (hE_0_2_3 (r_0 + 2) (by omega)).2 (by omega)
       omega)
    | (have q1 := (hE_0_2_1 (r_0 + 2) (by omega)).2 (by omega)
       have q2 := (hE_0_2_2 (r_0 + 2) (by omega)).2 (by omega)
       have q3 := (hE_0_2_3 (r_0 + 2) (by omega)).1 (by omega)
       have q4 : x13 = r_0 + 2 := by omega
       simp only [q4] at *
       omega)
set_option maxHeartbeats 4000000 in
theorem vc_Mo_groupItem_at_k2_25_5 (x1 : Int) (x7 : Int) (r_0 : Int) (k1 : 0 ≤ x1 ∧ x1 ≤ 7) (k7 : 0 ≤ x7 ∧ x7 ≤ 7) (f5 : 1 * x1 + ((-1) * x7 + 0) ≤ (-1)) : 1 * x1 + ((-1) * x7 + 0) ≤ (-1) := by
  first
    | omega
    | (have q1 := (hE_0_2_1 (r_0 + 2) (by omega)).2 (by omega)
       have q2 := (hE_0_2_2 (r_0 + 2) (by omega)).2 (by omega)
       omega)
    | (have q1 := (hE_0_2_1 (r_0 + 1) (by omega)).2 (by omega)
       have q2 := (hE_0_2_2 (r_0 + 1) (by omega)).2 (by omega)
       omega)
    | (have q1 := (hE_0_2_1 (r_0 + 2) (by omega)).2 (by omega)
       omega)
    | (have q1 := (hE_0_2_1 (r_0 + 1) (by omega)).2 (by omega)
       omega)
    | (have q1 := (hE_0_2_1 (r_0 + 2) (by omega)).2 (by omega)
       have q2 := (hE_0_2_2 (r_0 + 2) (by omega)).2 (by omega)
       have q3 := (hE_0_2_3 (r_0 + 2) (by omega)).1 (by omega)
       omega)
    | (have q1 := (hE_0_2_1 (r_0 + 2) (by omega)).2 (by omega)
       have q2 := (hE_0_2_2 (r_0 + 2) (by omega)).2 (by omega)
       have q3 := (hE_0_2_3 (r_0 + 2) (by omega)).2 (by omega)
       omega)
    | (have q1 := (hE_0_2_1 (r_0 + 2) (by omega)).2 (by omega)
       have q2 := (hE_0_2_2 (r_0 + 2) (by omega)).2 (by omega)
       have q3 := (hE_0_2_3 (r_0 + 2) (by omega)).1 (by omega)
       have q4 : x13 = r_0 + 2 := by omega
       simp only [q4] at *
       omega)
set_option maxHeartbeats 4000000 in
theorem vc_Mo_groupItem_at_k2_25_6 (all_0 : Int → Int) (r_0 : Int) (now_0 : Int → Int) (latest_0 : Int → Int) (f6 : RWS (r_0) (all_0) (now_0) (latest_0)) : RWS (r_0) (all_0) (now_0) (latest_0) := by
  first
    | assumption
set_option maxHeartbeats 4000000 in
theorem vc_Mo_groupItem_at_k2_25_7 (x2 : Int) (x7 : Int) (from_0 : Int) (pos_0 : Int) (kind_0 : Int) (fault_0 : Int) (all_0 : Int → Int) (r_0 : Int) (tape_0 : Int → Int) (limit_0 : Int) (place_0 : Int) (value_0 : Int) (faultPlace_0 : Int) (k2 : 2 ≤ x2 ∧ x2 ≤ 2) (k7 : 0 ≤ x7 ∧ x7 ≤ 7) (f8 : zOP0 (limit_0) (pos_0) (kind_0) (place_0) (value_0) (from_0) (fault_0) (faultPlace_0) (r_0) (tape_0) (all_0) (x7) (x2)) (kz_0_8 : 0 ≤ fault_0 ∧ fault_0 ≤ 5) (kz_0_9 : 0 ≤ faultPlace_0 ∧ faultPlace_0 ≤ 2000) (kz_0_10 : 0 ≤ limit_0 ∧ limit_0 ≤ 2000) (kz_0_11 : 0 ≤ pos_0 ∧ pos_0 ≤ 2000) (kz_0_12 : 0 ≤ kind_0 ∧ kind_0 ≤ 4) (kz_0_13 : 0 ≤ place_0 ∧ place_0 ≤ 2000) (kz_0_14 : (-49) ≤ value_0 ∧ value_0 ≤ 1048575) (kz_0_15 : 0 ≤ from_0 ∧ from_0 ≤ 2000) : zOP0 (limit_0) (pos_0) (kind_0) (place_0) (value_0) (from_0) (fault_0) (faultPlace_0) (r_0) (tape_0) (all_0) (x7) (x2) := by
  first
    | assumption
    | exact op0_of ‹zOS0 _ _ _ _ _ _ _ _ _ _ _ _ _› (by omega)
set_option maxHeartbeats 4000000 in
theorem vc_Mo_groupItem_at_k2_25_8 (x1 : Int) (x7 : Int) (tape_0 : Int → Int) (limit_0 : Int) (k1 : 0 ≤ x1 ∧ x1 ≤ 7) (k7 : 0 ≤ x7 ∧ x7 ≤ 7) (f9 : HST (limit_0) (tape_0) (x7) (x1)) (kz_0_10 : 0 ≤ limit_0 ∧ limit_0 ≤ 2000) : HST (limit_0) (tape_0) (x7) (x1) := by
  assumption
set_option maxHeartbeats 4000000 in
theorem vc_Mo_groupItem_at_k2_25_12 (pos_0 : Int) (fault_0 : Int) (r_0 : Int) (gx : Int) (kz_0_8 : 0 ≤ fault_0 ∧ fault_0 ≤ 5) (kz_0_11 : 0 ≤ pos_0 ∧ pos_0 ≤ 2000) (ex2 : gx = 2005 + ((-1) * pos_0 + ((-1) * fault_0 + 0))) : 1 * gx + (1 * pos_0 + (1 * fault_0 + 0)) ≤ 2005 := by
  first
    | omega
    | (have q1 := (hE_0_2_1 (r_0 + 2) (by omega)).2 (by omega)
       have q2 := (hE_0_2_2 (r_0 + 2) (by omega)).2 (by omega)
       omega)
    | (have q1 := (hE_0_2_1 (r_0 + 1) (by omega)).2 (by omega)
       have q2 := (hE_0_2_2 (r_0 + 1) (by omega)).2 (by omega)
       omega)
    | (have q1 := (hE_0_2_1 (r_0 + 2) (by omega)).2 (by omega)
       omega)
    | (have q1 := (hE_0_2_1 (r_0 + 1) (by omega)).2 (by omega)
       omega)
    | (have q1 := (hE_0_2_1 (r_0 + 2) (by omega)).2 (by omega)
       have q2 := (hE_0_2_2 (r_0 + 2) (by omega)).2 (by omega)
       have q3 := (hE_0_2_3 (r_0 + 2) (by omega)).1 (by omega)
       omega)
    | (have q1 := (hE_0_2_1 (r_0 + 2) (by omega)).2 (by omega)
       have q2 := (hE_0_2_2 (r_0 + 2) (by omega)).2 (by omega)
       have q3 := (hE_0_2_3 (r_0 + 2) (by omega)).2 (by omega)
       omega)
    | (have q1 := (hE_0_2_1 (r_0 + 2) (by omega)).2 (by omega)
       have q2 := (hE_0_2_2 (r_0 + 2) (by omega)).2 (by omega)
       have q3 := (hE_0_2_3 (r_0 + 2) (by omega)).1 (by omega)
       have q4 : x13 = r_0 + 2 := by omega
       simp only [q4] at *
       omega)
set_option maxHeartbeats 4000000 in
theorem vc_Mo_groupItem_at_k2_25_13 (pos_0 : Int) (fault_0 : Int) (r_0 : Int) (gx : Int) (kz_0_8 : 0 ≤ fault_0 ∧ fault_0 ≤ 5) (kz_0_11 : 0 ≤ pos_0 ∧ pos_0 ≤ 2000) (ex2 : gx = 2005 + ((-1) * pos_0 + ((-1) * fault_0 + 0))) : (-1) * gx + ((-1) * pos_0 + ((-1) * fault_0 + 0)) ≤ (-2005) := by
  first
    | omega
    | (have q1 := (hE_0_2_1 (r_0 + 2) (by omega)).2 (by omega)
       have q2 := (hE_0_2_2 (r_0 + 2) (by omega)).2 (by omega)
       omega)
    | (have q1 := (hE_0_2_1 (r_0 + 1) (by omega)).2 (by omega)
       have q2 := (hE_0_2_2 (r_0 + 1) (by omega)).2 (by omega)
       omega)
    | (have q1 := (hE_0_2_1 (r_0 + 2) (by omega)).2 (by omega)
       omega)
    | (have q1 := (hE_0_2_1 (r_0 + 1) (by omega)).2 (by omega)
       omega)
    | (have q1 := (hE_0_2_1 (r_0 + 2) (by omega)).2 (by omega)
       have q2 := (hE_0_2_2 (r_0 + 2) (by omega)).2 (by omega)
       have q3 := (hE_0_2_3 (r_0 + 2) (by omega)).1 (by omega)
       omega)
    | (have q1 := (hE_0_2_1 (r_0 + 2) (by omega)).2 (by omega)
       have q2 := (hE_0_2_2 (r_0 + 2) (by omega)).2 (by omega)
       have q3 := (hE_0_2_3 (r_0 + 2) (by omega)).2 (by omega)
       omega)
    | (have q1 := (hE_0_2_1 (r_0 + 2) (by omega)).2 (by omega)
       have q2 := (hE_0_2_2 (r_0 + 2) (by omega)).2 (by omega)
       have q3 := (hE_0_2_3 (r_0 + 2) (by omega)).1 (by omega)
       have q4 : x13 = r_0 + 2 := by omega
       simp only [q4] at *
       omega)
def o_Mo_groupItem_at_k2_25 : or_T := (170, 10, [(0, (2, 0, 0, [165])), (1, (0, 0, 7, [])), (2, (0, 2, 2, [])), (3, (0, 0, 2000, [])), (4, (2, 0, 0, [165])), (5, (0, 0, 7, [])), (6, (0, 2, 2, [])), (7, (0, 0, 7, [])), (9, (0, 0, 2005, []))], [(20, [4, 4], [30, 0, 1, 1, 15, -1, 1, 11]), (20, [4], [50, 3, 0, 12, 11, 15, 2, 21, 4, 7, 1, 3, 2, 0, 12, 0, 1, 0, 3, 2, 0, 11, 4, 3, 2, 0, 15, 0, 8, 3, 7, 1, 3, 2, 0, 12, 0, 0, 0, 7, 4, 3, 2, 0, 15, 0, 1, 2, 0, 11]), (20, [3, 4], [30, 0, 1, 0, 0, -1, 1, 11]), (20, [4, 3], [50, 2, 0, 8, 11, 3, 7, 0, 2, 0, 1, 2, 0, 8, 0, 6, 4, 2, 1, 1, 0, 1, 2, 0, 11]), (20, [7, 4], [50, 1, 1, 1005, 1002, 0, 6, 4, 2, 1, 0, 0, 1, 3, 1, 2, 4, 3, 2, 1, 5, 0, 2]), (23, [5, 7], [-1, 1, -1]), (20, [4], [60, 1, 3, 199, 5, 2, 3, 4]), (20, [9, 4, 4], [30, -2006, -1, 0, 0, -1, 1, 11, -1, 1, 8]), (20, [4, 7, 6], [60, 9, 2, 1023, 10, 11, 12, 13, 14, 15, 8, 9, 5, 1, 2]), (20, [4, 7, 5], [60, 1, 1, 1028, 10, 1]), (24, [0, 4], []), (24, [1, 5], []), (24, [2, 6], [])], [], [(0, 0, 2005, [])], [(20, [4, 4], [30, 0, 1, 1, 15, -1, 1, 11]), (20, [4], [50, 3, 0, 12, 11, 15, 2, 21, 4, 7, 1, 3, 2, 0, 12, 0, 1, 0, 3, 2, 0, 11, 4, 3, 2, 0, 15, 0, 8, 3, 7, 1, 3, 2, 0, 12, 0, 0, 0, 7, 4, 3, 2, 0, 15, 0, 1, 2, 0, 11]), (20, [3, 4], [30, 0, 1, 0, 0, -1, 1, 11]), (20, [4, 3], [50, 2, 0, 8, 11, 3, 7, 0, 2, 0, 1, 2, 0, 8, 0, 6, 4, 2, 1, 1, 0, 1, 2, 0, 11]), (20, [7, 4], [50, 1, 1, 1005, 1002, 0, 6, 4, 2, 1, 0, 0, 1, 3, 1, 2, 4, 3, 2, 1, 5, 0, 2]), (23, [5, 7], [-1, 1, -1]), (20, [4], [60, 1, 3, 199, 5, 2, 3, 4]), (20, [4, 7, 6], [60, 9, 2, 1023, 10, 11, 12, 13, 14, 15, 8, 9, 5, 1, 2]), (20, [4, 7, 5], [60, 1, 1, 1028, 10, 1]), (24, [0, 4], []), (24, [1, 5], []), (24, [2, 6], []), (20, [10, 4, 4], [30, 2005, 1, 0, 0, 1, 1, 11, 1, 1, 8]), (20, [10, 4, 4], [30, -2005, -1, 0, 0, -1, 1, 11, -1, 1, 8])], [(10, 9, -1000000000000, -1)], [(1, 5, -4294967296, 0), (5, 1, -4294967296, 0)])
theorem oo_Mo_groupItem_at_k2_25 {kA : Nat → ClassId} : or_ok PRD kA GG o_Mo_groupItem_at_k2_25 := by
  refine or_mk fun A ta ws vs hD hth hl => ?_
  intro t0 r0 t1 k1 t2 k2 t3 k3 t4 r4 t5 k5 t6 k6 t7 k7 t9 k9 d0 d1 f0 f1 f2 f3 f4 f5 f6 f7 f8 f9 f10 f11 f12
  replace f0 := shm_1437 f0
  replace f1 := shm_1438 f1
  replace f2 := shm_1431 f2
  replace f3 := shm_1726 f3
  replace f4 := shm_1009 f4
  replace f5 := shm_193 f5
  replace f6 := shm_980 f6
  replace f7 := shm_2182 f7
  replace f8 := shm_1730 f8
  replace f9 := shm_2176 f9
  replace f10 := shm_5 f10
  replace f11 := shm_5 f11
  replace f12 := shm_5 f12
  have q4 : n_v vs 4 = n_v vs 0 := f10.symm
  have q5 : n_v vs 5 = n_v vs 1 := f11.symm
  have q6 : n_v vs 6 = n_v vs 2 := f12.symm
  simp only [q4, q5, q6] at f0 f1 f2 f3 f4 f5 f6 f7 f8 f9
  have cr_0_1 := fdq_39 hD hth r0
  have cr_0_2 := fdq_10 hD hth r0
  have cr_0_3 := fdq_142 hD hth r0
  have cr_0_4 := fdq_143 hD hth r0
  have hK_0_1 := elq_7 hD hth cr_0_1
  have hK_0_3 := elq_80 hD hth cr_0_3
  have hK_0_4 := elq_81 hD hth cr_0_4
  have kz_0_8 := fdq_34 hD hth r0
  have kz_0_9 := fdq_44 hD hth r0
  have kz_0_10 := fdq_43 hD hth r0
  have kz_0_11 := fdq_237 hD hth r0
  have kz_0_12 := fdq_187 hD hth r0
  have kz_0_13 := fdq_238 hD hth r0
  have kz_0_14 := fdq_188 hD hth r0
  have kz_0_15 := fdq_239 hD hth r0
  have kb_0_8 := fdq_34 hD hth r0
  have kb_0_11 := fdq_237 hD hth r0
  obtain ⟨x, ex, hx⟩ := iv_ex (ta := ta) (lo := 0) (hi := 2005) (z := 2005 + ((-1) * w_fi ws (n_v vs 0) 11 + ((-1) * w_fi ws (n_v vs 0) 8 + 0))) (by omega) (by omega) (by omega) (by omega)
  have ex2 : v_iv (Value.int x) = 2005 + ((-1) * w_fi ws (n_v vs 0) 11 + ((-1) * w_fi ws (n_v vs 0) 8 + 0)) := ex
  have ex3 : 0 ≤ v_iv (Value.int x) ∧ v_iv (Value.int x) ≤ 2005 := tv_rng hx
  have e_0 : n_v (vs ++ [Value.int x]) 0 = n_v vs 0 := n_v_old (by rw [hl]; decide)
  have e_1 : n_v (vs ++ [Value.int x]) 1 = n_v vs 1 := n_v_old (by rw [hl]; decide)
  have e_2 : n_v (vs ++ [Value.int x]) 2 = n_v vs 2 := n_v_old (by rw [hl]; decide)
  have e_3 : n_v (vs ++ [Value.int x]) 3 = n_v vs 3 := n_v_old (by rw [hl]; decide)
  have e_4 : n_v (vs ++ [Value.int x]) 4 = n_v vs 4 := n_v_old (by rw [hl]; decide)
  have e_5 : n_v (vs ++ [Value.int x]) 5 = n_v vs 5 := n_v_old (by rw [hl]; decide)
  have e_6 : n_v (vs ++ [Value.int x]) 6 = n_v vs 6 := n_v_old (by rw [hl]; decide)
  have e_7 : n_v (vs ++ [Value.int x]) 7 = n_v vs 7 := n_v_old (by rw [hl]; decide)
  have e_10 : n_v (vs ++ [Value.int x]) 10 = Value.int x := n_v_new hl
  have nf0 : fc_1 PRD (20, [4, 4], [30, 0, 1, 1, 15, -1, 1, 11]) ws (vs ++ [Value.int x]) := by
    refine ⟨nf_inA hl rfl, sgq_1437 ?_⟩
    · show 1 * w_fi ws (n_v (vs ++ [Value.int x]) 4) 15 + ((-1) * w_fi ws (n_v (vs ++ [Value.int x]) 4) 11 + 0) ≤ 0
      simp only [e_4, q4]
      exact vc_Mo_groupItem_at_k2_25_0 (w_fi ws (n_v vs 0) 15) (w_fi ws (n_v vs 0) 11) (w_fi ws (n_v vs 0) 5) f0 kz_0_11 kz_0_15
  have nf1 : fc_1 PRD (20, [4], [50, 3, 0, 12, 11, 15, 2, 21, 4, 7, 1, 3, 2, 0, 12, 0, 1, 0, 3, 2, 0, 11, 4, 3, 2, 0, 15, 0, 8, 3, 7, 1, 3, 2, 0, 12, 0, 0, 0, 7, 4, 3, 2, 0, 15, 0, 1, 2, 0, 11]) ws (vs ++ [Value.int x]) := by
    refine ⟨nf_inA hl rfl, sgq_1438 ?_⟩
    · show ((w_fi ws (n_v (vs ++ [Value.int x]) 4) 12 = 1) → (w_fi ws (n_v (vs ++ [Value.int x]) 4) 11 ≤ (w_fi ws (n_v (vs ++ [Value.int x]) 4) 15 + 8))) ∧ ((w_fi ws (n_v (vs ++ [Value.int x]) 4) 12 = 0) ∨ ((w_fi ws (n_v (vs ++ [Value.int x]) 4) 15 + 1) ≤ w_fi ws (n_v (vs ++ [Value.int x]) 4) 11))
      simp only [e_4, q4]
      exact vc_Mo_groupItem_at_k2_25_1 (w_fi ws (n_v vs 0) 15) (w_fi ws (n_v vs 0) 11) (w_fi ws (n_v vs 0) 12) (w_fi ws (n_v vs 0) 5) f1 kz_0_11 kz_0_12 kz_0_15
  have nf2 : fc_1 PRD (20, [3, 4], [30, 0, 1, 0, 0, -1, 1, 11]) ws (vs ++ [Value.int x]) := by
    refine ⟨nf_inA hl rfl, sgq_1431 ?_⟩
    · show 1 * v_iv (n_v (vs ++ [Value.int x]) 3) + ((-1) * w_fi ws (n_v (vs ++ [Value.int x]) 4) 11 + 0) ≤ 0
      simp only [e_3, e_4, q4]
      exact vc_Mo_groupItem_at_k2_25_2 (v_iv (n_v vs 3)) (w_fi ws (n_v vs 0) 11) (w_fi ws (n_v vs 0) 5) k3 f2 kz_0_11
  have nf3 : fc_1 PRD (20, [4, 3], [50, 2, 0, 8, 11, 3, 7, 0, 2, 0, 1, 2, 0, 8, 0, 6, 4, 2, 1, 1, 0, 1, 2, 0, 11]) ws (vs ++ [Value.int x]) := by
    refine ⟨nf_inA hl rfl, sgq_1726 ?_⟩
    · show (1 ≤ w_fi ws (n_v (vs ++ [Value.int x]) 4) 8) ∨ ((v_iv (n_v (vs ++ [Value.int x]) 3) + 1) ≤ w_fi ws (n_v (vs ++ [Value.int x]) 4) 11)
      simp only [e_3, e_4, q4]
      exact vc_Mo_groupItem_at_k2_25_3 (v_iv (n_v vs 3)) (w_fi ws (n_v vs 0) 11) (w_fi ws (n_v vs 0) 8) (w_fi ws (n_v vs 0) 5) k3 f3 kz_0_8 kz_0_11
  have nf4 : fc_1 PRD (20, [7, 4], [50, 1, 1, 1005, 1002, 0, 6, 4, 2, 1, 0, 0, 1, 3, 1, 2, 4, 3, 2, 1, 5, 0, 2]) ws (vs ++ [Value.int x]) := by
    refine ⟨nf_inA hl rfl, sgq_1009 ?_⟩
    · show (v_iv (n_v (vs ++ [Value.int x]) 7) + 1) ≤ w_ei ws (w_ar ws (n_v (vs ++ [Value.int x]) 4) 2) ((w_fi ws (n_v (vs ++ [Value.int x]) 4) 5 + 2))
      simp only [e_4, e_7, q4]
      exact vc_Mo_groupItem_at_k2_25_4 (v_iv (n_v vs 7)) (w_ei ws (w_ar ws (n_v vs 0) 2)) (w_fi ws (n_v vs 0) 5) k7 f4
  have nf5 : fc_1 PRD (23, [5, 7], [-1, 1, -1]) ws (vs ++ [Value.int x]) := by
    refine ⟨nf_inA hl rfl, sgq_193 ?_⟩
    · show 1 * v_iv (n_v (vs ++ [Value.int x]) 5) + ((-1) * v_iv (n_v (vs ++ [Value.int x]) 7) + 0) ≤ (-1)
      simp only [e_5, e_7, q5]
      exact vc_Mo_groupItem_at_k2_25_5 (v_iv (n_v vs 1)) (v_iv (n_v vs 7)) (w_fi ws (n_v vs 0) 5) k1 k7 f5
  have nf6 : fc_1 PRD (20, [4], [60, 1, 3, 199, 5, 2, 3, 4]) ws (vs ++ [Value.int x]) := by
    refine ⟨nf_inA hl rfl, sgq_980 ?_⟩
    · show RWS (w_fi ws (n_v (vs ++ [Value.int x]) 4) 5) (w_ei ws (w_ar ws (n_v (vs ++ [Value.int x]) 4) 2)) (w_ei ws (w_ar ws (n_v (vs ++ [Value.int x]) 4) 3)) (w_ei ws (w_ar ws (n_v (vs ++ [Value.int x]) 4) 4))
      simp only [e_4, q4]
      exact vc_Mo_groupItem_at_k2_25_6 (w_ei ws (w_ar ws (n_v vs 0) 2)) (w_fi ws (n_v vs 0) 5) (w_ei ws (w_ar ws (n_v vs 0) 3)) (w_ei ws (w_ar ws (n_v vs 0) 4)) f6
  have nf7 : fc_1 PRD (20, [4, 7, 6], [60, 9, 2, 1023, 10, 11, 12, 13, 14, 15, 8, 9, 5, 1, 2]) ws (vs ++ [Value.int x]) := by
    refine ⟨nf_inA hl rfl, sgq_1730 ?_⟩
    · show zOP0 (w_fi ws (n_v (vs ++ [Value.int x]) 4) 10) (w_fi ws (n_v (vs ++ [Value.int x]) 4) 11) (w_fi ws (n_v (vs ++ [Value.int x]) 4) 12) (w_fi ws (n_v (vs ++ [Value.int x]) 4) 13) (w_fi ws (n_v (vs ++ [Value.int x]) 4) 14) (w_fi ws (n_v (vs ++ [Value.int x]) 4) 15) (w_fi ws (n_v (vs ++ [Value.int x]) 4) 8) (w_fi ws (n_v (vs ++ [Value.int x]) 4) 9) (w_fi ws (n_v (vs ++ [Value.int x]) 4) 5) (w_ei ws (w_ar ws (n_v (vs ++ [Value.int x]) 4) 1)) (w_ei ws (w_ar ws (n_v (vs ++ [Value.int x]) 4) 2)) (v_iv (n_v (vs ++ [Value.int x]) 7)) (v_iv (n_v (vs ++ [Value.int x]) 6))
      simp only [e_4, e_6, e_7, q4, q6]
      exact vc_Mo_groupItem_at_k2_25_7 (v_iv (n_v vs 2)) (v_iv (n_v vs 7)) (w_fi ws (n_v vs 0) 15) (w_fi ws (n_v vs 0) 11) (w_fi ws (n_v vs 0) 12) (w_fi ws (n_v vs 0) 8) (w_ei ws (w_ar ws (n_v vs 0) 2)) (w_fi ws (n_v vs 0) 5) (w_ei ws (w_ar ws (n_v vs 0) 1)) (w_fi ws (n_v vs 0) 10) (w_fi ws (n_v vs 0) 13) (w_fi ws (n_v vs 0) 14) (w_fi ws (n_v vs 0) 9) k2 k7 f8 kz_0_8 kz_0_9 kz_0_10 kz_0_11 kz_0_12 kz_0_13 kz_0_14 kz_0_15
  have nf8 : fc_1 PRD (20, [4, 7, 5], [60, 1, 1, 1028, 10, 1]) ws (vs ++ [Value.int x]) := by
    refine ⟨nf_inA hl rfl, sgq_2176 ?_⟩
    · show HST (w_fi ws (n_v (vs ++ [Value.int x]) 4) 10) (w_ei ws (w_ar ws (n_v (vs ++ [Value.int x]) 4) 1)) (v_iv (n_v (vs ++ [Value.int x]) 7)) (v_iv (n_v (vs ++ [Value.int x]) 5))
      simp only [e_4, e_5, e_7, q4, q5]
      exact vc_Mo_groupItem_at_k2_25_8 (v_iv (n_v vs 1)) (v_iv (n_v vs 7)) (w_ei ws (w_ar ws (n_v vs 0) 1)) (w_fi ws (n_v vs 0) 10) k1 k7 f9 kz_0_10
  have nf9 : fc_1 PRD (24, [0, 4], []) ws (vs ++ [Value.int x]) := by
    refine ⟨nf_inA hl rfl, sgq_5 ?_⟩
    · show n_v (vs ++ [Value.int x]) 0 = n_v (vs ++ [Value.int x]) 4
      first | rfl | simp only [e_0, e_4, q4, q5, q6]
  have nf10 : fc_1 PRD (24, [1, 5], []) ws (vs ++ [Value.int x]) := by
    refine ⟨nf_inA hl rfl, sgq_5 ?_⟩
    · show n_v (vs ++ [Value.int x]) 1 = n_v (vs ++ [Value.int x]) 5
      first | rfl | simp only [e_1, e_5, q4, q5, q6]
  have nf11 : fc_1 PRD (24, [2, 6], []) ws (vs ++ [Value.int x]) := by
    refine ⟨nf_inA hl rfl, sgq_5 ?_⟩
    · show n_v (vs ++ [Value.int x]) 2 = n_v (vs ++ [Value.int x]) 6
      first | rfl | simp only [e_2, e_6, q4, q5, q6]
  have nf12 : fc_1 PRD (20, [10, 4, 4], [30, 2005, 1, 0, 0, 1, 1, 11, 1, 1, 8]) ws (vs ++ [Value.int x]) := by
    refine ⟨nf_inA hl rfl, sgq_2178 ?_⟩
    · show 1 * v_iv (n_v (vs ++ [Value.int x]) 10) + (1 * w_fi ws (n_v (vs ++ [Value.int x]) 4) 11 + (1 * w_fi ws (n_v (vs ++ [Value.int x]) 4) 8 + 0)) ≤ 2005
      simp only [e_4, e_10, q4]
      exact vc_Mo_groupItem_at_k2_25_12 (w_fi ws (n_v vs 0) 11) (w_fi ws (n_v vs 0) 8) (w_fi ws (n_v vs 0) 5) (v_iv (Value.int x)) kz_0_8 kz_0_11 ex2
  have nf13 : fc_1 PRD (20, [10, 4, 4], [30, -2005, -1, 0, 0, -1, 1, 11, -1, 1, 8]) ws (vs ++ [Value.int x]) := by
    refine ⟨nf_inA hl rfl, sgq_2179 ?_⟩
    · show (-1) * v_iv (n_v (vs ++ [Value.int x]) 10) + ((-1) * w_fi ws (n_v (vs ++ [Value.int x]) 4) 11 + ((-1) * w_fi ws (n_v (vs ++ [Value.int x]) 4) 8 + 0)) ≤ (-2005)
      simp only [e_4, e_10, q4]
      exact vc_Mo_groupItem_at_k2_25_13 (w_fi ws (n_v vs 0) 11) (w_fi ws (n_v vs 0) 8) (w_fi ws (n_v vs 0) 5) (v_iv (Value.int x)) kz_0_8 kz_0_11 ex2
  obtain ⟨x0, e0, _, _⟩ := tv_int t9 rfl
  have e1 : v_iv (n_v vs 9) = x0.toInt := by rw [e0]; rfl
  have ho : sy_ofs (vs ++ [Value.int x]) (10, 9, -1000000000000, -1) := by
    refine ⟨x, x0, by rw [List.getElem?_append_right (by rw [hl]; decide), hl]; rfl, ?_, ?_, ?_⟩
    · rw [List.getElem?_append_left (by rw [hl]; decide)]; exact n_v_some (by rw [hl]; decide) e0
    · show x0.toInt + (-1000000000000) ≤ x.toInt; omega
    · show x.toInt ≤ x0.toInt + (-1); omega
  exact ⟨(fun _ h => (by cases h)), [Value.int x], ag_one hx, List.forall_mem_cons.mpr ⟨⟨show (20 : Nat) < 100 from by decide, nf0⟩, List.forall_mem_cons.mpr ⟨⟨show (20 : Nat) < 100 from by decide, nf1⟩, List.forall_mem_cons.mpr ⟨⟨show (20 : Nat) < 100 from by decide, nf2⟩, List.forall_mem_cons.mpr ⟨⟨show (20 : Nat) < 100 from by decide, nf3⟩, List.forall_mem_cons.mpr ⟨⟨show (20 : Nat) < 100 from by decide, nf4⟩, List.forall_mem_cons.mpr ⟨⟨show (23 : Nat) < 100 from by decide, nf5⟩, List.forall_mem_cons.mpr ⟨⟨show (20 : Nat) < 100 from by decide, nf6⟩, List.forall_mem_cons.mpr ⟨⟨show (20 : Nat) < 100 from by decide, nf7⟩, List.forall_mem_cons.mpr ⟨⟨show (20 : Nat) < 100 from by decide, nf8⟩, List.forall_mem_cons.mpr ⟨⟨show (24 : Nat) < 100 from by decide, nf9⟩, List.forall_mem_cons.mpr ⟨⟨show (24 : Nat) < 100 from by decide, nf10⟩, List.forall_mem_cons.mpr ⟨⟨show (24 : Nat) < 100 from by decide, nf11⟩, List.forall_mem_cons.mpr ⟨⟨show (20 : Nat) < 100 from by decide, nf12⟩, List.forall_mem_cons.mpr ⟨⟨show (20 : Nat) < 100 from by decide, nf13⟩, (fun _ h => (by cases h))⟩⟩⟩⟩⟩⟩⟩⟩⟩⟩⟩⟩⟩⟩, List.forall_mem_cons.mpr ⟨ho, (fun _ h => (by cases h))⟩⟩
def n_Mo_groupItem_at_k2_an : List an_T := [(108, [(0, (2, 0, 0, [165])), (1, (0, 0, 7, [])), (2, (0, 2, 2, [])), (3, (0, 0, 7, [])), (4, (0, 0, 8, []))], [], (0, 0), [(0, 0, 99892), (1, 8, 8), (0, 0, 100000)], [(1, 5, (Int.negSucc 999999999999), 0), (5, 1, (Int.negSucc 999999999999), 0)], [], [(2, 0, 0, [165]), (0, 0, 7, []), (0, 2, 2, []), (0, 0, 2000, [])], 0, [], [(20, [4, 4], [30, 0, 1, 1, 15, (Int.negSucc 0), 1, 11]), (20, [4], [50, 3, 0, 12, 11, 15, 2, 21, 4, 7, 1, 3, 2, 0, 12, 0, 1, 0, 3, 2, 0, 11, 4, 3, 2, 0, 15, 0, 8, 3, 7, 1, 3, 2, 0, 12, 0, 0, 0, 7, 4, 3, 2, 0, 15, 0, 1, 2, 0, 11]), (20, [3, 4], [30, (Int.negSucc 0), 1, 0, 0, (Int.negSucc 0), 1, 11]), (20, [4], [50, 1, 0, 12, 1, 3, 2, 0, 12, 0, 1]), (20, [7, 4], [50, 1, 1, 1005, 1002, 0, 6, 4, 2, 1, 0, 0, 1, 3, 1, 2, 4, 3, 2, 1, 5, 0, 2]), (23, [5, 7], [(Int.negSucc 0), 1, (Int.negSucc 0)]), (20, [4], [60, 1, 3, 199, 5, 2, 3, 4]), (20, [4, 7, 8, 5, 6], [60, 8, 2, 1006, 10, 11, 12, 13, 14, 15, 8, 5, 1, 2]), (24, [0, 4], []), (24, [1, 5], []), (24, [2, 6], [])]), (170, [(0, (2, 0, 0, [165])), (1, (0, 0, 7, [])), (2, (0, 2, 2, [])), (3, (0, 0, 7, [])), (4, (0, 0, 8, []))], [], (0, 0), [(0, 0, 99830), (2, 9, 0), (0, 0, 100000)], [(1, 5, (Int.negSucc 999999999999), 0), (5, 1, (Int.negSucc 999999999999), 0)], [], [(2, 0, 0, [165]), (0, 0, 7, []), (0, 2, 2, []), (0, 0, 2000, [])], 0, [(0, 0, 2005, [])], [(20, [4, 4], [30, 0, 1, 1, 15, (Int.negSucc 0), 1, 11]), (20, [4], [50, 3, 0, 12, 11, 15, 2, 21, 4, 7, 1, 3, 2, 0, 12, 0, 1, 0, 3, 2, 0, 11, 4, 3, 2, 0, 15, 0, 8, 3, 7, 1, 3, 2, 0, 12, 0, 0, 0, 7, 4, 3, 2, 0, 15, 0, 1, 2, 0, 11]), (20, [3, 4], [30, 0, 1, 0, 0, (Int.negSucc 0), 1, 11]), (20, [4, 3], [50, 2, 0, 8, 11, 3, 7, 0, 2, 0, 1, 2, 0, 8, 0, 6, 4, 2, 1, 1, 0, 1, 2, 0, 11]), (20, [7, 4], [50, 1, 1, 1005, 1002, 0, 6, 4, 2, 1, 0, 0, 1, 3, 1, 2, 4, 3, 2, 1, 5, 0, 2]), (23, [5, 7], [(Int.negSucc 0), 1, (Int.negSucc 0)]), (20, [4], [60, 1, 3, 199, 5, 2, 3, 4]), (20, [4, 7, 6], [60, 9, 2, 1023, 10, 11, 12, 13, 14, 15, 8, 9, 5, 1, 2]), (20, [4, 7, 5], [60, 1, 1, 1028, 10, 1]), (24, [0, 4], []), (24, [1, 5], []), (24, [2, 6], []), (20, [9, 4, 4], [30, 2005, 1, 0, 0, 1, 1, 11, 1, 1, 8]), (20, [9, 4, 4], [30, (Int.negSucc 2004), (Int.negSucc 0), 0, 0, (Int.negSucc 0), 1, 11, (Int.negSucc 0), 1, 8])]), (194, [(0, (2, 0, 0, [165])), (1, (0, 0, 7, [])), (2, (0, 2, 2, [])), (3, (0, 0, 7, [])), (4, (0, 0, 8, []))], [], (0, 0), [(0, 0, 99830), (2, 9, 0), (0, 0, 99806)], [(1, 5, (Int.negSucc 999999999999), 0), (5, 1, (Int.negSucc 999999999999), 0)], [], [(2, 0, 0, [165]), (0, 0, 7, []), (0, 2, 2, []), (0, 0, 2000, [])], 0, [(0, 0, 2005, [])], [(20, [4, 4], [30, 0, 1, 1, 15, (Int.negSucc 0), 1, 11]), (20, [4], [50, 3, 0, 12, 11, 15, 2, 21, 4, 7, 1, 3, 2, 0, 12, 0, 1, 0, 3, 2, 0, 11, 4, 3, 2, 0, 15, 0, 8, 3, 7, 1, 3, 2, 0, 12, 0, 0, 0, 7, 4, 3, 2, 0, 15, 0, 1, 2, 0, 11]), (20, [3, 4], [30, 0, 1, 0, 0, (Int.negSucc 0), 1, 11]), (20, [4, 3], [50, 2, 0, 8, 11, 3, 7, 0, 2, 0, 1, 2, 0, 8, 0, 6, 4, 2, 1, 1, 0, 1, 2, 0, 11]), (20, [7, 4], [50, 1, 1, 1005, 1002, 0, 6, 4, 2, 1, 0, 0, 1, 3, 1, 2, 4, 3, 2, 1, 5, 0, 2]), (23, [5, 7], [(Int.negSucc 0), 1, (Int.negSucc 0)]), (20, [4], [60, 1, 3, 199, 5, 2, 3, 4]), (20, [9, 4, 4], [30, (Int.negSucc 2005), (Int.negSucc 0), 0, 0, (Int.negSucc 0), 1, 11, (Int.negSucc 0), 1, 8]), (20, [4, 7, 6], [60, 9, 2, 1023, 10, 11, 12, 13, 14, 15, 8, 9, 5, 1, 2]), (20, [4, 7, 5], [60, 1, 1, 1028, 10, 1]), (24, [0, 4], []), (24, [1, 5], []), (24, [2, 6], [])])]
def t_Mo_groupItem_at_k2_ct : ct_L := [(1, 425, e_Mo_byteAt), (1, 457, e_Mo_sign), (1, 460, e_Mo_next), (1, 463, e_Mo_wrong), (1, 481, e_Mo_isName), (1, 509, e_Mo_groups), (505, 491, e_Mo_need_at_go), (577, 512, e_Mo_item_at_k3), (604, 491, e_Mo_need_at_gc)]
set_option maxRecDepth 100000 in
theorem c_Mo_groupItem_at_k2 {l : Launch} {D : va_G} {kA : Nat → ClassId} (h_Mo_byteAt : ct_ok PRD l D kA GG y_Mo_byteAt z_Mo_byteAt e_Mo_byteAt) (h_Mo_groups : ct_ok PRD l D kA GG y_Mo_groups z_Mo_groups e_Mo_groups) (h_Mo_isName : ct_ok PRD l D kA GG y_Mo_isName z_Mo_isName e_Mo_isName) (h_Mo_item_at_k3 : ct_ok PRD l D kA GG y_Mo_item_at_k3 z_Mo_item_at_k3 e_Mo_item_at_k3) (h_Mo_need_at_gc : ct_ok PRD l D kA GG y_Mo_need_at_gc z_Mo_need_at_gc e_Mo_need_at_gc) (h_Mo_need_at_go : ct_ok PRD l D kA GG y_Mo_need_at_go z_Mo_need_at_go e_Mo_need_at_go) (h_Mo_next : ct_ok PRD l D kA GG y_Mo_next z_Mo_next e_Mo_next) (h_Mo_sign : ct_ok PRD l D kA GG y_Mo_sign z_Mo_sign e_Mo_sign) (h_Mo_wrong : ct_ok PRD l D kA GG y_Mo_wrong z_Mo_wrong e_Mo_wrong) : ct_ok PRD l D kA GG y_Mo_groupItem_at_k2 z_Mo_groupItem_at_k2 e_Mo_groupItem_at_k2 := chk_all_ok (FT := [(16, 13, 2), (391, 13, 5), (413, 13, 8), (422, 13, 11), (428, 13, 13), (431, 13, 15)]) (PT := []) (CT := t_Mo_groupItem_at_k2_ct) (KT := []) (NT := []) (AN := n_Mo_groupItem_at_k2_an) (OT := [o_Mo_groupItem_at_k2_0, o_Mo_groupItem_at_k2_1, o_Mo_groupItem_at_k2_2, o_Mo_groupItem_at_k2_3, o_Mo_groupItem_at_k2_4, o_Mo_groupItem_at_k2_5, o_Mo_groupItem_at_k2_6, o_Mo_groupItem_at_k2_7, o_Mo_groupItem_at_k2_8, o_Mo_groupItem_at_k2_9, o_Mo_groupItem_at_k2_10, o_Mo_groupItem_at_k2_11, o_Mo_groupItem_at_k2_12, o_Mo_groupItem_at_k2_13, o_Mo_groupItem_at_k2_14, o_Mo_groupItem_at_k2_15, o_Mo_groupItem_at_k2_16, o_Mo_groupItem_at_k2_17, o_Mo_groupItem_at_k2_18, o_Mo_groupItem_at_k2_19, o_Mo_groupItem_at_k2_20, o_Mo_groupItem_at_k2_21, o_Mo_groupItem_at_k2_22, o_Mo_groupItem_at_k2_23, o_Mo_groupItem_at_k2_24, o_Mo_groupItem_at_k2_25]) 3 492 (List.forall_mem_cons.mpr ⟨oo_Mo_groupItem_at_k2_0, List.forall_mem_cons.mpr ⟨oo_Mo_groupItem_at_k2_1, List.forall_mem_cons.mpr ⟨oo_Mo_groupItem_at_k2_2, List.forall_mem_cons.mpr ⟨oo_Mo_groupItem_at_k2_3, List.forall_mem_cons.mpr ⟨oo_Mo_groupItem_at_k2_4, List.forall_mem_cons.mpr ⟨oo_Mo_groupItem_at_k2_5, List.forall_mem_cons.mpr ⟨oo_Mo_groupItem_at_k2_6, List.forall_mem_cons.mpr ⟨oo_Mo_groupItem_at_k2_7, List.forall_mem_cons.mpr ⟨oo_Mo_groupItem_at_k2_8, List.forall_mem_cons.mpr ⟨oo_Mo_groupItem_at_k2_9, List.forall_mem_cons.mpr ⟨oo_Mo_groupItem_at_k2_10, List.forall_mem_cons.mpr ⟨oo_Mo_groupItem_at_k2_11, List.forall_mem_cons.mpr ⟨oo_Mo_groupItem_at_k2_12, List.forall_mem_cons.mpr ⟨oo_Mo_groupItem_at_k2_13, List.forall_mem_cons.mpr ⟨oo_Mo_groupItem_at_k2_14, List.forall_mem_cons.mpr ⟨oo_Mo_groupItem_at_k2_15, List.forall_mem_cons.mpr ⟨oo_Mo_groupItem_at_k2_16, List.forall_mem_cons.mpr ⟨oo_Mo_groupItem_at_k2_17, List.forall_mem_cons.mpr ⟨oo_Mo_groupItem_at_k2_18, List.forall_mem_cons.mpr ⟨oo_Mo_groupItem_at_k2_19, List.forall_mem_cons.mpr ⟨oo_Mo_groupItem_at_k2_20, List.forall_mem_cons.mpr ⟨oo_Mo_groupItem_at_k2_21, List.forall_mem_cons.mpr ⟨oo_Mo_groupItem_at_k2_22, List.forall_mem_cons.mpr ⟨oo_Mo_groupItem_at_k2_23, List.forall_mem_cons.mpr ⟨oo_Mo_groupItem_at_k2_24, List.forall_mem_cons.mpr ⟨oo_Mo_groupItem_at_k2_25, List.forall_mem_nil _⟩⟩⟩⟩⟩⟩⟩⟩⟩⟩⟩⟩⟩⟩⟩⟩⟩⟩⟩⟩⟩⟩⟩⟩⟩⟩) (by decide +kernel) ⟨List.forall_mem_cons.mpr ⟨gf_Mo_16, List.forall_mem_cons.mpr ⟨gf_Mo_391, List.forall_mem_cons.mpr ⟨gf_Mo_413, List.forall_mem_cons.mpr ⟨gf_Mo_422, List.forall_mem_cons.mpr ⟨gf_Mo_428, List.forall_mem_cons.mpr ⟨gf_Mo_431, List.forall_mem_nil _⟩⟩⟩⟩⟩⟩, List.forall_mem_nil _, List.forall_mem_cons.mpr ⟨cl_virtual (y := y_Mo_byteAt) (ci := 13) rfl rfl ⟨_, _, rfl⟩ (by decide +kernel) h_Mo_byteAt wm_2986 wm_9 wm_2983 wm_2985 wv_12_12 ⟨by decide, by decide, by decide +kernel⟩ (by decide), List.forall_mem_cons.mpr ⟨cl_virtual (y := y_Mo_sign) (ci := 13) rfl rfl ⟨_, _, rfl⟩ (by decide +kernel) h_Mo_sign wm_3058 wm_9 wm_3055 wm_3057 wv_13_11 ⟨by decide, by decide, by decide +kernel⟩ (by decide), List.forall_mem_cons.mpr ⟨cl_virtual (y := y_Mo_next) (ci := 13) rfl rfl ⟨_, _, rfl⟩ (by decide +kernel) h_Mo_next wm_2982 wm_9 wm_2979 wm_2981 wv_12_11 ⟨by decide, by decide, by decide +kernel⟩ (by decide), List.forall_mem_cons.mpr ⟨cl_virtual (y := y_Mo_wrong) (ci := 13) rfl rfl ⟨_, _, rfl⟩ (by decide +kernel) h_Mo_wrong wm_3017 wm_9 wm_3014 wm_3016 wv_13_1 ⟨by decide, by decide, by decide +kernel⟩ (by decide), List.forall_mem_cons.mpr ⟨cl_virtual (y := y_Mo_isName) (ci := 13) rfl rfl ⟨_, _, rfl⟩ (by decide +kernel) h_Mo_isName wm_3012 wm_9 wm_3009 wm_3011 wv_13_0 ⟨by decide, by decide, by decide +kernel⟩ (by decide), List.forall_mem_cons.mpr ⟨cl_virtual (y := y_Mo_groups) (ci := 13) rfl rfl ⟨_, _, rfl⟩ (by decide +kernel) h_Mo_groups wm_3070 wm_9 wm_3067 wm_3069 wv_13_14 ⟨by decide, by decide, by decide +kernel⟩ (by decide), List.forall_mem_cons.mpr ⟨cl_virtual (y := y_Mo_need_at_go) (ci := 13) rfl rfl ⟨_, _, rfl⟩ (by decide +kernel) h_Mo_need_at_go wm_3062 wm_9 wm_3059 wm_3061 wv_13_12 ⟨by decide, by decide, by decide +kernel⟩ (by decide), List.forall_mem_cons.mpr ⟨cl_virtual (y := y_Mo_item_at_k3) (ci := 13) rfl rfl ⟨_, _, rfl⟩ (by decide +kernel) h_Mo_item_at_k3 wm_2997 wm_9 wm_2994 wm_2996 wv_12_13 ⟨by decide, by decide, by decide +kernel⟩ (by decide), List.forall_mem_cons.mpr ⟨cl_virtual (y := y_Mo_need_at_gc) (ci := 13) rfl rfl ⟨_, _, rfl⟩ (by decide +kernel) h_Mo_need_at_gc wm_3062 wm_9 wm_3059 wm_3061 wv_13_12 ⟨by decide, by decide, by decide +kernel⟩ (by decide), List.forall_mem_nil _⟩⟩⟩⟩⟩⟩⟩⟩⟩, List.forall_mem_nil _, List.forall_mem_nil _, GG_pl⟩ (by decide +kernel)

set_option maxHeartbeats 4000000 in
theorem vc_Mo_groupItem_at_k3_0_0 (x1 : Int) (x2 : Int) (x4 : Int) (x6 : Int) (x7 : Int) (place_0 : Int) (all_0 : Int → Int) (r_0 : Int) (from_0 : Int) (pos_0 : Int) (kind_0 : Int) (tape_0 : Int → Int) (limit_0 : Int) (value_0 : Int) (fault_0 : Int) (gx : Int) (k1 : 0 ≤ x1 ∧ x1 ≤ 7) (k2 : 3 ≤ x2 ∧ x2 ≤ 3) (k4 : 8 ≤ x4 ∧ x4 ≤ 8) (k6 : 3 ≤ x6 ∧ x6 ≤ 3) (k7 : 0 ≤ x7 ∧ x7 ≤ 2000) (g0 : x7 = place_0) (f2 : 1 * x4 + ((-1) * all_0 (r_0 + 2) + 0) ≤ 0) (f3 : (-1) * x4 + (1 * all_0 (r_0 + 2) + 0) ≤ 0) (f9 : zRSG (limit_0) (pos_0) (kind_0) (place_0) (value_0) (from_0) (fault_0) (r_0) (tape_0) (all_0) (x1) (x2)) (kz_0_8 : 0 ≤ fault_0 ∧ fault_0 ≤ 5) (kz_0_10 : 0 ≤ limit_0 ∧ limit_0 ≤ 2000) (kz_0_11 : 0 ≤ pos_0 ∧ pos_0 ≤ 2000) (kz_0_12 : 0 ≤ kind_0 ∧ kind_0 ≤ 4) (kz_0_13 : 0 ≤ place_0 ∧ place_0 ≤ 2000) (kz_0_14 : (-49) ≤ value_0 ∧ value_0 ≤ 1048575) (kz_0_15 : 0 ≤ from_0 ∧ from_0 ≤ 2000) (ex2 : gx = fault_0) : FSX (limit_0) (tape_0) (x6) (x7) := by
  first | subst g0 | skip
  first | subst ex2 | skip
  try simp only [Int.add_zero] at *
  first
    | exact fsx_cg (gr_full ‹zRSG _ _ _ _ _ _ _ _ _ _ _ _› (Or.inl (by omega))) (by omega) (by omega)
    | exact fsx_cg (gr_full ‹zRSG _ _ _ _ _ _ _ _ _ _ _ _› (Or.inr (by omega))) (by omega) (by omega)
set_option maxHeartbeats 4000000 in
theorem vc_Mo_groupItem_at_k3_0_1 (r_0 : Int) (fault_0 : Int) (gx : Int) (kz_0_8 : 0 ≤ fault_0 ∧ fault_0 ≤ 5) (ex2 : gx = fault_0) : 1 * fault_0 + ((-1) * gx + 0) ≤ 0 := by
  first
    | omega
    | (have q1 := (hE_0_2_1 (r_0 + 2) (by omega)).2 (by omega)
       have q2 := (hE_0_2_2 (r_0 + 2) (by omega)).2 (by omega)
       omega)
    | (have q1 := (hE_0_2_1 (r_0 + 1) (by omega)).2 (by omega)
       have q2 := (hE_0_2_2 (r_0 + 1) (by omega)).2 (by omega)
       omega)
    | (have q1 := (hE_0_2_1 (r_0 + 2) (by omega)).2 (by omega)
       omega)
    | (have q1 := (hE_0_2_1 (r_0 + 1) (by omega)).2 (by omega)
       omega)
    | (have q1 := (hE_0_2_1 (r_0 + 2) (by omega)).2 (by omega)
       have q2 := (hE_0_2_2 (r_0 + 2) (by omega)).2 (by omega)
       have q3 := (hE_0_2_3 (r_0 + 2) (by omega)).1 (by omega)
       omega)
    | (have q1 := (hE_0_2_1 (r_0 + 2) (by omega)).2 (by omega)
       have q2 := (hE_0_2_2 (r_0 + 2) (by omega)).2 (by omega)
       have q3 := (hE_0_2_3 (r_0 + 2) (by omega)).2 (by omega)
       omega)
    | (have q1 := (hE_0_2_1 (r_0 + 2) (by omega)).2 (by omega)
       have q2 := (hE_0_2_2 (r_0 + 2) (by omega)).2 (by omega)
       have q3 := (hE_0_2_3 (r_0 + 2) (by omega)).1 (by omega)
       have q4 : x13 = r_0 + 2 := by omega
       simp only [q4] at *
       omega)
set_option maxHeartbeats 4000000 in
theorem vc_Mo_groupItem_at_k3_0_2 (r_0 : Int) (fault_0 : Int) (gx : Int) (kz_0_8 : 0 ≤ fault_0 ∧ fault_0 ≤ 5) (ex2 : gx = fault_0) : (-1) * fault_0 + (1 * gx + 0) ≤ 0 := by
  first
    | omega
    | (have q1 := (hE_0_2_1 (r_0 + 2) (by omega)).2 (by omega)
       have q2 := (hE_0_2_2 (r_0 + 2) (by omega)).2 (by omega)
       omega)
    | (have q1 := (hE_0_2_1 (r_0 + 1) (by omega)).2 (by omega)
       have q2 := (hE_0_2_2 (r_0 + 1) (by omega)).2 (by omega)
       omega)
    | (have q1 := (hE_0_2_1 (r_0 + 2) (by omega)).2 (by omega)
       omega)
    | (have q1 := (hE_0_2_1 (r_0 + 1) (by omega)).2 (by omega)
       omega)
    | (have q1 := (hE_0_2_1 (r_0 + 2) (by omega)).2 (by omega)
       have q2 := (hE_0_2_2 (r_0 + 2) (by omega)).2 (by omega)
       have q3 := (hE_0_2_3 (r_0 + 2) (by omega)).1 (by omega)
       omega)
    | (have q1 := (hE_0_2_1 (r_0 + 2) (by omega)).2 (by omega)
       have q2 := (hE_0_2_2 (r_0 + 2) (by omega)).2 (by omega)
       have q3 := (hE_0_2_3 (r_0 + 2) (by omega)).2 (by omega)
       omega)
    | (have q1 := (hE_0_2_1 (r_0 + 2) (by omega)).2 (by omega)
       have q2 := (hE_0_2_2 (r_0 + 2) (by omega)).2 (by omega)
       have q3 := (hE_0_2_3 (r_0 + 2) (by omega)).1 (by omega)
       have q4 : x13 = r_0 + 2 := by omega
       simp only [q4] at *
       omega)
set_option maxHeartbeats 4000000 in
theorem vc_Mo_groupItem_at_k3_0_3 (x1 : Int) (x2 : Int) (place_0 : Int) (all_0 : Int → Int) (r_0 : Int) (from_0 : Int) (pos_0 : Int) (kind_0 : Int) (tape_0 : Int → Int) (limit_0 : Int) (value_0 : Int) (fault_0 : Int) (gx : Int) (k1 : 0 ≤ x1 ∧ x1 ≤ 7) (k2 : 3 ≤ x2 ∧ x2 ≤ 3) (f9 : zRSG (limit_0) (pos_0) (kind_0) (place_0) (value_0) (from_0) (fault_0) (r_0) (tape_0) (all_0) (x1) (x2)) (kz_0_8 : 0 ≤ fault_0 ∧ fault_0 ≤ 5) (kz_0_10 : 0 ≤ limit_0 ∧ limit_0 ≤ 2000) (kz_0_11 : 0 ≤ pos_0 ∧ pos_0 ≤ 2000) (kz_0_12 : 0 ≤ kind_0 ∧ kind_0 ≤ 4) (kz_0_13 : 0 ≤ place_0 ∧ place_0 ≤ 2000) (kz_0_14 : (-49) ≤ value_0 ∧ value_0 ≤ 1048575) (kz_0_15 : 0 ≤ from_0 ∧ from_0 ≤ 2000) (ex2 : gx = fault_0) : ZH0 (gx) := by
  first
    | exact ⟨by omega, by omega, trivial⟩
    | (have h := (rsq_0 (‹zRSG _ _ _ _ _ _ _ _ _ _ _ _›).1).1; exact ⟨by omega, by omega, trivial⟩)
    | (have h := (‹zTS5 _ _ _ _ _ _ _ _›).1; exact ⟨by omega, by omega, trivial⟩)
def o_Mo_groupItem_at_k3_0 : or_T := (20, 8, [(0, (2, 0, 0, [165])), (1, (0, 0, 7, [])), (2, (0, 3, 3, [])), (4, (0, 8, 8, [])), (6, (0, 3, 3, [])), (7, (0, 0, 2000, []))], [(9, [7, 0], [13]), (20, [4, 0], [30, 0, 1, 0, 0, -1, 3, 2005002]), (20, [4, 0], [30, 0, -1, 0, 0, 1, 3, 2005002]), (20, [0, 1, 2], [60, 8, 2, 992, 10, 11, 12, 13, 14, 15, 8, 5, 1, 2])], [], [(0, 0, 5, [])], [(20, [0, 6, 7], [60, 1, 1, 1026, 10, 1]), (20, [0, 8], [30, 0, 1, 1, 8, -1, 0, 0]), (20, [0, 8], [30, 0, -1, 1, 8, 1, 0, 0]), (20, [8], [61, 0, 1029])], [], [])
theorem oo_Mo_groupItem_at_k3_0 {kA : Nat → ClassId} : or_ok PRD kA GG o_Mo_groupItem_at_k3_0 := by
  refine or_mk fun A ta ws vs hD hth hl => ?_
  intro t0 r0 t1 k1 t2 k2 t4 k4 t6 k6 t7 k7 f0 f2 f3 f9
  replace f0 := shm_361 f0
  replace f2 := shm_123 f2
  replace f3 := shm_124 f3
  replace f9 := shm_2173 f9
  have g0 : v_iv (n_v vs 7) = w_fi ws (n_v vs 0) 13 := congrArg v_iv f0
  have kz_0_8 := fdq_34 hD hth r0
  have kz_0_10 := fdq_43 hD hth r0
  have kz_0_11 := fdq_237 hD hth r0
  have kz_0_12 := fdq_187 hD hth r0
  have kz_0_13 := fdq_238 hD hth r0
  have kz_0_14 := fdq_188 hD hth r0
  have kz_0_15 := fdq_239 hD hth r0
  obtain ⟨x, ex, hx⟩ := iv_ex (ta := ta) (lo := 0) (hi := 5) (z := w_fi ws (n_v vs 0) 8) (by omega) (by omega) (by omega) (by omega)
  have ex2 : v_iv (Value.int x) = w_fi ws (n_v vs 0) 8 := ex
  have ex3 : 0 ≤ v_iv (Value.int x) ∧ v_iv (Value.int x) ≤ 5 := tv_rng hx
  have e_0 : n_v (vs ++ [Value.int x]) 0 = n_v vs 0 := n_v_old (by rw [hl]; decide)
  have e_6 : n_v (vs ++ [Value.int x]) 6 = n_v vs 6 := n_v_old (by rw [hl]; decide)
  have e_7 : n_v (vs ++ [Value.int x]) 7 = n_v vs 7 := n_v_old (by rw [hl]; decide)
  have e_8 : n_v (vs ++ [Value.int x]) 8 = Value.int x := n_v_new hl
  have nf0 : fc_1 PRD (20, [0, 6, 7], [60, 1, 1, 1026, 10, 1]) ws (vs ++ [Value.int x]) := by
    refine ⟨nf_inA hl rfl, sgq_1724 ?_⟩
    · show FSX (w_fi ws (n_v (vs ++ [Value.int x]) 0) 10) (w_ei ws (w_ar ws (n_v (vs ++ [Value.int x]) 0) 1)) (v_iv (n_v (vs ++ [Value.int x]) 6)) (v_iv (n_v (vs ++ [Value.int x]) 7))
      simp only [e_0, e_6, e_7]
      exact vc_Mo_groupItem_at_k3_0_0 (v_iv (n_v vs 1)) (v_iv (n_v vs 2)) (v_iv (n_v vs 4)) (v_iv (n_v vs 6)) (v_iv (n_v vs 7)) (w_fi ws (n_v vs 0) 13) (w_ei ws (w_ar ws (n_v vs 0) 2)) (w_fi ws (n_v vs 0) 5) (w_fi ws (n_v vs 0) 15) (w_fi ws (n_v vs 0) 11) (w_fi ws (n_v vs 0) 12) (w_ei ws (w_ar ws (n_v vs 0) 1)) (w_fi ws (n_v vs 0) 10) (w_fi ws (n_v vs 0) 14) (w_fi ws (n_v vs 0) 8) (v_iv (Value.int x)) k1 k2 k4 k6 k7 g0 f2 f3 f9 kz_0_8 kz_0_10 kz_0_11 kz_0_12 kz_0_13 kz_0_14 kz_0_15 ex2
  have nf1 : fc_1 PRD (20, [0, 8], [30, 0, 1, 1, 8, -1, 0, 0]) ws (vs ++ [Value.int x]) := by
    refine ⟨nf_inA hl rfl, sgq_303 ?_⟩
    · show 1 * w_fi ws (n_v (vs ++ [Value.int x]) 0) 8 + ((-1) * v_iv (n_v (vs ++ [Value.int x]) 8) + 0) ≤ 0
      simp only [e_0, e_8]
      exact vc_Mo_groupItem_at_k3_0_1 (w_fi ws (n_v vs 0) 5) (w_fi ws (n_v vs 0) 8) (v_iv (Value.int x)) kz_0_8 ex2
  have nf2 : fc_1 PRD (20, [0, 8], [30, 0, -1, 1, 8, 1, 0, 0]) ws (vs ++ [Value.int x]) := by
    refine ⟨nf_inA hl rfl, sgq_304 ?_⟩
    · show (-1) * w_fi ws (n_v (vs ++ [Value.int x]) 0) 8 + (1 * v_iv (n_v (vs ++ [Value.int x]) 8) + 0) ≤ 0
      simp only [e_0, e_8]
      exact vc_Mo_groupItem_at_k3_0_2 (w_fi ws (n_v vs 0) 5) (w_fi ws (n_v vs 0) 8) (v_iv (Value.int x)) kz_0_8 ex2
  have nf3 : fc_1 PRD (20, [8], [61, 0, 1029]) ws (vs ++ [Value.int x]) := by
    refine ⟨nf_inA hl rfl, sgq_1725 ?_⟩
    · show ZH0 (v_iv (n_v (vs ++ [Value.int x]) 8))
      rw [e_8]
      exact vc_Mo_groupItem_at_k3_0_3 (v_iv (n_v vs 1)) (v_iv (n_v vs 2)) (w_fi ws (n_v vs 0) 13) (w_ei ws (w_ar ws (n_v vs 0) 2)) (w_fi ws (n_v vs 0) 5) (w_fi ws (n_v vs 0) 15) (w_fi ws (n_v vs 0) 11) (w_fi ws (n_v vs 0) 12) (w_ei ws (w_ar ws (n_v vs 0) 1)) (w_fi ws (n_v vs 0) 10) (w_fi ws (n_v vs 0) 14) (w_fi ws (n_v vs 0) 8) (v_iv (Value.int x)) k1 k2 f9 kz_0_8 kz_0_10 kz_0_11 kz_0_12 kz_0_13 kz_0_14 kz_0_15 ex2
  exact ⟨(fun _ h => (by cases h)), [Value.int x], ag_one hx, List.forall_mem_cons.mpr ⟨⟨show (20 : Nat) < 100 from by decide, nf0⟩, List.forall_mem_cons.mpr ⟨⟨show (20 : Nat) < 100 from by decide, nf1⟩, List.forall_mem_cons.mpr ⟨⟨show (20 : Nat) < 100 from by decide, nf2⟩, List.forall_mem_cons.mpr ⟨⟨show (20 : Nat) < 100 from by decide, nf3⟩, (fun _ h => (by cases h))⟩⟩⟩⟩, (fun _ h => (by cases h))⟩
set_option maxHeartbeats 4000000 in
theorem vc_Mo_groupItem_at_k3_1_0 (x3 : Int) (r_0 : Int) (pos_0 : Int) (fault_0 : Int) (k3 : 0 ≤ x3 ∧ x3 ≤ 2000) (f10 : (-1) * fault_0 + 0 ≤ (-1)) (kz_0_8 : 0 ≤ fault_0 ∧ fault_0 ≤ 5) (kz_0_11 : 0 ≤ pos_0 ∧ pos_0 ≤ 2000) : (1 ≤ fault_0) ∨ ((x3 + 1) ≤ pos_0) := by
  first
    | omega
    | (have q1 := (hE_0_2_1 (r_0 + 2) (by omega)).2 (by omega)
       have q2 := (hE_0_2_2 (r_0 + 2) (by omega)).2 (by omega)
       omega)
    | (have q1 := (hE_0_2_1 (r_0 + 1) (by omega)).2 (by omega)
       have q2 := (hE_0_2_2 (r_0 + 1) (by omega)).2 (by omega)
       omega)
    | (have q1 := (hE_0_2_1 (r_0 + 2) (by omega)).2 (by omega)
       omega)
    | (have q1 := (hE_0_2_1 (r_0 + 1) (by omega)).2 (by omega)
       omega)
    | (have q1 := (hE_0_2_1 (r_0 + 2) (by omega)).2 (by omega)
       have q2 := (hE_0_2_2 (r_0 + 2) (by omega)).2 (by omega)
       have q3 := (hE_0_2_3 (r_0 + 2) (by omega)).1 (by omega)
       omega)
    | (have q1 := (hE_0_2_1 (r_0 + 2) (by omega)).2 (by omega)
       have q2 := (hE_0_2_2 (r_0 + 2) (by omega)).2 (by omega)
       have q3 := (hE_0_2_3 (r_0 + 2) (by omega)).2 (by omega)
       omega)
    | (have q1 := (hE_0_2_1 (r_0 + 2) (by omega)).2 (by omega)
       have q2 := (hE_0_2_2 (r_0 + 2) (by omega)).2 (by omega)
       have q3 := (hE_0_2_3 (r_0 + 2) (by omega)).1 (by omega)
       have q4 : x13 = r_0 + 2 := by omega
       simp only [q4] at *
       omega)
set_option maxHeartbeats 4000000 in
theorem vc_Mo_groupItem_at_k3_1_1 (x1 : Int) (x2 : Int) (x6 : Int) (x7 : Int) (x8 : Int) (place_0 : Int) (tape_0 : Int → Int) (limit_0 : Int) (all_0 : Int → Int) (r_0 : Int) (from_0 : Int) (pos_0 : Int) (kind_0 : Int) (fault_0 : Int) (faultPlace_0 : Int) (value_0 : Int) (k1 : 0 ≤ x1 ∧ x1 ≤ 7) (k2 : 3 ≤ x2 ∧ x2 ≤ 3) (k6 : 3 ≤ x6 ∧ x6 ≤ 3) (k7 : 0 ≤ x7 ∧ x7 ≤ 2000) (k8 : 0 ≤ x8 ∧ x8 ≤ 5) (g0 : x7 = place_0) (f1 : FSX (limit_0) (tape_0) (x6) (x7)) (f2 : ZH0 (x8)) (f11 : ((1 ≤ x8) ∧ (fault_0 = x8)) ∨ ((x8 = 0) ∧ ((fault_0 = x6) ∧ (faultPlace_0 = x7)))) (kz_0_8 : 0 ≤ fault_0 ∧ fault_0 ≤ 5) (kz_0_9 : 0 ≤ faultPlace_0 ∧ faultPlace_0 ≤ 2000) (kz_0_10 : 0 ≤ limit_0 ∧ limit_0 ≤ 2000) (kz_0_11 : 0 ≤ pos_0 ∧ pos_0 ≤ 2000) (kz_0_12 : 0 ≤ kind_0 ∧ kind_0 ≤ 4) (kz_0_13 : 0 ≤ place_0 ∧ place_0 ≤ 2000) (kz_0_14 : (-49) ≤ value_0 ∧ value_0 ≤ 1048575) (kz_0_15 : 0 ≤ from_0 ∧ from_0 ≤ 2000) : zOS0 (limit_0) (pos_0) (kind_0) (place_0) (value_0) (from_0) (fault_0) (faultPlace_0) (r_0) (tape_0) (all_0) (x1) (x2) := by
  first | subst g0 | skip
  first
    | assumption
    | (refine Or.inl (fs_w ?_ ?_ (by assumption)) <;> assumption)
def o_Mo_groupItem_at_k3_1 : or_T := (23, 9, [(0, (2, 0, 0, [165])), (1, (0, 0, 7, [])), (2, (0, 3, 3, [])), (3, (0, 0, 2000, [])), (6, (0, 3, 3, [])), (7, (0, 0, 2000, [])), (8, (0, 0, 5, []))], [(9, [7, 0], [13]), (20, [0, 6, 7], [60, 1, 1, 1026, 10, 1]), (20, [8], [61, 0, 1029]), (20, [0], [30, -1, -1, 1, 8]), (20, [8, 0, 6, 7], [50, 2, 0, 1008, 1009, 3, 15, 2, 6, 0, 2, 0, 1, 1, 0, 1, 3, 2, 1, 8, 1, 0, 2, 6, 1, 2, 1, 0, 0, 0, 2, 7, 1, 3, 2, 1, 8, 1, 2, 1, 3, 2, 1, 9, 1, 3])], [], [], [(20, [0, 3], [50, 2, 0, 8, 11, 3, 7, 0, 2, 0, 1, 2, 0, 8, 0, 6, 4, 2, 1, 1, 0, 1, 2, 0, 11]), (20, [0, 1, 2], [60, 9, 2, 1007, 10, 11, 12, 13, 14, 15, 8, 9, 5, 1, 2])], [], [])
theorem oo_Mo_groupItem_at_k3_1 {kA : Nat → ClassId} : or_ok PRD kA GG o_Mo_groupItem_at_k3_1 := by
  refine or_mk fun A ta ws vs hD hth hl => ?_
  intro t0 r0 t1 k1 t2 k2 t3 k3 t6 k6 t7 k7 t8 k8 f0 f1 f2 f10 f11
  replace f0 := shm_361 f0
  have g0 : v_iv (n_v vs 7) = w_fi ws (n_v vs 0) 13 := congrArg v_iv f0
  have kz_0_8 := fdq_34 hD hth r0
  have kz_0_9 := fdq_44 hD hth r0
  have kz_0_10 := fdq_43 hD hth r0
  have kz_0_11 := fdq_237 hD hth r0
  have kz_0_12 := fdq_187 hD hth r0
  have kz_0_13 := fdq_238 hD hth r0
  have kz_0_14 := fdq_188 hD hth r0
  have kz_0_15 := fdq_239 hD hth r0
  have nf0 : fc_1 PRD (20, [0, 3], [50, 2, 0, 8, 11, 3, 7, 0, 2, 0, 1, 2, 0, 8, 0, 6, 4, 2, 1, 1, 0, 1, 2, 0, 11]) ws (vs) := ⟨nf_in hl rfl, sgq_1726 (vc_Mo_groupItem_at_k3_1_0 (v_iv (n_v vs 3)) (w_fi ws (n_v vs 0) 5) (w_fi ws (n_v vs 0) 11) (w_fi ws (n_v vs 0) 8) k3 (shm_305 f10) kz_0_8 kz_0_11)⟩
  have nf1 : fc_1 PRD (20, [0, 1, 2], [60, 9, 2, 1007, 10, 11, 12, 13, 14, 15, 8, 9, 5, 1, 2]) ws (vs) := ⟨nf_in hl rfl, sgq_1727 (vc_Mo_groupItem_at_k3_1_1 (v_iv (n_v vs 1)) (v_iv (n_v vs 2)) (v_iv (n_v vs 6)) (v_iv (n_v vs 7)) (v_iv (n_v vs 8)) (w_fi ws (n_v vs 0) 13) (w_ei ws (w_ar ws (n_v vs 0) 1)) (w_fi ws (n_v vs 0) 10) (w_ei ws (w_ar ws (n_v vs 0) 2)) (w_fi ws (n_v vs 0) 5) (w_fi ws (n_v vs 0) 15) (w_fi ws (n_v vs 0) 11) (w_fi ws (n_v vs 0) 12) (w_fi ws (n_v vs 0) 8) (w_fi ws (n_v vs 0) 9) (w_fi ws (n_v vs 0) 14) k1 k2 k6 k7 k8 g0 (shm_1724 f1) (shm_1725 f2) (shm_306 f11) kz_0_8 kz_0_9 kz_0_10 kz_0_11 kz_0_12 kz_0_13 kz_0_14 kz_0_15)⟩
  refine ⟨(fun _ h => (by cases h)), [], trivial, ?_, (fun _ h => (by cases h))⟩
  rw [List.append_nil]
  exact List.forall_mem_cons.mpr ⟨⟨show (20 : Nat) < 100 from by decide, nf0⟩, List.forall_mem_cons.mpr ⟨⟨show (20 : Nat) < 100 from by decide, nf1⟩, (fun _ h => (by cases h))⟩⟩
set_option maxHeartbeats 4000000 in
theorem vc_Mo_groupItem_at_k3_2_0 (r_0 : Int) (pos_0 : Int) (gx : Int) (kz_0_11 : 0 ≤ pos_0 ∧ pos_0 ≤ 2000) (ex2 : gx = pos_0) : 1 * gx + ((-1) * pos_0 + 0) ≤ 0 := by
  first
    | omega
    | (have q1 := (hE_0_2_1 (r_0 + 2) (by omega)).2 (by omega)
       have q2 := (hE_0_2_2 (r_0 + 2) (by omega)).2 (by omega)
       omega)
    | (have q1 := (hE_0_2_1 (r_0 + 1) (by omega)).2 (by omega)
       have q2 := (hE_0_2_2 (r_0 + 1) (by omega)).2 (by omega)
       omega)
    | (have q1 := (hE_0_2_1 (r_0 + 2) (by omega)).2 (by omega)
       omega)
    | (have q1 := (hE_0_2_1 (r_0 + 1) (by omega)).2 (by omega)
       omega)
    | (have q1 := (hE_0_2_1 (r_0 + 2) (by omega)).2 (by omega)
       have q2 := (hE_0_2_2 (r_0 + 2) (by omega)).2 (by omega)
       have q3 := (hE_0_2_3 (r_0 + 2) (by omega)).1 (by omega)
       omega)
    | (have q1 := (hE_0_2_1 (r_0 + 2) (by omega)).2 (by omega)
       have q2 := (hE_0_2_2 (r_0 + 2) (by omega)).2 (by omega)
       have q3 := (hE_0_2_3 (r_0 + 2) (by omega)).2 (by omega)
       omega)
    | (have q1 := (hE_0_2_1 (r_0 + 2) (by omega)).2 (by omega)
       have q2 := (hE_0_2_2 (r_0 + 2) (by omega)).2 (by omega)
       have q3 := (hE_0_2_3 (r_0 + 2) (by omega)).1 (by omega)
       have q4 : x13 = r_0 + 2 := by omega
       simp only [q4] at *
       omega)
set_option maxHeartbeats 4000000 in
theorem vc_Mo_groupItem_at_k3_2_1 (r_0 : Int) (pos_0 : Int) (gx : Int) (kz_0_11 : 0 ≤ pos_0 ∧ pos_0 ≤ 2000) (ex2 : gx = pos_0) : gx = pos_0 := by
  first
    | omega
    | (have q1 := (hE_0_2_1 (r_0 + 2) (by omega)).2 (by omega)
       have q2 := (hE_0_2_2 (r_0 + 2) (by omega)).2 (by omega)
       omega)
    | (have q1 := (hE_0_2_1 (r_0 + 1) (by omega)).2 (by omega)
       have q2 := (hE_0_2_2 (r_0 + 1) (by omega)).2 (by omega)
       omega)
    | (have q1 := (hE_0_2_1 (r_0 + 2) (by omega)).2 (by omega)
       omega)
    | (have q1 := (hE_0_2_1 (r_0 + 1) (by omega)).2 (by omega)
       omega)
    | (have q1 := (hE_0_2_1 (r_0 + 2) (by omega)).2 (by omega)
       have q2 := (hE_0_2_2 (r_0 + 2) (by omega)).2 (by omega)
       have q3 := (hE_0_2_3 (r_0 + 2) (by omega)).1 (by omega)
       omega)
    | (have q1 := (hE_0_2_1 (r_0 + 2) (by omega)).2 (by omega)
       have q2 := (hE_0_2_2 (r_0 + 2) (by omega)).2 (by omega)
       have q3 := (hE_0_2_3 (r_0 + 2) (by omega)).2 (by omega)
       omega)
    | (have q1 := (hE_0_2_1 (r_0 + 2) (by omega)).2 (by omega)
       have q2 := (hE_0_2_2 (r_0 + 2) (by omega)).2 (by omega)
       have q3 := (hE_0_2_3 (r_0 + 2) (by omega)).1 (by omega)
       have q4 : x13 = r_0 + 2 := by omega
       simp only [q4] at *
       omega)
set_option maxHeartbeats 4000000 in
theorem vc_Mo_groupItem_at_k3_2_2 (x1 : Int) (x2 : Int) (all_0 : Int → Int) (r_0 : Int) (from_0 : Int) (pos_0 : Int) (kind_0 : Int) (tape_0 : Int → Int) (limit_0 : Int) (place_0 : Int) (value_0 : Int) (fault_0 : Int) (k1 : 0 ≤ x1 ∧ x1 ≤ 7) (k2 : 3 ≤ x2 ∧ x2 ≤ 3) (f9 : zRSG (limit_0) (pos_0) (kind_0) (place_0) (value_0) (from_0) (fault_0) (r_0) (tape_0) (all_0) (x1) (x2)) (kz_0_8 : 0 ≤ fault_0 ∧ fault_0 ≤ 5) (kz_0_10 : 0 ≤ limit_0 ∧ limit_0 ≤ 2000) (kz_0_11 : 0 ≤ pos_0 ∧ pos_0 ≤ 2000) (kz_0_12 : 0 ≤ kind_0 ∧ kind_0 ≤ 4) (kz_0_13 : 0 ≤ place_0 ∧ place_0 ≤ 2000) (kz_0_14 : (-49) ≤ value_0 ∧ value_0 ≤ 1048575) (kz_0_15 : 0 ≤ from_0 ∧ from_0 ≤ 2000) : ZLM (limit_0) (pos_0) := by
  exact zlm_r (‹zRSG _ _ _ _ _ _ _ _ _ _ _ _›).1
set_option maxHeartbeats 4000000 in
theorem vc_Mo_groupItem_at_k3_2_3 (x1 : Int) (x2 : Int) (x4 : Int) (all_0 : Int → Int) (r_0 : Int) (from_0 : Int) (pos_0 : Int) (kind_0 : Int) (tape_0 : Int → Int) (limit_0 : Int) (place_0 : Int) (value_0 : Int) (fault_0 : Int) (gx : Int) (k1 : 0 ≤ x1 ∧ x1 ≤ 7) (k2 : 3 ≤ x2 ∧ x2 ≤ 3) (k4 : 0 ≤ x4 ∧ x4 ≤ 7) (f2 : 1 * x4 + ((-1) * all_0 (r_0 + 2) + 0) ≤ 0) (f3 : (-1) * x4 + (1 * all_0 (r_0 + 2) + 0) ≤ 0) (f9 : zRSG (limit_0) (pos_0) (kind_0) (place_0) (value_0) (from_0) (fault_0) (r_0) (tape_0) (all_0) (x1) (x2)) (kz_0_8 : 0 ≤ fault_0 ∧ fault_0 ≤ 5) (kz_0_10 : 0 ≤ limit_0 ∧ limit_0 ≤ 2000) (kz_0_11 : 0 ≤ pos_0 ∧ pos_0 ≤ 2000) (kz_0_12 : 0 ≤ kind_0 ∧ kind_0 ≤ 4) (kz_0_13 : 0 ≤ place_0 ∧ place_0 ≤ 2000) (kz_0_14 : (-49) ≤ value_0 ∧ value_0 ≤ 1048575) (kz_0_15 : 0 ≤ from_0 ∧ from_0 ≤ 2000) (ex2 : gx = pos_0) : zTS5 (limit_0) (fault_0) (r_0) (tape_0) (all_0) (x1) (x2) (gx) := by
  first | subst ex2 | skip
  exact gr_go ‹zRSG _ _ _ _ _ _ _ _ _ _ _ _› (by omega) (by omega) (by omega)
set_option maxHeartbeats 4000000 in
theorem vc_Mo_groupItem_at_k3_2_4 (x3 : Int) (r_0 : Int) (pos_0 : Int) (gx : Int) (k3 : 0 ≤ x3 ∧ x3 ≤ 2000) (f6 : 1 * x3 + ((-1) * pos_0 + 0) ≤ 0) (kz_0_11 : 0 ≤ pos_0 ∧ pos_0 ≤ 2000) (ex2 : gx = pos_0) : 1 * x3 + ((-1) * gx + 0) ≤ 0 := by
  first
    | omega
    | (have q1 := (hE_0_2_1 (r_0 + 2) (by omega)).2 (by omega)
       have q2 := (hE_0_2_2 (r_0 + 2) (by omega)).2 (by omega)
       omega)
    | (have q1 := (hE_0_2_1 (r_0 + 1) (by omega)).2 (by omega)
       have q2 := (hE_0_2_2 (r_0 + 1) (by omega)).2 (by omega)
       omega)
    | (have q1 := (hE_0_2_1 (r_0 + 2) (by omega)).2 (by omega)
       omega)
    | (have q1 := (hE_0_2_1 (r_0 + 1) (by omega)).2 (by omega)
       omega)
    | (have q1 := (hE_0_2_1 (r_0 + 2) (by omega)).2 (by omega)
       have q2 := (hE_0_2_2 (r_0 + 2) (by omega)).2 (by omega)
       have q3 := (hE_0_2_3 (r_0 + 2) (by omega)).1 (by omega)
       omega)
    | (have q1 := (hE_0_2_1 (r_0 + 2) (by omega)).2 (by omega)
       have q2 := (hE_0_2_2 (r_0 + 2) (by omega)).2 (by omega)
       have q3 := (hE_0_2_3 (r_0 + 2) (by omega)).2 (by omega)
       omega)
    | (have q1 := (hE_0_2_1 (r_0 + 2) (by omega)).2 (by omega)
       have q2 := (hE_0_2_2 (r_0 + 2) (by omega)).2 (by omega)
       have q3 := (hE_0_2_3 (r_0 + 2) (by omega)).1 (by omega)
       have q4 : x13 = r_0 + 2 := by omega
       simp only [q4] at *
       omega)
def o_Mo_groupItem_at_k3_2 : or_T := (25, 7, [(0, (2, 0, 0, [165])), (1, (0, 0, 7, [])), (2, (0, 3, 3, [])), (3, (0, 0, 2000, [])), (4, (0, 0, 7, []))], [(20, [4, 0], [30, 0, 1, 0, 0, -1, 3, 2005002]), (20, [4, 0], [30, 0, -1, 0, 0, 1, 3, 2005002]), (20, [3, 0], [30, 0, 1, 0, 0, -1, 1, 11]), (20, [0, 1, 2], [60, 8, 2, 992, 10, 11, 12, 13, 14, 15, 8, 5, 1, 2])], [], [(0, 0, 2000, [])], [(20, [7, 0], [30, 0, 1, 0, 0, -1, 1, 11]), (20, [7, 0], [50, 1, 0, 1011, 1, 2, 1, 0, 2, 1, 11]), (20, [0], [60, 2, 0, 947, 10, 11]), (20, [0, 1, 2, 7], [60, 3, 2, 974, 10, 8, 5, 1, 2]), (20, [3, 7], [30, 0, 1, 0, 0, -1, 0, 0])], [], [])
theorem oo_Mo_groupItem_at_k3_2 {kA : Nat → ClassId} : or_ok PRD kA GG o_Mo_groupItem_at_k3_2 := by
  refine or_mk fun A ta ws vs hD hth hl => ?_
  intro t0 r0 t1 k1 t2 k2 t3 k3 t4 k4 f2 f3 f6 f9
  replace f2 := shm_123 f2
  replace f3 := shm_124 f3
  replace f6 := shm_1431 f6
  replace f9 := shm_2173 f9
  have kz_0_8 := fdq_34 hD hth r0
  have kz_0_10 := fdq_43 hD hth r0
  have kz_0_11 := fdq_237 hD hth r0
  have kz_0_12 := fdq_187 hD hth r0
  have kz_0_13 := fdq_238 hD hth r0
  have kz_0_14 := fdq_188 hD hth r0
  have kz_0_15 := fdq_239 hD hth r0
  obtain ⟨x, ex, hx⟩ := iv_ex (ta := ta) (lo := 0) (hi := 2000) (z := w_fi ws (n_v vs 0) 11) (by omega) (by omega) (by omega) (by omega)
  have ex2 : v_iv (Value.int x) = w_fi ws (n_v vs 0) 11 := ex
  have ex3 : 0 ≤ v_iv (Value.int x) ∧ v_iv (Value.int x) ≤ 2000 := tv_rng hx
  have e_0 : n_v (vs ++ [Value.int x]) 0 = n_v vs 0 := n_v_old (by rw [hl]; decide)
  have e_1 : n_v (vs ++ [Value.int x]) 1 = n_v vs 1 := n_v_old (by rw [hl]; decide)
  have e_2 : n_v (vs ++ [Value.int x]) 2 = n_v vs 2 := n_v_old (by rw [hl]; decide)
  have e_3 : n_v (vs ++ [Value.int x]) 3 = n_v vs 3 := n_v_old (by rw [hl]; decide)
  have e_7 : n_v (vs ++ [Value.int x]) 7 = Value.int x := n_v_new hl
  have nf0 : fc_1 PRD (20, [7, 0], [30, 0, 1, 0, 0, -1, 1, 11]) ws (vs ++ [Value.int x]) := by
    refine ⟨nf_inA hl rfl, sgq_1431 ?_⟩
    · show 1 * v_iv (n_v (vs ++ [Value.int x]) 7) + ((-1) * w_fi ws (n_v (vs ++ [Value.int x]) 0) 11 + 0) ≤ 0
      simp only [e_0, e_7]
      exact vc_Mo_groupItem_at_k3_2_0 (w_fi ws (n_v vs 0) 5) (w_fi ws (n_v vs 0) 11) (v_iv (Value.int x)) kz_0_11 ex2
  have nf1 : fc_1 PRD (20, [7, 0], [50, 1, 0, 1011, 1, 2, 1, 0, 2, 1, 11]) ws (vs ++ [Value.int x]) := by
    refine ⟨nf_inA hl rfl, sgq_1432 ?_⟩
    · show v_iv (n_v (vs ++ [Value.int x]) 7) = w_fi ws (n_v (vs ++ [Value.int x]) 0) 11
      simp only [e_0, e_7]
      exact vc_Mo_groupItem_at_k3_2_1 (w_fi ws (n_v vs 0) 5) (w_fi ws (n_v vs 0) 11) (v_iv (Value.int x)) kz_0_11 ex2
  have nf2 : fc_1 PRD (20, [0], [60, 2, 0, 947, 10, 11]) ws (vs ++ [Value.int x]) := by
    refine ⟨nf_inA hl rfl, sgq_1433 ?_⟩
    · show ZLM (w_fi ws (n_v (vs ++ [Value.int x]) 0) 10) (w_fi ws (n_v (vs ++ [Value.int x]) 0) 11)
      rw [e_0]
      exact vc_Mo_groupItem_at_k3_2_2 (v_iv (n_v vs 1)) (v_iv (n_v vs 2)) (w_ei ws (w_ar ws (n_v vs 0) 2)) (w_fi ws (n_v vs 0) 5) (w_fi ws (n_v vs 0) 15) (w_fi ws (n_v vs 0) 11) (w_fi ws (n_v vs 0) 12) (w_ei ws (w_ar ws (n_v vs 0) 1)) (w_fi ws (n_v vs 0) 10) (w_fi ws (n_v vs 0) 13) (w_fi ws (n_v vs 0) 14) (w_fi ws (n_v vs 0) 8) k1 k2 f9 kz_0_8 kz_0_10 kz_0_11 kz_0_12 kz_0_13 kz_0_14 kz_0_15
  have nf3 : fc_1 PRD (20, [0, 1, 2, 7], [60, 3, 2, 974, 10, 8, 5, 1, 2]) ws (vs ++ [Value.int x]) := by
    refine ⟨nf_inA hl rfl, sgq_2174 ?_⟩
    · show zTS5 (w_fi ws (n_v (vs ++ [Value.int x]) 0) 10) (w_fi ws (n_v (vs ++ [Value.int x]) 0) 8) (w_fi ws (n_v (vs ++ [Value.int x]) 0) 5) (w_ei ws (w_ar ws (n_v (vs ++ [Value.int x]) 0) 1)) (w_ei ws (w_ar ws (n_v (vs ++ [Value.int x]) 0) 2)) (v_iv (n_v (vs ++ [Value.int x]) 1)) (v_iv (n_v (vs ++ [Value.int x]) 2)) (v_iv (n_v (vs ++ [Value.int x]) 7))
      simp only [e_0, e_1, e_2, e_7]
      exact vc_Mo_groupItem_at_k3_2_3 (v_iv (n_v vs 1)) (v_iv (n_v vs 2)) (v_iv (n_v vs 4)) (w_ei ws (w_ar ws (n_v vs 0) 2)) (w_fi ws (n_v vs 0) 5) (w_fi ws (n_v vs 0) 15) (w_fi ws (n_v vs 0) 11) (w_fi ws (n_v vs 0) 12) (w_ei ws (w_ar ws (n_v vs 0) 1)) (w_fi ws (n_v vs 0) 10) (w_fi ws (n_v vs 0) 13) (w_fi ws (n_v vs 0) 14) (w_fi ws (n_v vs 0) 8) (v_iv (Value.int x)) k1 k2 k4 f2 f3 f9 kz_0_8 kz_0_10 kz_0_11 kz_0_12 kz_0_13 kz_0_14 kz_0_15 ex2
  have nf4 : fc_1 PRD (20, [3, 7], [30, 0, 1, 0, 0, -1, 0, 0]) ws (vs ++ [Value.int x]) := by
    refine ⟨nf_inA hl rfl, sgq_201 ?_⟩
    · show 1 * v_iv (n_v (vs ++ [Value.int x]) 3) + ((-1) * v_iv (n_v (vs ++ [Value.int x]) 7) + 0) ≤ 0
      simp only [e_3, e_7]
      exact vc_Mo_groupItem_at_k3_2_4 (v_iv (n_v vs 3)) (w_fi ws (n_v vs 0) 5) (w_fi ws (n_v vs 0) 11) (v_iv (Value.int x)) k3 f6 kz_0_11 ex2
  exact ⟨(fun _ h => (by cases h)), [Value.int x], ag_one hx, List.forall_mem_cons.mpr ⟨⟨show (20 : Nat) < 100 from by decide, nf0⟩, List.forall_mem_cons.mpr ⟨⟨show (20 : Nat) < 100 from by decide, nf1⟩, List.forall_mem_cons.mpr ⟨⟨show (20 : Nat) < 100 from by decide, nf2⟩, List.forall_mem_cons.mpr ⟨⟨show (20 : Nat) < 100 from by decide, nf3⟩, List.forall_mem_cons.mpr ⟨⟨show (20 : Nat) < 100 from by decide, nf4⟩, (fun _ h => (by cases h))⟩⟩⟩⟩⟩, (fun _ h => (by cases h))⟩
set_option maxHeartbeats 4000000 in
theorem vc_Mo_groupItem_at_k3_3_r0 (x4 : Int) (x9 : Int) (all_0 : Int → Int) (r_0 : Int) (k4 : 0 ≤ x4 ∧ x4 ≤ 7) (k9 : 0 ≤ x9 ∧ x9 ≤ 8) (f0 : 1 * x9 + ((-1) * all_0 (r_0 + 2) + 0) ≤ 0) (f1 : (-1) * x9 + (1 * all_0 (r_0 + 2) + 0) ≤ 0) (f5 : 1 * x4 + ((-1) * all_0 (r_0 + 2) + 0) ≤ 0) (f6 : (-1) * x4 + (1 * all_0 (r_0 + 2) + 0) ≤ 0) : 0 ≤ x9 ∧ x9 ≤ 7 := by
  first
    | omega
    | (have q1 := (hE_0_2_1 (r_0 + 2) (by omega)).2 (by omega)
       have q2 := (hE_0_2_2 (r_0 + 2) (by omega)).2 (by omega)
       omega)
    | (have q1 := (hE_0_2_1 (r_0 + 1) (by omega)).2 (by omega)
       have q2 := (hE_0_2_2 (r_0 + 1) (by omega)).2 (by omega)
       omega)
    | (have q1 := (hE_0_2_1 (r_0 + 2) (by omega)).2 (by omega)
       omega)
    | (have q1 := (hE_0_2_1 (r_0 + 1) (by omega)).2 (by omega)
       omega)
    | (have q1 := (hE_0_2_1 (r_0 + 2) (by omega)).2 (by omega)
       have q2 := (hE_0_2_2 (r_0 + 2) (by omega)).2 (by omega)
       have q3 := (hE_0_2_3 (r_0 + 2) (by omega)).1 (by omega)
       omega)
    | (have q1 := (hE_0_2_1 (r_0 + 2) (by omega)).2 (by omega)
       have q2 := (hE_0_2_2 (r_0 + 2) (by omega)).2 (by omega)
       have q3 := (hE_0_2_3 (r_0 + 2) (by omega)).2 (by omega)
       omega)
    | (have q1 := (hE_0_2_1 (r_0 + 2) (by omega)).2 (by omega)
       have q2 := (hE_0_2_2 (r_0 + 2) (by omega)).2 (by omega)
       have q3 := (hE_0_2_3 (r_0 + 2) (by omega)).1 (by omega)
       have q4 : x13 = r_0 + 2 := by omega
       simp only [q4] at *
       omega)
def o_Mo_groupItem_at_k3_3 : or_T := (49, 10, [(0, (2, 0, 0, [165])), (1, (0, 0, 7, [])), (2, (0, 3, 3, [])), (3, (0, 0, 2000, [])), (4, (0, 0, 7, [])), (5, (0, 8, 8, [])), (6, (0, 4, 4, [])), (7, (0, 0, 2000, [])), (8, (0, 1, 1, [])), (9, (0, 0, 8, []))], [(20, [9, 0], [30, 0, 1, 0, 0, -1, 3, 2005002]), (20, [9, 0], [30, 0, -1, 0, 0, 1, 3, 2005002]), (8, [8], [1]), (20, [0, 1, 2, 7], [60, 3, 2, 974, 10, 8, 5, 1, 2]), (20, [3, 7], [30, 0, 1, 0, 0, -1, 0, 0]), (20, [4, 0], [30, 0, 1, 0, 0, -1, 3, 2005002]), (20, [4, 0], [30, 0, -1, 0, 0, 1, 3, 2005002]), (20, [1, 0], [50, 1, 1, 1005, 1002, 0, 6, 4, 2, 1, 0, 0, 1, 3, 1, 2, 4, 3, 2, 1, 5, 0, 2]), (20, [0], [60, 1, 3, 199, 5, 2, 3, 4]), (20, [0, 0], [30, 0, 1, 1, 15, -1, 1, 11]), (20, [0], [50, 3, 0, 12, 11, 15, 2, 21, 4, 7, 1, 3, 2, 0, 12, 0, 1, 0, 3, 2, 0, 11, 4, 3, 2, 0, 15, 0, 8, 3, 7, 1, 3, 2, 0, 12, 0, 0, 0, 7, 4, 3, 2, 0, 15, 0, 1, 2, 0, 11]), (20, [7, 0], [30, 0, 1, 0, 0, -1, 1, 15]), (20, [0, 7], [60, 6, 1, 948, 10, 11, 12, 13, 14, 15, 1]), (20, [8, 0], [50, 1, 0, 1012, 4, 6, 1, 2, 1, 0, 0, 1, 1, 3, 2, 1, 12, 0, 1]), (20, [0, 8], [60, 4, 1, 962, 12, 11, 10, 15, 1]), (102, [7], [0]), (102, [7], [0, 165011, 165012, 165013, 165014, 165015]), (7, [2, 6], [1]), (7, [4, 5], [1])], [(9, (0, 0, 7, []))], [], [], [], [])
theorem oo_Mo_groupItem_at_k3_3 {kA : Nat → ClassId} : or_ok PRD kA GG o_Mo_groupItem_at_k3_3 := by
  refine or_mk fun A ta ws vs hD hth hl => ?_
  intro t0 r0 t1 k1 t2 k2 t3 k3 t4 k4 t5 k5 t6 k6 t7 k7 t8 k8 t9 k9 f0 f1 f2 f3 f4 f5 f6 f7 f8 f9 f10 f11 f12 f13 f14 ta1 w1 le1 s1 ta2 w2 le2 s2 f17 f18
  have hrf0 : 0 ≤ v_iv (n_v vs 9) ∧ v_iv (n_v vs 9) ≤ 7 := vc_Mo_groupItem_at_k3_3_r0 (v_iv (n_v vs 4)) (v_iv (n_v vs 9)) (w_ei ws (w_ar ws (n_v vs 0) 2)) (w_fi ws (n_v vs 0) 5) k4 k9 (shm_123 f0) (shm_124 f1) (shm_123 f5) (shm_124 f6)
  have rf9 : tv_ok ta (0, 0, 7, []) (n_v vs 9) := tv_in t9 (by first | omega | grind) (by first | omega | grind)
  refine ⟨List.forall_mem_cons.mpr ⟨rf9, (fun _ h => (by cases h))⟩, [], trivial, ?_, (fun _ h => (by cases h))⟩
  rw [List.append_nil]
  exact (fun _ h => (by cases h))
set_option maxHeartbeats 4000000 in
theorem vc_Mo_groupItem_at_k3_4_r0 (x9 : Int) (x11 : Int) (x13 : Int) (x14 : Int) (x16 : Int) (all_0 : Int → Int) (r_0 : Int) (k9 : 0 ≤ x9 ∧ x9 ≤ 7) (k11 : 0 ≤ x11 ∧ x11 ≤ 66297) (k13 : 2 ≤ x13 ∧ x13 ≤ 66299) (k14 : 0 ≤ x14 ∧ x14 ≤ 8) (k16 : 1 ≤ x16 ∧ x16 ≤ 9) (d0 : x14 + 1 ≤ x16 ∧ x16 ≤ x14 + 1) (d1 : x11 + 2 ≤ x13 ∧ x13 ≤ x11 + 2) (h1 : x14 = all_0 (x13)) (g3 : x11 = r_0) (f5 : 1 * x9 + ((-1) * all_0 (r_0 + 2) + 0) ≤ 0) (f6 : (-1) * x9 + (1 * all_0 (r_0 + 2) + 0) ≤ 0) : 1 ≤ x16 ∧ x16 ≤ 8 := by
  first
    | omega
    | (have e : x13 = r_0 + 2 := by omega
       rw [e] at h1
       omega)
def o_Mo_groupItem_at_k3_4 : or_T := (64, 17, [(0, (2, 0, 0, [165])), (1, (0, 0, 7, [])), (2, (0, 3, 3, [])), (3, (0, 0, 2000, [])), (4, (0, 0, 7, [])), (5, (0, 8, 8, [])), (6, (0, 4, 4, [])), (7, (0, 0, 2000, [])), (8, (0, 1, 1, [])), (9, (0, 0, 7, [])), (10, (2, 0, 0, [167])), (11, (0, 0, 66297, [])), (12, (0, 2, 2, [])), (13, (0, 2, 66299, [])), (14, (0, 0, 8, [])), (15, (0, 1, 1, [])), (16, (0, 1, 9, []))], [(1, [16, 14, 15], []), (10, [14, 10, 13], []), (1, [13, 11, 12], []), (9, [11, 0], [5]), (9, [10, 0], [2]), (20, [9, 0], [30, 0, 1, 0, 0, -1, 3, 2005002]), (20, [9, 0], [30, 0, -1, 0, 0, 1, 3, 2005002]), (8, [8], [1]), (20, [0, 1, 2, 7], [60, 3, 2, 974, 10, 8, 5, 1, 2]), (20, [3, 7], [30, 0, 1, 0, 0, -1, 0, 0]), (20, [4, 0], [30, 0, 1, 0, 0, -1, 3, 2005002]), (20, [4, 0], [30, 0, -1, 0, 0, 1, 3, 2005002]), (20, [1, 0], [50, 1, 1, 1005, 1002, 0, 6, 4, 2, 1, 0, 0, 1, 3, 1, 2, 4, 3, 2, 1, 5, 0, 2]), (20, [0], [60, 1, 3, 199, 5, 2, 3, 4]), (20, [0, 0], [30, 0, 1, 1, 15, -1, 1, 11]), (20, [0], [50, 3, 0, 12, 11, 15, 2, 21, 4, 7, 1, 3, 2, 0, 12, 0, 1, 0, 3, 2, 0, 11, 4, 3, 2, 0, 15, 0, 8, 3, 7, 1, 3, 2, 0, 12, 0, 0, 0, 7, 4, 3, 2, 0, 15, 0, 1, 2, 0, 11]), (20, [7, 0], [30, 0, 1, 0, 0, -1, 1, 15]), (20, [0, 7], [60, 6, 1, 948, 10, 11, 12, 13, 14, 15, 1]), (20, [8, 0], [50, 1, 0, 1012, 4, 6, 1, 2, 1, 0, 0, 1, 1, 3, 2, 1, 12, 0, 1]), (20, [0, 8], [60, 4, 1, 962, 12, 11, 10, 15, 1]), (102, [7], [0]), (102, [7], [0, 165011, 165012, 165013, 165014, 165015]), (7, [2, 6], [1]), (7, [4, 5], [1])], [(16, (0, 1, 8, []))], [], [], [], [(16, 14, 1, 1), (13, 11, 2, 2)])
theorem oo_Mo_groupItem_at_k3_4 {kA : Nat → ClassId} : or_ok PRD kA GG o_Mo_groupItem_at_k3_4 := by
  refine or_mk fun A ta ws vs hD hth hl => ?_
  intro t0 r0 t1 k1 t2 k2 t3 k3 t4 k4 t5 k5 t6 k6 t7 k7 t8 k8 t9 k9 t10 r10 t11 k11 t12 k12 t13 k13 t14 k14 t15 k15 t16 k16 d0 d1 f0 f1 f2 f3 f4 f5 f6 f7 f8 f9 f10 f11 f12 f13 f14 f15 f16 f17 f18 f19 ta1 w1 le1 s1 ta2 w2 le2 s2 f22 f23
  replace f1 := shm_107 f1
  replace f3 := shm_110 f3
  replace f4 := shm_120 f4
  have ad_10 : v_ad (n_v vs 10) = w_ar ws (n_v vs 0) 2 := congrArg v_ad f4
  simp only [ad_10] at f1
  have h1 : v_iv (n_v vs 14) = w_ei ws (w_ar ws (n_v vs 0) 2) (v_iv (n_v vs 13)) := f1
  have g3 : v_iv (n_v vs 11) = w_fi ws (n_v vs 0) 5 := congrArg v_iv f3
  have hrf0 : 1 ≤ v_iv (n_v vs 16) ∧ v_iv (n_v vs 16) ≤ 8 := vc_Mo_groupItem_at_k3_4_r0 (v_iv (n_v vs 9)) (v_iv (n_v vs 11)) (v_iv (n_v vs 13)) (v_iv (n_v vs 14)) (v_iv (n_v vs 16)) (w_ei ws (w_ar ws (n_v vs 0) 2)) (w_fi ws (n_v vs 0) 5) k9 k11 k13 k14 k16 d0 d1 h1 g3 (shm_123 f5) (shm_124 f6)
  have rf16 : tv_ok ta (0, 1, 8, []) (n_v vs 16) := tv_in t16 (by first | omega | grind) (by first | omega | grind)
  refine ⟨List.forall_mem_cons.mpr ⟨rf16, (fun _ h => (by cases h))⟩, [], trivial, ?_, (fun _ h => (by cases h))⟩
  rw [List.append_nil]
  exact (fun _ h => (by cases h))
set_option maxHeartbeats 4000000 in
theorem vc_Mo_groupItem_at_k3_5_0 (x1 : Int) (x9 : Int) (x13 : Int) (x16 : Int) (r_0 : Int) (from_0 : Int) (pos_0 : Int) (kind_0 : Int) (tape_0 : Int → Int) (limit_0 : Int) (place_0 : Int) (value_0 : Int) (all_1 : Int → Int) (tape_1 : Int → Int) (limit_1 : Int) (fault_1 : Int) (r_1 : Int) (now_1 : Int → Int) (latest_1 : Int → Int) (from_1 : Int) (pos_1 : Int) (kind_1 : Int) (place_1 : Int) (value_1 : Int) (fault_0 : Int) (all_0 : Int → Int) (now_0 : Int → Int) (latest_0 : Int → Int) (k1 : 0 ≤ x1 ∧ x1 ≤ 7) (k9 : 0 ≤ x9 ∧ x9 ≤ 7) (k13 : 2 ≤ x13 ∧ x13 ≤ 66299) (k16 : 1 ≤ x16 ∧ x16 ≤ 8) (f13 : 1 * x9 + ((-1) * all_1 (r_0 + 2) + 0) ≤ 0) (f14 : (-1) * x9 + (1 * all_1 (r_0 + 2) + 0) ≤ 0) (f20 : (x1 + 1) ≤ all_1 ((r_1 + 2))) (fe_0_5_1 : r_0 = r_1) (fe_0_8_1 : fault_0 = fault_1) (fe_0_10_1 : limit_0 = limit_1) (fe_0_11_1 : pos_0 = pos_1) (fe_0_12_1 : kind_0 = kind_1) (fe_0_13_1 : place_0 = place_1) (fe_0_14_1 : value_0 = value_1) (fe_0_15_1 : from_0 = from_1) (hE_0_1_1 : ∀ j : Int, tape_0 j = tape_1 j) (hE_0_2_1 : ∀ j : Int, 0 ≤ j → (j = x13 → all_0 j = x16) ∧ (j ≠ x13 → all_0 j = all_1 j)) (hE_0_3_1 : ∀ j : Int, now_0 j = now_1 j) (hE_0_4_1 : ∀ j : Int, latest_0 j = latest_1 j) (kz_0_8 : 0 ≤ fault_0 ∧ fault_0 ≤ 5) (kz_0_10 : 0 ≤ limit_0 ∧ limit_0 ≤ 2000) (kz_0_11 : 0 ≤ pos_0 ∧ pos_0 ≤ 2000) (kz_0_12 : 0 ≤ kind_0 ∧ kind_0 ≤ 4) (kz_0_13 : 0 ≤ place_0 ∧ place_0 ≤ 2000) (kz_0_14 : (-49) ≤ value_0 ∧ value_0 ≤ 1048575) (kz_0_15 : 0 ≤ from_0 ∧ from_0 ≤ 2000) : 1 * x1 + ((-1) * x9 + 0) ≤ (-1) := by
  subst fe_0_5_1
  subst fe_0_8_1
  subst fe_0_10_1
  subst fe_0_11_1
  subst fe_0_12_1
  subst fe_0_13_1
  subst fe_0_14_1
  subst fe_0_15_1
  have e_hE_0_1_1 := funext hE_0_1_1; subst e_hE_0_1_1
  have e_hE_0_3_1 := funext hE_0_3_1; subst e_hE_0_3_1
  have e_hE_0_4_1 := funext hE_0_4_1; subst e_hE_0_4_1
  first
    | omega
    | (have q1 := (hE_0_2_1 (r_0 + 2) (by omega)).2 (by omega)
       have q2 := (hE_0_2_2 (r_0 + 2) (by omega)).2 (by omega)
       omega)
    | (have q1 := (hE_0_2_1 (r_0 + 1) (by omega)).2 (by omega)
       have q2 := (hE_0_2_2 (r_0 + 1) (by omega)).2 (by omega)
       omega)
    | (have q1 := (hE_0_2_1 (r_0 + 2) (by omega)).2 (by omega)
       omega)
    | (have q1 := (hE_0_2_1 (r_0 + 1) (by omega)).2 (by omega)
       omega)
    | (have q1 := (hE_0_2_1 (r_0 + 2) (by omega)).2 (by omega)
       have q2 := (hE_0_2_2 (r_0 + 2) (by omega)).2 (by omega)
       have q3 := (hE_0_2_3 (r_0 + 2) (by omega)).1 (by omega)
       omega)
    | (have q1 := (hE_0_2_1 (r_0 + 2) (by omega)).2 (by omega)
       have q2 := (hE_0_2_2 (r_0 + 2) (by omega)).2 (by omega)
       have q3 := (hE_0_2_3 (r_0 + 2) (by omega)).2 (by omega)
       omega)
    | (have q1 := (hE_0_2_1 (r_0 + 2) (by omega)).2 (by omega)
       have q2 := (hE_0_2_2 (r_0 + 2) (by omega)).2 (by omega)
       have q3 := (hE_0_2_3 (r_0 + 2) (by omega)).1 (by omega)
       have q4 : x13 = r_0 + 2 := by omega
       simp only [q4] at *
       omega)
def o_Mo_groupItem_at_k3_5 : or_T := (65, 17, [(0, (2, 0, 0, [165])), (1, (0, 0, 7, [])), (2, (0, 3, 3, [])), (3, (0, 0, 2000, [])), (4, (0, 0, 7, [])), (5, (0, 8, 8, [])), (6, (0, 4, 4, [])), (7, (0, 0, 2000, [])), (8, (0, 1, 1, [])), (9, (0, 0, 7, [])), (10, (2, 0, 0, [167])), (11, (0, 0, 66297, [])), (12, (0, 2, 2, [])), (13, (0, 2, 66299, [])), (14, (0, 0, 8, [])), (15, (0, 1, 1, [])), (16, (0, 1, 8, []))], [(9, [11, 0], [5]), (9, [10, 0], [2]), (20, [3, 7], [30, 0, 1, 0, 0, -1, 0, 0]), (20, [0, 0], [30, 0, 1, 1, 15, -1, 1, 11]), (20, [0], [50, 3, 0, 12, 11, 15, 2, 21, 4, 7, 1, 3, 2, 0, 12, 0, 1, 0, 3, 2, 0, 11, 4, 3, 2, 0, 15, 0, 8, 3, 7, 1, 3, 2, 0, 12, 0, 0, 0, 7, 4, 3, 2, 0, 15, 0, 1, 2, 0, 11]), (20, [7, 0], [30, 0, 1, 0, 0, -1, 1, 15]), (20, [0, 7], [60, 6, 1, 948, 10, 11, 12, 13, 14, 15, 1]), (20, [8, 0], [50, 1, 0, 1012, 4, 6, 1, 2, 1, 0, 0, 1, 1, 3, 2, 1, 12, 0, 1]), (20, [0, 8], [60, 4, 1, 962, 12, 11, 10, 15, 1]), (100, [10, 13, 16], []), (1, [16, 14, 15], []), (10, [14, 10, 13], []), (1, [13, 11, 12], []), (20, [9, 0], [30, 0, 1, 0, 0, -1, 3, 2005002]), (20, [9, 0], [30, 0, -1, 0, 0, 1, 3, 2005002]), (8, [8], [1]), (20, [0, 1, 2, 7], [60, 3, 2, 974, 10, 8, 5, 1, 2]), (20, [3, 7], [30, 0, 1, 0, 0, -1, 0, 0]), (20, [4, 0], [30, 0, 1, 0, 0, -1, 3, 2005002]), (20, [4, 0], [30, 0, -1, 0, 0, 1, 3, 2005002]), (20, [1, 0], [50, 1, 1, 1005, 1002, 0, 6, 4, 2, 1, 0, 0, 1, 3, 1, 2, 4, 3, 2, 1, 5, 0, 2]), (20, [0], [60, 1, 3, 199, 5, 2, 3, 4]), (20, [0, 0], [30, 0, 1, 1, 15, -1, 1, 11]), (20, [0], [50, 3, 0, 12, 11, 15, 2, 21, 4, 7, 1, 3, 2, 0, 12, 0, 1, 0, 3, 2, 0, 11, 4, 3, 2, 0, 15, 0, 8, 3, 7, 1, 3, 2, 0, 12, 0, 0, 0, 7, 4, 3, 2, 0, 15, 0, 1, 2, 0, 11]), (20, [7, 0], [30, 0, 1, 0, 0, -1, 1, 15]), (20, [0, 7], [60, 6, 1, 948, 10, 11, 12, 13, 14, 15, 1]), (20, [8, 0], [50, 1, 0, 1012, 4, 6, 1, 2, 1, 0, 0, 1, 1, 3, 2, 1, 12, 0, 1]), (20, [0, 8], [60, 4, 1, 962, 12, 11, 10, 15, 1]), (102, [7], [0]), (102, [7], [0, 165011, 165012, 165013, 165014, 165015]), (7, [2, 6], [1]), (7, [4, 5], [1])], [], [], [(23, [1, 9], [-1, 1, -1])], [], [(16, 14, 1, 1), (13, 11, 2, 2)])
theorem oo_Mo_groupItem_at_k3_5 {kA : Nat → ClassId} : or_ok PRD kA GG o_Mo_groupItem_at_k3_5 := by
  refine or_mk fun A ta ws vs hD hth hl => ?_
  intro t0 r0 t1 k1 t2 k2 t3 k3 t4 k4 t5 k5 t6 k6 t7 k7 t8 k8 t9 k9 t10 r10 t11 k11 t12 k12 t13 k13 t14 k14 t15 k15 t16 k16 d0 d1 f0 f1 f2 f3 f4 f5 f6 f7 f8 ta1 w1 le1 s1 f10 f11 f12 f13 f14 f15 f16 f17 f18 f19 f20 f21 f22 f23 f24 f25 f26 f27 ta2 w2 le2 s2 ta3 w3 le3 s3 f30 f31
  replace f0 := shm_110 f0
  replace f1 := shm_120 f1
  replace f2 := shm_201 f2
  replace f3 := shm_1437 f3
  replace f4 := shm_1438 f4
  replace f5 := shm_1436 f5
  replace f6 := shm_1439 f6
  replace f7 := shm_1856 f7
  replace f8 := shm_1889 f8
  have s1 : (∀ b j, w_el ws b j = if b = v_ad (n_v vs 10) ∧ j = (v_iv (n_v vs 13)).toNat then v_iv (n_v vs 16) else w_el w1 b j) ∧ ∀ b k, w_fd ws b k = w_fd w1 b k := s1.2
  replace f10 := shm_12 f10
  replace f11 := shm_107 f11
  replace f12 := shm_12 f12
  replace f13 := shm_123 f13
  replace f14 := shm_124 f14
  replace f15 := shm_142 f15
  replace f16 := shm_2174 f16
  replace f17 := shm_201 f17
  replace f18 := shm_123 f18
  replace f19 := shm_124 f19
  replace f20 := shm_1009 f20
  replace f21 := shm_980 f21
  replace f22 := shm_1437 f22
  replace f23 := shm_1438 f23
  replace f24 := shm_1436 f24
  replace f25 := shm_1439 f25
  replace f26 := shm_1856 f26
  replace f27 := shm_1889 f27
  replace f30 := shm_40 f30
  replace f31 := shm_40 f31
  have ar_0_1_1 : w_ar w1 (n_v vs 0) 1 = w_ar ws (n_v vs 0) 1 := congrArg v_ad (s1.2 _ _).symm
  have cr_0_1 := fdq_39 hD hth r0
  have ar_0_2_1 : w_ar w1 (n_v vs 0) 2 = w_ar ws (n_v vs 0) 2 := congrArg v_ad (s1.2 _ _).symm
  have cr_0_2 := fdq_10 hD hth r0
  have ar_0_3_1 : w_ar w1 (n_v vs 0) 3 = w_ar ws (n_v vs 0) 3 := congrArg v_ad (s1.2 _ _).symm
  have cr_0_3 := fdq_142 hD hth r0
  have ar_0_4_1 : w_ar w1 (n_v vs 0) 4 = w_ar ws (n_v vs 0) 4 := congrArg v_ad (s1.2 _ _).symm
  have cr_0_4 := fdq_143 hD hth r0
  have fi_0_5_1 : w_fi w1 (n_v vs 0) 5 = w_fi ws (n_v vs 0) 5 := by show v_iv (w_fd w1 _ _) = v_iv (w_fd ws _ _); rw [s1.2]
  have ad_10 : v_ad (n_v vs 10) = w_ar ws (n_v vs 0) 2 := congrArg v_ad f1
  have g0 : v_iv (n_v vs 11) = w_fi ws (n_v vs 0) 5 := congrArg v_iv f0
  simp only [ad_10] at f11
  have h11 : v_iv (n_v vs 14) = w_ei w1 (w_ar ws (n_v vs 0) 2) (v_iv (n_v vs 13)) := f11
  simp only [ar_0_2_1, ar_0_1_1, ar_0_3_1, ar_0_4_1] at f13 f14 f16 f18 f19 f20 f21 f25 f27
  simp only [fi_0_5_1] at f13 f14 f18 f19
  have fe_0_5_1 : w_fi ws (n_v vs 0) 5 = w_fi w1 (n_v vs 0) 5 := congrArg v_iv (s1.2 _ _)
  have fe_0_8_1 : w_fi ws (n_v vs 0) 8 = w_fi w1 (n_v vs 0) 8 := congrArg v_iv (s1.2 _ _)
  have fe_0_10_1 : w_fi ws (n_v vs 0) 10 = w_fi w1 (n_v vs 0) 10 := congrArg v_iv (s1.2 _ _)
  have fe_0_11_1 : w_fi ws (n_v vs 0) 11 = w_fi w1 (n_v vs 0) 11 := congrArg v_iv (s1.2 _ _)
  have fe_0_12_1 : w_fi ws (n_v vs 0) 12 = w_fi w1 (n_v vs 0) 12 := congrArg v_iv (s1.2 _ _)
  have fe_0_13_1 : w_fi ws (n_v vs 0) 13 = w_fi w1 (n_v vs 0) 13 := congrArg v_iv (s1.2 _ _)
  have fe_0_14_1 : w_fi ws (n_v vs 0) 14 = w_fi w1 (n_v vs 0) 14 := congrArg v_iv (s1.2 _ _)
  have fe_0_15_1 : w_fi ws (n_v vs 0) 15 = w_fi w1 (n_v vs 0) 15 := congrArg v_iv (s1.2 _ _)
  have hE_0_1_1 : ∀ j : Int, w_ei ws (w_ar ws (n_v vs 0) 1) j = w_ei w1 (w_ar ws (n_v vs 0) 1) j := el_kp s1.1 r10 cr_0_1 (by decide)
  have hK_0_1 := elq_7 hD hth cr_0_1
  have hE_0_2_1 : ∀ j : Int, 0 ≤ j → (j = v_iv (n_v vs 13) → w_ei ws (w_ar ws (n_v vs 0) 2) j = v_iv (n_v vs 16)) ∧ (j ≠ v_iv (n_v vs 13) → w_ei ws (w_ar ws (n_v vs 0) 2) j = w_ei w1 (w_ar ws (n_v vs 0) 2) j) := fun j hj => ⟨fun h => by unfold w_ei; rw [s1.1, if_pos ⟨ad_10.symm, by rw [h]⟩], fun h => by unfold w_ei; rw [s1.1, if_neg (fun e => h (by have := e.2; omega))]⟩
  have hE_0_3_1 : ∀ j : Int, w_ei ws (w_ar ws (n_v vs 0) 3) j = w_ei w1 (w_ar ws (n_v vs 0) 3) j := el_kp s1.1 r10 cr_0_3 (by decide)
  have hK_0_3 := elq_80 hD hth cr_0_3
  have hE_0_4_1 : ∀ j : Int, w_ei ws (w_ar ws (n_v vs 0) 4) j = w_ei w1 (w_ar ws (n_v vs 0) 4) j := el_kp s1.1 r10 cr_0_4 (by decide)
  have hK_0_4 := elq_81 hD hth cr_0_4
  have kz_0_8 := fdq_34 hD hth r0
  have kz_0_10 := fdq_43 hD hth r0
  have kz_0_11 := fdq_237 hD hth r0
  have kz_0_12 := fdq_187 hD hth r0
  have kz_0_13 := fdq_238 hD hth r0
  have kz_0_14 := fdq_188 hD hth r0
  have kz_0_15 := fdq_239 hD hth r0
  first | have hJ0 : w_ei w1 (w_ar ws (n_v vs 0) 2) ((w_fi w1 (n_v vs 0) 5 + 2)) = w_ei w1 (w_ar ws (n_v vs 0) 2) ((w_fi ws (n_v vs 0) 5 + 2)) := congrArg _ (show ((w_fi w1 (n_v vs 0) 5 + 2) : Int) = (w_fi ws (n_v vs 0) 5 + 2) from by omega) | skip
  first | have hI1 := (hE_0_2_1 ((w_fi ws (n_v vs 0) 5 + 2)) (by omega)).2 (by omega) | have hI1 := (hE_0_2_1 ((w_fi ws (n_v vs 0) 5 + 2)) (by omega)).1 (by omega) | skip
  have nf0 : fc_1 PRD (23, [1, 9], [-1, 1, -1]) ws (vs) := ⟨nf_in hl rfl, sgq_193 (vc_Mo_groupItem_at_k3_5_0 (v_iv (n_v vs 1)) (v_iv (n_v vs 9)) (v_iv (n_v vs 13)) (v_iv (n_v vs 16)) (w_fi ws (n_v vs 0) 5) (w_fi ws (n_v vs 0) 15) (w_fi ws (n_v vs 0) 11) (w_fi ws (n_v vs 0) 12) (w_ei ws (w_ar ws (n_v vs 0) 1)) (w_fi ws (n_v vs 0) 10) (w_fi ws (n_v vs 0) 13) (w_fi ws (n_v vs 0) 14) (w_ei w1 (w_ar ws (n_v vs 0) 2)) (w_ei w1 (w_ar ws (n_v vs 0) 1)) (w_fi w1 (n_v vs 0) 10) (w_fi w1 (n_v vs 0) 8) (w_fi w1 (n_v vs 0) 5) (w_ei w1 (w_ar ws (n_v vs 0) 3)) (w_ei w1 (w_ar ws (n_v vs 0) 4)) (w_fi w1 (n_v vs 0) 15) (w_fi w1 (n_v vs 0) 11) (w_fi w1 (n_v vs 0) 12) (w_fi w1 (n_v vs 0) 13) (w_fi w1 (n_v vs 0) 14) (w_fi ws (n_v vs 0) 8) (w_ei ws (w_ar ws (n_v vs 0) 2)) (w_ei ws (w_ar ws (n_v vs 0) 3)) (w_ei ws (w_ar ws (n_v vs 0) 4)) k1 k9 k13 k16 f13 f14 f20 fe_0_5_1 fe_0_8_1 fe_0_10_1 fe_0_11_1 fe_0_12_1 fe_0_13_1 fe_0_14_1 fe_0_15_1 hE_0_1_1 hE_0_2_1 hE_0_3_1 hE_0_4_1 kz_0_8 kz_0_10 kz_0_11 kz_0_12 kz_0_13 kz_0_14 kz_0_15)⟩
  refine ⟨(fun _ h => (by cases h)), [], trivial, ?_, (fun _ h => (by cases h))⟩
  rw [List.append_nil]
  exact List.forall_mem_cons.mpr ⟨⟨show (23 : Nat) < 100 from by decide, nf0⟩, (fun _ h => (by cases h))⟩
def o_Mo_groupItem_at_k3_6 : or_T := (80, 20, [(1, (0, 0, 7, [])), (9, (0, 0, 7, [])), (11, (5, 0, 66297, [539])), (17, (0, 531, 531, [])), (18, (0, 531, 66828, [])), (19, (0, 531, 66835, []))], [(1, [19, 18, 9], []), (1, [18, 11, 17], []), (23, [1, 9], [-1, 1, -1])], [], [], [(18, [19, 1], [1])], [], [(19, 9, 531, 66828), (19, 18, 0, 7), (19, 11, 531, 538), (18, 11, 531, 531)])
theorem oo_Mo_groupItem_at_k3_6 {kA : Nat → ClassId} : or_ok PRD kA GG o_Mo_groupItem_at_k3_6 := by
  refine or_mk fun A ta ws vs hD hth hl => ?_
  intro t1 k1 t9 k9 t11 t17 k17 t18 k18 t19 k19 d0 d1 d2 d3 f0 f1 f2
  obtain ⟨k11, q11_⟩ : (0 ≤ v_iv (n_v vs 11) ∧ v_iv (n_v vs 11) ≤ 66297) ∧ ∃ q : Int, v_iv (n_v vs 11) = 539 * q := tv_dvk t11
  obtain ⟨q11, hq11⟩ := q11_
  replace f0 := shm_12 f0
  replace f1 := shm_12 f1
  replace f2 := shm_193 f2
  have nf0 : fc_1 PRD (18, [19, 1], [1]) ws (vs) := by
    refine ⟨nf_in hl rfl, sgq_1302 ?_⟩
    · show pl_ok 1 (v_iv (n_v vs 19)).toNat (v_iv (n_v vs 1))
      exact pl_ginS (k := v_iv (n_v vs 9)) (by omega) (by omega) (by omega) (by omega) (by omega)
  refine ⟨(fun _ h => (by cases h)), [], trivial, ?_, (fun _ h => (by cases h))⟩
  rw [List.append_nil]
  exact List.forall_mem_cons.mpr ⟨⟨show (18 : Nat) < 100 from by decide, nf0⟩, (fun _ h => (by cases h))⟩
set_option maxHeartbeats 4000000 in
theorem vc_Mo_groupItem_at_k3_7_r0 (x1 : Int) (x8 : Int) (x13 : Int) (x16 : Int) (x19 : Int) (x23 : Int) (x24 : Int) (x25 : Int) (from_0 : Int) (pos_0 : Int) (r_0 : Int) (kind_0 : Int) (tape_0 : Int → Int) (limit_0 : Int) (place_0 : Int) (value_0 : Int) (from_1 : Int) (pos_1 : Int) (kind_1 : Int) (tape_1 : Int → Int) (limit_1 : Int) (place_1 : Int) (value_1 : Int) (all_2 : Int → Int) (tape_2 : Int → Int) (limit_2 : Int) (fault_2 : Int) (r_2 : Int) (now_2 : Int → Int) (latest_2 : Int → Int) (from_2 : Int) (pos_2 : Int) (kind_2 : Int) (place_2 : Int) (value_2 : Int) (r_1 : Int) (fault_0 : Int) (fault_1 : Int) (all_0 : Int → Int) (all_1 : Int → Int) (now_0 : Int → Int) (now_1 : Int → Int) (latest_0 : Int → Int) (latest_1 : Int → Int) (k1 : 0 ≤ x1 ∧ x1 ≤ 7) (k8 : 1 ≤ x8 ∧ x8 ≤ 1) (k13 : 2 ≤ x13 ∧ x13 ≤ 66299) (k16 : 1 ≤ x16 ∧ x16 ≤ 8) (k19 : 531 ≤ x19 ∧ x19 ≤ 66835) (k23 : 0 ≤ x23 ∧ x23 ≤ 2000) (k24 : 0 ≤ x24 ∧ x24 ≤ 2000) (k25 : (-2000) ≤ x25 ∧ x25 ≤ 2000) (f0 : x25 = x23 - x24) (g1 : x24 = from_0) (g2 : x23 = pos_0) (f9 : 1 * from_0 + ((-1) * pos_0 + 0) ≤ 0) (f40 : ((kind_2 = 1) → (pos_2 ≤ (from_2 + 8))) ∧ ((kind_2 = 0) ∨ ((from_2 + 1) ≤ pos_2))) (f43 : (x8 = 1) → (kind_2 = 1)) (fe_0_5_1 : r_0 = r_1) (fe_0_8_1 : fault_0 = fault_1) (fe_0_10_1 : limit_0 = limit_1) (fe_0_11_1 : pos_0 = pos_1) (fe_0_12_1 : kind_0 = kind_1) (fe_0_13_1 : place_0 = place_1) (fe_0_14_1 : value_0 = value_1) (fe_0_15_1 : from_0 = from_1) (fe_0_5_2 : r_1 = r_2) (fe_0_8_2 : fault_1 = fault_2) (fe_0_10_2 : limit_1 = limit_2) (fe_0_11_2 : pos_1 = pos_2) (fe_0_12_2 : kind_1 = kind_2) (fe_0_13_2 : place_1 = place_2) (fe_0_14_2 : value_1 = value_2) (fe_0_15_2 : from_1 = from_2) (hE_0_1_1 : ∀ j : Int, tape_0 j = tape_1 j) (hE_0_1_2 : ∀ j : Int, tape_1 j = tape_2 j) (hE_0_2_1 : ∀ j : Int, 0 ≤ j → (j = x19 → all_0 j = x1) ∧ (j ≠ x19 → all_0 j = all_1 j)) (hE_0_2_2 : ∀ j : Int, 0 ≤ j → (j = x13 → all_1 j = x16) ∧ (j ≠ x13 → all_1 j = all_2 j)) (hE_0_3_1 : ∀ j : Int, now_0 j = now_1 j) (hE_0_3_2 : ∀ j : Int, now_1 j = now_2 j) (hE_0_4_1 : ∀ j : Int, latest_0 j = latest_1 j) (hE_0_4_2 : ∀ j : Int, latest_1 j = latest_2 j) (kz_0_8 : 0 ≤ fault_0 ∧ fault_0 ≤ 5) (kz_0_10 : 0 ≤ limit_0 ∧ limit_0 ≤ 2000) (kz_0_11 : 0 ≤ pos_0 ∧ pos_0 ≤ 2000) (kz_0_12 : 0 ≤ kind_0 ∧ kind_0 ≤ 4) (kz_0_13 : 0 ≤ place_0 ∧ place_0 ≤ 2000) (kz_0_14 : (-49) ≤ value_0 ∧ value_0 ≤ 1048575) (kz_0_15 : 0 ≤ from_0 ∧ from_0 ≤ 2000) : 0 ≤ x25 ∧ x25 ≤ 8 := by
  subst fe_0_5_1
  subst fe_0_8_1
  subst fe_0_10_1
  subst fe_0_11_1
  subst fe_0_12_1
  subst fe_0_13_1
  subst fe_0_14_1
  subst fe_0_15_1
  subst fe_0_5_2
  subst fe_0_8_2
  subst fe_0_10_2
  subst fe_0_11_2
  subst fe_0_12_2
  subst fe_0_13_2
  subst fe_0_14_2
  subst fe_0_15_2
  have e_hE_0_1_1 := funext hE_0_1_1; subst e_hE_0_1_1
  have e_hE_0_1_2 := funext hE_0_1_2; subst e_hE_0_1_2
  have e_hE_0_3_1 := funext hE_0_3_1; subst e_hE_0_3_1
  have e_hE_0_3_2 := funext hE_0_3_2; subst e_hE_0_3_2
  have e_hE_0_4_1 := funext hE_0_4_1; subst e_hE_0_4_1
  have e_hE_0_4_2 := funext hE_0_4_2; subst e_hE_0_4_2
  first
    | omega
    | (have q1 := (hE_0_2_1 (r_0 + 2) (by omega)).2 (by omega)
       have q2 := (hE_0_2_2 (r_0 + 2) (by omega)).2 (by omega)
       omega)
    | (have q1 := (hE_0_2_1 (r_0 + 1) (by omega)).2 (by omega)
       have q2 := (hE_0_2_2 (r_0 + 1) (by omega)).2 (by omega)
       omega)
    | (have q1 := (hE_0_2_1 (r_0 + 2) (by omega)).2 (by omega)
       omega)
    | (have q1 := (hE_0_2_1 (r_0 + 1) (by omega)).2 (by omega)
       omega)
    | (have q1 := (hE_0_2_1 (r_0 + 2) (by omega)).2 (by omega)
       have q2 := (hE_0_2_2 (r_0 + 2) (by omega)).2 (by omega)
       have q3 := (hE_0_2_3 (r_0 + 2) (by omega)).1 (by omega)
       omega)
    | (have q1 := (hE_0_2_1 (r_0 + 2) (by omega)).2 (by omega)
       have q2 := (hE_0_2_2 (r_0 + 2) (by omega)).2 (by omega)
       have q3 := (hE_0_2_3 (r_0 + 2) (by omega)).2 (by omega)
       omega)
    | (have q1 := (hE_0_2_1 (r_0 + 2) (by omega)).2 (by omega)
       have q2 := (hE_0_2_2 (r_0 + 2) (by omega)).2 (by omega)
       have q3 := (hE_0_2_3 (r_0 + 2) (by omega)).1 (by omega)
       have q4 : x13 = r_0 + 2 := by omega
       simp only [q4] at *
       omega)
def o_Mo_groupItem_at_k3_7 : or_T := (104, 26, [(0, (2, 0, 0, [165])), (1, (0, 0, 7, [])), (2, (0, 3, 3, [])), (3, (0, 0, 2000, [])), (4, (0, 0, 7, [])), (5, (0, 8, 8, [])), (6, (0, 4, 4, [])), (7, (0, 0, 2000, [])), (8, (0, 1, 1, [])), (9, (0, 0, 7, [])), (10, (2, 0, 0, [167])), (11, (0, 0, 66297, [])), (12, (0, 2, 2, [])), (13, (0, 2, 66299, [])), (14, (0, 0, 8, [])), (15, (0, 1, 1, [])), (16, (0, 1, 8, [])), (17, (0, 531, 531, [])), (18, (0, 531, 66828, [])), (19, (0, 531, 66835, [])), (20, (0, 523, 523, [])), (21, (0, 523, 66820, [])), (22, (0, 523, 66827, [])), (23, (0, 0, 2000, [])), (24, (0, 0, 2000, [])), (25, (0, -2000, 2000, []))], [(2, [25, 23, 24], []), (9, [24, 0], [15]), (9, [23, 0], [11]), (1, [22, 21, 9], []), (1, [21, 11, 20], []), (9, [11, 0], [5]), (9, [10, 0], [2]), (23, [1, 9], [-1, 1, -1]), (20, [3, 7], [30, 0, 1, 0, 0, -1, 0, 0]), (20, [0, 0], [30, 0, 1, 1, 15, -1, 1, 11]), (20, [0], [50, 3, 0, 12, 11, 15, 2, 21, 4, 7, 1, 3, 2, 0, 12, 0, 1, 0, 3, 2, 0, 11, 4, 3, 2, 0, 15, 0, 8, 3, 7, 1, 3, 2, 0, 12, 0, 0, 0, 7, 4, 3, 2, 0, 15, 0, 1, 2, 0, 11]), (20, [7, 0], [30, 0, 1, 0, 0, -1, 1, 15]), (20, [0, 7], [60, 6, 1, 948, 10, 11, 12, 13, 14, 15, 1]), (20, [8, 0], [50, 1, 0, 1012, 4, 6, 1, 2, 1, 0, 0, 1, 1, 3, 2, 1, 12, 0, 1]), (20, [0, 8], [60, 4, 1, 962, 12, 11, 10, 15, 1]), (100, [10, 19, 1], []), (1, [19, 18, 9], []), (1, [18, 11, 17], []), (23, [1, 9], [-1, 1, -1]), (20, [3, 7], [30, 0, 1, 0, 0, -1, 0, 0]), (20, [0, 0], [30, 0, 1, 1, 15, -1, 1, 11]), (20, [0], [50, 3, 0, 12, 11, 15, 2, 21, 4, 7, 1, 3, 2, 0, 12, 0, 1, 0, 3, 2, 0, 11, 4, 3, 2, 0, 15, 0, 8, 3, 7, 1, 3, 2, 0, 12, 0, 0, 0, 7, 4, 3, 2, 0, 15, 0, 1, 2, 0, 11]), (20, [7, 0], [30, 0, 1, 0, 0, -1, 1, 15]), (20, [0, 7], [60, 6, 1, 948, 10, 11, 12, 13, 14, 15, 1]), (20, [8, 0], [50, 1, 0, 1012, 4, 6, 1, 2, 1, 0, 0, 1, 1, 3, 2, 1, 12, 0, 1]), (20, [0, 8], [60, 4, 1, 962, 12, 11, 10, 15, 1]), (100, [10, 13, 16], []), (1, [16, 14, 15], []), (10, [14, 10, 13], []), (1, [13, 11, 12], []), (20, [9, 0], [30, 0, 1, 0, 0, -1, 3, 2005002]), (20, [9, 0], [30, 0, -1, 0, 0, 1, 3, 2005002]), (8, [8], [1]), (20, [0, 1, 2, 7], [60, 3, 2, 974, 10, 8, 5, 1, 2]), (20, [3, 7], [30, 0, 1, 0, 0, -1, 0, 0]), (20, [4, 0], [30, 0, 1, 0, 0, -1, 3, 2005002]), (20, [4, 0], [30, 0, -1, 0, 0, 1, 3, 2005002]), (20, [1, 0], [50, 1, 1, 1005, 1002, 0, 6, 4, 2, 1, 0, 0, 1, 3, 1, 2, 4, 3, 2, 1, 5, 0, 2]), (20, [0], [60, 1, 3, 199, 5, 2, 3, 4]), (20, [0, 0], [30, 0, 1, 1, 15, -1, 1, 11]), (20, [0], [50, 3, 0, 12, 11, 15, 2, 21, 4, 7, 1, 3, 2, 0, 12, 0, 1, 0, 3, 2, 0, 11, 4, 3, 2, 0, 15, 0, 8, 3, 7, 1, 3, 2, 0, 12, 0, 0, 0, 7, 4, 3, 2, 0, 15, 0, 1, 2, 0, 11]), (20, [7, 0], [30, 0, 1, 0, 0, -1, 1, 15]), (20, [0, 7], [60, 6, 1, 948, 10, 11, 12, 13, 14, 15, 1]), (20, [8, 0], [50, 1, 0, 1012, 4, 6, 1, 2, 1, 0, 0, 1, 1, 3, 2, 1, 12, 0, 1]), (20, [0, 8], [60, 4, 1, 962, 12, 11, 10, 15, 1]), (102, [7], [0]), (102, [7], [0, 165011, 165012, 165013, 165014, 165015]), (7, [2, 6], [1]), (7, [4, 5], [1])], [(25, (0, 0, 8, []))], [], [], [], [(25, 23, -2000, 0), (22, 9, 523, 66820), (22, 21, 0, 7), (22, 11, 523, 530), (21, 11, 523, 523), (19, 9, 531, 66828), (19, 18, 0, 7), (19, 11, 531, 538), (18, 11, 531, 531), (16, 14, 1, 1), (13, 11, 2, 2)])
theorem oo_Mo_groupItem_at_k3_7 {kA : Nat → ClassId} : or_ok PRD kA GG o_Mo_groupItem_at_k3_7 := by
  refine or_mk fun A ta ws vs hD hth hl => ?_
  intro t0 r0 t1 k1 t2 k2 t3 k3 t4 k4 t5 k5 t6 k6 t7 k7 t8 k8 t9 k9 t10 r10 t11 k11 t12 k12 t13 k13 t14 k14 t15 k15 t16 k16 t17 k17 t18 k18 t19 k19 t20 k20 t21 k21 t22 k22 t23 k23 t24 k24 t25 k25 d0 d1 d2 d3 d4 d5 d6 d7 d8 d9 d10 f0 f1 f2 f3 f4 f5 f6 f7 f8 f9 f10 f11 f12 f13 f14 ta1 w1 le1 s1 f16 f17 f18 f19 f20 f21 f22 f23 f24 f25 ta2 w2 le2 s2 f27 f28 f29 f30 f31 f32 f33 f34 f35 f36 f37 f38 f39 f40 f41 f42 f43 f44 ta3 w3 le3 s3 ta4 w4 le4 s4 f47 f48
  replace f0 := shm_14 f0
  replace f1 := shm_177 f1
  replace f2 := shm_116 f2
  replace f3 := shm_12 f3
  replace f4 := shm_12 f4
  replace f5 := shm_110 f5
  replace f6 := shm_120 f6
  replace f7 := shm_193 f7
  replace f8 := shm_201 f8
  replace f9 := shm_1437 f9
  replace f10 := shm_1438 f10
  replace f11 := shm_1436 f11
  replace f12 := shm_1439 f12
  replace f13 := shm_1856 f13
  replace f14 := shm_1889 f14
  have s1 : (∀ b j, w_el ws b j = if b = v_ad (n_v vs 10) ∧ j = (v_iv (n_v vs 19)).toNat then v_iv (n_v vs 1) else w_el w1 b j) ∧ ∀ b k, w_fd ws b k = w_fd w1 b k := s1.2
  replace f16 := shm_12 f16
  replace f17 := shm_12 f17
  replace f18 := shm_193 f18
  replace f19 := shm_201 f19
  replace f20 := shm_1437 f20
  replace f21 := shm_1438 f21
  replace f22 := shm_1436 f22
  replace f23 := shm_1439 f23
  replace f24 := shm_1856 f24
  replace f25 := shm_1889 f25
  have s2 : (∀ b j, w_el w1 b j = if b = v_ad (n_v vs 10) ∧ j = (v_iv (n_v vs 13)).toNat then v_iv (n_v vs 16) else w_el w2 b j) ∧ ∀ b k, w_fd w1 b k = w_fd w2 b k := s2.2
  replace f27 := shm_12 f27
  replace f28 := shm_107 f28
  replace f29 := shm_12 f29
  replace f30 := shm_123 f30
  replace f31 := shm_124 f31
  replace f32 := shm_142 f32
  replace f33 := shm_2174 f33
  replace f34 := shm_201 f34
  replace f35 := shm_123 f35
  replace f36 := shm_124 f36
  replace f37 := shm_1009 f37
  replace f38 := shm_980 f38
  replace f39 := shm_1437 f39
  replace f40 := shm_1438 f40
  replace f41 := shm_1436 f41
  replace f42 := shm_1439 f42
  replace f43 := shm_1856 f43
  replace f44 := shm_1889 f44
  replace f47 := shm_40 f47
  replace f48 := shm_40 f48
  have ar_0_1_1 : w_ar w1 (n_v vs 0) 1 = w_ar ws (n_v vs 0) 1 := congrArg v_ad (s1.2 _ _).symm
  have ar_0_1_2 : w_ar w2 (n_v vs 0) 1 = w_ar ws (n_v vs 0) 1 := by rw [← ar_0_1_1]; show v_ad (w_fd w2 _ _) = v_ad (w_fd w1 _ _); rw [s2.2]
  have cr_0_1 := fdq_39 hD hth r0
  have ar_0_2_1 : w_ar w1 (n_v vs 0) 2 = w_ar ws (n_v vs 0) 2 := congrArg v_ad (s1.2 _ _).symm
  have ar_0_2_2 : w_ar w2 (n_v vs 0) 2 = w_ar ws (n_v vs 0) 2 := by rw [← ar_0_2_1]; show v_ad (w_fd w2 _ _) = v_ad (w_fd w1 _ _); rw [s2.2]
  have cr_0_2 := fdq_10 hD hth r0
  have ar_0_3_1 : w_ar w1 (n_v vs 0) 3 = w_ar ws (n_v vs 0) 3 := congrArg v_ad (s1.2 _ _).symm
  have ar_0_3_2 : w_ar w2 (n_v vs 0) 3 = w_ar ws (n_v vs 0) 3 := by rw [← ar_0_3_1]; show v_ad (w_fd w2 _ _) = v_ad (w_fd w1 _ _); rw [s2.2]
  have cr_0_3 := fdq_142 hD hth r0
  have ar_0_4_1 : w_ar w1 (n_v vs 0) 4 = w_ar ws (n_v vs 0) 4 := congrArg v_ad (s1.2 _ _).symm
  have ar_0_4_2 : w_ar w2 (n_v vs 0) 4 = w_ar ws (n_v vs 0) 4 := by rw [← ar_0_4_1]; show v_ad (w_fd w2 _ _) = v_ad (w_fd w1 _ _); rw [s2.2]
  have cr_0_4 := fdq_143 hD hth r0
  have fi_0_5_1 : w_fi w1 (n_v vs 0) 5 = w_fi ws (n_v vs 0) 5 := by show v_iv (w_fd w1 _ _) = v_iv (w_fd ws _ _); rw [s1.2]
  have fi_0_5_2 : w_fi w2 (n_v vs 0) 5 = w_fi ws (n_v vs 0) 5 := by rw [← fi_0_5_1]; show v_iv (w_fd w2 _ _) = v_iv (w_fd w1 _ _); rw [s2.2]
  have ad_10 : v_ad (n_v vs 10) = w_ar ws (n_v vs 0) 2 := congrArg v_ad f6
  have g1 : v_iv (n_v vs 24) = w_fi ws (n_v vs 0) 15 := congrArg v_iv f1
  have g2 : v_iv (n_v vs 23) = w_fi ws (n_v vs 0) 11 := congrArg v_iv f2
  have g5 : v_iv (n_v vs 11) = w_fi ws (n_v vs 0) 5 := congrArg v_iv f5
  simp only [ar_0_1_1, ad_10] at f23 f25 f28
  have h28 : v_iv (n_v vs 14) = w_ei w2 (w_ar ws (n_v vs 0) 2) (v_iv (n_v vs 13)) := f28
  simp only [ar_0_2_2, ar_0_1_2, ar_0_3_2, ar_0_4_2] at f30 f31 f33 f35 f36 f37 f38 f42 f44
  simp only [fi_0_5_2] at f30 f31 f35 f36
  have fe_0_5_1 : w_fi ws (n_v vs 0) 5 = w_fi w1 (n_v vs 0) 5 := congrArg v_iv (s1.2 _ _)
  have fe_0_8_1 : w_fi ws (n_v vs 0) 8 = w_fi w1 (n_v vs 0) 8 := congrArg v_iv (s1.2 _ _)
  have fe_0_10_1 : w_fi ws (n_v vs 0) 10 = w_fi w1 (n_v vs 0) 10 := congrArg v_iv (s1.2 _ _)
  have fe_0_11_1 : w_fi ws (n_v vs 0) 11 = w_fi w1 (n_v vs 0) 11 := congrArg v_iv (s1.2 _ _)
  have fe_0_12_1 : w_fi ws (n_v vs 0) 12 = w_fi w1 (n_v vs 0) 12 := congrArg v_iv (s1.2 _ _)
  have fe_0_13_1 : w_fi ws (n_v vs 0) 13 = w_fi w1 (n_v vs 0) 13 := congrArg v_iv (s1.2 _ _)
  have fe_0_14_1 : w_fi ws (n_v vs 0) 14 = w_fi w1 (n_v vs 0) 14 := congrArg v_iv (s1.2 _ _)
  have fe_0_15_1 : w_fi ws (n_v vs 0) 15 = w_fi w1 (n_v vs 0) 15 := congrArg v_iv (s1.2 _ _)
  have fe_0_5_2 : w_fi w1 (n_v vs 0) 5 = w_fi w2 (n_v vs 0) 5 := congrArg v_iv (s2.2 _ _)
  have fe_0_8_2 : w_fi w1 (n_v vs 0) 8 = w_fi w2 (n_v vs 0) 8 := congrArg v_iv (s2.2 _ _)
  have fe_0_10_2 : w_fi w1 (n_v vs 0) 10 = w_fi w2 (n_v vs 0) 10 := congrArg v_iv (s2.2 _ _)
  have fe_0_11_2 : w_fi w1 (n_v vs 0) 11 = w_fi w2 (n_v vs 0) 11 := congrArg v_iv (s2.2 _ _)
  have fe_0_12_2 : w_fi w1 (n_v vs 0) 12 = w_fi w2 (n_v vs 0) 12 := congrArg v_iv (s2.2 _ _)
  have fe_0_13_2 : w_fi w1 (n_v vs 0) 13 = w_fi w2 (n_v vs 0) 13 := congrArg v_iv (s2.2 _ _)
  have fe_0_14_2 : w_fi w1 (n_v vs 0) 14 = w_fi w2 (n_v vs 0) 14 := congrArg v_iv (s2.2 _ _)
  have fe_0_15_2 : w_fi w1 (n_v vs 0) 15 = w_fi w2 (n_v vs 0) 15 := congrArg v_iv (s2.2 _ _)
  have hE_0_1_1 : ∀ j : Int, w_ei ws (w_ar ws (n_v vs 0) 1) j = w_ei w1 (w_ar ws (n_v vs 0) 1) j := el_kp s1.1 r10 cr_0_1 (by decide)
  have hE_0_1_2 : ∀ j : Int, w_ei w1 (w_ar ws (n_v vs 0) 1) j = w_ei w2 (w_ar ws (n_v vs 0) 1) j := el_kp s2.1 r10 cr_0_1 (by decide)
  have hK_0_1 := elq_7 hD hth cr_0_1
  have hE_0_2_1 : ∀ j : Int, 0 ≤ j → (j = v_iv (n_v vs 19) → w_ei ws (w_ar ws (n_v vs 0) 2) j = v_iv (n_v vs 1)) ∧ (j ≠ v_iv (n_v vs 19) → w_ei ws (w_ar ws (n_v vs 0) 2) j = w_ei w1 (w_ar ws (n_v vs 0) 2) j) := fun j hj => ⟨fun h => by unfold w_ei; rw [s1.1, if_pos ⟨ad_10.symm, by rw [h]⟩], fun h => by unfold w_ei; rw [s1.1, if_neg (fun e => h (by have := e.2; omega))]⟩
  have hE_0_2_2 : ∀ j : Int, 0 ≤ j → (j = v_iv (n_v vs 13) → w_ei w1 (w_ar ws (n_v vs 0) 2) j = v_iv (n_v vs 16)) ∧ (j ≠ v_iv (n_v vs 13) → w_ei w1 (w_ar ws (n_v vs 0) 2) j = w_ei w2 (w_ar ws (n_v vs 0) 2) j) := fun j hj => ⟨fun h => by unfold w_ei; rw [s2.1, if_pos ⟨ad_10.symm, by rw [h]⟩], fun h => by unfold w_ei; rw [s2.1, if_neg (fun e => h (by have := e.2; omega))]⟩
  have hE_0_3_1 : ∀ j : Int, w_ei ws (w_ar ws (n_v vs 0) 3) j = w_ei w1 (w_ar ws (n_v vs 0) 3) j := el_kp s1.1 r10 cr_0_3 (by decide)
  have hE_0_3_2 : ∀ j : Int, w_ei w1 (w_ar ws (n_v vs 0) 3) j = w_ei w2 (w_ar ws (n_v vs 0) 3) j := el_kp s2.1 r10 cr_0_3 (by decide)
  have hK_0_3 := elq_80 hD hth cr_0_3
  have hE_0_4_1 : ∀ j : Int, w_ei ws (w_ar ws (n_v vs 0) 4) j = w_ei w1 (w_ar ws (n_v vs 0) 4) j := el_kp s1.1 r10 cr_0_4 (by decide)
  have hE_0_4_2 : ∀ j : Int, w_ei w1 (w_ar ws (n_v vs 0) 4) j = w_ei w2 (w_ar ws (n_v vs 0) 4) j := el_kp s2.1 r10 cr_0_4 (by decide)
  have hK_0_4 := elq_81 hD hth cr_0_4
  have kz_0_8 := fdq_34 hD hth r0
  have kz_0_10 := fdq_43 hD hth r0
  have kz_0_11 := fdq_237 hD hth r0
  have kz_0_12 := fdq_187 hD hth r0
  have kz_0_13 := fdq_238 hD hth r0
  have kz_0_14 := fdq_188 hD hth r0
  have kz_0_15 := fdq_239 hD hth r0
  first | have hJ0 : w_ei w2 (w_ar ws (n_v vs 0) 2) ((w_fi w2 (n_v vs 0) 5 + 2)) = w_ei w2 (w_ar ws (n_v vs 0) 2) ((w_fi ws (n_v vs 0) 5 + 2)) := congrArg _ (show ((w_fi w2 (n_v vs 0) 5 + 2) : Int) = (w_fi ws (n_v vs 0) 5 + 2) from by omega) | skip
  first | have hI1 := (hE_0_2_1 ((w_fi ws (n_v vs 0) 5 + 2)) (by omega)).2 (by omega) | have hI1 := (hE_0_2_1 ((w_fi ws (n_v vs 0) 5 + 2)) (by omega)).1 (by omega) | skip
  first | have hI2 := (hE_0_2_2 ((w_fi ws (n_v vs 0) 5 + 2)) (by omega)).2 (by omega) | have hI2 := (hE_0_2_2 ((w_fi ws (n_v vs 0) 5 + 2)) (by omega)).1 (by omega) | skip
  have hrf0 : 0 ≤ v_iv (n_v vs 25) ∧ v_iv (n_v vs 25) ≤ 8 := vc_Mo_groupItem_at_k3_7_r0 (v_iv (n_v vs 1)) (v_iv (n_v vs 8)) (v_iv (n_v vs 13)) (v_iv (n_v vs 16)) (v_iv (n_v vs 19)) (v_iv (n_v vs 23)) (v_iv (n_v vs 24)) (v_iv (n_v vs 25)) (w_fi ws (n_v vs 0) 15) (w_fi ws (n_v vs 0) 11) (w_fi ws (n_v vs 0) 5) (w_fi ws (n_v vs 0) 12) (w_ei ws (w_ar ws (n_v vs 0) 1)) (w_fi ws (n_v vs 0) 10) (w_fi ws (n_v vs 0) 13) (w_fi ws (n_v vs 0) 14) (w_fi w1 (n_v vs 0) 15) (w_fi w1 (n_v vs 0) 11) (w_fi w1 (n_v vs 0) 12) (w_ei w1 (w_ar ws (n_v vs 0) 1)) (w_fi w1 (n_v vs 0) 10) (w_fi w1 (n_v vs 0) 13) (w_fi w1 (n_v vs 0) 14) (w_ei w2 (w_ar ws (n_v vs 0) 2)) (w_ei w2 (w_ar ws (n_v vs 0) 1)) (w_fi w2 (n_v vs 0) 10) (w_fi w2 (n_v vs 0) 8) (w_fi w2 (n_v vs 0) 5) (w_ei w2 (w_ar ws (n_v vs 0) 3)) (w_ei w2 (w_ar ws (n_v vs 0) 4)) (w_fi w2 (n_v vs 0) 15) (w_fi w2 (n_v vs 0) 11) (w_fi w2 (n_v vs 0) 12) (w_fi w2 (n_v vs 0) 13) (w_fi w2 (n_v vs 0) 14) (w_fi w1 (n_v vs 0) 5) (w_fi ws (n_v vs 0) 8) (w_fi w1 (n_v vs 0) 8) (w_ei ws (w_ar ws (n_v vs 0) 2)) (w_ei w1 (w_ar ws (n_v vs 0) 2)) (w_ei ws (w_ar ws (n_v vs 0) 3)) (w_ei w1 (w_ar ws (n_v vs 0) 3)) (w_ei ws (w_ar ws (n_v vs 0) 4)) (w_ei w1 (w_ar ws (n_v vs 0) 4)) k1 k8 k13 k16 k19 k23 k24 k25 f0 g1 g2 f9 f40 f43 fe_0_5_1 fe_0_8_1 fe_0_10_1 fe_0_11_1 fe_0_12_1 fe_0_13_1 fe_0_14_1 fe_0_15_1 fe_0_5_2 fe_0_8_2 fe_0_10_2 fe_0_11_2 fe_0_12_2 fe_0_13_2 fe_0_14_2 fe_0_15_2 hE_0_1_1 hE_0_1_2 hE_0_2_1 hE_0_2_2 hE_0_3_1 hE_0_3_2 hE_0_4_1 hE_0_4_2 kz_0_8 kz_0_10 kz_0_11 kz_0_12 kz_0_13 kz_0_14 kz_0_15
  have rf25 : tv_ok ta (0, 0, 8, []) (n_v vs 25) := tv_in t25 (by first | omega | grind) (by first | omega | grind)
  refine ⟨List.forall_mem_cons.mpr ⟨rf25, (fun _ h => (by cases h))⟩, [], trivial, ?_, (fun _ h => (by cases h))⟩
  rw [List.append_nil]
  exact (fun _ h => (by cases h))
set_option maxHeartbeats 4000000 in
theorem vc_Mo_groupItem_at_k3_8_0 (x1 : Int) (x3 : Int) (x7 : Int) (x8 : Int) (x13 : Int) (x16 : Int) (x19 : Int) (x22 : Int) (x23 : Int) (x24 : Int) (x25 : Int) (from_0 : Int) (pos_0 : Int) (r_0 : Int) (kind_0 : Int) (tape_0 : Int → Int) (limit_0 : Int) (place_0 : Int) (value_0 : Int) (from_1 : Int) (pos_1 : Int) (kind_1 : Int) (tape_1 : Int → Int) (limit_1 : Int) (place_1 : Int) (value_1 : Int) (from_2 : Int) (pos_2 : Int) (kind_2 : Int) (tape_2 : Int → Int) (limit_2 : Int) (place_2 : Int) (value_2 : Int) (all_3 : Int → Int) (tape_3 : Int → Int) (limit_3 : Int) (fault_3 : Int) (r_3 : Int) (now_3 : Int → Int) (latest_3 : Int → Int) (from_3 : Int) (pos_3 : Int) (kind_3 : Int) (place_3 : Int) (value_3 : Int) (r_1 : Int) (fault_0 : Int) (fault_1 : Int) (r_2 : Int) (fault_2 : Int) (all_0 : Int → Int) (all_1 : Int → Int) (all_2 : Int → Int) (now_0 : Int → Int) (now_1 : Int → Int) (now_2 : Int → Int) (latest_0 : Int → Int) (latest_1 : Int → Int) (latest_2 : Int → Int) (k1 : 0 ≤ x1 ∧ x1 ≤ 7) (k3 : 0 ≤ x3 ∧ x3 ≤ 2000) (k7 : 0 ≤ x7 ∧ x7 ≤ 2000) (k8 : 1 ≤ x8 ∧ x8 ≤ 1) (k13 : 2 ≤ x13 ∧ x13 ≤ 66299) (k16 : 1 ≤ x16 ∧ x16 ≤ 8) (k19 : 531 ≤ x19 ∧ x19 ≤ 66835) (k22 : 523 ≤ x22 ∧ x22 ≤ 66827) (k23 : 0 ≤ x23 ∧ x23 ≤ 2000) (k24 : 0 ≤ x24 ∧ x24 ≤ 2000) (k25 : 0 ≤ x25 ∧ x25 ≤ 8) (g0 : x24 = from_0) (g1 : x23 = pos_0) (f5 : 1 * x3 + ((-1) * x7 + 0) ≤ 0) (f8 : 1 * x7 + ((-1) * from_0 + 0) ≤ 0) (f13 : x25 = x23 - x24) (f49 : ((kind_3 = 1) → (pos_3 ≤ (from_3 + 8))) ∧ ((kind_3 = 0) ∨ ((from_3 + 1) ≤ pos_3))) (f52 : (x8 = 1) → (kind_3 = 1)) (fe_0_5_1 : r_0 = r_1) (fe_0_8_1 : fault_0 = fault_1) (fe_0_10_1 : limit_0 = limit_1) (fe_0_11_1 : pos_0 = pos_1) (fe_0_12_1 : kind_0 = kind_1) (fe_0_13_1 : place_0 = place_1) (fe_0_14_1 : value_0 = value_1) (fe_0_15_1 : from_0 = from_1) (fe_0_5_2 : r_1 = r_2) (fe_0_8_2 : fault_1 = fault_2) (fe_0_10_2 : limit_1 = limit_2) (fe_0_11_2 : pos_1 = pos_2) (fe_0_12_2 : kind_1 = kind_2) (fe_0_13_2 : place_1 = place_2) (fe_0_14_2 : value_1 = value_2) (fe_0_15_2 : from_1 = from_2) (fe_0_5_3 : r_2 = r_3) (fe_0_8_3 : fault_2 = fault_3) (fe_0_10_3 : limit_2 = limit_3) (fe_0_11_3 : pos_2 = pos_3) (fe_0_12_3 : kind_2 = kind_3) (fe_0_13_3 : place_2 = place_3) (fe_0_14_3 : value_2 = value_3) (fe_0_15_3 : from_2 = from_3) (hE_0_1_1 : ∀ j : Int, tape_0 j = tape_1 j) (hE_0_1_2 : ∀ j : Int, tape_1 j = tape_2 j) (hE_0_1_3 : ∀ j : Int, tape_2 j = tape_3 j) (hE_0_2_1 : ∀ j : Int, 0 ≤ j → (j = x22 → all_0 j = x25) ∧ (j ≠ x22 → all_0 j = all_1 j)) (hE_0_2_2 : ∀ j : Int, 0 ≤ j → (j = x19 → all_1 j = x1) ∧ (j ≠ x19 → all_1 j = all_2 j)) (hE_0_2_3 : ∀ j : Int, 0 ≤ j → (j = x13 → all_2 j = x16) ∧ (j ≠ x13 → all_2 j = all_3 j)) (hE_0_3_1 : ∀ j : Int, now_0 j = now_1 j) (hE_0_3_2 : ∀ j : Int, now_1 j = now_2 j) (hE_0_3_3 : ∀ j : Int, now_2 j = now_3 j) (hE_0_4_1 : ∀ j : Int, latest_0 j = latest_1 j) (hE_0_4_2 : ∀ j : Int, latest_1 j = latest_2 j) (hE_0_4_3 : ∀ j : Int, latest_2 j = latest_3 j) (kz_0_8 : 0 ≤ fault_0 ∧ fault_0 ≤ 5) (kz_0_10 : 0 ≤ limit_0 ∧ limit_0 ≤ 2000) (kz_0_11 : 0 ≤ pos_0 ∧ pos_0 ≤ 2000) (kz_0_12 : 0 ≤ kind_0 ∧ kind_0 ≤ 4) (kz_0_13 : 0 ≤ place_0 ∧ place_0 ≤ 2000) (kz_0_14 : (-49) ≤ value_0 ∧ value_0 ≤ 1048575) (kz_0_15 : 0 ≤ from_0 ∧ from_0 ≤ 2000) : 1 * x3 + ((-1) * pos_0 + 0) ≤ (-1) := by
  subst fe_0_5_1
  subst fe_0_8_1
  subst fe_0_10_1
  subst fe_0_11_1
  subst fe_0_12_1
  subst fe_0_13_1
  subst fe_0_14_1
  subst fe_0_15_1
  subst fe_0_5_2
  subst fe_0_8_2
  subst fe_0_10_2
  subst fe_0_11_2
  subst fe_0_12_2
  subst fe_0_13_2
  subst fe_0_14_2
  subst fe_0_15_2
  subst fe_0_5_3
  subst fe_0_8_3
  subst fe_0_10_3
  subst fe_0_11_3
  subst fe_0_12_3
  subst fe_0_13_3
  subst fe_0_14_3
  subst fe_0_15_3
  have e_hE_0_1_1 := funext hE_0_1_1; subst e_hE_0_1_1
  have e_hE_0_1_2 := funext hE_0_1_2; subst e_hE_0_1_2
  have e_hE_0_1_3 := funext hE_0_1_3; subst e_hE_0_1_3
  have e_hE_0_3_1 := funext hE_0_3_1; subst e_hE_0_3_1
  have e_hE_0_3_2 := funext hE_0_3_2; subst e_hE_0_3_2
  have e_hE_0_3_3 := funext hE_0_3_3; subst e_hE_0_3_3
  have e_hE_0_4_1 := funext hE_0_4_1; subst e_hE_0_4_1
  have e_hE_0_4_2 := funext hE_0_4_2; subst e_hE_0_4_2
  have e_hE_0_4_3 := funext hE_0_4_3; subst e_hE_0_4_3
  first
    | omega
    | (have q1 := (hE_0_2_1 (r_0 + 2) (by omega)).2 (by omega)
       have q2 := (hE_0_2_2 (r_0 + 2) (by omega)).2 (by omega)
       omega)
    | (have q1 := (hE_0_2_1 (r_0 + 1) (by omega)).2 (by omega)
       have q2 := (hE_0_2_2 (r_0 + 1) (by omega)).2 (by omega)
       omega)
    | (have q1 := (hE_0_2_1 (r_0 + 2) (by omega)).2 (by omega)
       omega)
    | (have q1 := (hE_0_2_1 (r_0 + 1) (by omega)).2 (by omega)
       omega)
    | (have q1 := (hE_0_2_1 (r_0 + 2) (by omega)).2 (by omega)
       have q2 := (hE_0_2_2 (r_0 + 2) (by omega)).2 (by omega)
       have q3 := (hE_0_2_3 (r_0 + 2) (by omega)).1 (by omega)
       omega)
    | (have q1 := (hE_0_2_1 (r_0 + 2) (by omega)).2 (by omega)
       have q2 := (hE_0_2_2 (r_0 + 2) (by omega)).2 (by omega)
       have q3 := (hE_0_2_3 (r_0 + 2) (by omega)).2 (by omega)
       omega)
    | (have q1 := (hE_0_2_1 (r_0 + 2) (by omega)).2 (by omega)
       have q2 := (hE_0_2_2 (r_0 + 2) (by omega)).2 (by omega)
       have q3 := (hE_0_2_3 (r_0 + 2) (by omega)).1 (by omega)
       have q4 : x13 = r_0 + 2 := by omega
       simp only [q4] at *
       omega)
set_option maxHeartbeats 4000000 in
theorem vc_Mo_groupItem_at_k3_8_1 (x1 : Int) (x8 : Int) (x13 : Int) (x16 : Int) (x19 : Int) (x22 : Int) (x25 : Int) (from_0 : Int) (pos_0 : Int) (r_0 : Int) (kind_0 : Int) (tape_0 : Int → Int) (limit_0 : Int) (place_0 : Int) (value_0 : Int) (from_1 : Int) (pos_1 : Int) (kind_1 : Int) (tape_1 : Int → Int) (limit_1 : Int) (place_1 : Int) (value_1 : Int) (from_2 : Int) (pos_2 : Int) (kind_2 : Int) (tape_2 : Int → Int) (limit_2 : Int) (place_2 : Int) (value_2 : Int) (all_3 : Int → Int) (tape_3 : Int → Int) (limit_3 : Int) (fault_3 : Int) (r_3 : Int) (now_3 : Int → Int) (latest_3 : Int → Int) (from_3 : Int) (pos_3 : Int) (kind_3 : Int) (place_3 : Int) (value_3 : Int) (r_1 : Int) (fault_0 : Int) (fault_1 : Int) (r_2 : Int) (fault_2 : Int) (all_0 : Int → Int) (all_1 : Int → Int) (all_2 : Int → Int) (now_0 : Int → Int) (now_1 : Int → Int) (now_2 : Int → Int) (latest_0 : Int → Int) (latest_1 : Int → Int) (latest_2 : Int → Int) (k1 : 0 ≤ x1 ∧ x1 ≤ 7) (k8 : 1 ≤ x8 ∧ x8 ≤ 1) (k13 : 2 ≤ x13 ∧ x13 ≤ 66299) (k16 : 1 ≤ x16 ∧ x16 ≤ 8) (k19 : 531 ≤ x19 ∧ x19 ≤ 66835) (k22 : 523 ≤ x22 ∧ x22 ≤ 66827) (k25 : 0 ≤ x25 ∧ x25 ≤ 8) (f49 : ((kind_3 = 1) → (pos_3 ≤ (from_3 + 8))) ∧ ((kind_3 = 0) ∨ ((from_3 + 1) ≤ pos_3))) (f52 : (x8 = 1) → (kind_3 = 1)) (fe_0_5_1 : r_0 = r_1) (fe_0_8_1 : fault_0 = fault_1) (fe_0_10_1 : limit_0 = limit_1) (fe_0_11_1 : pos_0 = pos_1) (fe_0_12_1 : kind_0 = kind_1) (fe_0_13_1 : place_0 = place_1) (fe_0_14_1 : value_0 = value_1) (fe_0_15_1 : from_0 = from_1) (fe_0_5_2 : r_1 = r_2) (fe_0_8_2 : fault_1 = fault_2) (fe_0_10_2 : limit_1 = limit_2) (fe_0_11_2 : pos_1 = pos_2) (fe_0_12_2 : kind_1 = kind_2) (fe_0_13_2 : place_1 = place_2) (fe_0_14_2 : value_1 = value_2) (fe_0_15_2 : from_1 = from_2) (fe_0_5_3 : r_2 = r_3) (fe_0_8_3 : fault_2 = fault_3) (fe_0_10_3 : limit_2 = limit_3) (fe_0_11_3 : pos_2 = pos_3) (fe_0_12_3 : kind_2 = kind_3) (fe_0_13_3 : place_2 = place_3) (fe_0_14_3 : value_2 = value_3) (fe_0_15_3 : from_2 = from_3) (hE_0_1_1 : ∀ j : Int, tape_0 j = tape_1 j) (hE_0_1_2 : ∀ j : Int, tape_1 j = tape_2 j) (hE_0_1_3 : ∀ j : Int, tape_2 j = tape_3 j) (hE_0_2_1 : ∀ j : Int, 0 ≤ j → (j = x22 → all_0 j = x25) ∧ (j ≠ x22 → all_0 j = all_1 j)) (hE_0_2_2 : ∀ j : Int, 0 ≤ j → (j = x19 → all_1 j = x1) ∧ (j ≠ x19 → all_1 j = all_2 j)) (hE_0_2_3 : ∀ j : Int, 0 ≤ j → (j = x13 → all_2 j = x16) ∧ (j ≠ x13 → all_2 j = all_3 j)) (hE_0_3_1 : ∀ j : Int, now_0 j = now_1 j) (hE_0_3_2 : ∀ j : Int, now_1 j = now_2 j) (hE_0_3_3 : ∀ j : Int, now_2 j = now_3 j) (hE_0_4_1 : ∀ j : Int, latest_0 j = latest_1 j) (hE_0_4_2 : ∀ j : Int, latest_1 j = latest_2 j) (hE_0_4_3 : ∀ j : Int, latest_2 j = latest_3 j) (kz_0_8 : 0 ≤ fault_0 ∧ fault_0 ≤ 5) (kz_0_10 : 0 ≤ limit_0 ∧ limit_0 ≤ 2000) (kz_0_11 : 0 ≤ pos_0 ∧ pos_0 ≤ 2000) (kz_0_12 : 0 ≤ kind_0 ∧ kind_0 ≤ 4) (kz_0_13 : 0 ≤ place_0 ∧ place_0 ≤ 2000) (kz_0_14 : (-49) ≤ value_0 ∧ value_0 ≤ 1048575) (kz_0_15 : 0 ≤ from_0 ∧ from_0 ≤ 2000) : kind_0 = 1 := by
  subst fe_0_5_1
  subst fe_0_8_1
  subst fe_0_10_1
  subst fe_0_11_1
  subst fe_0_12_1
  subst fe_0_13_1
  subst fe_0_14_1
  subst fe_0_15_1
  subst fe_0_5_2
  subst fe_0_8_2
  subst fe_0_10_2
  subst fe_0_11_2
  subst fe_0_12_2
  subst fe_0_13_2
  subst fe_0_14_2
  subst fe_0_15_2
  subst fe_0_5_3
  subst fe_0_8_3
  subst fe_0_10_3
  subst fe_0_11_3
  subst fe_0_12_3
  subst fe_0_13_3
  subst fe_0_14_3
  subst fe_0_15_3
  have e_hE_0_1_1 := funext hE_0_1_1; subst e_hE_0_1_1
  have e_hE_0_1_2 := funext hE_0_1_2; subst e_hE_0_1_2
  have e_hE_0_1_3 := funext hE_0_1_3; subst e_hE_0_1_3
  have e_hE_0_3_1 := funext hE_0_3_1; subst e_hE_0_3_1
  have e_hE_0_3_2 := funext hE_0_3_2; subst e_hE_0_3_2
  have e_hE_0_3_3 := funext hE_0_3_3; subst e_hE_0_3_3
  have e_hE_0_4_1 := funext hE_0_4_1; subst e_hE_0_4_1
  have e_hE_0_4_2 := funext hE_0_4_2; subst e_hE_0_4_2
  have e_hE_0_4_3 := funext hE_0_4_3; subst e_hE_0_4_3
  first
    | omega
    | (have q1 := (hE_0_2_1 (r_0 + 2) (by omega)).2 (by omega)
       have q2 := (hE_0_2_2 (r_0 + 2) (by omega)).2 (by omega)
       omega)
    | (have q1 := (hE_0_2_1 (r_0 + 1) (by omega)).2 (by omega)
       have q2 := (hE_0_2_2 (r_0 + 1) (by omega)).2 (by omega)
       omega)
    | (have q1 := (hE_0_2_1 (r_0 + 2) (by omega)).2 (by omega)
       omega)
    | (have q1 := (hE_0_2_1 (r_0 + 1) (by omega)).2 (by omega)
       omega)
    | (have q1 := (hE_0_2_1 (r_0 + 2) (by omega)).2 (by omega)
       have q2 := (hE_0_2_2 (r_0 + 2) (by omega)).2 (by omega)
       have q3 := (hE_0_2_3 (r_0 + 2) (by omega)).1 (by omega)
       omega)
    | (have q1 := (hE_0_2_1 (r_0 + 2) (by omega)).2 (by omega)
       have q2 := (hE_0_2_2 (r_0 + 2) (by omega)).2 (by omega)
       have q3 := (hE_0_2_3 (r_0 + 2) (by omega)).2 (by omega)
       omega)
    | (have q1 := (hE_0_2_1 (r_0 + 2) (by omega)).2 (by omega)
       have q2 := (hE_0_2_2 (r_0 + 2) (by omega)).2 (by omega)
       have q3 := (hE_0_2_3 (r_0 + 2) (by omega)).1 (by omega)
       have q4 : x13 = r_0 + 2 := by omega
       simp only [q4] at *
       omega)
set_option maxHeartbeats 4000000 in
theorem vc_Mo_groupItem_at_k3_8_2 (x1 : Int) (x4 : Int) (x9 : Int) (x11 : Int) (x13 : Int) (x14 : Int) (x16 : Int) (x18 : Int) (x19 : Int) (x21 : Int) (x22 : Int) (x25 : Int) (from_0 : Int) (pos_0 : Int) (r_0 : Int) (kind_0 : Int) (tape_0 : Int → Int) (limit_0 : Int) (place_0 : Int) (value_0 : Int) (from_1 : Int) (pos_1 : Int) (kind_1 : Int) (tape_1 : Int → Int) (limit_1 : Int) (place_1 : Int) (value_1 : Int) (from_2 : Int) (pos_2 : Int) (kind_2 : Int) (tape_2 : Int → Int) (limit_2 : Int) (place_2 : Int) (value_2 : Int) (all_3 : Int → Int) (tape_3 : Int → Int) (limit_3 : Int) (fault_3 : Int) (r_3 : Int) (now_3 : Int → Int) (latest_3 : Int → Int) (from_3 : Int) (pos_3 : Int) (kind_3 : Int) (place_3 : Int) (value_3 : Int) (r_1 : Int) (fault_0 : Int) (fault_1 : Int) (r_2 : Int) (fault_2 : Int) (all_0 : Int → Int) (all_1 : Int → Int) (all_2 : Int → Int) (now_0 : Int → Int) (now_1 : Int → Int) (now_2 : Int → Int) (latest_0 : Int → Int) (latest_1 : Int → Int) (latest_2 : Int → Int) (k1 : 0 ≤ x1 ∧ x1 ≤ 7) (k4 : 0 ≤ x4 ∧ x4 ≤ 7) (k9 : 0 ≤ x9 ∧ x9 ≤ 7) (k11 : 0 ≤ x11 ∧ x11 ≤ 66297) (k13 : 2 ≤ x13 ∧ x13 ≤ 66299) (k14 : 0 ≤ x14 ∧ x14 ≤ 8) (k16 : 1 ≤ x16 ∧ x16 ≤ 8) (k18 : 531 ≤ x18 ∧ x18 ≤ 66828) (k19 : 531 ≤ x19 ∧ x19 ≤ 66835) (k21 : 523 ≤ x21 ∧ x21 ≤ 66820) (k22 : 523 ≤ x22 ∧ x22 ≤ 66827) (k25 : 0 ≤ x25 ∧ x25 ≤ 8) (d4 : x11 + 523 ≤ x21 ∧ x21 ≤ x11 + 523) (d8 : x11 + 531 ≤ x18 ∧ x18 ≤ x11 + 531) (d9 : x14 + 1 ≤ x16 ∧ x16 ≤ x14 + 1) (d10 : x11 + 2 ≤ x13 ∧ x13 ≤ x11 + 2) (g2 : x11 = r_0) (f14 : x22 = x21 + x9) (f25 : x19 = x18 + x9) (h37 : x14 = all_3 (x13)) (f39 : 1 * x9 + ((-1) * all_3 (r_0 + 2) + 0) ≤ 0) (f40 : (-1) * x9 + (1 * all_3 (r_0 + 2) + 0) ≤ 0) (f44 : 1 * x4 + ((-1) * all_3 (r_0 + 2) + 0) ≤ 0) (f45 : (-1) * x4 + (1 * all_3 (r_0 + 2) + 0) ≤ 0) (fe_0_5_1 : r_0 = r_1) (fe_0_8_1 : fault_0 = fault_1) (fe_0_10_1 : limit_0 = limit_1) (fe_0_11_1 : pos_0 = pos_1) (fe_0_12_1 : kind_0 = kind_1) (fe_0_13_1 : place_0 = place_1) (fe_0_14_1 : value_0 = value_1) (fe_0_15_1 : from_0 = from_1) (fe_0_5_2 : r_1 = r_2) (fe_0_8_2 : fault_1 = fault_2) (fe_0_10_2 : limit_1 = limit_2) (fe_0_11_2 : pos_1 = pos_2) (fe_0_12_2 : kind_1 = kind_2) (fe_0_13_2 : place_1 = place_2) (fe_0_14_2 : value_1 = value_2) (fe_0_15_2 : from_1 = from_2) (fe_0_5_3 : r_2 = r_3) (fe_0_8_3 : fault_2 = fault_3) (fe_0_10_3 : limit_2 = limit_3) (fe_0_11_3 : pos_2 = pos_3) (fe_0_12_3 : kind_2 = kind_3) (fe_0_13_3 : place_2 = place_3) (fe_0_14_3 : value_2 = value_3) (fe_0_15_3 : from_2 = from_3) (hE_0_1_1 : ∀ j : Int, tape_0 j = tape_1 j) (hE_0_1_2 : ∀ j : Int, tape_1 j = tape_2 j) (hE_0_1_3 : ∀ j : Int, tape_2 j = tape_3 j) (hE_0_2_1 : ∀ j : Int, 0 ≤ j → (j = x22 → all_0 j = x25) ∧ (j ≠ x22 → all_0 j = all_1 j)) (hE_0_2_2 : ∀ j : Int, 0 ≤ j → (j = x19 → all_1 j = x1) ∧ (j ≠ x19 → all_1 j = all_2 j)) (hE_0_2_3 : ∀ j : Int, 0 ≤ j → (j = x13 → all_2 j = x16) ∧ (j ≠ x13 → all_2 j = all_3 j)) (hE_0_3_1 : ∀ j : Int, now_0 j = now_1 j) (hE_0_3_2 : ∀ j : Int, now_1 j = now_2 j) (hE_0_3_3 : ∀ j : Int, now_2 j = now_3 j) (hE_0_4_1 : ∀ j : Int, latest_0 j = latest_1 j) (hE_0_4_2 : ∀ j : Int, latest_1 j = latest_2 j) (hE_0_4_3 : ∀ j : Int, latest_2 j = latest_3 j) (kz_0_8 : 0 ≤ fault_0 ∧ fault_0 ≤ 5) (kz_0_10 : 0 ≤ limit_0 ∧ limit_0 ≤ 2000) (kz_0_11 : 0 ≤ pos_0 ∧ pos_0 ≤ 2000) (kz_0_12 : 0 ≤ kind_0 ∧ kind_0 ≤ 4) (kz_0_13 : 0 ≤ place_0 ∧ place_0 ≤ 2000) (kz_0_14 : (-49) ≤ value_0 ∧ value_0 ≤ 1048575) (kz_0_15 : 0 ≤ from_0 ∧ from_0 ≤ 2000) : (x9 + 1) ≤ all_0 ((r_0 + 2)) := by
  subst fe_0_5_1
  subst fe_0_8_1
  subst fe_0_10_1
  subst fe_0_11_1
  subst fe_0_12_1
  subst fe_0_13_1
  subst fe_0_14_1
  subst fe_0_15_1
  subst fe_0_5_2
  subst fe_0_8_2
  subst fe_0_10_2
  subst fe_0_11_2
  subst fe_0_12_2
  subst fe_0_13_2
  subst fe_0_14_2
  subst fe_0_15_2
  subst fe_0_5_3
  subst fe_0_8_3
  subst fe_0_10_3
  subst fe_0_11_3
  subst fe_0_12_3
  subst fe_0_13_3
  subst fe_0_14_3
  subst fe_0_15_3
  have e_hE_0_1_1 := funext hE_0_1_1; subst e_hE_0_1_1
  have e_hE_0_1_2 := funext hE_0_1_2; subst e_hE_0_1_2
  have e_hE_0_1_3 := funext hE_0_1_3; subst e_hE_0_1_3
  have e_hE_0_3_1 := funext hE_0_3_1; subst e_hE_0_3_1
  have e_hE_0_3_2 := funext hE_0_3_2; subst e_hE_0_3_2
  have e_hE_0_3_3 := funext hE_0_3_3; subst e_hE_0_3_3
  have e_hE_0_4_1 := funext hE_0_4_1; subst e_hE_0_4_1
  have e_hE_0_4_2 := funext hE_0_4_2; subst e_hE_0_4_2
  have e_hE_0_4_3 := funext hE_0_4_3; subst e_hE_0_4_3
  first
    | omega
    | (have q1 := (hE_0_2_1 (r_0 + 2) (by omega)).2 (by omega)
       have q2 := (hE_0_2_2 (r_0 + 2) (by omega)).2 (by omega)
       omega)
    | (have q1 := (hE_0_2_1 (r_0 + 1) (by omega)).2 (by omega)
       have q2 := (hE_0_2_2 (r_0 + 1) (by omega)).2 (by omega)
       omega)
    | (have q1 := (hE_0_2_1 (r_0 + 2) (by omega)).2 (by omega)
       omega)
    | (have q1 := (hE_0_2_1 (r_0 + 1) (by omega)).2 (by omega)
       omega)
    | (have q1 := (hE_0_2_1 (r_0 + 2) (by omega)).2 (by omega)
       have q2 := (hE_0_2_2 (r_0 + 2) (by omega)).2 (by omega)
       have q3 := (hE_0_2_3 (r_0 + 2) (by omega)).1 (by omega)
       omega)
    | (have q1 := (hE_0_2_1 (r_0 + 2) (by omega)).2 (by omega)
       have q2 := (hE_0_2_2 (r_0 + 2) (by omega)).2 (by omega)
       have q3 := (hE_0_2_3 (r_0 + 2) (by omega)).2 (by omega)
       omega)
    | (have q1 := (hE_0_2_1 (r_0 + 2) (by omega)).2 (by omega)
       have q2 := (hE_0_2_2 (r_0 + 2) (by omega)).2 (by omega)
       have q3 := (hE_0_2_3 (r_0 + 2) (by omega)).1 (by omega)
       have q4 : x13 = r_0 + 2 := by omega
       simp only [q4] at *
       omega)
set_option maxHeartbeats 4000000 in
theorem vc_Mo_groupItem_at_k3_8_3 (x1 : Int) (x4 : Int) (x9 : Int) (x11 : Int) (x13 : Int) (x16 : Int) (x18 : Int) (x19 : Int) (x21 : Int) (x22 : Int) (x25 : Int) (from_0 : Int) (pos_0 : Int) (r_0 : Int) (kind_0 : Int) (tape_0 : Int → Int) (limit_0 : Int) (place_0 : Int) (value_0 : Int) (from_1 : Int) (pos_1 : Int) (kind_1 : Int) (tape_1 : Int → Int) (limit_1 : Int) (place_1 : Int) (value_1 : Int) (from_2 : Int) (pos_2 : Int) (kind_2 : Int) (tape_2 : Int → Int) (limit_2 : Int) (place_2 : Int) (value_2 : Int) (all_3 : Int → Int) (tape_3 : Int → Int) (limit_3 : Int) (fault_3 : Int) (r_3 : Int) (now_3 : Int → Int) (latest_3 : Int → Int) (from_3 : Int) (pos_3 : Int) (kind_3 : Int) (place_3 : Int) (value_3 : Int) (r_1 : Int) (fault_0 : Int) (fault_1 : Int) (r_2 : Int) (fault_2 : Int) (all_0 : Int → Int) (all_1 : Int → Int) (all_2 : Int → Int) (now_0 : Int → Int) (now_1 : Int → Int) (now_2 : Int → Int) (latest_0 : Int → Int) (latest_1 : Int → Int) (latest_2 : Int → Int) (k1 : 0 ≤ x1 ∧ x1 ≤ 7) (k4 : 0 ≤ x4 ∧ x4 ≤ 7) (k9 : 0 ≤ x9 ∧ x9 ≤ 7) (k11 : 0 ≤ x11 ∧ x11 ≤ 66297) (k13 : 2 ≤ x13 ∧ x13 ≤ 66299) (k16 : 1 ≤ x16 ∧ x16 ≤ 8) (k18 : 531 ≤ x18 ∧ x18 ≤ 66828) (k19 : 531 ≤ x19 ∧ x19 ≤ 66835) (k21 : 523 ≤ x21 ∧ x21 ≤ 66820) (k22 : 523 ≤ x22 ∧ x22 ≤ 66827) (k25 : 0 ≤ x25 ∧ x25 ≤ 8) (d4 : x11 + 523 ≤ x21 ∧ x21 ≤ x11 + 523) (d8 : x11 + 531 ≤ x18 ∧ x18 ≤ x11 + 531) (d10 : x11 + 2 ≤ x13 ∧ x13 ≤ x11 + 2) (g2 : x11 = r_0) (f14 : x22 = x21 + x9) (f25 : x19 = x18 + x9) (f39 : 1 * x9 + ((-1) * all_3 (r_0 + 2) + 0) ≤ 0) (f40 : (-1) * x9 + (1 * all_3 (r_0 + 2) + 0) ≤ 0) (f44 : 1 * x4 + ((-1) * all_3 (r_0 + 2) + 0) ≤ 0) (f45 : (-1) * x4 + (1 * all_3 (r_0 + 2) + 0) ≤ 0) (f47 : RWS (r_3) (all_3) (now_3) (latest_3)) (fe_0_5_1 : r_0 = r_1) (fe_0_8_1 : fault_0 = fault_1) (fe_0_10_1 : limit_0 = limit_1) (fe_0_11_1 : pos_0 = pos_1) (fe_0_12_1 : kind_0 = kind_1) (fe_0_13_1 : place_0 = place_1) (fe_0_14_1 : value_0 = value_1) (fe_0_15_1 : from_0 = from_1) (fe_0_5_2 : r_1 = r_2) (fe_0_8_2 : fault_1 = fault_2) (fe_0_10_2 : limit_1 = limit_2) (fe_0_11_2 : pos_1 = pos_2) (fe_0_12_2 : kind_1 = kind_2) (fe_0_13_2 : place_1 = place_2) (fe_0_14_2 : value_1 = value_2) (fe_0_15_2 : from_1 = from_2) (fe_0_5_3 : r_2 = r_3) (fe_0_8_3 : fault_2 = fault_3) (fe_0_10_3 : limit_2 = limit_3) (fe_0_11_3 : pos_2 = pos_3) (fe_0_12_3 : kind_2 = kind_3) (fe_0_13_3 : place_2 = place_3) (fe_0_14_3 : value_2 = value_3) (fe_0_15_3 : from_2 = from_3) (hE_0_1_1 : ∀ j : Int, tape_0 j = tape_1 j) (hE_0_1_2 : ∀ j : Int, tape_1 j = tape_2 j) (hE_0_1_3 : ∀ j : Int, tape_2 j = tape_3 j) (hE_0_2_1 : ∀ j : Int, 0 ≤ j → (j = x22 → all_0 j = x25) ∧ (j ≠ x22 → all_0 j = all_1 j)) (hE_0_2_2 : ∀ j : Int, 0 ≤ j → (j = x19 → all_1 j = x1) ∧ (j ≠ x19 → all_1 j = all_2 j)) (hE_0_2_3 : ∀ j : Int, 0 ≤ j → (j = x13 → all_2 j = x16) ∧ (j ≠ x13 → all_2 j = all_3 j)) (hE_0_3_1 : ∀ j : Int, now_0 j = now_1 j) (hE_0_3_2 : ∀ j : Int, now_1 j = now_2 j) (hE_0_3_3 : ∀ j : Int, now_2 j = now_3 j) (hE_0_4_1 : ∀ j : Int, latest_0 j = latest_1 j) (hE_0_4_2 : ∀ j : Int, latest_1 j = latest_2 j) (hE_0_4_3 : ∀ j : Int, latest_2 j = latest_3 j) (kz_0_8 : 0 ≤ fault_0 ∧ fault_0 ≤ 5) (kz_0_10 : 0 ≤ limit_0 ∧ limit_0 ≤ 2000) (kz_0_11 : 0 ≤ pos_0 ∧ pos_0 ≤ 2000) (kz_0_12 : 0 ≤ kind_0 ∧ kind_0 ≤ 4) (kz_0_13 : 0 ≤ place_0 ∧ place_0 ≤ 2000) (kz_0_14 : (-49) ≤ value_0 ∧ value_0 ≤ 1048575) (kz_0_15 : 0 ≤ from_0 ∧ from_0 ≤ 2000) : RWS (r_0) (all_0) (now_0) (latest_0) := by
  subst fe_0_5_1
  subst fe_0_8_1
  subst fe_0_10_1
  subst fe_0_11_1
  subst fe_0_12_1
  subst fe_0_13_1
  subst fe_0_14_1
  subst fe_0_15_1
  subst fe_0_5_2
  subst fe_0_8_2
  subst fe_0_10_2
  subst fe_0_11_2
  subst fe_0_12_2
  subst fe_0_13_2
  subst fe_0_14_2
  subst fe_0_15_2
  subst fe_0_5_3
  subst fe_0_8_3
  subst fe_0_10_3
  subst fe_0_11_3
  subst fe_0_12_3
  subst fe_0_13_3
  subst fe_0_14_3
  subst fe_0_15_3
  have e_hE_0_1_1 := funext hE_0_1_1; subst e_hE_0_1_1
  have e_hE_0_1_2 := funext hE_0_1_2; subst e_hE_0_1_2
  have e_hE_0_1_3 := funext hE_0_1_3; subst e_hE_0_1_3
  have e_hE_0_3_1 := funext hE_0_3_1; subst e_hE_0_3_1
  have e_hE_0_3_2 := funext hE_0_3_2; subst e_hE_0_3_2
  have e_hE_0_3_3 := funext hE_0_3_3; subst e_hE_0_3_3
  have e_hE_0_4_1 := funext hE_0_4_1; subst e_hE_0_4_1
  have e_hE_0_4_2 := funext hE_0_4_2; subst e_hE_0_4_2
  have e_hE_0_4_3 := funext hE_0_4_3; subst e_hE_0_4_3
  first
    | (have hr := rws_r ‹RWS _ _ _ _›
       exact rws_off (rws_off (rws_off ‹RWS _ _ _ _› (by assumption) (by omega)) (by assumption) (by omega)) (by assumption) (by omega))
    | (have hr := rws_r ‹RWS _ _ _ _›
       exact rws_off ‹RWS _ _ _ _› (by assumption) (by omega))
set_option maxHeartbeats 4000000 in
theorem vc_Mo_groupItem_at_k3_8_4 (x1 : Int) (x2 : Int) (x7 : Int) (x8 : Int) (x9 : Int) (x11 : Int) (x13 : Int) (x14 : Int) (x16 : Int) (x18 : Int) (x19 : Int) (x21 : Int) (x22 : Int) (x23 : Int) (x24 : Int) (x25 : Int) (x26 : Int) (from_0 : Int) (pos_0 : Int) (r_0 : Int) (kind_0 : Int) (tape_0 : Int → Int) (limit_0 : Int) (place_0 : Int) (value_0 : Int) (from_1 : Int) (pos_1 : Int) (kind_1 : Int) (tape_1 : Int → Int) (limit_1 : Int) (place_1 : Int) (value_1 : Int) (from_2 : Int) (pos_2 : Int) (kind_2 : Int) (tape_2 : Int → Int) (limit_2 : Int) (place_2 : Int) (value_2 : Int) (all_3 : Int → Int) (tape_3 : Int → Int) (limit_3 : Int) (fault_3 : Int) (r_3 : Int) (now_3 : Int → Int) (latest_3 : Int → Int) (from_3 : Int) (pos_3 : Int) (kind_3 : Int) (place_3 : Int) (value_3 : Int) (r_1 : Int) (fault_0 : Int) (fault_1 : Int) (r_2 : Int) (fault_2 : Int) (all_0 : Int → Int) (all_1 : Int → Int) (all_2 : Int → Int) (now_0 : Int → Int) (now_1 : Int → Int) (now_2 : Int → Int) (latest_0 : Int → Int) (latest_1 : Int → Int) (latest_2 : Int → Int) (k1 : 0 ≤ x1 ∧ x1 ≤ 7) (k2 : 3 ≤ x2 ∧ x2 ≤ 3) (k7 : 0 ≤ x7 ∧ x7 ≤ 2000) (k8 : 1 ≤ x8 ∧ x8 ≤ 1) (k9 : 0 ≤ x9 ∧ x9 ≤ 7) (k11 : 0 ≤ x11 ∧ x11 ≤ 66297) (k13 : 2 ≤ x13 ∧ x13 ≤ 66299) (k14 : 0 ≤ x14 ∧ x14 ≤ 8) (k16 : 1 ≤ x16 ∧ x16 ≤ 8) (k18 : 531 ≤ x18 ∧ x18 ≤ 66828) (k19 : 531 ≤ x19 ∧ x19 ≤ 66835) (k21 : 523 ≤ x21 ∧ x21 ≤ 66820) (k22 : 523 ≤ x22 ∧ x22 ≤ 66827) (k23 : 0 ≤ x23 ∧ x23 ≤ 2000) (k24 : 0 ≤ x24 ∧ x24 ≤ 2000) (k25 : 0 ≤ x25 ∧ x25 ≤ 8) (k26 : 0 ≤ x26 ∧ x26 ≤ 0) (d4 : x11 + 523 ≤ x21 ∧ x21 ≤ x11 + 523) (d8 : x11 + 531 ≤ x18 ∧ x18 ≤ x11 + 531) (d9 : x14 + 1 ≤ x16 ∧ x16 ≤ x14 + 1) (d10 : x11 + 2 ≤ x13 ∧ x13 ≤ x11 + 2) (g0 : x24 = from_0) (g1 : x23 = pos_0) (g2 : x11 = r_0) (f13 : x25 = x23 - x24) (f14 : x22 = x21 + x9) (f25 : x19 = x18 + x9) (h37 : x14 = all_3 (x13)) (f39 : 1 * x9 + ((-1) * all_3 (r_0 + 2) + 0) ≤ 0) (f40 : (-1) * x9 + (1 * all_3 (r_0 + 2) + 0) ≤ 0) (f41 : x8 ≠ 0) (f42 : zTS5 (limit_3) (fault_3) (r_3) (tape_3) (all_3) (x1) (x2) (x7)) (f51 : TKR (limit_3) (pos_3) (kind_3) (place_3) (value_3) (from_3) (tape_3) (x7)) (f53 : NMQ (kind_3) (pos_3) (limit_3) (from_3) (tape_3) (x8)) (fe_0_5_1 : r_0 = r_1) (fe_0_8_1 : fault_0 = fault_1) (fe_0_10_1 : limit_0 = limit_1) (fe_0_11_1 : pos_0 = pos_1) (fe_0_12_1 : kind_0 = kind_1) (fe_0_13_1 : place_0 = place_1) (fe_0_14_1 : value_0 = value_1) (fe_0_15_1 : from_0 = from_1) (fe_0_5_2 : r_1 = r_2) (fe_0_8_2 : fault_1 = fault_2) (fe_0_10_2 : limit_1 = limit_2) (fe_0_11_2 : pos_1 = pos_2) (fe_0_12_2 : kind_1 = kind_2) (fe_0_13_2 : place_1 = place_2) (fe_0_14_2 : value_1 = value_2) (fe_0_15_2 : from_1 = from_2) (fe_0_5_3 : r_2 = r_3) (fe_0_8_3 : fault_2 = fault_3) (fe_0_10_3 : limit_2 = limit_3) (fe_0_11_3 : pos_2 = pos_3) (fe_0_12_3 : kind_2 = kind_3) (fe_0_13_3 : place_2 = place_3) (fe_0_14_3 : value_2 = value_3) (fe_0_15_3 : from_2 = from_3) (hE_0_1_1 : ∀ j : Int, tape_0 j = tape_1 j) (hE_0_1_2 : ∀ j : Int, tape_1 j = tape_2 j) (hE_0_1_3 : ∀ j : Int, tape_2 j = tape_3 j) (hE_0_2_1 : ∀ j : Int, 0 ≤ j → (j = x22 → all_0 j = x25) ∧ (j ≠ x22 → all_0 j = all_1 j)) (hE_0_2_2 : ∀ j : Int, 0 ≤ j → (j = x19 → all_1 j = x1) ∧ (j ≠ x19 → all_1 j = all_2 j)) (hE_0_2_3 : ∀ j : Int, 0 ≤ j → (j = x13 → all_2 j = x16) ∧ (j ≠ x13 → all_2 j = all_3 j)) (hE_0_3_1 : ∀ j : Int, now_0 j = now_1 j) (hE_0_3_2 : ∀ j : Int, now_1 j = now_2 j) (hE_0_3_3 : ∀ j : Int, now_2 j = now_3 j) (hE_0_4_1 : ∀ j : Int, latest_0 j = latest_1 j) (hE_0_4_2 : ∀ j : Int, latest_1 j = latest_2 j) (hE_0_4_3 : ∀ j : Int, latest_2 j = latest_3 j) (kz_0_8 : 0 ≤ fault_0 ∧ fault_0 ≤ 5) (kz_0_10 : 0 ≤ limit_0 ∧ limit_0 ≤ 2000) (kz_0_11 : 0 ≤ pos_0 ∧ pos_0 ≤ 2000) (kz_0_12 : 0 ≤ kind_0 ∧ kind_0 ≤ 4) (kz_0_13 : 0 ≤ place_0 ∧ place_0 ≤ 2000) (kz_0_14 : (-49) ≤ value_0 ∧ value_0 ≤ 1048575) (kz_0_15 : 0 ≤ from_0 ∧ from_0 ≤ 2000) : zMG (limit_0) (pos_0) (kind_0) (place_0) (value_0) (from_0) (fault_0) (r_0) (tape_0) (all_0) (x9) (x26) (x1) (x2) := by
  subst fe_0_5_1
  subst fe_0_8_1
  subst fe_0_10_1
  subst fe_0_11_1
  subst fe_0_12_1
  subst fe_0_13_1
  subst fe_0_14_1
  subst fe_0_15_1
  subst fe_0_5_2
  subst fe_0_8_2
  subst fe_0_10_2
  subst fe_0_11_2
  subst fe_0_12_2
  subst fe_0_13_2
  subst fe_0_14_2
  subst fe_0_15_2
  subst fe_0_5_3
  subst fe_0_8_3
  subst fe_0_10_3
  subst fe_0_11_3
  subst fe_0_12_3
  subst fe_0_13_3
  subst fe_0_14_3
  subst fe_0_15_3
  have e_hE_0_1_1 := funext hE_0_1_1; subst e_hE_0_1_1
  have e_hE_0_1_2 := funext hE_0_1_2; subst e_hE_0_1_2
  have e_hE_0_1_3 := funext hE_0_1_3; subst e_hE_0_1_3
  have e_hE_0_3_1 := funext hE_0_3_1; subst e_hE_0_3_1
  have e_hE_0_3_2 := funext hE_0_3_2; subst e_hE_0_3_2
  have e_hE_0_3_3 := funext hE_0_3_3; subst e_hE_0_3_3
  have e_hE_0_4_1 := funext hE_0_4_1; subst e_hE_0_4_1
  have e_hE_0_4_2 := funext hE_0_4_2; subst e_hE_0_4_2
  have e_hE_0_4_3 := funext hE_0_4_3; subst e_hE_0_4_3
  first | subst g0 | skip
  first | subst g1 | skip
  first | subst g2 | skip
  first
    | exact mg_step ‹zMG _ _ _ _ _ _ _ _ _ _ _ _ _ _› (by omega) (by assumption) (by omega) (tk_byte (mg_tk ‹zMG _ _ _ _ _ _ _ _ _ _ _ _ _ _›) (by assumption) (by omega) (by omega) (by omega)) (by omega) (by omega)
    | exact mg_start (rsq_of ‹zTS5 _ _ _ _ _ _ _ _› ‹TKR _ _ _ _ _ _ _ _›) (by omega) ‹NMQ _ _ _ _ _ _› (by omega) (by assumption) (by assumption) (by assumption) (by omega) (by omega) (by omega) (by omega) (by omega) (by omega) (by omega) (by omega)
def o_Mo_groupItem_at_k3_8 : or_T := (108, 27, [(0, (2, 0, 0, [165])), (1, (0, 0, 7, [])), (2, (0, 3, 3, [])), (3, (0, 0, 2000, [])), (4, (0, 0, 7, [])), (5, (0, 8, 8, [])), (6, (0, 4, 4, [])), (7, (0, 0, 2000, [])), (8, (0, 1, 1, [])), (9, (0, 0, 7, [])), (10, (2, 0, 0, [167])), (11, (0, 0, 66297, [])), (12, (0, 2, 2, [])), (13, (0, 2, 66299, [])), (14, (0, 0, 8, [])), (15, (0, 1, 1, [])), (16, (0, 1, 8, [])), (17, (0, 531, 531, [])), (18, (0, 531, 66828, [])), (19, (0, 531, 66835, [])), (20, (0, 523, 523, [])), (21, (0, 523, 66820, [])), (22, (0, 523, 66827, [])), (23, (0, 0, 2000, [])), (24, (0, 0, 2000, [])), (25, (0, 0, 8, [])), (26, (0, 0, 0, []))], [(9, [24, 0], [15]), (9, [23, 0], [11]), (9, [11, 0], [5]), (9, [10, 0], [2]), (23, [1, 9], [-1, 1, -1]), (20, [3, 7], [30, 0, 1, 0, 0, -1, 0, 0]), (20, [0, 0], [30, 0, 1, 1, 15, -1, 1, 11]), (20, [0], [50, 3, 0, 12, 11, 15, 2, 21, 4, 7, 1, 3, 2, 0, 12, 0, 1, 0, 3, 2, 0, 11, 4, 3, 2, 0, 15, 0, 8, 3, 7, 1, 3, 2, 0, 12, 0, 0, 0, 7, 4, 3, 2, 0, 15, 0, 1, 2, 0, 11]), (20, [7, 0], [30, 0, 1, 0, 0, -1, 1, 15]), (20, [0, 7], [60, 6, 1, 948, 10, 11, 12, 13, 14, 15, 1]), (20, [8, 0], [50, 1, 0, 1012, 4, 6, 1, 2, 1, 0, 0, 1, 1, 3, 2, 1, 12, 0, 1]), (20, [0, 8], [60, 4, 1, 962, 12, 11, 10, 15, 1]), (100, [10, 22, 25], []), (2, [25, 23, 24], []), (1, [22, 21, 9], []), (1, [21, 11, 20], []), (23, [1, 9], [-1, 1, -1]), (20, [3, 7], [30, 0, 1, 0, 0, -1, 0, 0]), (20, [0, 0], [30, 0, 1, 1, 15, -1, 1, 11]), (20, [0], [50, 3, 0, 12, 11, 15, 2, 21, 4, 7, 1, 3, 2, 0, 12, 0, 1, 0, 3, 2, 0, 11, 4, 3, 2, 0, 15, 0, 8, 3, 7, 1, 3, 2, 0, 12, 0, 0, 0, 7, 4, 3, 2, 0, 15, 0, 1, 2, 0, 11]), (20, [7, 0], [30, 0, 1, 0, 0, -1, 1, 15]), (20, [0, 7], [60, 6, 1, 948, 10, 11, 12, 13, 14, 15, 1]), (20, [8, 0], [50, 1, 0, 1012, 4, 6, 1, 2, 1, 0, 0, 1, 1, 3, 2, 1, 12, 0, 1]), (20, [0, 8], [60, 4, 1, 962, 12, 11, 10, 15, 1]), (100, [10, 19, 1], []), (1, [19, 18, 9], []), (1, [18, 11, 17], []), (23, [1, 9], [-1, 1, -1]), (20, [3, 7], [30, 0, 1, 0, 0, -1, 0, 0]), (20, [0, 0], [30, 0, 1, 1, 15, -1, 1, 11]), (20, [0], [50, 3, 0, 12, 11, 15, 2, 21, 4, 7, 1, 3, 2, 0, 12, 0, 1, 0, 3, 2, 0, 11, 4, 3, 2, 0, 15, 0, 8, 3, 7, 1, 3, 2, 0, 12, 0, 0, 0, 7, 4, 3, 2, 0, 15, 0, 1, 2, 0, 11]), (20, [7, 0], [30, 0, 1, 0, 0, -1, 1, 15]), (20, [0, 7], [60, 6, 1, 948, 10, 11, 12, 13, 14, 15, 1]), (20, [8, 0], [50, 1, 0, 1012, 4, 6, 1, 2, 1, 0, 0, 1, 1, 3, 2, 1, 12, 0, 1]), (20, [0, 8], [60, 4, 1, 962, 12, 11, 10, 15, 1]), (100, [10, 13, 16], []), (1, [16, 14, 15], []), (10, [14, 10, 13], []), (1, [13, 11, 12], []), (20, [9, 0], [30, 0, 1, 0, 0, -1, 3, 2005002]), (20, [9, 0], [30, 0, -1, 0, 0, 1, 3, 2005002]), (8, [8], [1]), (20, [0, 1, 2, 7], [60, 3, 2, 974, 10, 8, 5, 1, 2]), (20, [3, 7], [30, 0, 1, 0, 0, -1, 0, 0]), (20, [4, 0], [30, 0, 1, 0, 0, -1, 3, 2005002]), (20, [4, 0], [30, 0, -1, 0, 0, 1, 3, 2005002]), (20, [1, 0], [50, 1, 1, 1005, 1002, 0, 6, 4, 2, 1, 0, 0, 1, 3, 1, 2, 4, 3, 2, 1, 5, 0, 2]), (20, [0], [60, 1, 3, 199, 5, 2, 3, 4]), (20, [0, 0], [30, 0, 1, 1, 15, -1, 1, 11]), (20, [0], [50, 3, 0, 12, 11, 15, 2, 21, 4, 7, 1, 3, 2, 0, 12, 0, 1, 0, 3, 2, 0, 11, 4, 3, 2, 0, 15, 0, 8, 3, 7, 1, 3, 2, 0, 12, 0, 0, 0, 7, 4, 3, 2, 0, 15, 0, 1, 2, 0, 11]), (20, [7, 0], [30, 0, 1, 0, 0, -1, 1, 15]), (20, [0, 7], [60, 6, 1, 948, 10, 11, 12, 13, 14, 15, 1]), (20, [8, 0], [50, 1, 0, 1012, 4, 6, 1, 2, 1, 0, 0, 1, 1, 3, 2, 1, 12, 0, 1]), (20, [0, 8], [60, 4, 1, 962, 12, 11, 10, 15, 1]), (102, [7], [0]), (102, [7], [0, 165011, 165012, 165013, 165014, 165015]), (7, [2, 6], [1]), (7, [4, 5], [1])], [], [], [(20, [3, 0], [30, -1, 1, 0, 0, -1, 1, 11]), (20, [0], [50, 1, 0, 12, 1, 3, 2, 0, 12, 0, 1]), (20, [9, 0], [50, 1, 1, 1005, 1002, 0, 6, 4, 2, 1, 0, 0, 1, 3, 1, 2, 4, 3, 2, 1, 5, 0, 2]), (20, [0], [60, 1, 3, 199, 5, 2, 3, 4]), (20, [0, 9, 26, 1, 2], [60, 8, 2, 1006, 10, 11, 12, 13, 14, 15, 8, 5, 1, 2]), (24, [0, 0], []), (24, [1, 1], []), (24, [2, 2], [])], [], [(25, 23, -2000, 0), (22, 9, 523, 66820), (22, 21, 0, 7), (22, 11, 523, 530), (21, 11, 523, 523), (19, 9, 531, 66828), (19, 18, 0, 7), (19, 11, 531, 538), (18, 11, 531, 531), (16, 14, 1, 1), (13, 11, 2, 2)])
theorem oo_Mo_groupItem_at_k3_8 {kA : Nat → ClassId} : or_ok PRD kA GG o_Mo_groupItem_at_k3_8 := by
  refine or_mk fun A ta ws vs hD hth hl => ?_
  intro t0 r0 t1 k1 t2 k2 t3 k3 t4 k4 t5 k5 t6 k6 t7 k7 t8 k8 t9 k9 t10 r10 t11 k11 t12 k12 t13 k13 t14 k14 t15 k15 t16 k16 t17 k17 t18 k18 t19 k19 t20 k20 t21 k21 t22 k22 t23 k23 t24 k24 t25 k25 t26 k26 d0 d1 d2 d3 d4 d5 d6 d7 d8 d9 d10 f0 f1 f2 f3 f4 f5 f6 f7 f8 f9 f10 f11 ta1 w1 le1 s1 f13 f14 f15 f16 f17 f18 f19 f20 f21 f22 f23 ta2 w2 le2 s2 f25 f26 f27 f28 f29 f30 f31 f32 f33 f34 ta3 w3 le3 s3 f36 f37 f38 f39 f40 f41 f42 f43 f44 f45 f46 f47 f48 f49 f50 f51 f52 f53 ta4 w4 le4 s4 ta5 w5 le5 s5 f56 f57
  replace f0 := shm_177 f0
  replace f1 := shm_116 f1
  replace f2 := shm_110 f2
  replace f3 := shm_120 f3
  replace f4 := shm_193 f4
  replace f5 := shm_201 f5
  replace f6 := shm_1437 f6
  replace f7 := shm_1438 f7
  replace f8 := shm_1436 f8
  replace f9 := shm_1439 f9
  replace f10 := shm_1856 f10
  replace f11 := shm_1889 f11
  have s1 : (∀ b j, w_el ws b j = if b = v_ad (n_v vs 10) ∧ j = (v_iv (n_v vs 22)).toNat then v_iv (n_v vs 25) else w_el w1 b j) ∧ ∀ b k, w_fd ws b k = w_fd w1 b k := s1.2
  replace f13 := shm_14 f13
  replace f14 := shm_12 f14
  replace f15 := shm_12 f15
  replace f16 := shm_193 f16
  replace f17 := shm_201 f17
  replace f18 := shm_1437 f18
  replace f19 := shm_1438 f19
  replace f20 := shm_1436 f20
  replace f21 := shm_1439 f21
  replace f22 := shm_1856 f22
  replace f23 := shm_1889 f23
  have s2 : (∀ b j, w_el w1 b j = if b = v_ad (n_v vs 10) ∧ j = (v_iv (n_v vs 19)).toNat then v_iv (n_v vs 1) else w_el w2 b j) ∧ ∀ b k, w_fd w1 b k = w_fd w2 b k := s2.2
  replace f25 := shm_12 f25
  replace f26 := shm_12 f26
  replace f27 := shm_193 f27
  replace f28 := shm_201 f28
  replace f29 := shm_1437 f29
  replace f30 := shm_1438 f30
  replace f31 := shm_1436 f31
  replace f32 := shm_1439 f32
  replace f33 := shm_1856 f33
  replace f34 := shm_1889 f34
  have s3 : (∀ b j, w_el w2 b j = if b = v_ad (n_v vs 10) ∧ j = (v_iv (n_v vs 13)).toNat then v_iv (n_v vs 16) else w_el w3 b j) ∧ ∀ b k, w_fd w2 b k = w_fd w3 b k := s3.2
  replace f36 := shm_12 f36
  replace f37 := shm_107 f37
  replace f38 := shm_12 f38
  replace f39 := shm_123 f39
  replace f40 := shm_124 f40
  replace f41 := shm_142 f41
  replace f42 := shm_2174 f42
  replace f43 := shm_201 f43
  replace f44 := shm_123 f44
  replace f45 := shm_124 f45
  replace f46 := shm_1009 f46
  replace f47 := shm_980 f47
  replace f48 := shm_1437 f48
  replace f49 := shm_1438 f49
  replace f50 := shm_1436 f50
  replace f51 := shm_1439 f51
  replace f52 := shm_1856 f52
  replace f53 := shm_1889 f53
  replace f56 := shm_40 f56
  replace f57 := shm_40 f57
  have ar_0_1_1 : w_ar w1 (n_v vs 0) 1 = w_ar ws (n_v vs 0) 1 := congrArg v_ad (s1.2 _ _).symm
  have ar_0_1_2 : w_ar w2 (n_v vs 0) 1 = w_ar ws (n_v vs 0) 1 := by rw [← ar_0_1_1]; show v_ad (w_fd w2 _ _) = v_ad (w_fd w1 _ _); rw [s2.2]
  have ar_0_1_3 : w_ar w3 (n_v vs 0) 1 = w_ar ws (n_v vs 0) 1 := by rw [← ar_0_1_2]; show v_ad (w_fd w3 _ _) = v_ad (w_fd w2 _ _); rw [s3.2]
  have cr_0_1 := fdq_39 hD hth r0
  have ar_0_2_1 : w_ar w1 (n_v vs 0) 2 = w_ar ws (n_v vs 0) 2 := congrArg v_ad (s1.2 _ _).symm
  have ar_0_2_2 : w_ar w2 (n_v vs 0) 2 = w_ar ws (n_v vs 0) 2 := by rw [← ar_0_2_1]; show v_ad (w_fd w2 _ _) = v_ad (w_fd w1 _ _); rw [s2.2]
  have ar_0_2_3 : w_ar w3 (n_v vs 0) 2 = w_ar ws (n_v vs 0) 2 := by rw [← ar_0_2_2]; show v_ad (w_fd w3 _ _) = v_ad (w_fd w2 _ _); rw [s3.2]
  have cr_0_2 := fdq_10 hD hth r0
  have ar_0_3_1 : w_ar w1 (n_v vs 0) 3 = w_ar ws (n_v vs 0) 3 := congrArg v_ad (s1.2 _ _).symm
  have ar_0_3_2 : w_ar w2 (n_v vs 0) 3 = w_ar ws (n_v vs 0) 3 := by rw [← ar_0_3_1]; show v_ad (w_fd w2 _ _) = v_ad (w_fd w1 _ _); rw [s2.2]
  have ar_0_3_3 : w_ar w3 (n_v vs 0) 3 = w_ar ws (n_v vs 0) 3 := by rw [← ar_0_3_2]; show v_ad (w_fd w3 _ _) = v_ad (w_fd w2 _ _); rw [s3.2]
  have cr_0_3 := fdq_142 hD hth r0
  have ar_0_4_1 : w_ar w1 (n_v vs 0) 4 = w_ar ws (n_v vs 0) 4 := congrArg v_ad (s1.2 _ _).symm
  have ar_0_4_2 : w_ar w2 (n_v vs 0) 4 = w_ar ws (n_v vs 0) 4 := by rw [← ar_0_4_1]; show v_ad (w_fd w2 _ _) = v_ad (w_fd w1 _ _); rw [s2.2]
  have ar_0_4_3 : w_ar w3 (n_v vs 0) 4 = w_ar ws (n_v vs 0) 4 := by rw [← ar_0_4_2]; show v_ad (w_fd w3 _ _) = v_ad (w_fd w2 _ _); rw [s3.2]
  have cr_0_4 := fdq_143 hD hth r0
  have fi_0_5_1 : w_fi w1 (n_v vs 0) 5 = w_fi ws (n_v vs 0) 5 := by show v_iv (w_fd w1 _ _) = v_iv (w_fd ws _ _); rw [s1.2]
  have fi_0_5_2 : w_fi w2 (n_v vs 0) 5 = w_fi ws (n_v vs 0) 5 := by rw [← fi_0_5_1]; show v_iv (w_fd w2 _ _) = v_iv (w_fd w1 _ _); rw [s2.2]
  have fi_0_5_3 : w_fi w3 (n_v vs 0) 5 = w_fi ws (n_v vs 0) 5 := by rw [← fi_0_5_2]; show v_iv (w_fd w3 _ _) = v_iv (w_fd w2 _ _); rw [s3.2]
  have ad_10 : v_ad (n_v vs 10) = w_ar ws (n_v vs 0) 2 := congrArg v_ad f3
  have g0 : v_iv (n_v vs 24) = w_fi ws (n_v vs 0) 15 := congrArg v_iv f0
  have g1 : v_iv (n_v vs 23) = w_fi ws (n_v vs 0) 11 := congrArg v_iv f1
  have g2 : v_iv (n_v vs 11) = w_fi ws (n_v vs 0) 5 := congrArg v_iv f2
  simp only [ar_0_1_1, ar_0_1_2, ad_10] at f21 f23 f32 f34 f37
  have h37 : v_iv (n_v vs 14) = w_ei w3 (w_ar ws (n_v vs 0) 2) (v_iv (n_v vs 13)) := f37
  simp only [ar_0_2_3, ar_0_1_3, ar_0_3_3, ar_0_4_3] at f39 f40 f42 f44 f45 f46 f47 f51 f53
  simp only [fi_0_5_3] at f39 f40 f44 f45
  have fe_0_5_1 : w_fi ws (n_v vs 0) 5 = w_fi w1 (n_v vs 0) 5 := congrArg v_iv (s1.2 _ _)
  have fe_0_8_1 : w_fi ws (n_v vs 0) 8 = w_fi w1 (n_v vs 0) 8 := congrArg v_iv (s1.2 _ _)
  have fe_0_10_1 : w_fi ws (n_v vs 0) 10 = w_fi w1 (n_v vs 0) 10 := congrArg v_iv (s1.2 _ _)
  have fe_0_11_1 : w_fi ws (n_v vs 0) 11 = w_fi w1 (n_v vs 0) 11 := congrArg v_iv (s1.2 _ _)
  have fe_0_12_1 : w_fi ws (n_v vs 0) 12 = w_fi w1 (n_v vs 0) 12 := congrArg v_iv (s1.2 _ _)
  have fe_0_13_1 : w_fi ws (n_v vs 0) 13 = w_fi w1 (n_v vs 0) 13 := congrArg v_iv (s1.2 _ _)
  have fe_0_14_1 : w_fi ws (n_v vs 0) 14 = w_fi w1 (n_v vs 0) 14 := congrArg v_iv (s1.2 _ _)
  have fe_0_15_1 : w_fi ws (n_v vs 0) 15 = w_fi w1 (n_v vs 0) 15 := congrArg v_iv (s1.2 _ _)
  have fe_0_5_2 : w_fi w1 (n_v vs 0) 5 = w_fi w2 (n_v vs 0) 5 := congrArg v_iv (s2.2 _ _)
  have fe_0_8_2 : w_fi w1 (n_v vs 0) 8 = w_fi w2 (n_v vs 0) 8 := congrArg v_iv (s2.2 _ _)
  have fe_0_10_2 : w_fi w1 (n_v vs 0) 10 = w_fi w2 (n_v vs 0) 10 := congrArg v_iv (s2.2 _ _)
  have fe_0_11_2 : w_fi w1 (n_v vs 0) 11 = w_fi w2 (n_v vs 0) 11 := congrArg v_iv (s2.2 _ _)
  have fe_0_12_2 : w_fi w1 (n_v vs 0) 12 = w_fi w2 (n_v vs 0) 12 := congrArg v_iv (s2.2 _ _)
  have fe_0_13_2 : w_fi w1 (n_v vs 0) 13 = w_fi w2 (n_v vs 0) 13 := congrArg v_iv (s2.2 _ _)
  have fe_0_14_2 : w_fi w1 (n_v vs 0) 14 = w_fi w2 (n_v vs 0) 14 := congrArg v_iv (s2.2 _ _)
  have fe_0_15_2 : w_fi w1 (n_v vs 0) 15 = w_fi w2 (n_v vs 0) 15 := congrArg v_iv (s2.2 _ _)
  have fe_0_5_3 : w_fi w2 (n_v vs 0) 5 = w_fi w3 (n_v vs 0) 5 := congrArg v_iv (s3.2 _ _)
  have fe_0_8_3 : w_fi w2 (n_v vs 0) 8 = w_fi w3 (n_v vs 0) 8 := congrArg v_iv (s3.2 _ _)
  have fe_0_10_3 : w_fi w2 (n_v vs 0) 10 = w_fi w3 (n_v vs 0) 10 := congrArg v_iv (s3.2 _ _)
  have fe_0_11_3 : w_fi w2 (n_v vs 0) 11 = w_fi w3 (n_v vs 0) 11 := congrArg v_iv (s3.2 _ _)
  have fe_0_12_3 : w_fi w2 (n_v vs 0) 12 = w_fi w3 (n_v vs 0) 12 := congrArg v_iv (s3.2 _ _)
  have fe_0_13_3 : w_fi w2 (n_v vs 0) 13 = w_fi w3 (n_v vs 0) 13 := congrArg v_iv (s3.2 _ _)
  have fe_0_14_3 : w_fi w2 (n_v vs 0) 14 = w_fi w3 (n_v vs 0) 14 := congrArg v_iv (s3.2 _ _)
  have fe_0_15_3 : w_fi w2 (n_v vs 0) 15 = w_fi w3 (n_v vs 0) 15 := congrArg v_iv (s3.2 _ _)
  have hE_0_1_1 : ∀ j : Int, w_ei ws (w_ar ws (n_v vs 0) 1) j = w_ei w1 (w_ar ws (n_v vs 0) 1) j := el_kp s1.1 r10 cr_0_1 (by decide)
  have hE_0_1_2 : ∀ j : Int, w_ei w1 (w_ar ws (n_v vs 0) 1) j = w_ei w2 (w_ar ws (n_v vs 0) 1) j := el_kp s2.1 r10 cr_0_1 (by decide)
  have hE_0_1_3 : ∀ j : Int, w_ei w2 (w_ar ws (n_v vs 0) 1) j = w_ei w3 (w_ar ws (n_v vs 0) 1) j := el_kp s3.1 r10 cr_0_1 (by decide)
  have hK_0_1 := elq_7 hD hth cr_0_1
  have hE_0_2_1 : ∀ j : Int, 0 ≤ j → (j = v_iv (n_v vs 22) → w_ei ws (w_ar ws (n_v vs 0) 2) j = v_iv (n_v vs 25)) ∧ (j ≠ v_iv (n_v vs 22) → w_ei ws (w_ar ws (n_v vs 0) 2) j = w_ei w1 (w_ar ws (n_v vs 0) 2) j) := fun j hj => ⟨fun h => by unfold w_ei; rw [s1.1, if_pos ⟨ad_10.symm, by rw [h]⟩], fun h => by unfold w_ei; rw [s1.1, if_neg (fun e => h (by have := e.2; omega))]⟩
  have hE_0_2_2 : ∀ j : Int, 0 ≤ j → (j = v_iv (n_v vs 19) → w_ei w1 (w_ar ws (n_v vs 0) 2) j = v_iv (n_v vs 1)) ∧ (j ≠ v_iv (n_v vs 19) → w_ei w1 (w_ar ws (n_v vs 0) 2) j = w_ei w2 (w_ar ws (n_v vs 0) 2) j) := fun j hj => ⟨fun h => by unfold w_ei; rw [s2.1, if_pos ⟨ad_10.symm, by rw [h]⟩], fun h => by unfold w_ei; rw [s2.1, if_neg (fun e => h (by have := e.2; omega))]⟩
  have hE_0_2_3 : ∀ j : Int, 0 ≤ j → (j = v_iv (n_v vs 13) → w_ei w2 (w_ar ws (n_v vs 0) 2) j = v_iv (n_v vs 16)) ∧ (j ≠ v_iv (n_v vs 13) → w_ei w2 (w_ar ws (n_v vs 0) 2) j = w_ei w3 (w_ar ws (n_v vs 0) 2) j) := fun j hj => ⟨fun h => by unfold w_ei; rw [s3.1, if_pos ⟨ad_10.symm, by rw [h]⟩], fun h => by unfold w_ei; rw [s3.1, if_neg (fun e => h (by have := e.2; omega))]⟩
  have hE_0_3_1 : ∀ j : Int, w_ei ws (w_ar ws (n_v vs 0) 3) j = w_ei w1 (w_ar ws (n_v vs 0) 3) j := el_kp s1.1 r10 cr_0_3 (by decide)
  have hE_0_3_2 : ∀ j : Int, w_ei w1 (w_ar ws (n_v vs 0) 3) j = w_ei w2 (w_ar ws (n_v vs 0) 3) j := el_kp s2.1 r10 cr_0_3 (by decide)
  have hE_0_3_3 : ∀ j : Int, w_ei w2 (w_ar ws (n_v vs 0) 3) j = w_ei w3 (w_ar ws (n_v vs 0) 3) j := el_kp s3.1 r10 cr_0_3 (by decide)
  have hK_0_3 := elq_80 hD hth cr_0_3
  have hE_0_4_1 : ∀ j : Int, w_ei ws (w_ar ws (n_v vs 0) 4) j = w_ei w1 (w_ar ws (n_v vs 0) 4) j := el_kp s1.1 r10 cr_0_4 (by decide)
  have hE_0_4_2 : ∀ j : Int, w_ei w1 (w_ar ws (n_v vs 0) 4) j = w_ei w2 (w_ar ws (n_v vs 0) 4) j := el_kp s2.1 r10 cr_0_4 (by decide)
  have hE_0_4_3 : ∀ j : Int, w_ei w2 (w_ar ws (n_v vs 0) 4) j = w_ei w3 (w_ar ws (n_v vs 0) 4) j := el_kp s3.1 r10 cr_0_4 (by decide)
  have hK_0_4 := elq_81 hD hth cr_0_4
  have kz_0_8 := fdq_34 hD hth r0
  have kz_0_10 := fdq_43 hD hth r0
  have kz_0_11 := fdq_237 hD hth r0
  have kz_0_12 := fdq_187 hD hth r0
  have kz_0_13 := fdq_238 hD hth r0
  have kz_0_14 := fdq_188 hD hth r0
  have kz_0_15 := fdq_239 hD hth r0
  first | have hJ0 : w_ei w3 (w_ar ws (n_v vs 0) 2) ((w_fi w3 (n_v vs 0) 5 + 2)) = w_ei w3 (w_ar ws (n_v vs 0) 2) ((w_fi ws (n_v vs 0) 5 + 2)) := congrArg _ (show ((w_fi w3 (n_v vs 0) 5 + 2) : Int) = (w_fi ws (n_v vs 0) 5 + 2) from by omega) | skip
  first | have hI1 := (hE_0_2_1 ((w_fi ws (n_v vs 0) 5 + 2)) (by omega)).2 (by omega) | have hI1 := (hE_0_2_1 ((w_fi ws (n_v vs 0) 5 + 2)) (by omega)).1 (by omega) | skip
  first | have hI2 := (hE_0_2_2 ((w_fi ws (n_v vs 0) 5 + 2)) (by omega)).2 (by omega) | have hI2 := (hE_0_2_2 ((w_fi ws (n_v vs 0) 5 + 2)) (by omega)).1 (by omega) | skip
  first | have hI3 := (hE_0_2_3 ((w_fi ws (n_v vs 0) 5 + 2)) (by omega)).2 (by omega) | have hI3 := (hE_0_2_3 ((w_fi ws (n_v vs 0) 5 + 2)) (by omega)).1 (by omega) | skip
  have nf0 : fc_1 PRD (20, [3, 0], [30, -1, 1, 0, 0, -1, 1, 11]) ws (vs) := ⟨nf_in hl rfl, sgq_2005 (vc_Mo_groupItem_at_k3_8_0 (v_iv (n_v vs 1)) (v_iv (n_v vs 3)) (v_iv (n_v vs 7)) (v_iv (n_v vs 8)) (v_iv (n_v vs 13)) (v_iv (n_v vs 16)) (v_iv (n_v vs 19)) (v_iv (n_v vs 22)) (v_iv (n_v vs 23)) (v_iv (n_v vs 24)) (v_iv (n_v vs 25)) (w_fi ws (n_v vs 0) 15) (w_fi ws (n_v vs 0) 11) (w_fi ws (n_v vs 0) 5) (w_fi ws (n_v vs 0) 12) (w_ei ws (w_ar ws (n_v vs 0) 1)) (w_fi ws (n_v vs 0) 10) (w_fi ws (n_v vs 0) 13) (w_fi ws (n_v vs 0) 14) (w_fi w1 (n_v vs 0) 15) (w_fi w1 (n_v vs 0) 11) (w_fi w1 (n_v vs 0) 12) (w_ei w1 (w_ar ws (n_v vs 0) 1)) (w_fi w1 (n_v vs 0) 10) (w_fi w1 (n_v vs 0) 13) (w_fi w1 (n_v vs 0) 14) (w_fi w2 (n_v vs 0) 15) (w_fi w2 (n_v vs 0) 11) (w_fi w2 (n_v vs 0) 12) (w_ei w2 (w_ar ws (n_v vs 0) 1)) (w_fi w2 (n_v vs 0) 10) (w_fi w2 (n_v vs 0) 13) (w_fi w2 (n_v vs 0) 14) (w_ei w3 (w_ar ws (n_v vs 0) 2)) (w_ei w3 (w_ar ws (n_v vs 0) 1)) (w_fi w3 (n_v vs 0) 10) (w_fi w3 (n_v vs 0) 8) (w_fi w3 (n_v vs 0) 5) (w_ei w3 (w_ar ws (n_v vs 0) 3)) (w_ei w3 (w_ar ws (n_v vs 0) 4)) (w_fi w3 (n_v vs 0) 15) (w_fi w3 (n_v vs 0) 11) (w_fi w3 (n_v vs 0) 12) (w_fi w3 (n_v vs 0) 13) (w_fi w3 (n_v vs 0) 14) (w_fi w1 (n_v vs 0) 5) (w_fi ws (n_v vs 0) 8) (w_fi w1 (n_v vs 0) 8) (w_fi w2 (n_v vs 0) 5) (w_fi w2 (n_v vs 0) 8) (w_ei ws (w_ar ws (n_v vs 0) 2)) (w_ei w1 (w_ar ws (n_v vs 0) 2)) (w_ei w2 (w_ar ws (n_v vs 0) 2)) (w_ei ws (w_ar ws (n_v vs 0) 3)) (w_ei w1 (w_ar ws (n_v vs 0) 3)) (w_ei w2 (w_ar ws (n_v vs 0) 3)) (w_ei ws (w_ar ws (n_v vs 0) 4)) (w_ei w1 (w_ar ws (n_v vs 0) 4)) (w_ei w2 (w_ar ws (n_v vs 0) 4)) k1 k3 k7 k8 k13 k16 k19 k22 k23 k24 k25 g0 g1 f5 f8 f13 f49 f52 fe_0_5_1 fe_0_8_1 fe_0_10_1 fe_0_11_1 fe_0_12_1 fe_0_13_1 fe_0_14_1 fe_0_15_1 fe_0_5_2 fe_0_8_2 fe_0_10_2 fe_0_11_2 fe_0_12_2 fe_0_13_2 fe_0_14_2 fe_0_15_2 fe_0_5_3 fe_0_8_3 fe_0_10_3 fe_0_11_3 fe_0_12_3 fe_0_13_3 fe_0_14_3 fe_0_15_3 hE_0_1_1 hE_0_1_2 hE_0_1_3 hE_0_2_1 hE_0_2_2 hE_0_2_3 hE_0_3_1 hE_0_3_2 hE_0_3_3 hE_0_4_1 hE_0_4_2 hE_0_4_3 kz_0_8 kz_0_10 kz_0_11 kz_0_12 kz_0_13 kz_0_14 kz_0_15)⟩
  have nf1 : fc_1 PRD (20, [0], [50, 1, 0, 12, 1, 3, 2, 0, 12, 0, 1]) ws (vs) := ⟨nf_in hl rfl, sgq_1890 (vc_Mo_groupItem_at_k3_8_1 (v_iv (n_v vs 1)) (v_iv (n_v vs 8)) (v_iv (n_v vs 13)) (v_iv (n_v vs 16)) (v_iv (n_v vs 19)) (v_iv (n_v vs 22)) (v_iv (n_v vs 25)) (w_fi ws (n_v vs 0) 15) (w_fi ws (n_v vs 0) 11) (w_fi ws (n_v vs 0) 5) (w_fi ws (n_v vs 0) 12) (w_ei ws (w_ar ws (n_v vs 0) 1)) (w_fi ws (n_v vs 0) 10) (w_fi ws (n_v vs 0) 13) (w_fi ws (n_v vs 0) 14) (w_fi w1 (n_v vs 0) 15) (w_fi w1 (n_v vs 0) 11) (w_fi w1 (n_v vs 0) 12) (w_ei w1 (w_ar ws (n_v vs 0) 1)) (w_fi w1 (n_v vs 0) 10) (w_fi w1 (n_v vs 0) 13) (w_fi w1 (n_v vs 0) 14) (w_fi w2 (n_v vs 0) 15) (w_fi w2 (n_v vs 0) 11) (w_fi w2 (n_v vs 0) 12) (w_ei w2 (w_ar ws (n_v vs 0) 1)) (w_fi w2 (n_v vs 0) 10) (w_fi w2 (n_v vs 0) 13) (w_fi w2 (n_v vs 0) 14) (w_ei w3 (w_ar ws (n_v vs 0) 2)) (w_ei w3 (w_ar ws (n_v vs 0) 1)) (w_fi w3 (n_v vs 0) 10) (w_fi w3 (n_v vs 0) 8) (w_fi w3 (n_v vs 0) 5) (w_ei w3 (w_ar ws (n_v vs 0) 3)) (w_ei w3 (w_ar ws (n_v vs 0) 4)) (w_fi w3 (n_v vs 0) 15) (w_fi w3 (n_v vs 0) 11) (w_fi w3 (n_v vs 0) 12) (w_fi w3 (n_v vs 0) 13) (w_fi w3 (n_v vs 0) 14) (w_fi w1 (n_v vs 0) 5) (w_fi ws (n_v vs 0) 8) (w_fi w1 (n_v vs 0) 8) (w_fi w2 (n_v vs 0) 5) (w_fi w2 (n_v vs 0) 8) (w_ei ws (w_ar ws (n_v vs 0) 2)) (w_ei w1 (w_ar ws (n_v vs 0) 2)) (w_ei w2 (w_ar ws (n_v vs 0) 2)) (w_ei ws (w_ar ws (n_v vs 0) 3)) (w_ei w1 (w_ar ws (n_v vs 0) 3)) (w_ei w2 (w_ar ws (n_v vs 0) 3)) (w_ei ws (w_ar ws (n_v vs 0) 4)) (w_ei w1 (w_ar ws (n_v vs 0) 4)) (w_ei w2 (w_ar ws (n_v vs 0) 4)) k1 k8 k13 k16 k19 k22 k25 f49 f52 fe_0_5_1 fe_0_8_1 fe_0_10_1 fe_0_11_1 fe_0_12_1 fe_0_13_1 fe_0_14_1 fe_0_15_1 fe_0_5_2 fe_0_8_2 fe_0_10_2 fe_0_11_2 fe_0_12_2 fe_0_13_2 fe_0_14_2 fe_0_15_2 fe_0_5_3 fe_0_8_3 fe_0_10_3 fe_0_11_3 fe_0_12_3 fe_0_13_3 fe_0_14_3 fe_0_15_3 hE_0_1_1 hE_0_1_2 hE_0_1_3 hE_0_2_1 hE_0_2_2 hE_0_2_3 hE_0_3_1 hE_0_3_2 hE_0_3_3 hE_0_4_1 hE_0_4_2 hE_0_4_3 kz_0_8 kz_0_10 kz_0_11 kz_0_12 kz_0_13 kz_0_14 kz_0_15)⟩
  have nf2 : fc_1 PRD (20, [9, 0], [50, 1, 1, 1005, 1002, 0, 6, 4, 2, 1, 0, 0, 1, 3, 1, 2, 4, 3, 2, 1, 5, 0, 2]) ws (vs) := ⟨nf_in hl rfl, sgq_1009 (vc_Mo_groupItem_at_k3_8_2 (v_iv (n_v vs 1)) (v_iv (n_v vs 4)) (v_iv (n_v vs 9)) (v_iv (n_v vs 11)) (v_iv (n_v vs 13)) (v_iv (n_v vs 14)) (v_iv (n_v vs 16)) (v_iv (n_v vs 18)) (v_iv (n_v vs 19)) (v_iv (n_v vs 21)) (v_iv (n_v vs 22)) (v_iv (n_v vs 25)) (w_fi ws (n_v vs 0) 15) (w_fi ws (n_v vs 0) 11) (w_fi ws (n_v vs 0) 5) (w_fi ws (n_v vs 0) 12) (w_ei ws (w_ar ws (n_v vs 0) 1)) (w_fi ws (n_v vs 0) 10) (w_fi ws (n_v vs 0) 13) (w_fi ws (n_v vs 0) 14) (w_fi w1 (n_v vs 0) 15) (w_fi w1 (n_v vs 0) 11) (w_fi w1 (n_v vs 0) 12) (w_ei w1 (w_ar ws (n_v vs 0) 1)) (w_fi w1 (n_v vs 0) 10) (w_fi w1 (n_v vs 0) 13) (w_fi w1 (n_v vs 0) 14) (w_fi w2 (n_v vs 0) 15) (w_fi w2 (n_v vs 0) 11) (w_fi w2 (n_v vs 0) 12) (w_ei w2 (w_ar ws (n_v vs 0) 1)) (w_fi w2 (n_v vs 0) 10) (w_fi w2 (n_v vs 0) 13) (w_fi w2 (n_v vs 0) 14) (w_ei w3 (w_ar ws (n_v vs 0) 2)) (w_ei w3 (w_ar ws (n_v vs 0) 1)) (w_fi w3 (n_v vs 0) 10) (w_fi w3 (n_v vs 0) 8) (w_fi w3 (n_v vs 0) 5) (w_ei w3 (w_ar ws (n_v vs 0) 3)) (w_ei w3 (w_ar ws (n_v vs 0) 4)) (w_fi w3 (n_v vs 0) 15) (w_fi w3 (n_v vs 0) 11) (w_fi w3 (n_v vs 0) 12) (w_fi w3 (n_v vs 0) 13) (w_fi w3 (n_v vs 0) 14) (w_fi w1 (n_v vs 0) 5) (w_fi ws (n_v vs 0) 8) (w_fi w1 (n_v vs 0) 8) (w_fi w2 (n_v vs 0) 5) (w_fi w2 (n_v vs 0) 8) (w_ei ws (w_ar ws (n_v vs 0) 2)) (w_ei w1 (w_ar ws (n_v vs 0) 2)) (w_ei w2 (w_ar ws (n_v vs 0) 2)) (w_ei ws (w_ar ws (n_v vs 0) 3)) (w_ei w1 (w_ar ws (n_v vs 0) 3)) (w_ei w2 (w_ar ws (n_v vs 0) 3)) (w_ei ws (w_ar ws (n_v vs 0) 4)) (w_ei w1 (w_ar ws (n_v vs 0) 4)) (w_ei w2 (w_ar ws (n_v vs 0) 4)) k1 k4 k9 k11 k13 k14 k16 k18 k19 k21 k22 k25 d4 d8 d9 d10 g2 f14 f25 h37 f39 f40 f44 f45 fe_0_5_1 fe_0_8_1 fe_0_10_1 fe_0_11_1 fe_0_12_1 fe_0_13_1 fe_0_14_1 fe_0_15_1 fe_0_5_2 fe_0_8_2 fe_0_10_2 fe_0_11_2 fe_0_12_2 fe_0_13_2 fe_0_14_2 fe_0_15_2 fe_0_5_3 fe_0_8_3 fe_0_10_3 fe_0_11_3 fe_0_12_3 fe_0_13_3 fe_0_14_3 fe_0_15_3 hE_0_1_1 hE_0_1_2 hE_0_1_3 hE_0_2_1 hE_0_2_2 hE_0_2_3 hE_0_3_1 hE_0_3_2 hE_0_3_3 hE_0_4_1 hE_0_4_2 hE_0_4_3 kz_0_8 kz_0_10 kz_0_11 kz_0_12 kz_0_13 kz_0_14 kz_0_15)⟩
  have nf3 : fc_1 PRD (20, [0], [60, 1, 3, 199, 5, 2, 3, 4]) ws (vs) := ⟨nf_in hl rfl, sgq_980 (vc_Mo_groupItem_at_k3_8_3 (v_iv (n_v vs 1)) (v_iv (n_v vs 4)) (v_iv (n_v vs 9)) (v_iv (n_v vs 11)) (v_iv (n_v vs 13)) (v_iv (n_v vs 16)) (v_iv (n_v vs 18)) (v_iv (n_v vs 19)) (v_iv (n_v vs 21)) (v_iv (n_v vs 22)) (v_iv (n_v vs 25)) (w_fi ws (n_v vs 0) 15) (w_fi ws (n_v vs 0) 11) (w_fi ws (n_v vs 0) 5) (w_fi ws (n_v vs 0) 12) (w_ei ws (w_ar ws (n_v vs 0) 1)) (w_fi ws (n_v vs 0) 10) (w_fi ws (n_v vs 0) 13) (w_fi ws (n_v vs 0) 14) (w_fi w1 (n_v vs 0) 15) (w_fi w1 (n_v vs 0) 11) (w_fi w1 (n_v vs 0) 12) (w_ei w1 (w_ar ws (n_v vs 0) 1)) (w_fi w1 (n_v vs 0) 10) (w_fi w1 (n_v vs 0) 13) (w_fi w1 (n_v vs 0) 14) (w_fi w2 (n_v vs 0) 15) (w_fi w2 (n_v vs 0) 11) (w_fi w2 (n_v vs 0) 12) (w_ei w2 (w_ar ws (n_v vs 0) 1)) (w_fi w2 (n_v vs 0) 10) (w_fi w2 (n_v vs 0) 13) (w_fi w2 (n_v vs 0) 14) (w_ei w3 (w_ar ws (n_v vs 0) 2)) (w_ei w3 (w_ar ws (n_v vs 0) 1)) (w_fi w3 (n_v vs 0) 10) (w_fi w3 (n_v vs 0) 8) (w_fi w3 (n_v vs 0) 5) (w_ei w3 (w_ar ws (n_v vs 0) 3)) (w_ei w3 (w_ar ws (n_v vs 0) 4)) (w_fi w3 (n_v vs 0) 15) (w_fi w3 (n_v vs 0) 11) (w_fi w3 (n_v vs 0) 12) (w_fi w3 (n_v vs 0) 13) (w_fi w3 (n_v vs 0) 14) (w_fi w1 (n_v vs 0) 5) (w_fi ws (n_v vs 0) 8) (w_fi w1 (n_v vs 0) 8) (w_fi w2 (n_v vs 0) 5) (w_fi w2 (n_v vs 0) 8) (w_ei ws (w_ar ws (n_v vs 0) 2)) (w_ei w1 (w_ar ws (n_v vs 0) 2)) (w_ei w2 (w_ar ws (n_v vs 0) 2)) (w_ei ws (w_ar ws (n_v vs 0) 3)) (w_ei w1 (w_ar ws (n_v vs 0) 3)) (w_ei w2 (w_ar ws (n_v vs 0) 3)) (w_ei ws (w_ar ws (n_v vs 0) 4)) (w_ei w1 (w_ar ws (n_v vs 0) 4)) (w_ei w2 (w_ar ws (n_v vs 0) 4)) k1 k4 k9 k11 k13 k16 k18 k19 k21 k22 k25 d4 d8 d10 g2 f14 f25 f39 f40 f44 f45 f47 fe_0_5_1 fe_0_8_1 fe_0_10_1 fe_0_11_1 fe_0_12_1 fe_0_13_1 fe_0_14_1 fe_0_15_1 fe_0_5_2 fe_0_8_2 fe_0_10_2 fe_0_11_2 fe_0_12_2 fe_0_13_2 fe_0_14_2 fe_0_15_2 fe_0_5_3 fe_0_8_3 fe_0_10_3 fe_0_11_3 fe_0_12_3 fe_0_13_3 fe_0_14_3 fe_0_15_3 hE_0_1_1 hE_0_1_2 hE_0_1_3 hE_0_2_1 hE_0_2_2 hE_0_2_3 hE_0_3_1 hE_0_3_2 hE_0_3_3 hE_0_4_1 hE_0_4_2 hE_0_4_3 kz_0_8 kz_0_10 kz_0_11 kz_0_12 kz_0_13 kz_0_14 kz_0_15)⟩
  have nf4 : fc_1 PRD (20, [0, 9, 26, 1, 2], [60, 8, 2, 1006, 10, 11, 12, 13, 14, 15, 8, 5, 1, 2]) ws (vs) := ⟨nf_in hl rfl, sgq_2175 (vc_Mo_groupItem_at_k3_8_4 (v_iv (n_v vs 1)) (v_iv (n_v vs 2)) (v_iv (n_v vs 7)) (v_iv (n_v vs 8)) (v_iv (n_v vs 9)) (v_iv (n_v vs 11)) (v_iv (n_v vs 13)) (v_iv (n_v vs 14)) (v_iv (n_v vs 16)) (v_iv (n_v vs 18)) (v_iv (n_v vs 19)) (v_iv (n_v vs 21)) (v_iv (n_v vs 22)) (v_iv (n_v vs 23)) (v_iv (n_v vs 24)) (v_iv (n_v vs 25)) (v_iv (n_v vs 26)) (w_fi ws (n_v vs 0) 15) (w_fi ws (n_v vs 0) 11) (w_fi ws (n_v vs 0) 5) (w_fi ws (n_v vs 0) 12) (w_ei ws (w_ar ws (n_v vs 0) 1)) (w_fi ws (n_v vs 0) 10) (w_fi ws (n_v vs 0) 13) (w_fi ws (n_v vs 0) 14) (w_fi w1 (n_v vs 0) 15) (w_fi w1 (n_v vs 0) 11) (w_fi w1 (n_v vs 0) 12) (w_ei w1 (w_ar ws (n_v vs 0) 1)) (w_fi w1 (n_v vs 0) 10) (w_fi w1 (n_v vs 0) 13) (w_fi w1 (n_v vs 0) 14) (w_fi w2 (n_v vs 0) 15) (w_fi w2 (n_v vs 0) 11) (w_fi w2 (n_v vs 0) 12) (w_ei w2 (w_ar ws (n_v vs 0) 1)) (w_fi w2 (n_v vs 0) 10) (w_fi w2 (n_v vs 0) 13) (w_fi w2 (n_v vs 0) 14) (w_ei w3 (w_ar ws (n_v vs 0) 2)) (w_ei w3 (w_ar ws (n_v vs 0) 1)) (w_fi w3 (n_v vs 0) 10) (w_fi w3 (n_v vs 0) 8) (w_fi w3 (n_v vs 0) 5) (w_ei w3 (w_ar ws (n_v vs 0) 3)) (w_ei w3 (w_ar ws (n_v vs 0) 4)) (w_fi w3 (n_v vs 0) 15) (w_fi w3 (n_v vs 0) 11) (w_fi w3 (n_v vs 0) 12) (w_fi w3 (n_v vs 0) 13) (w_fi w3 (n_v vs 0) 14) (w_fi w1 (n_v vs 0) 5) (w_fi ws (n_v vs 0) 8) (w_fi w1 (n_v vs 0) 8) (w_fi w2 (n_v vs 0) 5) (w_fi w2 (n_v vs 0) 8) (w_ei ws (w_ar ws (n_v vs 0) 2)) (w_ei w1 (w_ar ws (n_v vs 0) 2)) (w_ei w2 (w_ar ws (n_v vs 0) 2)) (w_ei ws (w_ar ws (n_v vs 0) 3)) (w_ei w1 (w_ar ws (n_v vs 0) 3)) (w_ei w2 (w_ar ws (n_v vs 0) 3)) (w_ei ws (w_ar ws (n_v vs 0) 4)) (w_ei w1 (w_ar ws (n_v vs 0) 4)) (w_ei w2 (w_ar ws (n_v vs 0) 4)) k1 k2 k7 k8 k9 k11 k13 k14 k16 k18 k19 k21 k22 k23 k24 k25 k26 d4 d8 d9 d10 g0 g1 g2 f13 f14 f25 h37 f39 f40 f41 f42 f51 f53 fe_0_5_1 fe_0_8_1 fe_0_10_1 fe_0_11_1 fe_0_12_1 fe_0_13_1 fe_0_14_1 fe_0_15_1 fe_0_5_2 fe_0_8_2 fe_0_10_2 fe_0_11_2 fe_0_12_2 fe_0_13_2 fe_0_14_2 fe_0_15_2 fe_0_5_3 fe_0_8_3 fe_0_10_3 fe_0_11_3 fe_0_12_3 fe_0_13_3 fe_0_14_3 fe_0_15_3 hE_0_1_1 hE_0_1_2 hE_0_1_3 hE_0_2_1 hE_0_2_2 hE_0_2_3 hE_0_3_1 hE_0_3_2 hE_0_3_3 hE_0_4_1 hE_0_4_2 hE_0_4_3 kz_0_8 kz_0_10 kz_0_11 kz_0_12 kz_0_13 kz_0_14 kz_0_15)⟩
  have nf5 : fc_1 PRD (24, [0, 0], []) ws (vs) := by
    refine ⟨nf_in hl rfl, sgq_1 ?_⟩
    · show n_v vs 0 = n_v vs 0
      first | rfl | simp only [true_and]
  have nf6 : fc_1 PRD (24, [1, 1], []) ws (vs) := by
    refine ⟨nf_in hl rfl, sgq_1 ?_⟩
    · show n_v vs 1 = n_v vs 1
      first | rfl | simp only [true_and]
  have nf7 : fc_1 PRD (24, [2, 2], []) ws (vs) := by
    refine ⟨nf_in hl rfl, sgq_1 ?_⟩
    · show n_v vs 2 = n_v vs 2
      first | rfl | simp only [true_and]
  refine ⟨(fun _ h => (by cases h)), [], trivial, ?_, (fun _ h => (by cases h))⟩
  rw [List.append_nil]
  exact List.forall_mem_cons.mpr ⟨⟨show (20 : Nat) < 100 from by decide, nf0⟩, List.forall_mem_cons.mpr ⟨⟨show (20 : Nat) < 100 from by decide, nf1⟩, List.forall_mem_cons.mpr ⟨⟨show (20 : Nat) < 100 from by decide, nf2⟩, List.forall_mem_cons.mpr ⟨⟨show (20 : Nat) < 100 from by decide, nf3⟩, List.forall_mem_cons.mpr ⟨⟨show (20 : Nat) < 100 from by decide, nf4⟩, List.forall_mem_cons.mpr ⟨⟨show (24 : Nat) < 100 from by decide, nf5⟩, List.forall_mem_cons.mpr ⟨⟨show (24 : Nat) < 100 from by decide, nf6⟩, List.forall_mem_cons.mpr ⟨⟨show (24 : Nat) < 100 from by decide, nf7⟩, (fun _ h => (by cases h))⟩⟩⟩⟩⟩⟩⟩⟩
set_option maxHeartbeats 4000000 in
theorem vc_Mo_groupItem_at_k3_9_0 (x1 : Int) (x2 : Int) (x7 : Int) (x8 : Int) (x9 : Int) (x10 : Int) (place_0 : Int) (tape_0 : Int → Int) (all_0 : Int → Int) (limit_0 : Int) (fault_0 : Int) (r_0 : Int) (from_0 : Int) (pos_0 : Int) (kind_0 : Int) (value_0 : Int) (gx : Int) (k1 : 0 ≤ x1 ∧ x1 ≤ 7) (k2 : 3 ≤ x2 ∧ x2 ≤ 3) (k7 : 0 ≤ x7 ∧ x7 ≤ 2000) (k8 : 0 ≤ x8 ∧ x8 ≤ 0) (k9 : 1 ≤ x9 ∧ x9 ≤ 1) (k10 : 0 ≤ x10 ∧ x10 ≤ 2000) (g0 : x10 = place_0) (f1 : x8 = 0) (f2 : zTS5 (limit_0) (fault_0) (r_0) (tape_0) (all_0) (x1) (x2) (x7)) (f11 : TKR (limit_0) (pos_0) (kind_0) (place_0) (value_0) (from_0) (tape_0) (x7)) (f13 : NMQ (kind_0) (pos_0) (limit_0) (from_0) (tape_0) (x8)) (kz_0_8 : 0 ≤ fault_0 ∧ fault_0 ≤ 5) (kz_0_10 : 0 ≤ limit_0 ∧ limit_0 ≤ 2000) (kz_0_11 : 0 ≤ pos_0 ∧ pos_0 ≤ 2000) (kz_0_12 : 0 ≤ kind_0 ∧ kind_0 ≤ 4) (kz_0_13 : 0 ≤ place_0 ∧ place_0 ≤ 2000) (kz_0_14 : (-49) ≤ value_0 ∧ value_0 ≤ 1048575) (kz_0_15 : 0 ≤ from_0 ∧ from_0 ≤ 2000) (ex2 : gx = fault_0) : FSX (limit_0) (tape_0) (x9) (x10) := by
  first | subst g0 | skip
  first | subst ex2 | skip
  exact fsx_cg (gr_no (rsq_of ‹zTS5 _ _ _ _ _ _ _ _› ‹TKR _ _ _ _ _ _ _ _›) ‹NMQ _ _ _ _ _ _› (by omega)) (by omega) (by omega)
set_option maxHeartbeats 4000000 in
theorem vc_Mo_groupItem_at_k3_9_1 (fault_0 : Int) (r_0 : Int) (gx : Int) (kz_0_8 : 0 ≤ fault_0 ∧ fault_0 ≤ 5) (ex2 : gx = fault_0) : 1 * fault_0 + ((-1) * gx + 0) ≤ 0 := by
  first
    | omega
    | (have q1 := (hE_0_2_1 (r_0 + 2) (by omega)).2 (by omega)
       have q2 := (hE_0_2_2 (r_0 + 2) (by omega)).2 (by omega)
       omega)
    | (have q1 := (hE_0_2_1 (r_0 + 1) (by omega)).2 (by omega)
       have q2 := (hE_0_2_2 (r_0 + 1) (by omega)).2 (by omega)
       omega)
    | (have q1 := (hE_0_2_1 (r_0 + 2) (by omega)).2 (by omega)
       omega)
    | (have q1 := (hE_0_2_1 (r_0 + 1) (by omega)).2 (by omega)
       omega)
    | (have q1 := (hE_0_2_1 (r_0 + 2) (by omega)).2 (by omega)
       have q2 := (hE_0_2_2 (r_0 + 2) (by omega)).2 (by omega)
       have q3 := (hE_0_2_3 (r_0 + 2) (by omega)).1 (by omega)
       omega)
    | (have q1 := (hE_0_2_1 (r_0 + 2) (by omega)).2 (by omega)
       have q2 := (hE_0_2_2 (r_0 + 2) (by omega)).2 (by omega)
       have q3 := (hE_0_2_3 (r_0 + 2) (by omega)).2 (by omega)
       omega)
    | (have q1 := (hE_0_2_1 (r_0 + 2) (by omega)).2 (by omega)
       have q2 := (hE_0_2_2 (r_0 + 2) (by omega)).2 (by omega)
       have q3 := (hE_0_2_3 (r_0 + 2) (by omega)).1 (by omega)
       have q4 : x13 = r_0 + 2 := by omega
       simp only [q4] at *
       omega)
set_option maxHeartbeats 4000000 in
theorem vc_Mo_groupItem_at_k3_9_2 (fault_0 : Int) (r_0 : Int) (gx : Int) (kz_0_8 : 0 ≤ fault_0 ∧ fault_0 ≤ 5) (ex2 : gx = fault_0) : (-1) * fault_0 + (1 * gx + 0) ≤ 0 := by
  first
    | omega
    | (have q1 := (hE_0_2_1 (r_0 + 2) (by omega)).2 (by omega)
       have q2 := (hE_0_2_2 (r_0 + 2) (by omega)).2 (by omega)
       omega)
    | (have q1 := (hE_0_2_1 (r_0 + 1) (by omega)).2 (by omega)
       have q2 := (hE_0_2_2 (r_0 + 1) (by omega)).2 (by omega)
       omega)
    | (have q1 := (hE_0_2_1 (r_0 + 2) (by omega)).2 (by omega)
       omega)
    | (have q1 := (hE_0_2_1 (r_0 + 1) (by omega)).2 (by omega)
       omega)
    | (have q1 := (hE_0_2_1 (r_0 + 2) (by omega)).2 (by omega)
       have q2 := (hE_0_2_2 (r_0 + 2) (by omega)).2 (by omega)
       have q3 := (hE_0_2_3 (r_0 + 2) (by omega)).1 (by omega)
       omega)
    | (have q1 := (hE_0_2_1 (r_0 + 2) (by omega)).2 (by omega)
       have q2 := (hE_0_2_2 (r_0 + 2) (by omega)).2 (by omega)
       have q3 := (hE_0_2_3 (r_0 + 2) (by omega)).2 (by omega)
       omega)
    | (have q1 := (hE_0_2_1 (r_0 + 2) (by omega)).2 (by omega)
       have q2 := (hE_0_2_2 (r_0 + 2) (by omega)).2 (by omega)
       have q3 := (hE_0_2_3 (r_0 + 2) (by omega)).1 (by omega)
       have q4 : x13 = r_0 + 2 := by omega
       simp only [q4] at *
       omega)
set_option maxHeartbeats 4000000 in
theorem vc_Mo_groupItem_at_k3_9_3 (x1 : Int) (x2 : Int) (x7 : Int) (tape_0 : Int → Int) (all_0 : Int → Int) (limit_0 : Int) (fault_0 : Int) (r_0 : Int) (gx : Int) (k1 : 0 ≤ x1 ∧ x1 ≤ 7) (k2 : 3 ≤ x2 ∧ x2 ≤ 3) (k7 : 0 ≤ x7 ∧ x7 ≤ 2000) (f2 : zTS5 (limit_0) (fault_0) (r_0) (tape_0) (all_0) (x1) (x2) (x7)) (kz_0_8 : 0 ≤ fault_0 ∧ fault_0 ≤ 5) (kz_0_10 : 0 ≤ limit_0 ∧ limit_0 ≤ 2000) (ex2 : gx = fault_0) : ZH0 (gx) := by
  first
    | exact ⟨by omega, by omega, trivial⟩
    | (have h := (rsq_0 (‹zRSG _ _ _ _ _ _ _ _ _ _ _ _›).1).1; exact ⟨by omega, by omega, trivial⟩)
    | (have h := (‹zTS5 _ _ _ _ _ _ _ _›).1; exact ⟨by omega, by omega, trivial⟩)
def o_Mo_groupItem_at_k3_9 : or_T := (41, 11, [(0, (2, 0, 0, [165])), (1, (0, 0, 7, [])), (2, (0, 3, 3, [])), (7, (0, 0, 2000, [])), (8, (0, 0, 0, [])), (9, (0, 1, 1, [])), (10, (0, 0, 2000, []))], [(9, [10, 0], [13]), (8, [8], [0]), (20, [0, 1, 2, 7], [60, 3, 2, 974, 10, 8, 5, 1, 2]), (20, [0, 7], [60, 6, 1, 948, 10, 11, 12, 13, 14, 15, 1]), (20, [0, 8], [60, 4, 1, 962, 12, 11, 10, 15, 1])], [], [(0, 0, 5, [])], [(20, [0, 9, 10], [60, 1, 1, 1026, 10, 1]), (20, [0, 11], [30, 0, 1, 1, 8, -1, 0, 0]), (20, [0, 11], [30, 0, -1, 1, 8, 1, 0, 0]), (20, [11], [61, 0, 1029])], [], [])
theorem oo_Mo_groupItem_at_k3_9 {kA : Nat → ClassId} : or_ok PRD kA GG o_Mo_groupItem_at_k3_9 := by
  refine or_mk fun A ta ws vs hD hth hl => ?_
  intro t0 r0 t1 k1 t2 k2 t7 k7 t8 k8 t9 k9 t10 k10 f0 f1 f2 f11 f13
  replace f0 := shm_361 f0
  replace f1 := shm_192 f1
  replace f2 := shm_2174 f2
  replace f11 := shm_1439 f11
  replace f13 := shm_1889 f13
  have g0 : v_iv (n_v vs 10) = w_fi ws (n_v vs 0) 13 := congrArg v_iv f0
  have kz_0_8 := fdq_34 hD hth r0
  have kz_0_10 := fdq_43 hD hth r0
  have kz_0_11 := fdq_237 hD hth r0
  have kz_0_12 := fdq_187 hD hth r0
  have kz_0_13 := fdq_238 hD hth r0
  have kz_0_14 := fdq_188 hD hth r0
  have kz_0_15 := fdq_239 hD hth r0
  obtain ⟨x, ex, hx⟩ := iv_ex (ta := ta) (lo := 0) (hi := 5) (z := w_fi ws (n_v vs 0) 8) (by omega) (by omega) (by omega) (by omega)
  have ex2 : v_iv (Value.int x) = w_fi ws (n_v vs 0) 8 := ex
  have ex3 : 0 ≤ v_iv (Value.int x) ∧ v_iv (Value.int x) ≤ 5 := tv_rng hx
  have e_0 : n_v (vs ++ [Value.int x]) 0 = n_v vs 0 := n_v_old (by rw [hl]; decide)
  have e_9 : n_v (vs ++ [Value.int x]) 9 = n_v vs 9 := n_v_old (by rw [hl]; decide)
  have e_10 : n_v (vs ++ [Value.int x]) 10 = n_v vs 10 := n_v_old (by rw [hl]; decide)
  have e_11 : n_v (vs ++ [Value.int x]) 11 = Value.int x := n_v_new hl
  have nf0 : fc_1 PRD (20, [0, 9, 10], [60, 1, 1, 1026, 10, 1]) ws (vs ++ [Value.int x]) := by
    refine ⟨nf_inA hl rfl, sgq_1724 ?_⟩
    · show FSX (w_fi ws (n_v (vs ++ [Value.int x]) 0) 10) (w_ei ws (w_ar ws (n_v (vs ++ [Value.int x]) 0) 1)) (v_iv (n_v (vs ++ [Value.int x]) 9)) (v_iv (n_v (vs ++ [Value.int x]) 10))
      simp only [e_0, e_9, e_10]
      exact vc_Mo_groupItem_at_k3_9_0 (v_iv (n_v vs 1)) (v_iv (n_v vs 2)) (v_iv (n_v vs 7)) (v_iv (n_v vs 8)) (v_iv (n_v vs 9)) (v_iv (n_v vs 10)) (w_fi ws (n_v vs 0) 13) (w_ei ws (w_ar ws (n_v vs 0) 1)) (w_ei ws (w_ar ws (n_v vs 0) 2)) (w_fi ws (n_v vs 0) 10) (w_fi ws (n_v vs 0) 8) (w_fi ws (n_v vs 0) 5) (w_fi ws (n_v vs 0) 15) (w_fi ws (n_v vs 0) 11) (w_fi ws (n_v vs 0) 12) (w_fi ws (n_v vs 0) 14) (v_iv (Value.int x)) k1 k2 k7 k8 k9 k10 g0 f1 f2 f11 f13 kz_0_8 kz_0_10 kz_0_11 kz_0_12 kz_0_13 kz_0_14 kz_0_15 ex2
  have nf1 : fc_1 PRD (20, [0, 11], [30, 0, 1, 1, 8, -1, 0, 0]) ws (vs ++ [Value.int x]) := by
    refine ⟨nf_inA hl rfl, sgq_303 ?_⟩
    · show 1 * w_fi ws (n_v (vs ++ [Value.int x]) 0) 8 + ((-1) * v_iv (n_v (vs ++ [Value.int x]) 11) + 0) ≤ 0
      simp only [e_0, e_11]
      exact vc_Mo_groupItem_at_k3_9_1 (w_fi ws (n_v vs 0) 8) (w_fi ws (n_v vs 0) 5) (v_iv (Value.int x)) kz_0_8 ex2
  have nf2 : fc_1 PRD (20, [0, 11], [30, 0, -1, 1, 8, 1, 0, 0]) ws (vs ++ [Value.int x]) := by
    refine ⟨nf_inA hl rfl, sgq_304 ?_⟩
    · show (-1) * w_fi ws (n_v (vs ++ [Value.int x]) 0) 8 + (1 * v_iv (n_v (vs ++ [Value.int x]) 11) + 0) ≤ 0
      simp only [e_0, e_11]
      exact vc_Mo_groupItem_at_k3_9_2 (w_fi ws (n_v vs 0) 8) (w_fi ws (n_v vs 0) 5) (v_iv (Value.int x)) kz_0_8 ex2
  have nf3 : fc_1 PRD (20, [11], [61, 0, 1029]) ws (vs ++ [Value.int x]) := by
    refine ⟨nf_inA hl rfl, sgq_1725 ?_⟩
    · show ZH0 (v_iv (n_v (vs ++ [Value.int x]) 11))
      rw [e_11]
      exact vc_Mo_groupItem_at_k3_9_3 (v_iv (n_v vs 1)) (v_iv (n_v vs 2)) (v_iv (n_v vs 7)) (w_ei ws (w_ar ws (n_v vs 0) 1)) (w_ei ws (w_ar ws (n_v vs 0) 2)) (w_fi ws (n_v vs 0) 10) (w_fi ws (n_v vs 0) 8) (w_fi ws (n_v vs 0) 5) (v_iv (Value.int x)) k1 k2 k7 f2 kz_0_8 kz_0_10 ex2
  exact ⟨(fun _ h => (by cases h)), [Value.int x], ag_one hx, List.forall_mem_cons.mpr ⟨⟨show (20 : Nat) < 100 from by decide, nf0⟩, List.forall_mem_cons.mpr ⟨⟨show (20 : Nat) < 100 from by decide, nf1⟩, List.forall_mem_cons.mpr ⟨⟨show (20 : Nat) < 100 from by decide, nf2⟩, List.forall_mem_cons.mpr ⟨⟨show (20 : Nat) < 100 from by decide, nf3⟩, (fun _ h => (by cases h))⟩⟩⟩⟩, (fun _ h => (by cases h))⟩
set_option maxHeartbeats 4000000 in
theorem vc_Mo_groupItem_at_k3_10_0 (x3 : Int) (x7 : Int) (r_0 : Int) (from_0 : Int) (pos_0 : Int) (k3 : 0 ≤ x3 ∧ x3 ≤ 2000) (k7 : 0 ≤ x7 ∧ x7 ≤ 2000) (f3 : 1 * x3 + ((-1) * x7 + 0) ≤ 0) (f8 : 1 * from_0 + ((-1) * pos_0 + 0) ≤ 0) (f10 : 1 * x7 + ((-1) * from_0 + 0) ≤ 0) (kz_0_11 : 0 ≤ pos_0 ∧ pos_0 ≤ 2000) (kz_0_15 : 0 ≤ from_0 ∧ from_0 ≤ 2000) : 1 * x3 + ((-1) * pos_0 + 0) ≤ 0 := by
  first
    | omega
    | (have q1 := (hE_0_2_1 (r_0 + 2) (by omega)).2 (by omega)
       have q2 := (hE_0_2_2 (r_0 + 2) (by omega)).2 (by omega)
       omega)
    | (have q1 := (hE_0_2_1 (r_0 + 1) (by omega)).2 (by omega)
       have q2 := (hE_0_2_2 (r_0 + 1) (by omega)).2 (by omega)
       omega)
    | (have q1 := (hE_0_2_1 (r_0 + 2) (by omega)).2 (by omega)
       omega)
    | (have q1 := (hE_0_2_1 (r_0 + 1) (by omega)).2 (by omega)
       omega)
    | (have q1 := (hE_0_2_1 (r_0 + 2) (by omega)).2 (by omega)
       have q2 := (hE_0_2_2 (r_0 + 2) (by omega)).2 (by omega)
       have q3 := (hE_0_2_3 (r_0 + 2) (by omega)).1 (by omega)
       omega)
    | (have q1 := (hE_0_2_1 (r_0 + 2) (by omega)).2 (by omega)
       have q2 := (hE_0_2_2 (r_0 + 2) (by omega)).2 (by omega)
       have q3 := (hE_0_2_3 (r_0 + 2) (by omega)).2 (by omega)
       omega)
    | (have q1 := (hE_0_2_1 (r_0 + 2) (by omega)).2 (by omega)
       have q2 := (hE_0_2_2 (r_0 + 2) (by omega)).2 (by omega)
       have q3 := (hE_0_2_3 (r_0 + 2) (by omega)).1 (by omega)
       have q4 : x13 = r_0 + 2 := by omega
       simp only [q4] at *
       omega)
set_option maxHeartbeats 4000000 in
theorem vc_Mo_groupItem_at_k3_10_1 (x3 : Int) (r_0 : Int) (pos_0 : Int) (fault_0 : Int) (k3 : 0 ≤ x3 ∧ x3 ≤ 2000) (f14 : (-1) * fault_0 + 0 ≤ (-1)) (kz_0_8 : 0 ≤ fault_0 ∧ fault_0 ≤ 5) (kz_0_11 : 0 ≤ pos_0 ∧ pos_0 ≤ 2000) : (1 ≤ fault_0) ∨ ((x3 + 1) ≤ pos_0) := by
  first
    | omega
    | (have q1 := (hE_0_2_1 (r_0 + 2) (by omega)).2 (by omega)
       have q2 := (hE_0_2_2 (r_0 + 2) (by omega)).2 (by omega)
       omega)
    | (have q1 := (hE_0_2_1 (r_0 + 1) (by omega)).2 (by omega)
       have q2 := (hE_0_2_2 (r_0 + 1) (by omega)).2 (by omega)
       omega)
    | (have q1 := (hE_0_2_1 (r_0 + 2) (by omega)).2 (by omega)
       omega)
    | (have q1 := (hE_0_2_1 (r_0 + 1) (by omega)).2 (by omega)
       omega)
    | (have q1 := (hE_0_2_1 (r_0 + 2) (by omega)).2 (by omega)
       have q2 := (hE_0_2_2 (r_0 + 2) (by omega)).2 (by omega)
       have q3 := (hE_0_2_3 (r_0 + 2) (by omega)).1 (by omega)
       omega)
    | (have q1 := (hE_0_2_1 (r_0 + 2) (by omega)).2 (by omega)
       have q2 := (hE_0_2_2 (r_0 + 2) (by omega)).2 (by omega)
       have q3 := (hE_0_2_3 (r_0 + 2) (by omega)).2 (by omega)
       omega)
    | (have q1 := (hE_0_2_1 (r_0 + 2) (by omega)).2 (by omega)
       have q2 := (hE_0_2_2 (r_0 + 2) (by omega)).2 (by omega)
       have q3 := (hE_0_2_3 (r_0 + 2) (by omega)).1 (by omega)
       have q4 : x13 = r_0 + 2 := by omega
       simp only [q4] at *
       omega)
set_option maxHeartbeats 4000000 in
theorem vc_Mo_groupItem_at_k3_10_2 (x1 : Int) (x2 : Int) (x9 : Int) (x10 : Int) (x11 : Int) (place_0 : Int) (tape_0 : Int → Int) (limit_0 : Int) (all_0 : Int → Int) (r_0 : Int) (from_0 : Int) (pos_0 : Int) (kind_0 : Int) (value_0 : Int) (fault_0 : Int) (faultPlace_0 : Int) (k1 : 0 ≤ x1 ∧ x1 ≤ 7) (k2 : 3 ≤ x2 ∧ x2 ≤ 3) (k9 : 1 ≤ x9 ∧ x9 ≤ 1) (k10 : 0 ≤ x10 ∧ x10 ≤ 2000) (k11 : 0 ≤ x11 ∧ x11 ≤ 5) (g0 : x10 = place_0) (f1 : FSX (limit_0) (tape_0) (x9) (x10)) (f2 : ZH0 (x11)) (f15 : ((1 ≤ x11) ∧ (fault_0 = x11)) ∨ ((x11 = 0) ∧ ((fault_0 = x9) ∧ (faultPlace_0 = x10)))) (kz_0_8 : 0 ≤ fault_0 ∧ fault_0 ≤ 5) (kz_0_9 : 0 ≤ faultPlace_0 ∧ faultPlace_0 ≤ 2000) (kz_0_10 : 0 ≤ limit_0 ∧ limit_0 ≤ 2000) (kz_0_11 : 0 ≤ pos_0 ∧ pos_0 ≤ 2000) (kz_0_12 : 0 ≤ kind_0 ∧ kind_0 ≤ 4) (kz_0_13 : 0 ≤ place_0 ∧ place_0 ≤ 2000) (kz_0_14 : (-49) ≤ value_0 ∧ value_0 ≤ 1048575) (kz_0_15 : 0 ≤ from_0 ∧ from_0 ≤ 2000) : zOS0 (limit_0) (pos_0) (kind_0) (place_0) (value_0) (from_0) (fault_0) (faultPlace_0) (r_0) (tape_0) (all_0) (x1) (x2) := by
  first | subst g0 | skip
  first
    | assumption
    | (refine Or.inl (fs_w ?_ ?_ (by assumption)) <;> assumption)
def o_Mo_groupItem_at_k3_10 : or_T := (44, 12, [(0, (2, 0, 0, [165])), (1, (0, 0, 7, [])), (2, (0, 3, 3, [])), (3, (0, 0, 2000, [])), (7, (0, 0, 2000, [])), (9, (0, 1, 1, [])), (10, (0, 0, 2000, [])), (11, (0, 0, 5, []))], [(9, [10, 0], [13]), (20, [0, 9, 10], [60, 1, 1, 1026, 10, 1]), (20, [11], [61, 0, 1029]), (20, [3, 7], [30, 0, 1, 0, 0, -1, 0, 0]), (20, [0, 0], [30, 0, 1, 1, 15, -1, 1, 11]), (20, [7, 0], [30, 0, 1, 0, 0, -1, 1, 15]), (20, [0], [30, -1, -1, 1, 8]), (20, [11, 0, 9, 10], [50, 2, 0, 1008, 1009, 3, 15, 2, 6, 0, 2, 0, 1, 1, 0, 1, 3, 2, 1, 8, 1, 0, 2, 6, 1, 2, 1, 0, 0, 0, 2, 7, 1, 3, 2, 1, 8, 1, 2, 1, 3, 2, 1, 9, 1, 3])], [], [], [(20, [3, 0], [30, 0, 1, 0, 0, -1, 1, 11]), (20, [0, 3], [50, 2, 0, 8, 11, 3, 7, 0, 2, 0, 1, 2, 0, 8, 0, 6, 4, 2, 1, 1, 0, 1, 2, 0, 11]), (20, [0, 1, 2], [60, 9, 2, 1007, 10, 11, 12, 13, 14, 15, 8, 9, 5, 1, 2])], [], [])
theorem oo_Mo_groupItem_at_k3_10 {kA : Nat → ClassId} : or_ok PRD kA GG o_Mo_groupItem_at_k3_10 := by
  refine or_mk fun A ta ws vs hD hth hl => ?_
  intro t0 r0 t1 k1 t2 k2 t3 k3 t7 k7 t9 k9 t10 k10 t11 k11 f0 f1 f2 f3 f8 f10 f14 f15
  replace f0 := shm_361 f0
  have g0 : v_iv (n_v vs 10) = w_fi ws (n_v vs 0) 13 := congrArg v_iv f0
  have kz_0_8 := fdq_34 hD hth r0
  have kz_0_9 := fdq_44 hD hth r0
  have kz_0_10 := fdq_43 hD hth r0
  have kz_0_11 := fdq_237 hD hth r0
  have kz_0_12 := fdq_187 hD hth r0
  have kz_0_13 := fdq_238 hD hth r0
  have kz_0_14 := fdq_188 hD hth r0
  have kz_0_15 := fdq_239 hD hth r0
  have nf0 : fc_1 PRD (20, [3, 0], [30, 0, 1, 0, 0, -1, 1, 11]) ws (vs) := ⟨nf_in hl rfl, sgq_1431 (vc_Mo_groupItem_at_k3_10_0 (v_iv (n_v vs 3)) (v_iv (n_v vs 7)) (w_fi ws (n_v vs 0) 5) (w_fi ws (n_v vs 0) 15) (w_fi ws (n_v vs 0) 11) k3 k7 (shm_201 f3) (shm_1437 f8) (shm_1436 f10) kz_0_11 kz_0_15)⟩
  have nf1 : fc_1 PRD (20, [0, 3], [50, 2, 0, 8, 11, 3, 7, 0, 2, 0, 1, 2, 0, 8, 0, 6, 4, 2, 1, 1, 0, 1, 2, 0, 11]) ws (vs) := ⟨nf_in hl rfl, sgq_1726 (vc_Mo_groupItem_at_k3_10_1 (v_iv (n_v vs 3)) (w_fi ws (n_v vs 0) 5) (w_fi ws (n_v vs 0) 11) (w_fi ws (n_v vs 0) 8) k3 (shm_305 f14) kz_0_8 kz_0_11)⟩
  have nf2 : fc_1 PRD (20, [0, 1, 2], [60, 9, 2, 1007, 10, 11, 12, 13, 14, 15, 8, 9, 5, 1, 2]) ws (vs) := ⟨nf_in hl rfl, sgq_1727 (vc_Mo_groupItem_at_k3_10_2 (v_iv (n_v vs 1)) (v_iv (n_v vs 2)) (v_iv (n_v vs 9)) (v_iv (n_v vs 10)) (v_iv (n_v vs 11)) (w_fi ws (n_v vs 0) 13) (w_ei ws (w_ar ws (n_v vs 0) 1)) (w_fi ws (n_v vs 0) 10) (w_ei ws (w_ar ws (n_v vs 0) 2)) (w_fi ws (n_v vs 0) 5) (w_fi ws (n_v vs 0) 15) (w_fi ws (n_v vs 0) 11) (w_fi ws (n_v vs 0) 12) (w_fi ws (n_v vs 0) 14) (w_fi ws (n_v vs 0) 8) (w_fi ws (n_v vs 0) 9) k1 k2 k9 k10 k11 g0 (shm_1724 f1) (shm_1725 f2) (shm_306 f15) kz_0_8 kz_0_9 kz_0_10 kz_0_11 kz_0_12 kz_0_13 kz_0_14 kz_0_15)⟩
  refine ⟨(fun _ h => (by cases h)), [], trivial, ?_, (fun _ h => (by cases h))⟩
  rw [List.append_nil]
  exact List.forall_mem_cons.mpr ⟨⟨show (20 : Nat) < 100 from by decide, nf0⟩, List.forall_mem_cons.mpr ⟨⟨show (20 : Nat) < 100 from by decide, nf1⟩, List.forall_mem_cons.mpr ⟨⟨show (20 : Nat) < 100 from by decide, nf2⟩, (fun _ h => (by cases h))⟩⟩⟩
set_option maxHeartbeats 4000000 in
theorem vc_Mo_groupItem_at_k3_11_0 (x1 : Int) (x2 : Int) (x7 : Int) (x8 : Int) (from_0 : Int) (pos_0 : Int) (kind_0 : Int) (all_0 : Int → Int) (r_0 : Int) (tape_0 : Int → Int) (limit_0 : Int) (place_0 : Int) (value_0 : Int) (fault_0 : Int) (k1 : 0 ≤ x1 ∧ x1 ≤ 7) (k2 : 3 ≤ x2 ∧ x2 ≤ 3) (k7 : 0 ≤ x7 ∧ x7 ≤ 7) (k8 : 0 ≤ x8 ∧ x8 ≤ 8) (f11 : zMG (limit_0) (pos_0) (kind_0) (place_0) (value_0) (from_0) (fault_0) (r_0) (tape_0) (all_0) (x7) (x8) (x1) (x2)) (kz_0_8 : 0 ≤ fault_0 ∧ fault_0 ≤ 5) (kz_0_10 : 0 ≤ limit_0 ∧ limit_0 ≤ 2000) (kz_0_11 : 0 ≤ pos_0 ∧ pos_0 ≤ 2000) (kz_0_12 : 0 ≤ kind_0 ∧ kind_0 ≤ 4) (kz_0_13 : 0 ≤ place_0 ∧ place_0 ≤ 2000) (kz_0_14 : (-49) ≤ value_0 ∧ value_0 ≤ 1048575) (kz_0_15 : 0 ≤ from_0 ∧ from_0 ≤ 2000) : HST (limit_0) (tape_0) (x7) (x1) := by
  first
    | assumption
    | exact mg_hst ‹zMG _ _ _ _ _ _ _ _ _ _ _ _ _ _›
set_option maxHeartbeats 4000000 in
theorem vc_Mo_groupItem_at_k3_11_1 (pos_0 : Int) (r_0 : Int) (gx : Int) (kz_0_11 : 0 ≤ pos_0 ∧ pos_0 ≤ 2000) (ex2 : gx = pos_0) : 1 * gx + ((-1) * pos_0 + 0) ≤ 0 := by
  first
    | omega
    | (have q1 := (hE_0_2_1 (r_0 + 2) (by omega)).2 (by omega)
       have q2 := (hE_0_2_2 (r_0 + 2) (by omega)).2 (by omega)
       omega)
    | (have q1 := (hE_0_2_1 (r_0 + 1) (by omega)).2 (by omega)
       have q2 := (hE_0_2_2 (r_0 + 1) (by omega)).2 (by omega)
       omega)
    | (have q1 := (hE_0_2_1 (r_0 + 2) (by omega)).2 (by omega)
       omega)
    | (have q1 := (hE_0_2_1 (r_0 + 1) (by omega)).2 (by omega)
       omega)
    | (have q1 := (hE_0_2_1 (r_0 + 2) (by omega)).2 (by omega)
       have q2 := (hE_0_2_2 (r_0 + 2) (by omega)).2 (by omega)
       have q3 := (hE_0_2_3 (r_0 + 2) (by omega)).1 (by omega)
       omega)
    | (have q1 := (hE_0_2_1 (r_0 + 2) (by omega)).2 (by omega)
       have q2 := (hE_0_2_2 (r_0 + 2) (by omega)).2 (by omega)
       have q3 := (hE_0_2_3 (r_0 + 2) (by omega)).2 (by omega)
       omega)
    | (have q1 := (hE_0_2_1 (r_0 + 2) (by omega)).2 (by omega)
       have q2 := (hE_0_2_2 (r_0 + 2) (by omega)).2 (by omega)
       have q3 := (hE_0_2_3 (r_0 + 2) (by omega)).1 (by omega)
       have q4 : x13 = r_0 + 2 := by omega
       simp only [q4] at *
       omega)
set_option maxHeartbeats 4000000 in
theorem vc_Mo_groupItem_at_k3_11_2 (pos_0 : Int) (r_0 : Int) (gx : Int) (kz_0_11 : 0 ≤ pos_0 ∧ pos_0 ≤ 2000) (ex2 : gx = pos_0) : gx = pos_0 := by
  first
    | omega
    | (have q1 := (hE_0_2_1 (r_0 + 2) (by omega)).2 (by omega)
       have q2 := (hE_0_2_2 (r_0 + 2) (by omega)).2 (by omega)
       omega)
    | (have q1 := (hE_0_2_1 (r_0 + 1) (by omega)).2 (by omega)
       have q2 := (hE_0_2_2 (r_0 + 1) (by omega)).2 (by omega)
       omega)
    | (have q1 := (hE_0_2_1 (r_0 + 2) (by omega)).2 (by omega)
       omega)
    | (have q1 := (hE_0_2_1 (r_0 + 1) (by omega)).2 (by omega)
       omega)
    | (have q1 := (hE_0_2_1 (r_0 + 2) (by omega)).2 (by omega)
       have q2 := (hE_0_2_2 (r_0 + 2) (by omega)).2 (by omega)
       have q3 := (hE_0_2_3 (r_0 + 2) (by omega)).1 (by omega)
       omega)
    | (have q1 := (hE_0_2_1 (r_0 + 2) (by omega)).2 (by omega)
       have q2 := (hE_0_2_2 (r_0 + 2) (by omega)).2 (by omega)
       have q3 := (hE_0_2_3 (r_0 + 2) (by omega)).2 (by omega)
       omega)
    | (have q1 := (hE_0_2_1 (r_0 + 2) (by omega)).2 (by omega)
       have q2 := (hE_0_2_2 (r_0 + 2) (by omega)).2 (by omega)
       have q3 := (hE_0_2_3 (r_0 + 2) (by omega)).1 (by omega)
       have q4 : x13 = r_0 + 2 := by omega
       simp only [q4] at *
       omega)
set_option maxHeartbeats 4000000 in
theorem vc_Mo_groupItem_at_k3_11_3 (x1 : Int) (x2 : Int) (x7 : Int) (x8 : Int) (from_0 : Int) (pos_0 : Int) (kind_0 : Int) (all_0 : Int → Int) (r_0 : Int) (tape_0 : Int → Int) (limit_0 : Int) (place_0 : Int) (value_0 : Int) (fault_0 : Int) (k1 : 0 ≤ x1 ∧ x1 ≤ 7) (k2 : 3 ≤ x2 ∧ x2 ≤ 3) (k7 : 0 ≤ x7 ∧ x7 ≤ 7) (k8 : 0 ≤ x8 ∧ x8 ≤ 8) (f11 : zMG (limit_0) (pos_0) (kind_0) (place_0) (value_0) (from_0) (fault_0) (r_0) (tape_0) (all_0) (x7) (x8) (x1) (x2)) (kz_0_8 : 0 ≤ fault_0 ∧ fault_0 ≤ 5) (kz_0_10 : 0 ≤ limit_0 ∧ limit_0 ≤ 2000) (kz_0_11 : 0 ≤ pos_0 ∧ pos_0 ≤ 2000) (kz_0_12 : 0 ≤ kind_0 ∧ kind_0 ≤ 4) (kz_0_13 : 0 ≤ place_0 ∧ place_0 ≤ 2000) (kz_0_14 : (-49) ≤ value_0 ∧ value_0 ≤ 1048575) (kz_0_15 : 0 ≤ from_0 ∧ from_0 ≤ 2000) : ZLM (limit_0) (pos_0) := by
  exact (mg_tk ‹zMG _ _ _ _ _ _ _ _ _ _ _ _ _ _›).1.1
set_option maxHeartbeats 4000000 in
theorem vc_Mo_groupItem_at_k3_11_4 (x3 : Int) (pos_0 : Int) (r_0 : Int) (gx : Int) (k3 : 0 ≤ x3 ∧ x3 ≤ 2000) (f6 : 1 * x3 + ((-1) * pos_0 + 0) ≤ (-1)) (kz_0_11 : 0 ≤ pos_0 ∧ pos_0 ≤ 2000) (ex2 : gx = pos_0) : 1 * x3 + ((-1) * gx + 0) ≤ (-1) := by
  first
    | omega
    | (have q1 := (hE_0_2_1 (r_0 + 2) (by omega)).2 (by omega)
       have q2 := (hE_0_2_2 (r_0 + 2) (by omega)).2 (by omega)
       omega)
    | (have q1 := (hE_0_2_1 (r_0 + 1) (by omega)).2 (by omega)
       have q2 := (hE_0_2_2 (r_0 + 1) (by omega)).2 (by omega)
       omega)
    | (have q1 := (hE_0_2_1 (r_0 + 2) (by omega)).2 (by omega)
       omega)
    | (have q1 := (hE_0_2_1 (r_0 + 1) (by omega)).2 (by omega)
       omega)
    | (have q1 := (hE_0_2_1 (r_0 + 2) (by omega)).2 (by omega)
       have q2 := (hE_0_2_2 (r_0 + 2) (by omega)).2 (by omega)
       have q3 := (hE_0_2_3 (r_0 + 2) (by omega)).1 (by omega)
       omega)
    | (have q1 := (hE_0_2_1 (r_0 + 2) (by omega)).2 (by omega)
       have q2 := (hE_0_2_2 (r_0 + 2) (by omega)).2 (by omega)
       have q3 := (hE_0_2_3 (r_0 + 2) (by omega)).2 (by omega)
       omega)
    | (have q1 := (hE_0_2_1 (r_0 + 2) (by omega)).2 (by omega)
       have q2 := (hE_0_2_2 (r_0 + 2) (by omega)).2 (by omega)
       have q3 := (hE_0_2_3 (r_0 + 2) (by omega)).1 (by omega)
       have q4 : x13 = r_0 + 2 := by omega
       simp only [q4] at *
       omega)
set_option maxHeartbeats 4000000 in
theorem vc_Mo_groupItem_at_k3_11_5 (x1 : Int) (x2 : Int) (x7 : Int) (x8 : Int) (x9 : Int) (x10 : Int) (x11 : Int) (from_0 : Int) (pos_0 : Int) (kind_0 : Int) (all_0 : Int → Int) (r_0 : Int) (tape_0 : Int → Int) (limit_0 : Int) (place_0 : Int) (value_0 : Int) (fault_0 : Int) (gx : Int) (k1 : 0 ≤ x1 ∧ x1 ≤ 7) (k2 : 3 ≤ x2 ∧ x2 ≤ 3) (k7 : 0 ≤ x7 ∧ x7 ≤ 7) (k8 : 0 ≤ x8 ∧ x8 ≤ 8) (k9 : 0 ≤ x9 ∧ x9 ≤ 2000) (k10 : 0 ≤ x10 ∧ x10 ≤ 2000) (k11 : (-2000) ≤ x11 ∧ x11 ≤ 8) (d0 : x11 + 0 ≤ x8 ∧ x8 ≤ x11 + 4294967296) (f1 : x11 = x9 - x10) (g2 : x10 = from_0) (g3 : x9 = pos_0) (f11 : zMG (limit_0) (pos_0) (kind_0) (place_0) (value_0) (from_0) (fault_0) (r_0) (tape_0) (all_0) (x7) (x8) (x1) (x2)) (kz_0_8 : 0 ≤ fault_0 ∧ fault_0 ≤ 5) (kz_0_10 : 0 ≤ limit_0 ∧ limit_0 ≤ 2000) (kz_0_11 : 0 ≤ pos_0 ∧ pos_0 ≤ 2000) (kz_0_12 : 0 ≤ kind_0 ∧ kind_0 ≤ 4) (kz_0_13 : 0 ≤ place_0 ∧ place_0 ≤ 2000) (kz_0_14 : (-49) ≤ value_0 ∧ value_0 ≤ 1048575) (kz_0_15 : 0 ≤ from_0 ∧ from_0 ≤ 2000) (ex2 : gx = pos_0) : zTS7p (limit_0) (fault_0) (r_0) (tape_0) (all_0) (x7) (x2) (gx) := by
  first | subst g2 | skip
  first | subst g3 | skip
  first | subst ex2 | skip
  exact mg_end ‹zMG _ _ _ _ _ _ _ _ _ _ _ _ _ _› (by omega) (by omega)
set_option maxHeartbeats 4000000 in
theorem vc_Mo_groupItem_at_k3_11_6 (x3 : Int) (pos_0 : Int) (r_0 : Int) (gx : Int) (k3 : 0 ≤ x3 ∧ x3 ≤ 2000) (f6 : 1 * x3 + ((-1) * pos_0 + 0) ≤ (-1)) (kz_0_11 : 0 ≤ pos_0 ∧ pos_0 ≤ 2000) (ex2 : gx = pos_0) : 1 * x3 + ((-1) * gx + 0) ≤ (-1) := by
  first
    | omega
    | (have q1 := (hE_0_2_1 (r_0 + 2) (by omega)).2 (by omega)
       have q2 := (hE_0_2_2 (r_0 + 2) (by omega)).2 (by omega)
       omega)
    | (have q1 := (hE_0_2_1 (r_0 + 1) (by omega)).2 (by omega)
       have q2 := (hE_0_2_2 (r_0 + 1) (by omega)).2 (by omega)
       omega)
    | (have q1 := (hE_0_2_1 (r_0 + 2) (by omega)).2 (by omega)
       omega)
    | (have q1 := (hE_0_2_1 (r_0 + 1) (by omega)).2 (by omega)
       omega)
    | (have q1 := (hE_0_2_1 (r_0 + 2) (by omega)).2 (by omega)
       have q2 := (hE_0_2_2 (r_0 + 2) (by omega)).2 (by omega)
       have q3 := (hE_0_2_3 (r_0 + 2) (by omega)).1 (by omega)
       omega)
    | (have q1 := (hE_0_2_1 (r_0 + 2) (by omega)).2 (by omega)
       have q2 := (hE_0_2_2 (r_0 + 2) (by omega)).2 (by omega)
       have q3 := (hE_0_2_3 (r_0 + 2) (by omega)).2 (by omega)
       omega)
    | (have q1 := (hE_0_2_1 (r_0 + 2) (by omega)).2 (by omega)
       have q2 := (hE_0_2_2 (r_0 + 2) (by omega)).2 (by omega)
       have q3 := (hE_0_2_3 (r_0 + 2) (by omega)).1 (by omega)
       have q4 : x13 = r_0 + 2 := by omega
       simp only [q4] at *
       omega)
def o_Mo_groupItem_at_k3_11 : or_T := (161, 12, [(0, (2, 0, 0, [165])), (1, (0, 0, 7, [])), (2, (0, 3, 3, [])), (3, (0, 0, 2000, [])), (7, (0, 0, 7, [])), (8, (0, 0, 8, [])), (9, (0, 0, 2000, [])), (10, (0, 0, 2000, [])), (11, (0, -2000, 8, []))], [(2, [11, 9, 10], []), (9, [10, 4], [15]), (9, [9, 4], [11]), (20, [3, 4], [30, -1, 1, 0, 0, -1, 1, 11]), (20, [4, 7, 8, 5, 6], [60, 8, 2, 1006, 10, 11, 12, 13, 14, 15, 8, 5, 1, 2]), (24, [0, 4], []), (24, [1, 5], []), (24, [2, 6], [])], [], [(0, 0, 2000, [])], [(20, [4, 7, 5], [60, 1, 1, 1028, 10, 1]), (20, [12, 4], [30, 0, 1, 0, 0, -1, 1, 11]), (20, [12, 4], [50, 1, 0, 1011, 1, 2, 1, 0, 2, 1, 11]), (20, [4], [60, 2, 0, 947, 10, 11]), (23, [3, 12], [-1, 1, -1]), (20, [4, 7, 6, 12], [60, 3, 2, 978, 10, 8, 5, 1, 2]), (20, [3, 12], [30, -1, 1, 0, 0, -1, 0, 0])], [], [(8, 11, 0, 4294967296)])
theorem oo_Mo_groupItem_at_k3_11 {kA : Nat → ClassId} : or_ok PRD kA GG o_Mo_groupItem_at_k3_11 := by
  refine or_mk fun A ta ws vs hD hth hl => ?_
  intro t0 r0 t1 k1 t2 k2 t3 k3 t7 k7 t8 k8 t9 k9 t10 k10 t11 k11 d0 f1 f2 f3 f6 f11 f12 f13 f14
  replace f1 := shm_14 f1
  replace f2 := shm_177 f2
  replace f3 := shm_116 f3
  replace f6 := shm_2005 f6
  replace f11 := shm_2175 f11
  replace f12 := shm_5 f12
  replace f13 := shm_5 f13
  replace f14 := shm_5 f14
  have q4 : n_v vs 4 = n_v vs 0 := f12.symm
  have q5 : n_v vs 5 = n_v vs 1 := f13.symm
  have q6 : n_v vs 6 = n_v vs 2 := f14.symm
  simp only [q4, q5, q6] at f2 f3 f6 f11
  have g2 : v_iv (n_v vs 10) = w_fi ws (n_v vs 0) 15 := congrArg v_iv f2
  have g3 : v_iv (n_v vs 9) = w_fi ws (n_v vs 0) 11 := congrArg v_iv f3
  have kz_0_8 := fdq_34 hD hth r0
  have kz_0_10 := fdq_43 hD hth r0
  have kz_0_11 := fdq_237 hD hth r0
  have kz_0_12 := fdq_187 hD hth r0
  have kz_0_13 := fdq_238 hD hth r0
  have kz_0_14 := fdq_188 hD hth r0
  have kz_0_15 := fdq_239 hD hth r0
  obtain ⟨x, ex, hx⟩ := iv_ex (ta := ta) (lo := 0) (hi := 2000) (z := w_fi ws (n_v vs 0) 11) (by omega) (by omega) (by omega) (by omega)
  have ex2 : v_iv (Value.int x) = w_fi ws (n_v vs 0) 11 := ex
  have ex3 : 0 ≤ v_iv (Value.int x) ∧ v_iv (Value.int x) ≤ 2000 := tv_rng hx
  have e_3 : n_v (vs ++ [Value.int x]) 3 = n_v vs 3 := n_v_old (by rw [hl]; decide)
  have e_4 : n_v (vs ++ [Value.int x]) 4 = n_v vs 4 := n_v_old (by rw [hl]; decide)
  have e_5 : n_v (vs ++ [Value.int x]) 5 = n_v vs 5 := n_v_old (by rw [hl]; decide)
  have e_6 : n_v (vs ++ [Value.int x]) 6 = n_v vs 6 := n_v_old (by rw [hl]; decide)
  have e_7 : n_v (vs ++ [Value.int x]) 7 = n_v vs 7 := n_v_old (by rw [hl]; decide)
  have e_12 : n_v (vs ++ [Value.int x]) 12 = Value.int x := n_v_new hl
  have nf0 : fc_1 PRD (20, [4, 7, 5], [60, 1, 1, 1028, 10, 1]) ws (vs ++ [Value.int x]) := by
    refine ⟨nf_inA hl rfl, sgq_2176 ?_⟩
    · show HST (w_fi ws (n_v (vs ++ [Value.int x]) 4) 10) (w_ei ws (w_ar ws (n_v (vs ++ [Value.int x]) 4) 1)) (v_iv (n_v (vs ++ [Value.int x]) 7)) (v_iv (n_v (vs ++ [Value.int x]) 5))
      simp only [e_4, e_5, e_7, q4, q5]
      exact vc_Mo_groupItem_at_k3_11_0 (v_iv (n_v vs 1)) (v_iv (n_v vs 2)) (v_iv (n_v vs 7)) (v_iv (n_v vs 8)) (w_fi ws (n_v vs 0) 15) (w_fi ws (n_v vs 0) 11) (w_fi ws (n_v vs 0) 12) (w_ei ws (w_ar ws (n_v vs 0) 2)) (w_fi ws (n_v vs 0) 5) (w_ei ws (w_ar ws (n_v vs 0) 1)) (w_fi ws (n_v vs 0) 10) (w_fi ws (n_v vs 0) 13) (w_fi ws (n_v vs 0) 14) (w_fi ws (n_v vs 0) 8) k1 k2 k7 k8 f11 kz_0_8 kz_0_10 kz_0_11 kz_0_12 kz_0_13 kz_0_14 kz_0_15
  have nf1 : fc_1 PRD (20, [12, 4], [30, 0, 1, 0, 0, -1, 1, 11]) ws (vs ++ [Value.int x]) := by
    refine ⟨nf_inA hl rfl, sgq_1431 ?_⟩
    · show 1 * v_iv (n_v (vs ++ [Value.int x]) 12) + ((-1) * w_fi ws (n_v (vs ++ [Value.int x]) 4) 11 + 0) ≤ 0
      simp only [e_4, e_12, q4]
      exact vc_Mo_groupItem_at_k3_11_1 (w_fi ws (n_v vs 0) 11) (w_fi ws (n_v vs 0) 5) (v_iv (Value.int x)) kz_0_11 ex2
  have nf2 : fc_1 PRD (20, [12, 4], [50, 1, 0, 1011, 1, 2, 1, 0, 2, 1, 11]) ws (vs ++ [Value.int x]) := by
    refine ⟨nf_inA hl rfl, sgq_1432 ?_⟩
    · show v_iv (n_v (vs ++ [Value.int x]) 12) = w_fi ws (n_v (vs ++ [Value.int x]) 4) 11
      simp only [e_4, e_12, q4]
      exact vc_Mo_groupItem_at_k3_11_2 (w_fi ws (n_v vs 0) 11) (w_fi ws (n_v vs 0) 5) (v_iv (Value.int x)) kz_0_11 ex2
  have nf3 : fc_1 PRD (20, [4], [60, 2, 0, 947, 10, 11]) ws (vs ++ [Value.int x]) := by
    refine ⟨nf_inA hl rfl, sgq_1433 ?_⟩
    · show ZLM (w_fi ws (n_v (vs ++ [Value.int x]) 4) 10) (w_fi ws (n_v (vs ++ [Value.int x]) 4) 11)
      simp only [e_4, q4]
      exact vc_Mo_groupItem_at_k3_11_3 (v_iv (n_v vs 1)) (v_iv (n_v vs 2)) (v_iv (n_v vs 7)) (v_iv (n_v vs 8)) (w_fi ws (n_v vs 0) 15) (w_fi ws (n_v vs 0) 11) (w_fi ws (n_v vs 0) 12) (w_ei ws (w_ar ws (n_v vs 0) 2)) (w_fi ws (n_v vs 0) 5) (w_ei ws (w_ar ws (n_v vs 0) 1)) (w_fi ws (n_v vs 0) 10) (w_fi ws (n_v vs 0) 13) (w_fi ws (n_v vs 0) 14) (w_fi ws (n_v vs 0) 8) k1 k2 k7 k8 f11 kz_0_8 kz_0_10 kz_0_11 kz_0_12 kz_0_13 kz_0_14 kz_0_15
  have nf4 : fc_1 PRD (23, [3, 12], [-1, 1, -1]) ws (vs ++ [Value.int x]) := by
    refine ⟨nf_inA hl rfl, sgq_193 ?_⟩
    · show 1 * v_iv (n_v (vs ++ [Value.int x]) 3) + ((-1) * v_iv (n_v (vs ++ [Value.int x]) 12) + 0) ≤ (-1)
      simp only [e_3, e_12]
      exact vc_Mo_groupItem_at_k3_11_4 (v_iv (n_v vs 3)) (w_fi ws (n_v vs 0) 11) (w_fi ws (n_v vs 0) 5) (v_iv (Value.int x)) k3 f6 kz_0_11 ex2
  have nf5 : fc_1 PRD (20, [4, 7, 6, 12], [60, 3, 2, 978, 10, 8, 5, 1, 2]) ws (vs ++ [Value.int x]) := by
    refine ⟨nf_inA hl rfl, sgq_2177 ?_⟩
    · show zTS7p (w_fi ws (n_v (vs ++ [Value.int x]) 4) 10) (w_fi ws (n_v (vs ++ [Value.int x]) 4) 8) (w_fi ws (n_v (vs ++ [Value.int x]) 4) 5) (w_ei ws (w_ar ws (n_v (vs ++ [Value.int x]) 4) 1)) (w_ei ws (w_ar ws (n_v (vs ++ [Value.int x]) 4) 2)) (v_iv (n_v (vs ++ [Value.int x]) 7)) (v_iv (n_v (vs ++ [Value.int x]) 6)) (v_iv (n_v (vs ++ [Value.int x]) 12))
      simp only [e_4, e_6, e_7, e_12, q4, q6]
      exact vc_Mo_groupItem_at_k3_11_5 (v_iv (n_v vs 1)) (v_iv (n_v vs 2)) (v_iv (n_v vs 7)) (v_iv (n_v vs 8)) (v_iv (n_v vs 9)) (v_iv (n_v vs 10)) (v_iv (n_v vs 11)) (w_fi ws (n_v vs 0) 15) (w_fi ws (n_v vs 0) 11) (w_fi ws (n_v vs 0) 12) (w_ei ws (w_ar ws (n_v vs 0) 2)) (w_fi ws (n_v vs 0) 5) (w_ei ws (w_ar ws (n_v vs 0) 1)) (w_fi ws (n_v vs 0) 10) (w_fi ws (n_v vs 0) 13) (w_fi ws (n_v vs 0) 14) (w_fi ws (n_v vs 0) 8) (v_iv (Value.int x)) k1 k2 k7 k8 k9 k10 k11 d0 f1 g2 g3 f11 kz_0_8 kz_0_10 kz_0_11 kz_0_12 kz_0_13 kz_0_14 kz_0_15 ex2
  have nf6 : fc_1 PRD (20, [3, 12], [30, -1, 1, 0, 0, -1, 0, 0]) ws (vs ++ [Value.int x]) := by
    refine ⟨nf_inA hl rfl, sgq_2151 ?_⟩
    · show 1 * v_iv (n_v (vs ++ [Value.int x]) 3) + ((-1) * v_iv (n_v (vs ++ [Value.int x]) 12) + 0) ≤ (-1)
      simp only [e_3, e_12]
      exact vc_Mo_groupItem_at_k3_11_6 (v_iv (n_v vs 3)) (w_fi ws (n_v vs 0) 11) (w_fi ws (n_v vs 0) 5) (v_iv (Value.int x)) k3 f6 kz_0_11 ex2
  exact ⟨(fun _ h => (by cases h)), [Value.int x], ag_one hx, List.forall_mem_cons.mpr ⟨⟨show (20 : Nat) < 100 from by decide, nf0⟩, List.forall_mem_cons.mpr ⟨⟨show (20 : Nat) < 100 from by decide, nf1⟩, List.forall_mem_cons.mpr ⟨⟨show (20 : Nat) < 100 from by decide, nf2⟩, List.forall_mem_cons.mpr ⟨⟨show (20 : Nat) < 100 from by decide, nf3⟩, List.forall_mem_cons.mpr ⟨⟨show (23 : Nat) < 100 from by decide, nf4⟩, List.forall_mem_cons.mpr ⟨⟨show (20 : Nat) < 100 from by decide, nf5⟩, List.forall_mem_cons.mpr ⟨⟨show (20 : Nat) < 100 from by decide, nf6⟩, (fun _ h => (by cases h))⟩⟩⟩⟩⟩⟩⟩, (fun _ h => (by cases h))⟩
set_option maxHeartbeats 4000000 in
theorem vc_Mo_groupItem_at_k3_12_0 (x3 : Int) (r_0 : Int) (gx : Int) (k3 : 0 ≤ x3 ∧ x3 ≤ 2000) (ex2 : gx = x3) : 1 * gx + ((-1) * x3 + 0) ≤ 0 := by
  first
    | omega
    | (have q1 := (hE_0_2_1 (r_0 + 2) (by omega)).2 (by omega)
       have q2 := (hE_0_2_2 (r_0 + 2) (by omega)).2 (by omega)
       omega)
    | (have q1 := (hE_0_2_1 (r_0 + 1) (by omega)).2 (by omega)
       have q2 := (hE_0_2_2 (r_0 + 1) (by omega)).2 (by omega)
       omega)
    | (have q1 := (hE_0_2_1 (r_0 + 2) (by omega)).2 (by omega)
       omega)
    | (have q1 := (hE_0_2_1 (r_0 + 1) (by omega)).2 (by omega)
       omega)
    | (have q1 := (hE_0_2_1 (r_0 + 2) (by omega)).2 (by omega)
       have q2 := (hE_0_2_2 (r_0 + 2) (by omega)).2 (by omega)
       have q3 := (hE_0_2_3 (r_0 + 2) (by omega)).1 (by omega)
       omega)
    | (have q1 := (hE_0_2_1 (r_0 + 2) (by omega)).2 (by omega)
       have q2 := (hE_0_2_2 (r_0 + 2) (by omega)).2 (by omega)
       have q3 := (hE_0_2_3 (r_0 + 2) (by omega)).2 (by omega)
       omega)
    | (have q1 := (hE_0_2_1 (r_0 + 2) (by omega)).2 (by omega)
       have q2 := (hE_0_2_2 (r_0 + 2) (by omega)).2 (by omega)
       have q3 := (hE_0_2_3 (r_0 + 2) (by omega)).1 (by omega)
       have q4 : x13 = r_0 + 2 := by omega
       simp only [q4] at *
       omega)
set_option maxHeartbeats 4000000 in
theorem vc_Mo_groupItem_at_k3_12_1 (x3 : Int) (r_0 : Int) (gx : Int) (k3 : 0 ≤ x3 ∧ x3 ≤ 2000) (ex2 : gx = x3) : (-1) * gx + (1 * x3 + 0) ≤ 0 := by
  first
    | omega
    | (have q1 := (hE_0_2_1 (r_0 + 2) (by omega)).2 (by omega)
       have q2 := (hE_0_2_2 (r_0 + 2) (by omega)).2 (by omega)
       omega)
    | (have q1 := (hE_0_2_1 (r_0 + 1) (by omega)).2 (by omega)
       have q2 := (hE_0_2_2 (r_0 + 1) (by omega)).2 (by omega)
       omega)
    | (have q1 := (hE_0_2_1 (r_0 + 2) (by omega)).2 (by omega)
       omega)
    | (have q1 := (hE_0_2_1 (r_0 + 1) (by omega)).2 (by omega)
       omega)
    | (have q1 := (hE_0_2_1 (r_0 + 2) (by omega)).2 (by omega)
       have q2 := (hE_0_2_2 (r_0 + 2) (by omega)).2 (by omega)
       have q3 := (hE_0_2_3 (r_0 + 2) (by omega)).1 (by omega)
       omega)
    | (have q1 := (hE_0_2_1 (r_0 + 2) (by omega)).2 (by omega)
       have q2 := (hE_0_2_2 (r_0 + 2) (by omega)).2 (by omega)
       have q3 := (hE_0_2_3 (r_0 + 2) (by omega)).2 (by omega)
       omega)
    | (have q1 := (hE_0_2_1 (r_0 + 2) (by omega)).2 (by omega)
       have q2 := (hE_0_2_2 (r_0 + 2) (by omega)).2 (by omega)
       have q3 := (hE_0_2_3 (r_0 + 2) (by omega)).1 (by omega)
       have q4 : x13 = r_0 + 2 := by omega
       simp only [q4] at *
       omega)
set_option maxHeartbeats 4000000 in
theorem vc_Mo_groupItem_at_k3_12_2 (x7 : Int) (r_0 : Int) (gy : Int) (k7 : 0 ≤ x7 ∧ x7 ≤ 7) (ey2 : gy = x7) : 1 * gy + ((-1) * x7 + 0) ≤ 0 := by
  first
    | omega
    | (have q1 := (hE_0_2_1 (r_0 + 2) (by omega)).2 (by omega)
       have q2 := (hE_0_2_2 (r_0 + 2) (by omega)).2 (by omega)
       omega)
    | (have q1 := (hE_0_2_1 (r_0 + 1) (by omega)).2 (by omega)
       have q2 := (hE_0_2_2 (r_0 + 1) (by omega)).2 (by omega)
       omega)
    | (have q1 := (hE_0_2_1 (r_0 + 2) (by omega)).2 (by omega)
       omega)
    | (have q1 := (hE_0_2_1 (r_0 + 1) (by omega)).2 (by omega)
       omega)
    | (have q1 := (hE_0_2_1 (r_0 + 2) (by omega)).2 (by omega)
       have q2 := (hE_0_2_2 (r_0 + 2) (by omega)).2 (by omega)
       have q3 := (hE_0_2_3 (r_0 + 2) (by omega)).1 (by omega)
       omega)
    | (have q1 := (hE_0_2_1 (r_0 + 2) (by omega)).2 (by omega)
       have q2 := (hE_0_2_2 (r_0 + 2) (by omega)).2 (by omega)
       have q3 := (hE_0_2_3 (r_0 + 2) (by omega)).2 (by omega)
       omega)
    | (have q1 := (hE_0_2_1 (r_0 + 2) (by omega)).2 (by omega)
       have q2 := (hE_0_2_2 (r_0 + 2) (by omega)).2 (by omega)
       have q3 := (hE_0_2_3 (r_0 + 2) (by omega)).1 (by omega)
       have q4 : x13 = r_0 + 2 := by omega
       simp only [q4] at *
       omega)
set_option maxHeartbeats 4000000 in
theorem vc_Mo_groupItem_at_k3_12_3 (x7 : Int) (r_0 : Int) (gy : Int) (k7 : 0 ≤ x7 ∧ x7 ≤ 7) (ey2 : gy = x7) : (-1) * gy + (1 * x7 + 0) ≤ 0 := by
  first
    | omega
    | (have q1 := (hE_0_2_1 (r_0 + 2) (by omega)).2 (by omega)
       have q2 := (hE_0_2_2 (r_0 + 2) (by omega)).2 (by omega)
       omega)
    | (have q1 := (hE_0_2_1 (r_0 + 1) (by omega)).2 (by omega)
       have q2 := (hE_0_2_2 (r_0 + 1) (by omega)).2 (by omega)
       omega)
    | (have q1 := (hE_0_2_1 (r_0 + 2) (by omega)).2 (by omega)
       omega)
    | (have q1 := (hE_0_2_1 (r_0 + 1) (by omega)).2 (by omega)
       omega)
    | (have q1 := (hE_0_2_1 (r_0 + 2) (by omega)).2 (by omega)
       have q2 := (hE_0_2_2 (r_0 + 2) (by omega)).2 (by omega)
       have q3 := (hE_0_2_3 (r_0 + 2) (by omega)).1 (by omega)
       omega)
    | (have q1 := (hE_0_2_1 (r_0 + 2) (by omega)).2 (by omega)
       have q2 := (hE_0_2_2 (r_0 + 2) (by omega)).2 (by omega)
       have q3 := (hE_0_2_3 (r_0 + 2) (by omega)).2 (by omega)
       omega)
    | (have q1 := (hE_0_2_1 (r_0 + 2) (by omega)).2 (by omega)
       have q2 := (hE_0_2_2 (r_0 + 2) (by omega)).2 (by omega)
       have q3 := (hE_0_2_3 (r_0 + 2) (by omega)).1 (by omega)
       have q4 : x13 = r_0 + 2 := by omega
       simp only [q4] at *
       omega)
set_option maxHeartbeats 4000000 in
theorem vc_Mo_groupItem_at_k3_12_4 (x2 : Int) (r_0 : Int) (gu : Int) (k2 : 3 ≤ x2 ∧ x2 ≤ 3) (eu2 : gu = x2) : 1 * gu + ((-1) * x2 + 0) ≤ 0 := by
  first
    | omega
    | (have q1 := (hE_0_2_1 (r_0 + 2) (by omega)).2 (by omega)
       have q2 := (hE_0_2_2 (r_0 + 2) (by omega)).2 (by omega)
       omega)
    | (have q1 := (hE_0_2_1 (r_0 + 1) (by omega)).2 (by omega)
       have q2 := (hE_0_2_2 (r_0 + 1) (by omega)).2 (by omega)
       omega)
    | (have q1 := (hE_0_2_1 (r_0 + 2) (by omega)).2 (by omega)
       omega)
    | (have q1 := (hE_0_2_1 (r_0 + 1) (by omega)).2 (by omega)
       omega)
    | (have q1 := (hE_0_2_1 (r_0 + 2) (by omega)).2 (by omega)
       have q2 := (hE_0_2_2 (r_0 + 2) (by omega)).2 (by omega)
       have q3 := (hE_0_2_3 (r_0 + 2) (by omega)).1 (by omega)
       omega)
    | (have q1 := (hE_0_2_1 (r_0 + 2) (by omega)).2 (by omega)
       have q2 := (hE_0_2_2 (r_0 + 2) (by omega)).2 (by omega)
       have q3 := (hE_0_2_3 (r_0 + 2) (by omega)).2 (by omega)
       omega)
    | (have q1 := (hE_0_2_1 (r_0 + 2) (by omega)).2 (by omega)
       have q2 := (hE_0_2_2 (r_0 + 2) (by omega)).2 (by omega)
       have q3 := (hE_0_2_3 (r_0 + 2) (by omega)).1 (by omega)
       have q4 : x13 = r_0 + 2 := by omega
       simp only [q4] at *
       omega)
set_option maxHeartbeats 4000000 in
theorem vc_Mo_groupItem_at_k3_12_5 (x2 : Int) (r_0 : Int) (gu : Int) (k2 : 3 ≤ x2 ∧ x2 ≤ 3) (eu2 : gu = x2) : (-1) * gu + (1 * x2 + 0) ≤ 0 := by
  first
    | omega
    | (have q1 := (hE_0_2_1 (r_0 + 2) (by omega)).2 (by omega)
       have q2 := (hE_0_2_2 (r_0 + 2) (by omega)).2 (by omega)
       omega)
    | (have q1 := (hE_0_2_1 (r_0 + 1) (by omega)).2 (by omega)
       have q2 := (hE_0_2_2 (r_0 + 1) (by omega)).2 (by omega)
       omega)
    | (have q1 := (hE_0_2_1 (r_0 + 2) (by omega)).2 (by omega)
       omega)
    | (have q1 := (hE_0_2_1 (r_0 + 1) (by omega)).2 (by omega)
       omega)
    | (have q1 := (hE_0_2_1 (r_0 + 2) (by omega)).2 (by omega)
       have q2 := (hE_0_2_2 (r_0 + 2) (by omega)).2 (by omega)
       have q3 := (hE_0_2_3 (r_0 + 2) (by omega)).1 (by omega)
       omega)
    | (have q1 := (hE_0_2_1 (r_0 + 2) (by omega)).2 (by omega)
       have q2 := (hE_0_2_2 (r_0 + 2) (by omega)).2 (by omega)
       have q3 := (hE_0_2_3 (r_0 + 2) (by omega)).2 (by omega)
       omega)
    | (have q1 := (hE_0_2_1 (r_0 + 2) (by omega)).2 (by omega)
       have q2 := (hE_0_2_2 (r_0 + 2) (by omega)).2 (by omega)
       have q3 := (hE_0_2_3 (r_0 + 2) (by omega)).1 (by omega)
       have q4 : x13 = r_0 + 2 := by omega
       simp only [q4] at *
       omega)
set_option maxHeartbeats 4000000 in
theorem vc_Mo_groupItem_at_k3_12_6 (r_0 : Int) (from_0 : Int) (pos_0 : Int) (f10 : 1 * from_0 + ((-1) * pos_0 + 0) ≤ 0) (kz_0_11 : 0 ≤ pos_0 ∧ pos_0 ≤ 2000) (kz_0_15 : 0 ≤ from_0 ∧ from_0 ≤ 2000) : 1 * from_0 + ((-1) * pos_0 + 0) ≤ 0 := by
  first
    | omega
    | (have q1 := (hE_0_2_1 (r_0 + 2) (by omega)).2 (by omega)
       have q2 := (hE_0_2_2 (r_0 + 2) (by omega)).2 (by omega)
       omega)
    | (have q1 := (hE_0_2_1 (r_0 + 1) (by omega)).2 (by omega)
       have q2 := (hE_0_2_2 (r_0 + 1) (by omega)).2 (by omega)
       omega)
    | (have q1 := (hE_0_2_1 (r_0 + 2) (by omega)).2 (by omega)
       omega)
    | (have q1 := (hE_0_2_1 (r_0 + 1) (by omega)).2 (by omega)
       omega)
    | (have q1 := (hE_0_2_1 (r_0 + 2) (by omega)).2 (by omega)
       have q2 := (hE_0_2_2 (r_0 + 2) (by omega)).2 (by omega)
       have q3 := (hE_0_2_3 (r_0 + 2) (by omega)).1 (by omega)
       omega)
    | (have q1 := (hE_0_2_1 (r_0 + 2) (by omega)).2 (by omega)
       have q2 := (hE_0_2_2 (r_0 + 2) (by omega)).2 (by omega)
       have q3 := (hE_0_2_3 (r_0 + 2) (by omega)).2 (by omega)
       omega)
    | (have q1 := (hE_0_2_1 (r_0 + 2) (by omega)).2 (by omega)
       have q2 := (hE_0_2_2 (r_0 + 2) (by omega)).2 (by omega)
       have q3 := (hE_0_2_3 (r_0 + 2) (by omega)).1 (by omega)
       have q4 : x13 = r_0 + 2 := by omega
       simp only [q4] at *
       omega)
set_option maxHeartbeats 4000000 in
theorem vc_Mo_groupItem_at_k3_12_7 (r_0 : Int) (from_0 : Int) (pos_0 : Int) (kind_0 : Int) (f11 : ((kind_0 = 1) → (pos_0 ≤ (from_0 + 8))) ∧ ((kind_0 = 0) ∨ ((from_0 + 1) ≤ pos_0))) (kz_0_11 : 0 ≤ pos_0 ∧ pos_0 ≤ 2000) (kz_0_12 : 0 ≤ kind_0 ∧ kind_0 ≤ 4) (kz_0_15 : 0 ≤ from_0 ∧ from_0 ≤ 2000) : ((kind_0 = 1) → (pos_0 ≤ (from_0 + 8))) ∧ ((kind_0 = 0) ∨ ((from_0 + 1) ≤ pos_0)) := by
  first
    | omega
    | (have q1 := (hE_0_2_1 (r_0 + 2) (by omega)).2 (by omega)
       have q2 := (hE_0_2_2 (r_0 + 2) (by omega)).2 (by omega)
       omega)
    | (have q1 := (hE_0_2_1 (r_0 + 1) (by omega)).2 (by omega)
       have q2 := (hE_0_2_2 (r_0 + 1) (by omega)).2 (by omega)
       omega)
    | (have q1 := (hE_0_2_1 (r_0 + 2) (by omega)).2 (by omega)
       omega)
    | (have q1 := (hE_0_2_1 (r_0 + 1) (by omega)).2 (by omega)
       omega)
    | (have q1 := (hE_0_2_1 (r_0 + 2) (by omega)).2 (by omega)
       have q2 := (hE_0_2_2 (r_0 + 2) (by omega)).2 (by omega)
       have q3 := (hE_0_2_3 (r_0 + 2) (by omega)).1 (by omega)
       omega)
    | (have q1 := (hE_0_2_1 (r_0 + 2) (by omega)).2 (by omega)
       have q2 := (hE_0_2_2 (r_0 + 2) (by omega)).2 (by omega)
       have q3 := (hE_0_2_3 (r_0 + 2) (by omega)).2 (by omega)
       omega)
    | (have q1 := (hE_0_2_1 (r_0 + 2) (by omega)).2 (by omega)
       have q2 := (hE_0_2_2 (r_0 + 2) (by omega)).2 (by omega)
       have q3 := (hE_0_2_3 (r_0 + 2) (by omega)).1 (by omega)
       have q4 : x13 = r_0 + 2 := by omega
       simp only [q4] at *
       omega)
set_option maxHeartbeats 4000000 in
theorem vc_Mo_groupItem_at_k3_12_8 (x3 : Int) (x12 : Int) (r_0 : Int) (from_0 : Int) (pos_0 : Int) (gx : Int) (k3 : 0 ≤ x3 ∧ x3 ≤ 2000) (k12 : 0 ≤ x12 ∧ x12 ≤ 2000) (f1 : 1 * x3 + ((-1) * x12 + 0) ≤ (-1)) (f10 : 1 * from_0 + ((-1) * pos_0 + 0) ≤ 0) (f12 : 1 * x12 + ((-1) * from_0 + 0) ≤ 0) (kz_0_11 : 0 ≤ pos_0 ∧ pos_0 ≤ 2000) (kz_0_15 : 0 ≤ from_0 ∧ from_0 ≤ 2000) (ex2 : gx = x3) : 1 * gx + ((-1) * pos_0 + 0) ≤ 0 := by
  first
    | omega
    | (have q1 := (hE_0_2_1 (r_0 + 2) (by omega)).2 (by omega)
       have q2 := (hE_0_2_2 (r_0 + 2) (by omega)).2 (by omega)
       omega)
    | (have q1 := (hE_0_2_1 (r_0 + 1) (by omega)).2 (by omega)
       have q2 := (hE_0_2_2 (r_0 + 1) (by omega)).2 (by omega)
       omega)
    | (have q1 := (hE_0_2_1 (r_0 + 2) (by omega)).2 (by omega)
       omega)
    | (have q1 := (hE_0_2_1 (r_0 + 1) (by omega)).2 (by omega)
       omega)
    | (have q1 := (hE_0_2_1 (r_0 + 2) (by omega)).2 (by omega)
       have q2 := (hE_0_2_2 (r_0 + 2) (by omega)).2 (by omega)
       have q3 := (hE_0_2_3 (r_0 + 2) (by omega)).1 (by omega)
       omega)
    | (have q1 := (hE_0_2_1 (r_0 + 2) (by omega)).2 (by omega)
       have q2 := (hE_0_2_2 (r_0 + 2) (by omega)).2 (by omega)
       have q3 := (hE_0_2_3 (r_0 + 2) (by omega)).2 (by omega)
       omega)
    | (have q1 := (hE_0_2_1 (r_0 + 2) (by omega)).2 (by omega)
       have q2 := (hE_0_2_2 (r_0 + 2) (by omega)).2 (by omega)
       have q3 := (hE_0_2_3 (r_0 + 2) (by omega)).1 (by omega)
       have q4 : x13 = r_0 + 2 := by omega
       simp only [q4] at *
       omega)
set_option maxHeartbeats 4000000 in
theorem vc_Mo_groupItem_at_k3_12_9 (x3 : Int) (x12 : Int) (fault_0 : Int) (r_0 : Int) (from_0 : Int) (pos_0 : Int) (kind_0 : Int) (gx : Int) (k3 : 0 ≤ x3 ∧ x3 ≤ 2000) (k12 : 0 ≤ x12 ∧ x12 ≤ 2000) (f1 : 1 * x3 + ((-1) * x12 + 0) ≤ (-1)) (f10 : 1 * from_0 + ((-1) * pos_0 + 0) ≤ 0) (f12 : 1 * x12 + ((-1) * from_0 + 0) ≤ 0) (kz_0_8 : 0 ≤ fault_0 ∧ fault_0 ≤ 5) (kz_0_11 : 0 ≤ pos_0 ∧ pos_0 ≤ 2000) (kz_0_12 : 0 ≤ kind_0 ∧ kind_0 ≤ 4) (kz_0_15 : 0 ≤ from_0 ∧ from_0 ≤ 2000) (ex2 : gx = x3) : (1 ≤ fault_0) ∨ ((kind_0 = 0) ∨ ((gx + 1) ≤ pos_0)) := by
  first
    | omega
    | (have q1 := (hE_0_2_1 (r_0 + 2) (by omega)).2 (by omega)
       have q2 := (hE_0_2_2 (r_0 + 2) (by omega)).2 (by omega)
       omega)
    | (have q1 := (hE_0_2_1 (r_0 + 1) (by omega)).2 (by omega)
       have q2 := (hE_0_2_2 (r_0 + 1) (by omega)).2 (by omega)
       omega)
    | (have q1 := (hE_0_2_1 (r_0 + 2) (by omega)).2 (by omega)
       omega)
    | (have q1 := (hE_0_2_1 (r_0 + 1) (by omega)).2 (by omega)
       omega)
    | (have q1 := (hE_0_2_1 (r_0 + 2) (by omega)).2 (by omega)
       have q2 := (hE_0_2_2 (r_0 + 2) (by omega)).2 (by omega)
       have q3 := (hE_0_2_3 (r_0 + 2) (by omega)).1 (by omega)
       omega)
    | (have q1 := (hE_0_2_1 (r_0 + 2) (by omega)).2 (by omega)
       have q2 := (hE_0_2_2 (r_0 + 2) (by omega)).2 (by omega)
       have q3 := (hE_0_2_3 (r_0 + 2) (by omega)).2 (by omega)
       omega)
    | (have q1 := (hE_0_2_1 (r_0 + 2) (by omega)).2 (by omega)
       have q2 := (hE_0_2_2 (r_0 + 2) (by omega)).2 (by omega)
       have q3 := (hE_0_2_3 (r_0 + 2) (by omega)).1 (by omega)
       have q4 : x13 = r_0 + 2 := by omega
       simp only [q4] at *
       omega)
set_option maxHeartbeats 4000000 in
theorem vc_Mo_groupItem_at_k3_12_10 (x2 : Int) (x3 : Int) (x7 : Int) (x12 : Int) (tape_0 : Int → Int) (limit_0 : Int) (all_0 : Int → Int) (fault_0 : Int) (r_0 : Int) (from_0 : Int) (pos_0 : Int) (kind_0 : Int) (place_0 : Int) (value_0 : Int) (faultPlace_0 : Int) (gx : Int) (gy : Int) (gu : Int) (k2 : 3 ≤ x2 ∧ x2 ≤ 3) (k3 : 0 ≤ x3 ∧ x3 ≤ 2000) (k7 : 0 ≤ x7 ∧ x7 ≤ 7) (k12 : 0 ≤ x12 ∧ x12 ≤ 2000) (f2 : zTS7p (limit_0) (fault_0) (r_0) (tape_0) (all_0) (x7) (x2) (x12)) (f13 : TKR (limit_0) (pos_0) (kind_0) (place_0) (value_0) (from_0) (tape_0) (x12)) (kz_0_8 : 0 ≤ fault_0 ∧ fault_0 ≤ 5) (kz_0_9 : 0 ≤ faultPlace_0 ∧ faultPlace_0 ≤ 2000) (kz_0_10 : 0 ≤ limit_0 ∧ limit_0 ≤ 2000) (kz_0_11 : 0 ≤ pos_0 ∧ pos_0 ≤ 2000) (kz_0_12 : 0 ≤ kind_0 ∧ kind_0 ≤ 4) (kz_0_13 : 0 ≤ place_0 ∧ place_0 ≤ 2000) (kz_0_14 : (-49) ≤ value_0 ∧ value_0 ≤ 1048575) (kz_0_15 : 0 ≤ from_0 ∧ from_0 ≤ 2000) (ex2 : gx = x3) (ey2 : gy = x7) (eu2 : gu = x2) : zONo (limit_0) (pos_0) (kind_0) (place_0) (value_0) (from_0) (fault_0) (faultPlace_0) (r_0) (tape_0) (all_0) (gy) (gu) := by
  first | subst ex2 | skip
  first | subst ey2 | skip
  first | subst eu2 | skip
  exact Or.inr (no_7 (rsq_of ‹zTS7p _ _ _ _ _ _ _ _› ‹TKR _ _ _ _ _ _ _ _›))
def o_Mo_groupItem_at_k3_12 : or_T := (167, 14, [(0, (2, 0, 0, [165])), (2, (0, 3, 3, [])), (3, (0, 0, 2000, [])), (7, (0, 0, 7, [])), (12, (0, 0, 2000, []))], [(23, [3, 12], [-1, 1, -1]), (20, [4, 7, 6, 12], [60, 3, 2, 978, 10, 8, 5, 1, 2]), (24, [0, 4], []), (24, [2, 6], []), (20, [4, 4], [30, 0, 1, 1, 15, -1, 1, 11]), (20, [4], [50, 3, 0, 12, 11, 15, 2, 21, 4, 7, 1, 3, 2, 0, 12, 0, 1, 0, 3, 2, 0, 11, 4, 3, 2, 0, 15, 0, 8, 3, 7, 1, 3, 2, 0, 12, 0, 0, 0, 7, 4, 3, 2, 0, 15, 0, 1, 2, 0, 11]), (20, [12, 4], [30, 0, 1, 0, 0, -1, 1, 15]), (20, [4, 12], [60, 6, 1, 948, 10, 11, 12, 13, 14, 15, 1])], [], [(0, 0, 2000, []), (0, 0, 7, []), (0, 0, 4, [])], [(23, [14, 3], [0, 1, -1]), (23, [14, 3], [0, -1, 1]), (23, [15, 7], [0, 1, -1]), (23, [15, 7], [0, -1, 1]), (23, [16, 6], [0, 1, -1]), (23, [16, 6], [0, -1, 1]), (20, [4, 4], [30, 0, 1, 1, 15, -1, 1, 11]), (20, [4], [50, 3, 0, 12, 11, 15, 2, 21, 4, 7, 1, 3, 2, 0, 12, 0, 1, 0, 3, 2, 0, 11, 4, 3, 2, 0, 15, 0, 8, 3, 7, 1, 3, 2, 0, 12, 0, 0, 0, 7, 4, 3, 2, 0, 15, 0, 1, 2, 0, 11]), (20, [14, 4], [30, 0, 1, 0, 0, -1, 1, 11]), (20, [4, 14], [50, 3, 0, 8, 12, 11, 3, 7, 0, 2, 0, 1, 2, 0, 8, 3, 7, 1, 3, 2, 0, 12, 0, 0, 0, 6, 4, 2, 1, 1, 0, 1, 2, 0, 11]), (20, [4, 15, 16], [60, 9, 2, 1021, 10, 11, 12, 13, 14, 15, 8, 9, 5, 1, 2])], [], [])
theorem oo_Mo_groupItem_at_k3_12 {kA : Nat → ClassId} : or_ok PRD kA GG o_Mo_groupItem_at_k3_12 := by
  refine or_mk fun A ta ws vs hD hth hl => ?_
  intro t0 r0 t2 k2 t3 k3 t7 k7 t12 k12 f1 f2 f7 f9 f10 f11 f12 f13
  replace f1 := shm_193 f1
  replace f2 := shm_2177 f2
  replace f7 := shm_5 f7
  replace f9 := shm_5 f9
  replace f10 := shm_1437 f10
  replace f11 := shm_1438 f11
  replace f12 := shm_1436 f12
  replace f13 := shm_1439 f13
  have q4 : n_v vs 4 = n_v vs 0 := f7.symm
  have q6 : n_v vs 6 = n_v vs 2 := f9.symm
  simp only [q4, q6] at f2 f10 f11 f12 f13
  have kz_0_8 := fdq_34 hD hth r0
  have kz_0_9 := fdq_44 hD hth r0
  have kz_0_10 := fdq_43 hD hth r0
  have kz_0_11 := fdq_237 hD hth r0
  have kz_0_12 := fdq_187 hD hth r0
  have kz_0_13 := fdq_238 hD hth r0
  have kz_0_14 := fdq_188 hD hth r0
  have kz_0_15 := fdq_239 hD hth r0
  obtain ⟨x, ex, hx⟩ := iv_ex (ta := ta) (lo := 0) (hi := 2000) (z := v_iv (n_v vs 3)) (by omega) (by omega) (by omega) (by omega)
  have ex2 : v_iv (Value.int x) = v_iv (n_v vs 3) := ex
  have ex3 : 0 ≤ v_iv (Value.int x) ∧ v_iv (Value.int x) ≤ 2000 := tv_rng hx
  obtain ⟨y, ey, hy⟩ := iv_ex (ta := ta) (lo := 0) (hi := 7) (z := v_iv (n_v vs 7)) (by omega) (by omega) (by omega) (by omega)
  have ey2 : v_iv (Value.int y) = v_iv (n_v vs 7) := ey
  have ey3 : 0 ≤ v_iv (Value.int y) ∧ v_iv (Value.int y) ≤ 7 := tv_rng hy
  obtain ⟨u, eu, hu⟩ := iv_ex (ta := ta) (lo := 0) (hi := 4) (z := v_iv (n_v vs 2)) (by omega) (by omega) (by omega) (by omega)
  have eu2 : v_iv (Value.int u) = v_iv (n_v vs 2) := eu
  have eu3 : 0 ≤ v_iv (Value.int u) ∧ v_iv (Value.int u) ≤ 4 := tv_rng hu
  have e_3 : n_v (vs ++ [Value.int x, Value.int y, Value.int u]) 3 = n_v vs 3 := n_v_old (by rw [hl]; decide)
  have e_4 : n_v (vs ++ [Value.int x, Value.int y, Value.int u]) 4 = n_v vs 4 := n_v_old (by rw [hl]; decide)
  have e_6 : n_v (vs ++ [Value.int x, Value.int y, Value.int u]) 6 = n_v vs 6 := n_v_old (by rw [hl]; decide)
  have e_7 : n_v (vs ++ [Value.int x, Value.int y, Value.int u]) 7 = n_v vs 7 := n_v_old (by rw [hl]; decide)
  have e_14 : n_v (vs ++ [Value.int x, Value.int y, Value.int u]) 14 = Value.int x := n_v_newk (k := 0) hl rfl
  have e_15 : n_v (vs ++ [Value.int x, Value.int y, Value.int u]) 15 = Value.int y := n_v_newk (k := 1) hl rfl
  have e_16 : n_v (vs ++ [Value.int x, Value.int y, Value.int u]) 16 = Value.int u := n_v_newk (k := 2) hl rfl
  have nf0 : fc_1 PRD (23, [14, 3], [0, 1, -1]) ws (vs ++ [Value.int x, Value.int y, Value.int u]) := by
    refine ⟨nf_inA hl rfl, sgq_7 ?_⟩
    · show 1 * v_iv (n_v (vs ++ [Value.int x, Value.int y, Value.int u]) 14) + ((-1) * v_iv (n_v (vs ++ [Value.int x, Value.int y, Value.int u]) 3) + 0) ≤ 0
      simp only [e_3, e_14]
      exact vc_Mo_groupItem_at_k3_12_0 (v_iv (n_v vs 3)) (w_fi ws (n_v vs 0) 5) (v_iv (Value.int x)) k3 ex2
  have nf1 : fc_1 PRD (23, [14, 3], [0, -1, 1]) ws (vs ++ [Value.int x, Value.int y, Value.int u]) := by
    refine ⟨nf_inA hl rfl, sgq_22 ?_⟩
    · show (-1) * v_iv (n_v (vs ++ [Value.int x, Value.int y, Value.int u]) 14) + (1 * v_iv (n_v (vs ++ [Value.int x, Value.int y, Value.int u]) 3) + 0) ≤ 0
      simp only [e_3, e_14]
      exact vc_Mo_groupItem_at_k3_12_1 (v_iv (n_v vs 3)) (w_fi ws (n_v vs 0) 5) (v_iv (Value.int x)) k3 ex2
  have nf2 : fc_1 PRD (23, [15, 7], [0, 1, -1]) ws (vs ++ [Value.int x, Value.int y, Value.int u]) := by
    refine ⟨nf_inA hl rfl, sgq_7 ?_⟩
    · show 1 * v_iv (n_v (vs ++ [Value.int x, Value.int y, Value.int u]) 15) + ((-1) * v_iv (n_v (vs ++ [Value.int x, Value.int y, Value.int u]) 7) + 0) ≤ 0
      simp only [e_7, e_15]
      exact vc_Mo_groupItem_at_k3_12_2 (v_iv (n_v vs 7)) (w_fi ws (n_v vs 0) 5) (v_iv (Value.int y)) k7 ey2
  have nf3 : fc_1 PRD (23, [15, 7], [0, -1, 1]) ws (vs ++ [Value.int x, Value.int y, Value.int u]) := by
    refine ⟨nf_inA hl rfl, sgq_22 ?_⟩
    · show (-1) * v_iv (n_v (vs ++ [Value.int x, Value.int y, Value.int u]) 15) + (1 * v_iv (n_v (vs ++ [Value.int x, Value.int y, Value.int u]) 7) + 0) ≤ 0
      simp only [e_7, e_15]
      exact vc_Mo_groupItem_at_k3_12_3 (v_iv (n_v vs 7)) (w_fi ws (n_v vs 0) 5) (v_iv (Value.int y)) k7 ey2
  have nf4 : fc_1 PRD (23, [16, 6], [0, 1, -1]) ws (vs ++ [Value.int x, Value.int y, Value.int u]) := by
    refine ⟨nf_inA hl rfl, sgq_7 ?_⟩
    · show 1 * v_iv (n_v (vs ++ [Value.int x, Value.int y, Value.int u]) 16) + ((-1) * v_iv (n_v (vs ++ [Value.int x, Value.int y, Value.int u]) 6) + 0) ≤ 0
      simp only [e_6, e_16, q6]
      exact vc_Mo_groupItem_at_k3_12_4 (v_iv (n_v vs 2)) (w_fi ws (n_v vs 0) 5) (v_iv (Value.int u)) k2 eu2
  have nf5 : fc_1 PRD (23, [16, 6], [0, -1, 1]) ws (vs ++ [Value.int x, Value.int y, Value.int u]) := by
    refine ⟨nf_inA hl rfl, sgq_22 ?_⟩
    · show (-1) * v_iv (n_v (vs ++ [Value.int x, Value.int y, Value.int u]) 16) + (1 * v_iv (n_v (vs ++ [Value.int x, Value.int y, Value.int u]) 6) + 0) ≤ 0
      simp only [e_6, e_16, q6]
      exact vc_Mo_groupItem_at_k3_12_5 (v_iv (n_v vs 2)) (w_fi ws (n_v vs 0) 5) (v_iv (Value.int u)) k2 eu2
  have nf6 : fc_1 PRD (20, [4, 4], [30, 0, 1, 1, 15, -1, 1, 11]) ws (vs ++ [Value.int x, Value.int y, Value.int u]) := by
    refine ⟨nf_inA hl rfl, sgq_1437 ?_⟩
    · show 1 * w_fi ws (n_v (vs ++ [Value.int x, Value.int y, Value.int u]) 4) 15 + ((-1) * w_fi ws (n_v (vs ++ [Value.int x, Value.int y, Value.int u]) 4) 11 + 0) ≤ 0
      simp only [e_4, q4]
      exact vc_Mo_groupItem_at_k3_12_6 (w_fi ws (n_v vs 0) 5) (w_fi ws (n_v vs 0) 15) (w_fi ws (n_v vs 0) 11) f10 kz_0_11 kz_0_15
  have nf7 : fc_1 PRD (20, [4], [50, 3, 0, 12, 11, 15, 2, 21, 4, 7, 1, 3, 2, 0, 12, 0, 1, 0, 3, 2, 0, 11, 4, 3, 2, 0, 15, 0, 8, 3, 7, 1, 3, 2, 0, 12, 0, 0, 0, 7, 4, 3, 2, 0, 15, 0, 1, 2, 0, 11]) ws (vs ++ [Value.int x, Value.int y, Value.int u]) := by
    refine ⟨nf_inA hl rfl, sgq_1438 ?_⟩
    · show ((w_fi ws (n_v (vs ++ [Value.int x, Value.int y, Value.int u]) 4) 12 = 1) → (w_fi ws (n_v (vs ++ [Value.int x, Value.int y, Value.int u]) 4) 11 ≤ (w_fi ws (n_v (vs ++ [Value.int x, Value.int y, Value.int u]) 4) 15 + 8))) ∧ ((w_fi ws (n_v (vs ++ [Value.int x, Value.int y, Value.int u]) 4) 12 = 0) ∨ ((w_fi ws (n_v (vs ++ [Value.int x, Value.int y, Value.int u]) 4) 15 + 1) ≤ w_fi ws (n_v (vs ++ [Value.int x, Value.int y, Value.int u]) 4) 11))
      simp only [e_4, q4]
      exact vc_Mo_groupItem_at_k3_12_7 (w_fi ws (n_v vs 0) 5) (w_fi ws (n_v vs 0) 15) (w_fi ws (n_v vs 0) 11) (w_fi ws (n_v vs 0) 12) f11 kz_0_11 kz_0_12 kz_0_15
  have nf8 : fc_1 PRD (20, [14, 4], [30, 0, 1, 0, 0, -1, 1, 11]) ws (vs ++ [Value.int x, Value.int y, Value.int u]) := by
    refine ⟨nf_inA hl rfl, sgq_1431 ?_⟩
    · show 1 * v_iv (n_v (vs ++ [Value.int x, Value.int y, Value.int u]) 14) + ((-1) * w_fi ws (n_v (vs ++ [Value.int x, Value.int y, Value.int u]) 4) 11 + 0) ≤ 0
      simp only [e_4, e_14, q4]
      exact vc_Mo_groupItem_at_k3_12_8 (v_iv (n_v vs 3)) (v_iv (n_v vs 12)) (w_fi ws (n_v vs 0) 5) (w_fi ws (n_v vs 0) 15) (w_fi ws (n_v vs 0) 11) (v_iv (Value.int x)) k3 k12 f1 f10 f12 kz_0_11 kz_0_15 ex2
  have nf9 : fc_1 PRD (20, [4, 14], [50, 3, 0, 8, 12, 11, 3, 7, 0, 2, 0, 1, 2, 0, 8, 3, 7, 1, 3, 2, 0, 12, 0, 0, 0, 6, 4, 2, 1, 1, 0, 1, 2, 0, 11]) ws (vs ++ [Value.int x, Value.int y, Value.int u]) := by
    refine ⟨nf_inA hl rfl, sgq_1722 ?_⟩
    · show (1 ≤ w_fi ws (n_v (vs ++ [Value.int x, Value.int y, Value.int u]) 4) 8) ∨ ((w_fi ws (n_v (vs ++ [Value.int x, Value.int y, Value.int u]) 4) 12 = 0) ∨ ((v_iv (n_v (vs ++ [Value.int x, Value.int y, Value.int u]) 14) + 1) ≤ w_fi ws (n_v (vs ++ [Value.int x, Value.int y, Value.int u]) 4) 11))
      simp only [e_4, e_14, q4]
      exact vc_Mo_groupItem_at_k3_12_9 (v_iv (n_v vs 3)) (v_iv (n_v vs 12)) (w_fi ws (n_v vs 0) 8) (w_fi ws (n_v vs 0) 5) (w_fi ws (n_v vs 0) 15) (w_fi ws (n_v vs 0) 11) (w_fi ws (n_v vs 0) 12) (v_iv (Value.int x)) k3 k12 f1 f10 f12 kz_0_8 kz_0_11 kz_0_12 kz_0_15 ex2
  have nf10 : fc_1 PRD (20, [4, 15, 16], [60, 9, 2, 1021, 10, 11, 12, 13, 14, 15, 8, 9, 5, 1, 2]) ws (vs ++ [Value.int x, Value.int y, Value.int u]) := by
    refine ⟨nf_inA hl rfl, sgq_1729 ?_⟩
    · show zONo (w_fi ws (n_v (vs ++ [Value.int x, Value.int y, Value.int u]) 4) 10) (w_fi ws (n_v (vs ++ [Value.int x, Value.int y, Value.int u]) 4) 11) (w_fi ws (n_v (vs ++ [Value.int x, Value.int y, Value.int u]) 4) 12) (w_fi ws (n_v (vs ++ [Value.int x, Value.int y, Value.int u]) 4) 13) (w_fi ws (n_v (vs ++ [Value.int x, Value.int y, Value.int u]) 4) 14) (w_fi ws (n_v (vs ++ [Value.int x, Value.int y, Value.int u]) 4) 15) (w_fi ws (n_v (vs ++ [Value.int x, Value.int y, Value.int u]) 4) 8) (w_fi ws (n_v (vs ++ [Value.int x, Value.int y, Value.int u]) 4) 9) (w_fi ws (n_v (vs ++ [Value.int x, Value.int y, Value.int u]) 4) 5) (w_ei ws (w_ar ws (n_v (vs ++ [Value.int x, Value.int y, Value.int u]) 4) 1)) (w_ei ws (w_ar ws (n_v (vs ++ [Value.int x, Value.int y, Value.int u]) 4) 2)) (v_iv (n_v (vs ++ [Value.int x, Value.int y, Value.int u]) 15)) (v_iv (n_v (vs ++ [Value.int x, Value.int y, Value.int u]) 16))
      simp only [e_4, e_15, e_16, q4]
      exact vc_Mo_groupItem_at_k3_12_10 (v_iv (n_v vs 2)) (v_iv (n_v vs 3)) (v_iv (n_v vs 7)) (v_iv (n_v vs 12)) (w_ei ws (w_ar ws (n_v vs 0) 1)) (w_fi ws (n_v vs 0) 10) (w_ei ws (w_ar ws (n_v vs 0) 2)) (w_fi ws (n_v vs 0) 8) (w_fi ws (n_v vs 0) 5) (w_fi ws (n_v vs 0) 15) (w_fi ws (n_v vs 0) 11) (w_fi ws (n_v vs 0) 12) (w_fi ws (n_v vs 0) 13) (w_fi ws (n_v vs 0) 14) (w_fi ws (n_v vs 0) 9) (v_iv (Value.int x)) (v_iv (Value.int y)) (v_iv (Value.int u)) k2 k3 k7 k12 f2 f13 kz_0_8 kz_0_9 kz_0_10 kz_0_11 kz_0_12 kz_0_13 kz_0_14 kz_0_15 ex2 ey2 eu2
  exact ⟨(fun _ h => (by cases h)), [Value.int x, Value.int y, Value.int u], ag_three hx hy hu, List.forall_mem_cons.mpr ⟨⟨show (23 : Nat) < 100 from by decide, nf0⟩, List.forall_mem_cons.mpr ⟨⟨show (23 : Nat) < 100 from by decide, nf1⟩, List.forall_mem_cons.mpr ⟨⟨show (23 : Nat) < 100 from by decide, nf2⟩, List.forall_mem_cons.mpr ⟨⟨show (23 : Nat) < 100 from by decide, nf3⟩, List.forall_mem_cons.mpr ⟨⟨show (23 : Nat) < 100 from by decide, nf4⟩, List.forall_mem_cons.mpr ⟨⟨show (23 : Nat) < 100 from by decide, nf5⟩, List.forall_mem_cons.mpr ⟨⟨show (20 : Nat) < 100 from by decide, nf6⟩, List.forall_mem_cons.mpr ⟨⟨show (20 : Nat) < 100 from by decide, nf7⟩, List.forall_mem_cons.mpr ⟨⟨show (20 : Nat) < 100 from by decide, nf8⟩, List.forall_mem_cons.mpr ⟨⟨show (20 : Nat) < 100 from by decide, nf9⟩, List.forall_mem_cons.mpr ⟨⟨show (20 : Nat) < 100 from by decide, nf10⟩, (fun _ h => (by cases h))⟩⟩⟩⟩⟩⟩⟩⟩⟩⟩⟩, (fun _ h => (by cases h))⟩
set_option maxHeartbeats 4000000 in
theorem vc_Mo_groupItem_at_k3_13_0 (r_0 : Int) (from_0 : Int) (pos_0 : Int) (f15 : 1 * from_0 + ((-1) * pos_0 + 0) ≤ 0) (kz_0_11 : 0 ≤ pos_0 ∧ pos_0 ≤ 2000) (kz_0_15 : 0 ≤ from_0 ∧ from_0 ≤ 2000) : 1 * from_0 + ((-1) * pos_0 + 0) ≤ 0 := by
  first
    | omega
    | (have q1 := (hE_0_2_1 (r_0 + 2) (by omega)).2 (by omega)
       have q2 := (hE_0_2_2 (r_0 + 2) (by omega)).2 (by omega)
       omega)
    | (have q1 := (hE_0_2_1 (r_0 + 1) (by omega)).2 (by omega)
       have q2 := (hE_0_2_2 (r_0 + 1) (by omega)).2 (by omega)
       omega)
    | (have q1 := (hE_0_2_1 (r_0 + 2) (by omega)).2 (by omega)
       omega)
    | (have q1 := (hE_0_2_1 (r_0 + 1) (by omega)).2 (by omega)
       omega)
    | (have q1 := (hE_0_2_1 (r_0 + 2) (by omega)).2 (by omega)
       have q2 := (hE_0_2_2 (r_0 + 2) (by omega)).2 (by omega)
       have q3 := (hE_0_2_3 (r_0 + 2) (by omega)).1 (by omega)
       omega)
    | (have q1 := (hE_0_2_1 (r_0 + 2) (by omega)).2 (by omega)
       have q2 := (hE_0_2_2 (r_0 + 2) (by omega)).2 (by omega)
       have q3 := (hE_0_2_3 (r_0 + 2) (by omega)).2 (by omega)
       omega)
    | (have q1 := (hE_0_2_1 (r_0 + 2) (by omega)).2 (by omega)
       have q2 := (hE_0_2_2 (r_0 + 2) (by omega)).2 (by omega)
       have q3 := (hE_0_2_3 (r_0 + 2) (by omega)).1 (by omega)
       have q4 : x13 = r_0 + 2 := by omega
       simp only [q4] at *
       omega)
set_option maxHeartbeats 4000000 in
theorem vc_Mo_groupItem_at_k3_13_1 (r_0 : Int) (from_0 : Int) (pos_0 : Int) (kind_0 : Int) (f16 : ((kind_0 = 1) → (pos_0 ≤ (from_0 + 8))) ∧ ((kind_0 = 0) ∨ ((from_0 + 1) ≤ pos_0))) (kz_0_11 : 0 ≤ pos_0 ∧ pos_0 ≤ 2000) (kz_0_12 : 0 ≤ kind_0 ∧ kind_0 ≤ 4) (kz_0_15 : 0 ≤ from_0 ∧ from_0 ≤ 2000) : ((kind_0 = 1) → (pos_0 ≤ (from_0 + 8))) ∧ ((kind_0 = 0) ∨ ((from_0 + 1) ≤ pos_0)) := by
  first
    | omega
    | (have q1 := (hE_0_2_1 (r_0 + 2) (by omega)).2 (by omega)
       have q2 := (hE_0_2_2 (r_0 + 2) (by omega)).2 (by omega)
       omega)
    | (have q1 := (hE_0_2_1 (r_0 + 1) (by omega)).2 (by omega)
       have q2 := (hE_0_2_2 (r_0 + 1) (by omega)).2 (by omega)
       omega)
    | (have q1 := (hE_0_2_1 (r_0 + 2) (by omega)).2 (by omega)
       omega)
    | (have q1 := (hE_0_2_1 (r_0 + 1) (by omega)).2 (by omega)
       omega)
    | (have q1 := (hE_0_2_1 (r_0 + 2) (by omega)).2 (by omega)
       have q2 := (hE_0_2_2 (r_0 + 2) (by omega)).2 (by omega)
       have q3 := (hE_0_2_3 (r_0 + 2) (by omega)).1 (by omega)
       omega)
    | (have q1 := (hE_0_2_1 (r_0 + 2) (by omega)).2 (by omega)
       have q2 := (hE_0_2_2 (r_0 + 2) (by omega)).2 (by omega)
       have q3 := (hE_0_2_3 (r_0 + 2) (by omega)).2 (by omega)
       omega)
    | (have q1 := (hE_0_2_1 (r_0 + 2) (by omega)).2 (by omega)
       have q2 := (hE_0_2_2 (r_0 + 2) (by omega)).2 (by omega)
       have q3 := (hE_0_2_3 (r_0 + 2) (by omega)).1 (by omega)
       have q4 : x13 = r_0 + 2 := by omega
       simp only [q4] at *
       omega)
set_option maxHeartbeats 4000000 in
theorem vc_Mo_groupItem_at_k3_13_2 (x3 : Int) (x14 : Int) (r_0 : Int) (pos_0 : Int) (fault_0 : Int) (gx : Int) (k3 : 0 ≤ x3 ∧ x3 ≤ 2000) (k14 : 0 ≤ x14 ∧ x14 ≤ 2000) (f0 : 1 * x14 + ((-1) * x3 + 0) ≤ 0) (f1 : (-1) * x14 + (1 * x3 + 0) ≤ 0) (f17 : 1 * x14 + ((-1) * pos_0 + 0) ≤ 0) (kz_0_8 : 0 ≤ fault_0 ∧ fault_0 ≤ 5) (kz_0_11 : 0 ≤ pos_0 ∧ pos_0 ≤ 2000) (ex2 : gx = 2005 + ((-1) * pos_0 + ((-1) * fault_0 + 0))) : 1 * x3 + ((-1) * pos_0 + 0) ≤ 0 := by
  first
    | omega
    | (have q1 := (hE_0_2_1 (r_0 + 2) (by omega)).2 (by omega)
       have q2 := (hE_0_2_2 (r_0 + 2) (by omega)).2 (by omega)
       omega)
    | (have q1 := (hE_0_2_1 (r_0 + 1) (by omega)).2 (by omega)
       have q2 := (hE_0_2_2 (r_0 + 1) (by omega)).2 (by omega)
       omega)
    | (have q1 := (hE_0_2_1 (r_0 + 2) (by omega)).2 (by omega)
       omega)
    | (have q1 := (hE_0_2_1 (r_0 + 1) (by omega)).2 (by omega)
       omega)
    | (have q1 := (hE_0_2_1 (r_0 + 2) (by omega)).2 (by omega)
       have q2 := (hE_0_2_2 (r_0 + 2) (by omega)).2 (by omega)
       have q3 := (hE_0_2_3 (r_0 + 2) (by omega)).1 (by omega)
       omega)
    | (have q1 := (hE_0_2_1 (r_0 + 2) (by omega)).2 (by omega)
       have q2 := (hE_0_2_2 (r_0 + 2) (by omega)).2 (by omega)
       have q3 := (hE_0_2_3 (r_0 + 2) (by omega)).2 (by omega)
       omega)
    | (have q1 := (hE_0_2_1 (r_0 + 2) (by omega)).2 (by omega)
       have q2 := (hE_0_2_2 (r_0 + 2) (by omega)).2 (by omega)
       have q3 := (hE_0_2_3 (r_0 + 2) (by omega)).1 (by omega)
       have q4 : x13 = r_0 + 2 := by omega
       simp only [q4] at *
       omega)
set_option maxHeartbeats 4000000 in
theorem vc_Mo_groupItem_at_k3_13_3 (x3 : Int) (x14 : Int) (r_0 : Int) (pos_0 : Int) (fault_0 : Int) (gx : Int) (k3 : 0 ≤ x3 ∧ x3 ≤ 2000) (k14 : 0 ≤ x14 ∧ x14 ≤ 2000) (f0 : 1 * x14 + ((-1) * x3 + 0) ≤ 0) (f1 : (-1) * x14 + (1 * x3 + 0) ≤ 0) (f17 : 1 * x14 + ((-1) * pos_0 + 0) ≤ 0) (f18 : (1 ≤ fault_0) ∨ ((x14 + 1) ≤ pos_0)) (kz_0_8 : 0 ≤ fault_0 ∧ fault_0 ≤ 5) (kz_0_11 : 0 ≤ pos_0 ∧ pos_0 ≤ 2000) (ex2 : gx = 2005 + ((-1) * pos_0 + ((-1) * fault_0 + 0))) : (1 ≤ fault_0) ∨ ((x3 + 1) ≤ pos_0) := by
  first
    | omega
    | (have q1 := (hE_0_2_1 (r_0 + 2) (by omega)).2 (by omega)
       have q2 := (hE_0_2_2 (r_0 + 2) (by omega)).2 (by omega)
       omega)
    | (have q1 := (hE_0_2_1 (r_0 + 1) (by omega)).2 (by omega)
       have q2 := (hE_0_2_2 (r_0 + 1) (by omega)).2 (by omega)
       omega)
    | (have q1 := (hE_0_2_1 (r_0 + 2) (by omega)).2 (by omega)
       omega)
    | (have q1 := (hE_0_2_1 (r_0 + 1) (by omega)).2 (by omega)
       omega)
    | (have q1 := (hE_0_2_1 (r_0 + 2) (by omega)).2 (by omega)
       have q2 := (hE_0_2_2 (r_0 + 2) (by omega)).2 (by omega)
       have q3 := (hE_0_2_3 (r_0 + 2) (by omega)).1 (by omega)
       omega)
    | (have q1 := (hE_0_2_1 (r_0 + 2) (by omega)).2 (by omega)
       have q2 := (hE_0_2_2 (r_0 + 2) (by omega)).2 (by omega)
       have q3 := (hE_0_2_3 (r_0 + 2) (by omega)).2 (by omega)
       omega)
    | (have q1 := (hE_0_2_1 (r_0 + 2) (by omega)).2 (by omega)
       have q2 := (hE_0_2_2 (r_0 + 2) (by omega)).2 (by omega)
       have q3 := (hE_0_2_3 (r_0 + 2) (by omega)).1 (by omega)
       have q4 : x13 = r_0 + 2 := by omega
       simp only [q4] at *
       omega)
set_option maxHeartbeats 4000000 in
theorem vc_Mo_groupItem_at_k3_13_4 (x7 : Int) (all_0 : Int → Int) (r_0 : Int) (k7 : 0 ≤ x7 ∧ x7 ≤ 7) (f9 : (x7 + 1) ≤ all_0 ((r_0 + 2))) : (x7 + 1) ≤ all_0 ((r_0 + 2)) := by
  first
    | omega
    | (have q1 := (hE_0_2_1 (r_0 + 2) (by omega)).2 (by omega)
       have q2 := (hE_0_2_2 (r_0 + 2) (by omega)).2 (by omega)
       omega)
    | (have q1 := (hE_0_2_1 (r_0 + 1) (by omega)).2 (by omega)
       have q2 := (hE_0_2_2 (r_0 + 1) (by omega)).2 (by omega)
       omega)
    | (have q1 := (hE_0_2_1 (r_0 + 2) (by omega)).2 (by omega)
       omega)
    | (have q1 := (hE_0_2_1 (r_0 + 1) (by omega)).2 (by omega)
       omega)
    | (have q1 := (hE_0_2_1 (r_0 + 2) (by omega)).2 (by omega)
       have q2 := (hE_0_2_2 (r_0 + 2) (by omega)).2 (by omega)
       have q3 := (hE_0_2_3 (r_0 + 2) (by omega)).1 (by omega)
       omega)
    | (have q1 := (hE_0_2_1 (r_0 + 2) (by omega)).2 (by omega)
       have q2 := (hE_0_2_2 (r_0 + 2) (by omega)).2 (by omega)
       have q3 := (hE_0_2_3 (r_0 + 2) (by omega)).2 (by omega)
       omega)
    | (have q1 := (hE_0_2_1 (r_0 + 2) (by omega)).2 (by omega)
       have q2 := (hE_0_2_2 (r_0 + 2) (by omega)).2 (by omega)
       have q3 := (hE_0_2_3 (r_0 + 2) (by omega)).1 (by omega)
       have q4 : x13 = r_0 + 2 := by omega
       simp only [q4] at *
       omega)
set_option maxHeartbeats 4000000 in
theorem vc_Mo_groupItem_at_k3_13_5 (x1 : Int) (x7 : Int) (r_0 : Int) (k1 : 0 ≤ x1 ∧ x1 ≤ 7) (k7 : 0 ≤ x7 ∧ x7 ≤ 7) (f31 : 1 * x1 + ((-1) * x7 + 0) ≤ (-1)) : 1 * x1 + ((-1) * x7 + 0) ≤ (-1) := by
  first
    | omega
    | (have q1 := (hE_0_2_1 (r_0 + 2) (by omega)).2 (by omega)
       have q2 := (hE_0_2_2 (r_0 + 2) (by omega)).2 (by omega)
       omega)
    | (have q1 := (hE_0_2_1 (r_0 + 1) (by omega)).2 (by omega)
       have q2 := (hE_0_2_2 (r_0 + 1) (by omega)).2 (by omega)
       omega)
    | (have q1 := (hE_0_2_1 (r_0 + 2) (by omega)).2 (by omega)
       omega)
    | (have q1 := (hE_0_2_1 (r_0 + 1) (by omega)).2 (by omega)
       omega)
    | (have q1 := (hE_0_2_1 (r_0 + 2) (by omega)).2 (by omega)
       have q2 := (hE_0_2_2 (r_0 + 2) (by omega)).2 (by omega)
       have q3 := (hE_0_2_3 (r_0 + 2) (by omega)).1 (by omega)
       omega)
    | (have q1 := (hE_0_2_1 (r_0 + 2) (by omega)).2 (by omega)
       have q2 := (hE_0_2_2 (r_0 + 2) (by omega)).2 (by omega)
       have q3 := (hE_0_2_3 (r_0 + 2) (by omega)).2 (by omega)
       omega)
    | (have q1 := (hE_0_2_1 (r_0 + 2) (by omega)).2 (by omega)
       have q2 := (hE_0_2_2 (r_0 + 2) (by omega)).2 (by omega)
       have q3 := (hE_0_2_3 (r_0 + 2) (by omega)).1 (by omega)
       have q4 : x13 = r_0 + 2 := by omega
       simp only [q4] at *
       omega)
set_option maxHeartbeats 4000000 in
theorem vc_Mo_groupItem_at_k3_13_6 (all_0 : Int → Int) (r_0 : Int) (now_0 : Int → Int) (latest_0 : Int → Int) (f11 : RWS (r_0) (all_0) (now_0) (latest_0)) : RWS (r_0) (all_0) (now_0) (latest_0) := by
  first
    | assumption
set_option maxHeartbeats 4000000 in
theorem vc_Mo_groupItem_at_k3_13_7 (x2 : Int) (x3 : Int) (x7 : Int) (x14 : Int) (x15 : Int) (x16 : Int) (tape_0 : Int → Int) (limit_0 : Int) (all_0 : Int → Int) (r_0 : Int) (from_0 : Int) (pos_0 : Int) (kind_0 : Int) (fault_0 : Int) (place_0 : Int) (value_0 : Int) (faultPlace_0 : Int) (k2 : 3 ≤ x2 ∧ x2 ≤ 3) (k3 : 0 ≤ x3 ∧ x3 ≤ 2000) (k7 : 0 ≤ x7 ∧ x7 ≤ 7) (k14 : 0 ≤ x14 ∧ x14 ≤ 2000) (k15 : 0 ≤ x15 ∧ x15 ≤ 7) (k16 : 0 ≤ x16 ∧ x16 ≤ 4) (f0 : 1 * x14 + ((-1) * x3 + 0) ≤ 0) (f1 : (-1) * x14 + (1 * x3 + 0) ≤ 0) (f2 : 1 * x15 + ((-1) * x7 + 0) ≤ 0) (f3 : (-1) * x15 + (1 * x7 + 0) ≤ 0) (f4 : 1 * x16 + ((-1) * x2 + 0) ≤ 0) (f5 : (-1) * x16 + (1 * x2 + 0) ≤ 0) (f19 : zOP0 (limit_0) (pos_0) (kind_0) (place_0) (value_0) (from_0) (fault_0) (faultPlace_0) (r_0) (tape_0) (all_0) (x15) (x16)) (kz_0_8 : 0 ≤ fault_0 ∧ fault_0 ≤ 5) (kz_0_9 : 0 ≤ faultPlace_0 ∧ faultPlace_0 ≤ 2000) (kz_0_10 : 0 ≤ limit_0 ∧ limit_0 ≤ 2000) (kz_0_11 : 0 ≤ pos_0 ∧ pos_0 ≤ 2000) (kz_0_12 : 0 ≤ kind_0 ∧ kind_0 ≤ 4) (kz_0_13 : 0 ≤ place_0 ∧ place_0 ≤ 2000) (kz_0_14 : (-49) ≤ value_0 ∧ value_0 ≤ 1048575) (kz_0_15 : 0 ≤ from_0 ∧ from_0 ≤ 2000) : zOP0 (limit_0) (pos_0) (kind_0) (place_0) (value_0) (from_0) (fault_0) (faultPlace_0) (r_0) (tape_0) (all_0) (x7) (x2) := by
  first | (have el_x14 : x14 = x3 := by omega); subst el_x14 | skip
  first | (have el_x15 : x15 = x7 := by omega); subst el_x15 | skip
  first | (have el_x16 : x16 = x2 := by omega); subst el_x16 | skip
  first
    | assumption
    | exact op0_of ‹zOS0 _ _ _ _ _ _ _ _ _ _ _ _ _› (by omega)
set_option maxHeartbeats 4000000 in
theorem vc_Mo_groupItem_at_k3_13_8 (x1 : Int) (x7 : Int) (tape_0 : Int → Int) (limit_0 : Int) (k1 : 0 ≤ x1 ∧ x1 ≤ 7) (k7 : 0 ≤ x7 ∧ x7 ≤ 7) (f6 : HST (limit_0) (tape_0) (x7) (x1)) (kz_0_10 : 0 ≤ limit_0 ∧ limit_0 ≤ 2000) : HST (limit_0) (tape_0) (x7) (x1) := by
  assumption
set_option maxHeartbeats 4000000 in
theorem vc_Mo_groupItem_at_k3_13_12 (r_0 : Int) (pos_0 : Int) (fault_0 : Int) (gx : Int) (kz_0_8 : 0 ≤ fault_0 ∧ fault_0 ≤ 5) (kz_0_11 : 0 ≤ pos_0 ∧ pos_0 ≤ 2000) (ex2 : gx = 2005 + ((-1) * pos_0 + ((-1) * fault_0 + 0))) : 1 * gx + (1 * pos_0 + (1 * fault_0 + 0)) ≤ 2005 := by
  first
    | omega
    | (have q1 := (hE_0_2_1 (r_0 + 2) (by omega)).2 (by omega)
       have q2 := (hE_0_2_2 (r_0 + 2) (by omega)).2 (by omega)
       omega)
    | (have q1 := (hE_0_2_1 (r_0 + 1) (by omega)).2 (by omega)
       have q2 := (hE_0_2_2 (r_0 + 1) (by omega)).2 (by omega)
       omega)
    | (have q1 := (hE_0_2_1 (r_0 + 2) (by omega)).2 (by omega)
       omega)
    | (have q1 := (hE_0_2_1 (r_0 + 1) (by omega)).2 (by omega)
       omega)
    | (have q1 := (hE_0_2_1 (r_0 + 2) (by omega)).2 (by omega)
       have q2 := (hE_0_2_2 (r_0 + 2) (by omega)).2 (by omega)
       have q3 := (hE_0_2_3 (r_0 + 2) (by omega)).1 (by omega)
       omega)
    | (have q1 := (hE_0_2_1 (r_0 + 2) (by omega)).2 (by omega)
       have q2 := (hE_0_2_2 (r_0 + 2) (by omega)).2 (by omega)
       have q3 := (hE_0_2_3 (r_0 + 2) (by omega)).2 (by omega)
       omega)
    | (have q1 := (hE_0_2_1 (r_0 + 2) (by omega)).2 (by omega)
       have q2 := (hE_0_2_2 (r_0 + 2) (by omega)).2 (by omega)
       have q3 := (hE_0_2_3 (r_0 + 2) (by omega)).1 (by omega)
       have q4 : x13 = r_0 + 2 := by omega
       simp only [q4] at *
       omega)
set_option maxHeartbeats 4000000 in
theorem vc_Mo_groupItem_at_k3_13_13 (r_0 : Int) (pos_0 : Int) (fault_0 : Int) (gx : Int) (kz_0_8 : 0 ≤ fault_0 ∧ fault_0 ≤ 5) (kz_0_11 : 0 ≤ pos_0 ∧ pos_0 ≤ 2000) (ex2 : gx = 2005 + ((-1) * pos_0 + ((-1) * fault_0 + 0))) : (-1) * gx + ((-1) * pos_0 + ((-1) * fault_0 + 0)) ≤ (-2005) := by
  first
    | omega
    | (have q1 := (hE_0_2_1 (r_0 + 2) (by omega)).2 (by omega)
       have q2 := (hE_0_2_2 (r_0 + 2) (by omega)).2 (by omega)
       omega)
    | (have q1 := (hE_0_2_1 (r_0 + 1) (by omega)).2 (by omega)
       have q2 := (hE_0_2_2 (r_0 + 1) (by omega)).2 (by omega)
       omega)
    | (have q1 := (hE_0_2_1 (r_0 + 2) (by omega)).2 (by omega)
       omega)
    | (have q1 := (hE_0_2_1 (r_0 + 1) (by omega)).2 (by omega)
       omega)
    | (have q1 := (hE_0_2_1 (r_0 + 2) (by omega)).2 (by omega)
       have q2 := (hE_0_2_2 (r_0 + 2) (by omega)).2 (by omega)
       have q3 := (hE_0_2_3 (r_0 + 2) (by omega)).1 (by omega)
       omega)
    | (have q1 := (hE_0_2_1 (r_0 + 2) (by omega)).2 (by omega)
       have q2 := (hE_0_2_2 (r_0 + 2) (by omega)).2 (by omega)
       have q3 := (hE_0_2_3 (r_0 + 2) (by omega)).2 (by omega)
       omega)
    | (have q1 := (hE_0_2_1 (r_0 + 2) (by omega)).2 (by omega)
       have q2 := (hE_0_2_2 (r_0 + 2) (by omega)).2 (by omega)
       have q3 := (hE_0_2_3 (r_0 + 2) (by omega)).1 (by omega)
       have q4 : x13 = r_0 + 2 := by omega
       simp only [q4] at *
       omega)
def o_Mo_groupItem_at_k3_13 : or_T := (170, 17, [(0, (2, 0, 0, [165])), (1, (0, 0, 7, [])), (2, (0, 3, 3, [])), (3, (0, 0, 2000, [])), (7, (0, 0, 7, [])), (14, (0, 0, 2000, [])), (15, (0, 0, 7, [])), (16, (0, 0, 4, []))], [(23, [14, 3], [0, 1, -1]), (23, [14, 3], [0, -1, 1]), (23, [15, 7], [0, 1, -1]), (23, [15, 7], [0, -1, 1]), (23, [16, 6], [0, 1, -1]), (23, [16, 6], [0, -1, 1]), (20, [4, 7, 5], [60, 1, 1, 1028, 10, 1]), (20, [7, 4], [50, 1, 1, 1005, 1002, 0, 6, 4, 2, 1, 0, 0, 1, 3, 1, 2, 4, 3, 2, 1, 5, 0, 2]), (20, [4], [60, 1, 3, 199, 5, 2, 3, 4]), (24, [0, 4], []), (24, [1, 5], []), (24, [2, 6], []), (20, [4, 4], [30, 0, 1, 1, 15, -1, 1, 11]), (20, [4], [50, 3, 0, 12, 11, 15, 2, 21, 4, 7, 1, 3, 2, 0, 12, 0, 1, 0, 3, 2, 0, 11, 4, 3, 2, 0, 15, 0, 8, 3, 7, 1, 3, 2, 0, 12, 0, 0, 0, 7, 4, 3, 2, 0, 15, 0, 1, 2, 0, 11]), (20, [14, 4], [30, 0, 1, 0, 0, -1, 1, 11]), (20, [4, 14], [50, 2, 0, 8, 11, 3, 7, 0, 2, 0, 1, 2, 0, 8, 0, 6, 4, 2, 1, 1, 0, 1, 2, 0, 11]), (20, [4, 15, 16], [60, 9, 2, 1023, 10, 11, 12, 13, 14, 15, 8, 9, 5, 1, 2]), (102, [16], [0, 165008, 165009, 165011, 165012, 165013, 165014, 165015]), (102, [12], [0, 165011, 165012, 165013, 165014, 165015]), (23, [5, 7], [-1, 1, -1])], [], [(0, 0, 2005, [])], [(20, [4, 4], [30, 0, 1, 1, 15, -1, 1, 11]), (20, [4], [50, 3, 0, 12, 11, 15, 2, 21, 4, 7, 1, 3, 2, 0, 12, 0, 1, 0, 3, 2, 0, 11, 4, 3, 2, 0, 15, 0, 8, 3, 7, 1, 3, 2, 0, 12, 0, 0, 0, 7, 4, 3, 2, 0, 15, 0, 1, 2, 0, 11]), (20, [3, 4], [30, 0, 1, 0, 0, -1, 1, 11]), (20, [4, 3], [50, 2, 0, 8, 11, 3, 7, 0, 2, 0, 1, 2, 0, 8, 0, 6, 4, 2, 1, 1, 0, 1, 2, 0, 11]), (20, [7, 4], [50, 1, 1, 1005, 1002, 0, 6, 4, 2, 1, 0, 0, 1, 3, 1, 2, 4, 3, 2, 1, 5, 0, 2]), (23, [5, 7], [-1, 1, -1]), (20, [4], [60, 1, 3, 199, 5, 2, 3, 4]), (20, [4, 7, 6], [60, 9, 2, 1023, 10, 11, 12, 13, 14, 15, 8, 9, 5, 1, 2]), (20, [4, 7, 5], [60, 1, 1, 1028, 10, 1]), (24, [0, 4], []), (24, [1, 5], []), (24, [2, 6], []), (20, [17, 4, 4], [30, 2005, 1, 0, 0, 1, 1, 11, 1, 1, 8]), (20, [17, 4, 4], [30, -2005, -1, 0, 0, -1, 1, 11, -1, 1, 8])], [], [])
theorem oo_Mo_groupItem_at_k3_13 {kA : Nat → ClassId} : or_ok PRD kA GG o_Mo_groupItem_at_k3_13 := by
  refine or_mk fun A ta ws vs hD hth hl => ?_
  intro t0 r0 t1 k1 t2 k2 t3 k3 t7 k7 t14 k14 t15 k15 t16 k16 f0 f1 f2 f3 f4 f5 f6 f9 f11 f12 f13 f14 f15 f16 f17 f18 f19 ta1 w1 le1 s1 ta2 w2 le2 s2 f31
  replace f0 := shm_7 f0
  replace f1 := shm_22 f1
  replace f2 := shm_7 f2
  replace f3 := shm_22 f3
  replace f4 := shm_7 f4
  replace f5 := shm_22 f5
  replace f6 := shm_2176 f6
  replace f9 := shm_1009 f9
  replace f11 := shm_980 f11
  replace f12 := shm_5 f12
  replace f13 := shm_5 f13
  replace f14 := shm_5 f14
  replace f15 := shm_1437 f15
  replace f16 := shm_1438 f16
  replace f17 := shm_1431 f17
  replace f18 := shm_1726 f18
  replace f19 := shm_1730 f19
  replace f31 := shm_193 f31
  have q4 : n_v vs 4 = n_v vs 0 := f12.symm
  have q5 : n_v vs 5 = n_v vs 1 := f13.symm
  have q6 : n_v vs 6 = n_v vs 2 := f14.symm
  simp only [q6, q4, q5] at f4 f5 f6 f9 f11 f15 f16 f17 f18 f19 f31
  have kz_0_8 := fdq_34 hD hth r0
  have kz_0_9 := fdq_44 hD hth r0
  have kz_0_10 := fdq_43 hD hth r0
  have kz_0_11 := fdq_237 hD hth r0
  have kz_0_12 := fdq_187 hD hth r0
  have kz_0_13 := fdq_238 hD hth r0
  have kz_0_14 := fdq_188 hD hth r0
  have kz_0_15 := fdq_239 hD hth r0
  obtain ⟨x, ex, hx⟩ := iv_ex (ta := ta) (lo := 0) (hi := 2005) (z := 2005 + ((-1) * w_fi ws (n_v vs 0) 11 + ((-1) * w_fi ws (n_v vs 0) 8 + 0))) (by omega) (by omega) (by omega) (by omega)
  have ex2 : v_iv (Value.int x) = 2005 + ((-1) * w_fi ws (n_v vs 0) 11 + ((-1) * w_fi ws (n_v vs 0) 8 + 0)) := ex
  have ex3 : 0 ≤ v_iv (Value.int x) ∧ v_iv (Value.int x) ≤ 2005 := tv_rng hx
  have e_0 : n_v (vs ++ [Value.int x]) 0 = n_v vs 0 := n_v_old (by rw [hl]; decide)
  have e_1 : n_v (vs ++ [Value.int x]) 1 = n_v vs 1 := n_v_old (by rw [hl]; decide)
  have e_2 : n_v (vs ++ [Value.int x]) 2 = n_v vs 2 := n_v_old (by rw [hl]; decide)
  have e_3 : n_v (vs ++ [Value.int x]) 3 = n_v vs 3 := n_v_old (by rw [hl]; decide)
  have e_4 : n_v (vs ++ [Value.int x]) 4 = n_v vs 4 := n_v_old (by rw [hl]; decide)
  have e_5 : n_v (vs ++ [Value.int x]) 5 = n_v vs 5 := n_v_old (by rw [hl]; decide)
  have e_6 : n_v (vs ++ [Value.int x]) 6 = n_v vs 6 := n_v_old (by rw [hl]; decide)
  have e_7 : n_v (vs ++ [Value.int x]) 7 = n_v vs 7 := n_v_old (by rw [hl]; decide)
  have e_17 : n_v (vs ++ [Value.int x]) 17 = Value.int x := n_v_new hl
  have nf0 : fc_1 PRD (20, [4, 4], [30, 0, 1, 1, 15, -1, 1, 11]) ws (vs ++ [Value.int x]) := by
    refine ⟨nf_inA hl rfl, sgq_1437 ?_⟩
    · show 1 * w_fi ws (n_v (vs ++ [Value.int x]) 4) 15 + ((-1) * w_fi ws (n_v (vs ++ [Value.int x]) 4) 11 + 0) ≤ 0
      simp only [e_4, q4]
      exact vc_Mo_groupItem_at_k3_13_0 (w_fi ws (n_v vs 0) 5) (w_fi ws (n_v vs 0) 15) (w_fi ws (n_v vs 0) 11) f15 kz_0_11 kz_0_15
  have nf1 : fc_1 PRD (20, [4], [50, 3, 0, 12, 11, 15, 2, 21, 4, 7, 1, 3, 2, 0, 12, 0, 1, 0, 3, 2, 0, 11, 4, 3, 2, 0, 15, 0, 8, 3, 7, 1, 3, 2, 0, 12, 0, 0, 0, 7, 4, 3, 2, 0, 15, 0, 1, 2, 0, 11]) ws (vs ++ [Value.int x]) := by
    refine ⟨nf_inA hl rfl, sgq_1438 ?_⟩
    · show ((w_fi ws (n_v (vs ++ [Value.int x]) 4) 12 = 1) → (w_fi ws (n_v (vs ++ [Value.int x]) 4) 11 ≤ (w_fi ws (n_v (vs ++ [Value.int x]) 4) 15 + 8))) ∧ ((w_fi ws (n_v (vs ++ [Value.int x]) 4) 12 = 0) ∨ ((w_fi ws (n_v (vs ++ [Value.int x]) 4) 15 + 1) ≤ w_fi ws (n_v (vs ++ [Value.int x]) 4) 11))
      simp only [e_4, q4]
      exact vc_Mo_groupItem_at_k3_13_1 (w_fi ws (n_v vs 0) 5) (w_fi ws (n_v vs 0) 15) (w_fi ws (n_v vs 0) 11) (w_fi ws (n_v vs 0) 12) f16 kz_0_11 kz_0_12 kz_0_15
  have nf2 : fc_1 PRD (20, [3, 4], [30, 0, 1, 0, 0, -1, 1, 11]) ws (vs ++ [Value.int x]) := by
    refine ⟨nf_inA hl rfl, sgq_1431 ?_⟩
    · show 1 * v_iv (n_v (vs ++ [Value.int x]) 3) + ((-1) * w_fi ws (n_v (vs ++ [Value.int x]) 4) 11 + 0) ≤ 0
      simp only [e_3, e_4, q4]
      exact vc_Mo_groupItem_at_k3_13_2 (v_iv (n_v vs 3)) (v_iv (n_v vs 14)) (w_fi ws (n_v vs 0) 5) (w_fi ws (n_v vs 0) 11) (w_fi ws (n_v vs 0) 8) (v_iv (Value.int x)) k3 k14 f0 f1 f17 kz_0_8 kz_0_11 ex2
  have nf3 : fc_1 PRD (20, [4, 3], [50, 2, 0, 8, 11, 3, 7, 0, 2, 0, 1, 2, 0, 8, 0, 6, 4, 2, 1, 1, 0, 1, 2, 0, 11]) ws (vs ++ [Value.int x]) := by
    refine ⟨nf_inA hl rfl, sgq_1726 ?_⟩
    · show (1 ≤ w_fi ws (n_v (vs ++ [Value.int x]) 4) 8) ∨ ((v_iv (n_v (vs ++ [Value.int x]) 3) + 1) ≤ w_fi ws (n_v (vs ++ [Value.int x]) 4) 11)
      simp only [e_3, e_4, q4]
      exact vc_Mo_groupItem_at_k3_13_3 (v_iv (n_v vs 3)) (v_iv (n_v vs 14)) (w_fi ws (n_v vs 0) 5) (w_fi ws (n_v vs 0) 11) (w_fi ws (n_v vs 0) 8) (v_iv (Value.int x)) k3 k14 f0 f1 f17 f18 kz_0_8 kz_0_11 ex2
  have nf4 : fc_1 PRD (20, [7, 4], [50, 1, 1, 1005, 1002, 0, 6, 4, 2, 1, 0, 0, 1, 3, 1, 2, 4, 3, 2, 1, 5, 0, 2]) ws (vs ++ [Value.int x]) := by
    refine ⟨nf_inA hl rfl, sgq_1009 ?_⟩
    · show (v_iv (n_v (vs ++ [Value.int x]) 7) + 1) ≤ w_ei ws (w_ar ws (n_v (vs ++ [Value.int x]) 4) 2) ((w_fi ws (n_v (vs ++ [Value.int x]) 4) 5 + 2))
      simp only [e_4, e_7, q4]
      exact vc_Mo_groupItem_at_k3_13_4 (v_iv (n_v vs 7)) (w_ei ws (w_ar ws (n_v vs 0) 2)) (w_fi ws (n_v vs 0) 5) k7 f9
  have nf5 : fc_1 PRD (23, [5, 7], [-1, 1, -1]) ws (vs ++ [Value.int x]) := by
    refine ⟨nf_inA hl rfl, sgq_193 ?_⟩
    · show 1 * v_iv (n_v (vs ++ [Value.int x]) 5) + ((-1) * v_iv (n_v (vs ++ [Value.int x]) 7) + 0) ≤ (-1)
      simp only [e_5, e_7, q5]
      exact vc_Mo_groupItem_at_k3_13_5 (v_iv (n_v vs 1)) (v_iv (n_v vs 7)) (w_fi ws (n_v vs 0) 5) k1 k7 f31
  have nf6 : fc_1 PRD (20, [4], [60, 1, 3, 199, 5, 2, 3, 4]) ws (vs ++ [Value.int x]) := by
    refine ⟨nf_inA hl rfl, sgq_980 ?_⟩
    · show RWS (w_fi ws (n_v (vs ++ [Value.int x]) 4) 5) (w_ei ws (w_ar ws (n_v (vs ++ [Value.int x]) 4) 2)) (w_ei ws (w_ar ws (n_v (vs ++ [Value.int x]) 4) 3)) (w_ei ws (w_ar ws (n_v (vs ++ [Value.int x]) 4) 4))
      simp only [e_4, q4]
      exact vc_Mo_groupItem_at_k3_13_6 (w_ei ws (w_ar ws (n_v vs 0) 2)) (w_fi ws (n_v vs 0) 5) (w_ei ws (w_ar ws (n_v vs 0) 3)) (w_ei ws (w_ar ws (n_v vs 0) 4)) f11
  have nf7 : fc_1 PRD (20, [4, 7, 6], [60, 9, 2, 1023, 10, 11, 12, 13, 14, 15, 8, 9, 5, 1, 2]) ws (vs ++ [Value.int x]) := by
    refine ⟨nf_inA hl rfl, sgq_1730 ?_⟩
    · show zOP0 (w_fi ws (n_v (vs ++ [Value.int x]) 4) 10) (w_fi ws (n_v (vs ++ [Value.int x]) 4) 11) (w_fi ws (n_v (vs ++ [Value.int x]) 4) 12) (w_fi ws (n_v (vs ++ [Value.int x]) 4) 13) (w_fi ws (n_v (vs ++ [Value.int x]) 4) 14) (w_fi ws (n_v (vs ++ [Value.int x]) 4) 15) (w_fi ws (n_v (vs ++ [Value.int x]) 4) 8) (w_fi ws (n_v (vs ++ [Value.int x]) 4) 9) (w_fi ws (n_v (vs ++ [Value.int x]) 4) 5) (w_ei ws (w_ar ws (n_v (vs ++ [Value.int x]) 4) 1)) (w_ei ws (w_ar ws (n_v (vs ++ [Value.int x]) 4) 2)) (v_iv (n_v (vs ++ [Value.int x]) 7)) (v_iv (n_v (vs ++ [Value.int x]) 6))
      simp only [e_4, e_6, e_7, q4, q6]
      exact vc_Mo_groupItem_at_k3_13_7 (v_iv (n_v vs 2)) (v_iv (n_v vs 3)) (v_iv (n_v vs 7)) (v_iv (n_v vs 14)) (v_iv (n_v vs 15)) (v_iv (n_v vs 16)) (w_ei ws (w_ar ws (n_v vs 0) 1)) (w_fi ws (n_v vs 0) 10) (w_ei ws (w_ar ws (n_v vs 0) 2)) (w_fi ws (n_v vs 0) 5) (w_fi ws (n_v vs 0) 15) (w_fi ws (n_v vs 0) 11) (w_fi ws (n_v vs 0) 12) (w_fi ws (n_v vs 0) 8) (w_fi ws (n_v vs 0) 13) (w_fi ws (n_v vs 0) 14) (w_fi ws (n_v vs 0) 9) k2 k3 k7 k14 k15 k16 f0 f1 f2 f3 f4 f5 f19 kz_0_8 kz_0_9 kz_0_10 kz_0_11 kz_0_12 kz_0_13 kz_0_14 kz_0_15
  have nf8 : fc_1 PRD (20, [4, 7, 5], [60, 1, 1, 1028, 10, 1]) ws (vs ++ [Value.int x]) := by
    refine ⟨nf_inA hl rfl, sgq_2176 ?_⟩
    · show HST (w_fi ws (n_v (vs ++ [Value.int x]) 4) 10) (w_ei ws (w_ar ws (n_v (vs ++ [Value.int x]) 4) 1)) (v_iv (n_v (vs ++ [Value.int x]) 7)) (v_iv (n_v (vs ++ [Value.int x]) 5))
      simp only [e_4, e_5, e_7, q4, q5]
      exact vc_Mo_groupItem_at_k3_13_8 (v_iv (n_v vs 1)) (v_iv (n_v vs 7)) (w_ei ws (w_ar ws (n_v vs 0) 1)) (w_fi ws (n_v vs 0) 10) k1 k7 f6 kz_0_10
  have nf9 : fc_1 PRD (24, [0, 4], []) ws (vs ++ [Value.int x]) := by
    refine ⟨nf_inA hl rfl, sgq_5 ?_⟩
    · show n_v (vs ++ [Value.int x]) 0 = n_v (vs ++ [Value.int x]) 4
      first | rfl | simp only [e_0, e_4, q4, q5, q6]
  have nf10 : fc_1 PRD (24, [1, 5], []) ws (vs ++ [Value.int x]) := by
    refine ⟨nf_inA hl rfl, sgq_5 ?_⟩
    · show n_v (vs ++ [Value.int x]) 1 = n_v (vs ++ [Value.int x]) 5
      first | rfl | simp only [e_1, e_5, q4, q5, q6]
  have nf11 : fc_1 PRD (24, [2, 6], []) ws (vs ++ [Value.int x]) := by
    refine ⟨nf_inA hl rfl, sgq_5 ?_⟩
    · show n_v (vs ++ [Value.int x]) 2 = n_v (vs ++ [Value.int x]) 6
      first | rfl | simp only [e_2, e_6, q4, q5, q6]
  have nf12 : fc_1 PRD (20, [17, 4, 4], [30, 2005, 1, 0, 0, 1, 1, 11, 1, 1, 8]) ws (vs ++ [Value.int x]) := by
    refine ⟨nf_inA hl rfl, sgq_2178 ?_⟩
    · show 1 * v_iv (n_v (vs ++ [Value.int x]) 17) + (1 * w_fi ws (n_v (vs ++ [Value.int x]) 4) 11 + (1 * w_fi ws (n_v (vs ++ [Value.int x]) 4) 8 + 0)) ≤ 2005
      simp only [e_4, e_17, q4]
      exact vc_Mo_groupItem_at_k3_13_12 (w_fi ws (n_v vs 0) 5) (w_fi ws (n_v vs 0) 11) (w_fi ws (n_v vs 0) 8) (v_iv (Value.int x)) kz_0_8 kz_0_11 ex2
  have nf13 : fc_1 PRD (20, [17, 4, 4], [30, -2005, -1, 0, 0, -1, 1, 11, -1, 1, 8]) ws (vs ++ [Value.int x]) := by
    refine ⟨nf_inA hl rfl, sgq_2179 ?_⟩
    · show (-1) * v_iv (n_v (vs ++ [Value.int x]) 17) + ((-1) * w_fi ws (n_v (vs ++ [Value.int x]) 4) 11 + ((-1) * w_fi ws (n_v (vs ++ [Value.int x]) 4) 8 + 0)) ≤ (-2005)
      simp only [e_4, e_17, q4]
      exact vc_Mo_groupItem_at_k3_13_13 (w_fi ws (n_v vs 0) 5) (w_fi ws (n_v vs 0) 11) (w_fi ws (n_v vs 0) 8) (v_iv (Value.int x)) kz_0_8 kz_0_11 ex2
  exact ⟨(fun _ h => (by cases h)), [Value.int x], ag_one hx, List.forall_mem_cons.mpr ⟨⟨show (20 : Nat) < 100 from by decide, nf0⟩, List.forall_mem_cons.mpr ⟨⟨show (20 : Nat) < 100 from by decide, nf1⟩, List.forall_mem_cons.mpr ⟨⟨show (20 : Nat) < 100 from by decide, nf2⟩, List.forall_mem_cons.mpr ⟨⟨show (20 : Nat) < 100 from by decide, nf3⟩, List.forall_mem_cons.mpr ⟨⟨show (20 : Nat) < 100 from by decide, nf4⟩, List.forall_mem_cons.mpr ⟨⟨show (23 : Nat) < 100 from by decide, nf5⟩, List.forall_mem_cons.mpr ⟨⟨show (20 : Nat) < 100 from by decide, nf6⟩, List.forall_mem_cons.mpr ⟨⟨show (20 : Nat) < 100 from by decide, nf7⟩, List.forall_mem_cons.mpr ⟨⟨show (20 : Nat) < 100 from by decide, nf8⟩, List.forall_mem_cons.mpr ⟨⟨show (24 : Nat) < 100 from by decide, nf9⟩, List.forall_mem_cons.mpr ⟨⟨show (24 : Nat) < 100 from by decide, nf10⟩, List.forall_mem_cons.mpr ⟨⟨show (24 : Nat) < 100 from by decide, nf11⟩, List.forall_mem_cons.mpr ⟨⟨show (20 : Nat) < 100 from by decide, nf12⟩, List.forall_mem_cons.mpr ⟨⟨show (20 : Nat) < 100 from by decide, nf13⟩, (fun _ h => (by cases h))⟩⟩⟩⟩⟩⟩⟩⟩⟩⟩⟩⟩⟩⟩, (fun _ h => (by cases h))⟩
set_option maxHeartbeats 4000000 in
theorem vc_Mo_groupItem_at_k3_14_r0 (x8 : Int) (x9 : Int) (x10 : Int) (x11 : Int) (x13 : Int) (r_0 : Int) (from_0 : Int) (pos_0 : Int) (kind_0 : Int) (k8 : 0 ≤ x8 ∧ x8 ≤ 8) (k9 : 1 ≤ x9 ∧ x9 ≤ 2000) (k10 : 0 ≤ x10 ∧ x10 ≤ 2000) (k11 : 1 ≤ x11 ∧ x11 ≤ 2000) (d1 : x11 + (-4294967296) ≤ x8 ∧ x8 ≤ x11 + (-1)) (f4 : x11 = x9 - x10) (g5 : x10 = from_0) (g6 : x9 = pos_0) (f8 : ((kind_0 = 1) → (pos_0 ≤ (from_0 + 8))) ∧ ((kind_0 = 0) ∨ ((from_0 + 1) ≤ pos_0))) (f10 : kind_0 = 1) (kz_0_11 : 0 ≤ pos_0 ∧ pos_0 ≤ 2000) (kz_0_12 : 0 ≤ kind_0 ∧ kind_0 ≤ 4) (kz_0_15 : 0 ≤ from_0 ∧ from_0 ≤ 2000) : 0 ≤ x8 ∧ x8 ≤ 7 := by
  first
    | omega
    | (have q1 := (hE_0_2_1 (r_0 + 2) (by omega)).2 (by omega)
       have q2 := (hE_0_2_2 (r_0 + 2) (by omega)).2 (by omega)
       omega)
    | (have q1 := (hE_0_2_1 (r_0 + 1) (by omega)).2 (by omega)
       have q2 := (hE_0_2_2 (r_0 + 1) (by omega)).2 (by omega)
       omega)
    | (have q1 := (hE_0_2_1 (r_0 + 2) (by omega)).2 (by omega)
       omega)
    | (have q1 := (hE_0_2_1 (r_0 + 1) (by omega)).2 (by omega)
       omega)
    | (have q1 := (hE_0_2_1 (r_0 + 2) (by omega)).2 (by omega)
       have q2 := (hE_0_2_2 (r_0 + 2) (by omega)).2 (by omega)
       have q3 := (hE_0_2_3 (r_0 + 2) (by omega)).1 (by omega)
       omega)
    | (have q1 := (hE_0_2_1 (r_0 + 2) (by omega)).2 (by omega)
       have q2 := (hE_0_2_2 (r_0 + 2) (by omega)).2 (by omega)
       have q3 := (hE_0_2_3 (r_0 + 2) (by omega)).2 (by omega)
       omega)
    | (have q1 := (hE_0_2_1 (r_0 + 2) (by omega)).2 (by omega)
       have q2 := (hE_0_2_2 (r_0 + 2) (by omega)).2 (by omega)
       have q3 := (hE_0_2_3 (r_0 + 2) (by omega)).1 (by omega)
       have q4 : x13 = r_0 + 2 := by omega
       simp only [q4] at *
       omega)
def o_Mo_groupItem_at_k3_14 : or_T := (141, 19, [(0, (2, 0, 0, [165])), (1, (0, 0, 7, [])), (2, (0, 3, 3, [])), (3, (0, 0, 2000, [])), (4, (2, 0, 0, [165])), (5, (0, 0, 7, [])), (6, (0, 3, 3, [])), (7, (0, 0, 7, [])), (8, (0, 0, 8, [])), (9, (0, 1, 2000, [])), (10, (0, 0, 2000, [])), (11, (0, 1, 2000, [])), (12, (2, 0, 0, [167])), (13, (0, 0, 66297, [])), (14, (0, 459, 459, [])), (15, (0, 459, 66756, []))], [(1, [15, 13, 14], []), (9, [13, 4], [5]), (9, [12, 4], [2]), (7, [8, 11], [2]), (2, [11, 9, 10], []), (9, [10, 4], [15]), (9, [9, 4], [11]), (20, [4, 4], [30, 0, 1, 1, 15, -1, 1, 11]), (20, [4], [50, 3, 0, 12, 11, 15, 2, 21, 4, 7, 1, 3, 2, 0, 12, 0, 1, 0, 3, 2, 0, 11, 4, 3, 2, 0, 15, 0, 8, 3, 7, 1, 3, 2, 0, 12, 0, 0, 0, 7, 4, 3, 2, 0, 15, 0, 1, 2, 0, 11]), (20, [3, 4], [30, -1, 1, 0, 0, -1, 1, 11]), (20, [4], [50, 1, 0, 12, 1, 3, 2, 0, 12, 0, 1]), (20, [7, 4], [50, 1, 1, 1005, 1002, 0, 6, 4, 2, 1, 0, 0, 1, 3, 1, 2, 4, 3, 2, 1, 5, 0, 2]), (23, [5, 7], [-1, 1, -1]), (20, [4], [60, 1, 3, 199, 5, 2, 3, 4]), (20, [4, 7, 8, 5, 6], [60, 8, 2, 1006, 10, 11, 12, 13, 14, 15, 8, 5, 1, 2]), (24, [0, 4], []), (24, [1, 5], []), (24, [2, 6], [])], [(8, (0, 0, 7, []))], [], [], [], [(15, 13, 459, 459), (8, 11, -4294967296, -1), (11, 9, -2000, 0), (1, 5, -4294967296, 0), (5, 1, -4294967296, 0)])
theorem oo_Mo_groupItem_at_k3_14 {kA : Nat → ClassId} : or_ok PRD kA GG o_Mo_groupItem_at_k3_14 := by
  refine or_mk fun A ta ws vs hD hth hl => ?_
  intro t0 r0 t1 k1 t2 k2 t3 k3 t4 r4 t5 k5 t6 k6 t7 k7 t8 k8 t9 k9 t10 k10 t11 k11 t12 r12 t13 k13 t14 k14 t15 k15 d0 d1 d2 d3 d4 f0 f1 f2 f3 f4 f5 f6 f7 f8 f9 f10 f11 f12 f13 f14 f15 f16 f17
  replace f5 := shm_177 f5
  replace f6 := shm_116 f6
  replace f8 := shm_1438 f8
  replace f10 := shm_1890 f10
  replace f15 := shm_5 f15
  have q4 : n_v vs 4 = n_v vs 0 := f15.symm
  simp only [q4] at f5 f6 f8 f10
  have g5 : v_iv (n_v vs 10) = w_fi ws (n_v vs 0) 15 := congrArg v_iv f5
  have g6 : v_iv (n_v vs 9) = w_fi ws (n_v vs 0) 11 := congrArg v_iv f6
  have kz_0_11 := fdq_237 hD hth r0
  have kz_0_12 := fdq_187 hD hth r0
  have kz_0_15 := fdq_239 hD hth r0
  have hrf0 : 0 ≤ v_iv (n_v vs 8) ∧ v_iv (n_v vs 8) ≤ 7 := vc_Mo_groupItem_at_k3_14_r0 (v_iv (n_v vs 8)) (v_iv (n_v vs 9)) (v_iv (n_v vs 10)) (v_iv (n_v vs 11)) (v_iv (n_v vs 13)) (w_fi ws (n_v vs 0) 5) (w_fi ws (n_v vs 0) 15) (w_fi ws (n_v vs 0) 11) (w_fi ws (n_v vs 0) 12) k8 k9 k10 k11 d1 (shm_14 f4) g5 g6 f8 f10 kz_0_11 kz_0_12 kz_0_15
  have rf8 : tv_ok ta (0, 0, 7, []) (n_v vs 8) := tv_in t8 (by first | omega | grind) (by first | omega | grind)
  refine ⟨List.forall_mem_cons.mpr ⟨rf8, (fun _ h => (by cases h))⟩, [], trivial, ?_, (fun _ h => (by cases h))⟩
  rw [List.append_nil]
  exact (fun _ h => (by cases h))
def o_Mo_groupItem_at_k3_15 : or_T := (153, 22, [(7, (0, 0, 7, [])), (8, (0, 0, 7, [])), (13, (5, 0, 66297, [539])), (14, (0, 459, 459, [])), (15, (0, 459, 66756, [])), (16, (0, 8, 8, [])), (17, (0, 0, 56, [])), (18, (0, 459, 66812, [])), (19, (0, 459, 66819, [])), (21, (0, -1, -1, []))], [(1, [19, 18, 8], []), (1, [18, 15, 17], []), (3, [17, 16, 7], []), (1, [15, 13, 14], [])], [], [], [(18, [19, 21], [1])], [], [(19, 8, 459, 66812), (19, 18, 0, 7), (19, 17, 459, 66763), (19, 15, 0, 63), (19, 13, 459, 522), (18, 17, 459, 66756), (18, 15, 0, 56), (18, 13, 459, 515), (15, 13, 459, 459)])
theorem oo_Mo_groupItem_at_k3_15 {kA : Nat → ClassId} : or_ok PRD kA GG o_Mo_groupItem_at_k3_15 := by
  refine or_mk fun A ta ws vs hD hth hl => ?_
  intro t7 k7 t8 k8 t13 t14 k14 t15 k15 t16 k16 t17 k17 t18 k18 t19 k19 t21 k21 d0 d1 d2 d3 d4 d5 d6 d7 d8 f0 f1 f2 f3
  obtain ⟨k13, q13_⟩ : (0 ≤ v_iv (n_v vs 13) ∧ v_iv (n_v vs 13) ≤ 66297) ∧ ∃ q : Int, v_iv (n_v vs 13) = 539 * q := tv_dvk t13
  obtain ⟨q13, hq13⟩ := q13_
  replace f0 := shm_12 f0
  replace f1 := shm_12 f1
  replace f2 := shm_38 f2
  rw [show v_iv (n_v vs 16) = 8 from by omega] at f2
  replace f3 := shm_12 f3
  have nf0 : fc_1 PRD (18, [19, 21], [1]) ws (vs) := by
    refine ⟨nf_in hl rfl, sgq_1302 ?_⟩
    · show pl_ok 1 (v_iv (n_v vs 19)).toNat (v_iv (n_v vs 21))
      exact pl_in pl_M1 (lo := 459) (hi := 522) (a := (-1)) (b := (-1)) (by decide +kernel) (by omega) (by omega) (by omega) (by omega)
  refine ⟨(fun _ h => (by cases h)), [], trivial, ?_, (fun _ h => (by cases h))⟩
  rw [List.append_nil]
  exact List.forall_mem_cons.mpr ⟨⟨show (18 : Nat) < 100 from by decide, nf0⟩, (fun _ h => (by cases h))⟩

set_option maxHeartbeats 4000000 in
theorem vc_Mo_groupItem_at_k3_16_0 (x7 : Int) (x8 : Int) (x13 : Int) (x15 : Int) (x17 : Int) (x18 : Int) (x19 : Int) (x21 : Int) (x22 : Int) (r_0 : Int) (from_0 : Int) (pos_0 : Int) (tape_0 : Int → Int) (limit_0 : Int) (kind_0 : Int) (tape_1 : Int → Int) (limit_1 : Int) (from_1 : Int) (pos_1 : Int) (kind_1 : Int) (all_1 : Int → Int) (r_1 : Int) (now_1 : Int → Int) (latest_1 : Int → Int) (place_1 : Int) (value_1 : Int) (fault_1 : Int) (fault_0 : Int) (place_0 : Int) (value_0 : Int) (all_0 : Int → Int) (now_0 : Int → Int) (latest_0 : Int → Int) (k7 : 0 ≤ x7 ∧ x7 ≤ 7) (k8 : 0 ≤ x8 ∧ x8 ≤ 7) (k13 : 0 ≤ x13 ∧ x13 ≤ 66297) (k15 : 459 ≤ x15 ∧ x15 ≤ 66756) (k17 : 0 ≤ x17 ∧ x17 ≤ 56) (k18 : 459 ≤ x18 ∧ x18 ≤ 66812) (k19 : 459 ≤ x19 ∧ x19 ≤ 66819) (k21 : (-1) ≤ x21 ∧ x21 ≤ (-1)) (k22 : 1 ≤ x22 ∧ x22 ≤ 8) (d0 : x8 + 1 ≤ x22 ∧ x22 ≤ x8 + 1) (d9 : x15 + 0 ≤ x19 ∧ x19 ≤ x15 + 63) (d14 : x13 + 459 ≤ x15 ∧ x15 ≤ x13 + 459) (g0 : x13 = r_0) (f19 : x19 = x18 + x8) (f20 : x18 = x15 + x17) (f21 : x17 = 8 * x7) (f29 : (x7 + 1) ≤ all_1 ((r_1 + 2))) (fe_0_5_1 : r_0 = r_1) (fe_0_8_1 : fault_0 = fault_1) (fe_0_10_1 : limit_0 = limit_1) (fe_0_11_1 : pos_0 = pos_1) (fe_0_12_1 : kind_0 = kind_1) (fe_0_13_1 : place_0 = place_1) (fe_0_14_1 : value_0 = value_1) (fe_0_15_1 : from_0 = from_1) (hE_0_1_1 : ∀ j : Int, tape_0 j = tape_1 j) (hE_0_2_1 : ∀ j : Int, 0 ≤ j → (j = x19 → all_0 j = x21) ∧ (j ≠ x19 → all_0 j = all_1 j)) (hE_0_3_1 : ∀ j : Int, now_0 j = now_1 j) (hE_0_4_1 : ∀ j : Int, latest_0 j = latest_1 j) (kz_0_8 : 0 ≤ fault_0 ∧ fault_0 ≤ 5) (kz_0_10 : 0 ≤ limit_0 ∧ limit_0 ≤ 2000) (kz_0_11 : 0 ≤ pos_0 ∧ pos_0 ≤ 2000) (kz_0_12 : 0 ≤ kind_0 ∧ kind_0 ≤ 4) (kz_0_13 : 0 ≤ place_0 ∧ place_0 ≤ 2000) (kz_0_14 : (-49) ≤ value_0 ∧ value_0 ≤ 1048575) (kz_0_15 : 0 ≤ from_0 ∧ from_0 ≤ 2000) : (x7 + 1) ≤ all_0 ((r_0 + 2)) := by
  subst fe_0_5_1
  subst fe_0_8_1
  subst fe_0_10_1
  subst fe_0_11_1
  subst fe_0_12_1
  subst fe_0_13_1
  subst fe_0_14_1
  subst fe_0_15_1
  have e_hE_0_1_1 := funext hE_0_1_1; subst e_hE_0_1_1
  have e_hE_0_3_1 := funext hE_0_3_1; subst e_hE_0_3_1
  have e_hE_0_4_1 := funext hE_0_4_1; subst e_hE_0_4_1
  first
    | omega
    | (have q1 := (hE_0_2_1 (r_0 + 2) (by omega)).2 (by omega)
       have q2 := (hE_0_2_2 (r_0 + 2) (by omega)).2 (by omega)
       omega)
    | (have q1 := (hE_0_2_1 (r_0 + 1) (by omega)).2 (by omega)
       have q2 := (hE_0_2_2 (r_0 + 1) (by omega)).2 (by omega)
       omega)
    | (have q1 := (hE_0_2_1 (r_0 + 2) (by omega)).2 (by omega)
       omega)
    | (have q1 := (hE_0_2_1 (r_0 + 1) (by omega)).2 (by omega)
       omega)
    | (have q1 := (hE_0_2_1 (r_0 + 2) (by omega)).2 (by omega)
       have q2 := (hE_0_2_2 (r_0 + 2) (by omega)).2 (by omega)
       have q3 := (hE_0_2_3 (r_0 + 2) (by omega)).1 (by omega)
       omega)
    | (have q1 := (hE_0_2_1 (r_0 + 2) (by omega)).2 (by omega)
       have q2 := (hE_0_2_2 (r_0 + 2) (by omega)).2 (by omega)
       have q3 := (hE_0_2_3 (r_0 + 2) (by omega)).2 (by omega)
       omega)
    | (have q1 := (hE_0_2_1 (r_0 + 2) (by omega)).2 (by omega)
       have q2 := (hE_0_2_2 (r_0 + 2) (by omega)).2 (by omega)
       have q3 := (hE_0_2_3 (r_0 + 2) (by omega)).1 (by omega)
       have q4 : x13 = r_0 + 2 := by omega
       simp only [q4] at *
       omega)
set_option maxHeartbeats 4000000 in
theorem vc_Mo_groupItem_at_k3_16_1 (x7 : Int) (x8 : Int) (x13 : Int) (x15 : Int) (x17 : Int) (x18 : Int) (x19 : Int) (x21 : Int) (x22 : Int) (r_0 : Int) (from_0 : Int) (pos_0 : Int) (tape_0 : Int → Int) (limit_0 : Int) (kind_0 : Int) (tape_1 : Int → Int) (limit_1 : Int) (from_1 : Int) (pos_1 : Int) (kind_1 : Int) (all_1 : Int → Int) (r_1 : Int) (now_1 : Int → Int) (latest_1 : Int → Int) (place_1 : Int) (value_1 : Int) (fault_1 : Int) (fault_0 : Int) (place_0 : Int) (value_0 : Int) (all_0 : Int → Int) (now_0 : Int → Int) (latest_0 : Int → Int) (k7 : 0 ≤ x7 ∧ x7 ≤ 7) (k8 : 0 ≤ x8 ∧ x8 ≤ 7) (k13 : 0 ≤ x13 ∧ x13 ≤ 66297) (k15 : 459 ≤ x15 ∧ x15 ≤ 66756) (k17 : 0 ≤ x17 ∧ x17 ≤ 56) (k18 : 459 ≤ x18 ∧ x18 ≤ 66812) (k19 : 459 ≤ x19 ∧ x19 ≤ 66819) (k21 : (-1) ≤ x21 ∧ x21 ≤ (-1)) (k22 : 1 ≤ x22 ∧ x22 ≤ 8) (d0 : x8 + 1 ≤ x22 ∧ x22 ≤ x8 + 1) (d9 : x15 + 0 ≤ x19 ∧ x19 ≤ x15 + 63) (d14 : x13 + 459 ≤ x15 ∧ x15 ≤ x13 + 459) (g0 : x13 = r_0) (f19 : x19 = x18 + x8) (f20 : x18 = x15 + x17) (f21 : x17 = 8 * x7) (f31 : RWS (r_1) (all_1) (now_1) (latest_1)) (fe_0_5_1 : r_0 = r_1) (fe_0_8_1 : fault_0 = fault_1) (fe_0_10_1 : limit_0 = limit_1) (fe_0_11_1 : pos_0 = pos_1) (fe_0_12_1 : kind_0 = kind_1) (fe_0_13_1 : place_0 = place_1) (fe_0_14_1 : value_0 = value_1) (fe_0_15_1 : from_0 = from_1) (hE_0_1_1 : ∀ j : Int, tape_0 j = tape_1 j) (hE_0_2_1 : ∀ j : Int, 0 ≤ j → (j = x19 → all_0 j = x21) ∧ (j ≠ x19 → all_0 j = all_1 j)) (hE_0_3_1 : ∀ j : Int, now_0 j = now_1 j) (hE_0_4_1 : ∀ j : Int, latest_0 j = latest_1 j) (kz_0_8 : 0 ≤ fault_0 ∧ fault_0 ≤ 5) (kz_0_10 : 0 ≤ limit_0 ∧ limit_0 ≤ 2000) (kz_0_11 : 0 ≤ pos_0 ∧ pos_0 ≤ 2000) (kz_0_12 : 0 ≤ kind_0 ∧ kind_0 ≤ 4) (kz_0_13 : 0 ≤ place_0 ∧ place_0 ≤ 2000) (kz_0_14 : (-49) ≤ value_0 ∧ value_0 ≤ 1048575) (kz_0_15 : 0 ≤ from_0 ∧ from_0 ≤ 2000) : RWS (r_0) (all_0) (now_0) (latest_0) := by
  subst fe_0_5_1
  subst fe_0_8_1
  subst fe_0_10_1
  subst fe_0_11_1
  subst fe_0_12_1
  subst fe_0_13_1
  subst fe_0_14_1
  subst fe_0_15_1
  have e_hE_0_1_1 := funext hE_0_1_1; subst e_hE_0_1_1
  have e_hE_0_3_1 := funext hE_0_3_1; subst e_hE_0_3_1
  have e_hE_0_4_1 := funext hE_0_4_1; subst e_hE_0_4_1
  first
    | (have hr := rws_r ‹RWS _ _ _ _›
       exact rws_off (rws_off (rws_off ‹RWS _ _ _ _› (by assumption) (by omega)) (by assumption) (by omega)) (by assumption) (by omega))
    | (have hr := rws_r ‹RWS _ _ _ _›
       exact rws_off ‹RWS _ _ _ _› (by assumption) (by omega))
set_option maxHeartbeats 4000000 in
theorem vc_Mo_groupItem_at_k3_16_2 (x1 : Int) (x2 : Int) (x7 : Int) (x8 : Int) (x9 : Int) (x10 : Int) (x11 : Int) (x13 : Int) (x15 : Int) (x17 : Int) (x18 : Int) (x19 : Int) (x20 : Int) (x21 : Int) (x22 : Int) (r_0 : Int) (from_0 : Int) (pos_0 : Int) (tape_0 : Int → Int) (limit_0 : Int) (kind_0 : Int) (tape_1 : Int → Int) (limit_1 : Int) (from_1 : Int) (pos_1 : Int) (kind_1 : Int) (all_1 : Int → Int) (r_1 : Int) (now_1 : Int → Int) (latest_1 : Int → Int) (place_1 : Int) (value_1 : Int) (fault_1 : Int) (fault_0 : Int) (place_0 : Int) (value_0 : Int) (all_0 : Int → Int) (now_0 : Int → Int) (latest_0 : Int → Int) (k1 : 0 ≤ x1 ∧ x1 ≤ 7) (k2 : 3 ≤ x2 ∧ x2 ≤ 3) (k7 : 0 ≤ x7 ∧ x7 ≤ 7) (k8 : 0 ≤ x8 ∧ x8 ≤ 7) (k9 : 1 ≤ x9 ∧ x9 ≤ 2000) (k10 : 0 ≤ x10 ∧ x10 ≤ 2000) (k11 : 1 ≤ x11 ∧ x11 ≤ 2000) (k13 : 0 ≤ x13 ∧ x13 ≤ 66297) (k15 : 459 ≤ x15 ∧ x15 ≤ 66756) (k17 : 0 ≤ x17 ∧ x17 ≤ 56) (k18 : 459 ≤ x18 ∧ x18 ≤ 66812) (k19 : 459 ≤ x19 ∧ x19 ≤ 66819) (k20 : 0 ≤ x20 ∧ x20 ≤ 2007) (k21 : (-1) ≤ x21 ∧ x21 ≤ (-1)) (k22 : 1 ≤ x22 ∧ x22 ≤ 8) (d0 : x8 + 1 ≤ x22 ∧ x22 ≤ x8 + 1) (d1 : x11 + (-4294967296) ≤ x22 ∧ x22 ≤ x11 + 0) (d4 : x10 + 0 ≤ x20 ∧ x20 ≤ x10 + 7) (d11 : x17 + 459 ≤ x18 ∧ x18 ≤ x17 + 66756) (d14 : x13 + 459 ≤ x15 ∧ x15 ≤ x13 + 459) (d15 : x11 + (-4294967296) ≤ x8 ∧ x8 ≤ x11 + (-1)) (g0 : x13 = r_0) (g2 : x10 = from_0) (g3 : x9 = pos_0) (f4 : x22 = x8 + 1) (f16 : ((x20 + 1) ≤ limit_1) → (x21 = (tape_1 (x20) % 256))) (f18 : x20 = x10 + x8) (f19 : x19 = x18 + x8) (f20 : x18 = x15 + x17) (f21 : x17 = 8 * x7) (f24 : x11 = x9 - x10) (f32 : zMG (limit_1) (pos_1) (kind_1) (place_1) (value_1) (from_1) (fault_1) (r_1) (tape_1) (all_1) (x7) (x8) (x1) (x2)) (fe_0_5_1 : r_0 = r_1) (fe_0_8_1 : fault_0 = fault_1) (fe_0_10_1 : limit_0 = limit_1) (fe_0_11_1 : pos_0 = pos_1) (fe_0_12_1 : kind_0 = kind_1) (fe_0_13_1 : place_0 = place_1) (fe_0_14_1 : value_0 = value_1) (fe_0_15_1 : from_0 = from_1) (hE_0_1_1 : ∀ j : Int, tape_0 j = tape_1 j) (hE_0_2_1 : ∀ j : Int, 0 ≤ j → (j = x19 → all_0 j = x21) ∧ (j ≠ x19 → all_0 j = all_1 j)) (hE_0_3_1 : ∀ j : Int, now_0 j = now_1 j) (hE_0_4_1 : ∀ j : Int, latest_0 j = latest_1 j) (kz_0_8 : 0 ≤ fault_0 ∧ fault_0 ≤ 5) (kz_0_10 : 0 ≤ limit_0 ∧ limit_0 ≤ 2000) (kz_0_11 : 0 ≤ pos_0 ∧ pos_0 ≤ 2000) (kz_0_12 : 0 ≤ kind_0 ∧ kind_0 ≤ 4) (kz_0_13 : 0 ≤ place_0 ∧ place_0 ≤ 2000) (kz_0_14 : (-49) ≤ value_0 ∧ value_0 ≤ 1048575) (kz_0_15 : 0 ≤ from_0 ∧ from_0 ≤ 2000) : zMG (limit_0) (pos_0) (kind_0) (place_0) (value_0) (from_0) (fault_0) (r_0) (tape_0) (all_0) (x7) (x22) (x1) (x2) := by
  subst fe_0_5_1
  subst fe_0_8_1
  subst fe_0_10_1
  subst fe_0_11_1
  subst fe_0_12_1
  subst fe_0_13_1
  subst fe_0_14_1
  subst fe_0_15_1
  have e_hE_0_1_1 := funext hE_0_1_1; subst e_hE_0_1_1
  have e_hE_0_3_1 := funext hE_0_3_1; subst e_hE_0_3_1
  have e_hE_0_4_1 := funext hE_0_4_1; subst e_hE_0_4_1
  first | subst g0 | skip
  first | subst g2 | skip
  first | subst g3 | skip
  first
    | exact mg_step ‹zMG _ _ _ _ _ _ _ _ _ _ _ _ _ _› (by omega) (by assumption) (by omega) (tk_byte (mg_tk ‹zMG _ _ _ _ _ _ _ _ _ _ _ _ _ _›) (by assumption) (by omega) (by omega) (by omega)) (by omega) (by omega)
    | exact mg_start (rsq_of ‹zTS5 _ _ _ _ _ _ _ _› ‹TKR _ _ _ _ _ _ _ _›) (by omega) ‹NMQ _ _ _ _ _ _› (by omega) (by assumption) (by assumption) (by assumption) (by omega) (by omega) (by omega) (by omega) (by omega) (by omega) (by omega) (by omega)
def o_Mo_groupItem_at_k3_16 : or_T := (108, 23, [(0, (2, 0, 0, [165])), (1, (0, 0, 7, [])), (2, (0, 3, 3, [])), (3, (0, 0, 2000, [])), (4, (2, 0, 0, [165])), (5, (0, 0, 7, [])), (6, (0, 3, 3, [])), (7, (0, 0, 7, [])), (8, (0, 0, 7, [])), (9, (0, 1, 2000, [])), (10, (0, 0, 2000, [])), (11, (0, 1, 2000, [])), (12, (2, 0, 0, [167])), (13, (0, 0, 66297, [])), (14, (0, 459, 459, [])), (15, (0, 459, 66756, [])), (16, (0, 8, 8, [])), (17, (0, 0, 56, [])), (18, (0, 459, 66812, [])), (19, (0, 459, 66819, [])), (20, (0, 0, 2007, [])), (21, (0, -1, -1, [])), (22, (0, 1, 8, []))], [(9, [13, 4], [5]), (9, [12, 4], [2]), (9, [10, 4], [15]), (9, [9, 4], [11]), (6, [22, 8], [1]), (20, [20, 4, 21], [50, 1, 1, 1010, 1001, 4, 11, 0, 6, 4, 2, 1, 0, 0, 1, 2, 1, 10, 1, 2, 1, 2, 9, 5, 3, 1, 1, 1, 0, 0, 256]), (20, [4, 20, 21], [50, 1, 0, 10, 4, 7, 0, 3, 2, 0, 10, 1, 1, 1, 2, 1, 2, 0, -1]), (20, [4, 4], [30, 0, 1, 1, 15, -1, 1, 11]), (20, [4], [50, 3, 0, 12, 11, 15, 2, 21, 4, 7, 1, 3, 2, 0, 12, 0, 1, 0, 3, 2, 0, 11, 4, 3, 2, 0, 15, 0, 8, 3, 7, 1, 3, 2, 0, 12, 0, 0, 0, 7, 4, 3, 2, 0, 15, 0, 1, 2, 0, 11]), (20, [3, 4], [30, -1, 1, 0, 0, -1, 1, 11]), (20, [4], [50, 1, 0, 12, 1, 3, 2, 0, 12, 0, 1]), (23, [5, 7], [-1, 1, -1]), (24, [0, 4], []), (24, [1, 5], []), (24, [2, 6], []), (100, [12, 19, 21], []), (20, [20, 4, 21], [50, 1, 1, 1010, 1001, 4, 11, 0, 6, 4, 2, 1, 0, 0, 1, 2, 1, 10, 1, 2, 1, 2, 9, 5, 3, 1, 1, 1, 0, 0, 256]), (20, [4, 20, 21], [50, 1, 0, 10, 4, 7, 0, 3, 2, 0, 10, 1, 1, 1, 2, 1, 2, 0, -1]), (1, [20, 10, 8], []), (1, [19, 18, 8], []), (1, [18, 15, 17], []), (3, [17, 16, 7], []), (1, [15, 13, 14], []), (7, [8, 11], [2]), (2, [11, 9, 10], []), (20, [4, 4], [30, 0, 1, 1, 15, -1, 1, 11]), (20, [4], [50, 3, 0, 12, 11, 15, 2, 21, 4, 7, 1, 3, 2, 0, 12, 0, 1, 0, 3, 2, 0, 11, 4, 3, 2, 0, 15, 0, 8, 3, 7, 1, 3, 2, 0, 12, 0, 0, 0, 7, 4, 3, 2, 0, 15, 0, 1, 2, 0, 11]), (20, [3, 4], [30, -1, 1, 0, 0, -1, 1, 11]), (20, [4], [50, 1, 0, 12, 1, 3, 2, 0, 12, 0, 1]), (20, [7, 4], [50, 1, 1, 1005, 1002, 0, 6, 4, 2, 1, 0, 0, 1, 3, 1, 2, 4, 3, 2, 1, 5, 0, 2]), (23, [5, 7], [-1, 1, -1]), (20, [4], [60, 1, 3, 199, 5, 2, 3, 4]), (20, [4, 7, 8, 5, 6], [60, 8, 2, 1006, 10, 11, 12, 13, 14, 15, 8, 5, 1, 2])], [], [], [(20, [7, 4], [50, 1, 1, 1005, 1002, 0, 6, 4, 2, 1, 0, 0, 1, 3, 1, 2, 4, 3, 2, 1, 5, 0, 2]), (20, [4], [60, 1, 3, 199, 5, 2, 3, 4]), (20, [4, 7, 22, 5, 6], [60, 8, 2, 1006, 10, 11, 12, 13, 14, 15, 8, 5, 1, 2])], [], [(22, 8, 1, 1), (22, 11, -4294967296, 0), (20, 8, 0, 2000), (20, 11, -4294967296, 1999), (20, 10, 0, 7), (19, 8, 459, 66812), (19, 11, -4294967296, 66811), (19, 18, 0, 7), (19, 17, 459, 66763), (19, 15, 0, 63), (19, 13, 459, 522), (18, 17, 459, 66756), (18, 15, 0, 56), (18, 13, 459, 515), (15, 13, 459, 459), (8, 11, -4294967296, -1), (11, 9, -2000, 0), (1, 5, -4294967296, 0), (5, 1, -4294967296, 0)])
theorem oo_Mo_groupItem_at_k3_16 {kA : Nat → ClassId} : or_ok PRD kA GG o_Mo_groupItem_at_k3_16 := by
  refine or_mk fun A ta ws vs hD hth hl => ?_
  intro t0 r0 t1 k1 t2 k2 t3 k3 t4 r4 t5 k5 t6 k6 t7 k7 t8 k8 t9 k9 t10 k10 t11 k11 t12 r12 t13 k13 t14 k14 t15 k15 t16 k16 t17 k17 t18 k18 t19 k19 t20 k20 t21 k21 t22 k22 d0 d1 d2 d3 d4 d5 d6 d7 d8 d9 d10 d11 d12 d13 d14 d15 d16 d17 d18 f0 f1 f2 f3 f4 f5 f6 f7 f8 f9 f10 f11 f12 f13 f14 ta1 w1 le1 s1 f16 f17 f18 f19 f20 f21 f22 f23 f24 f25 f26 f27 f28 f29 f30 f31 f32
  replace f0 := shm_110 f0
  replace f1 := shm_120 f1
  replace f2 := shm_177 f2
  replace f3 := shm_116 f3
  replace f4 := shm_4 f4
  replace f5 := shm_541 f5
  replace f6 := shm_542 f6
  replace f7 := shm_1437 f7
  replace f8 := shm_1438 f8
  replace f9 := shm_2005 f9
  replace f10 := shm_1890 f10
  replace f11 := shm_193 f11
  replace f12 := shm_5 f12
  replace f13 := shm_5 f13
  replace f14 := shm_5 f14
  have s1 : (∀ b j, w_el ws b j = if b = v_ad (n_v vs 12) ∧ j = (v_iv (n_v vs 19)).toNat then v_iv (n_v vs 21) else w_el w1 b j) ∧ ∀ b k, w_fd ws b k = w_fd w1 b k := s1.2
  replace f16 := shm_541 f16
  replace f17 := shm_542 f17
  replace f18 := shm_12 f18
  replace f19 := shm_12 f19
  replace f20 := shm_12 f20
  replace f21 := shm_38 f21
  rw [show v_iv (n_v vs 16) = 8 from by omega] at f21
  replace f22 := shm_12 f22
  replace f23 := shm_6 f23
  replace f24 := shm_14 f24
  replace f25 := shm_1437 f25
  replace f26 := shm_1438 f26
  replace f27 := shm_2005 f27
  replace f28 := shm_1890 f28
  replace f29 := shm_1009 f29
  replace f30 := shm_193 f30
  replace f31 := shm_980 f31
  replace f32 := shm_2175 f32
  have q4 : n_v vs 4 = n_v vs 0 := f12.symm
  have q5 : n_v vs 5 = n_v vs 1 := f13.symm
  have q6 : n_v vs 6 = n_v vs 2 := f14.symm
  simp only [q4, q5, q6] at f0 f1 f2 f3 f5 f6 f7 f8 f9 f10 f11 f16 f17 f25 f26 f27 f28 f29 f30 f31 f32
  have ar_0_1_1 : w_ar w1 (n_v vs 0) 1 = w_ar ws (n_v vs 0) 1 := congrArg v_ad (s1.2 _ _).symm
  have cr_0_1 := fdq_39 hD hth r0
  have ar_0_2_1 : w_ar w1 (n_v vs 0) 2 = w_ar ws (n_v vs 0) 2 := congrArg v_ad (s1.2 _ _).symm
  have cr_0_2 := fdq_10 hD hth r0
  have ar_0_3_1 : w_ar w1 (n_v vs 0) 3 = w_ar ws (n_v vs 0) 3 := congrArg v_ad (s1.2 _ _).symm
  have cr_0_3 := fdq_142 hD hth r0
  have ar_0_4_1 : w_ar w1 (n_v vs 0) 4 = w_ar ws (n_v vs 0) 4 := congrArg v_ad (s1.2 _ _).symm
  have cr_0_4 := fdq_143 hD hth r0
  have ad_12 : v_ad (n_v vs 12) = w_ar ws (n_v vs 0) 2 := congrArg v_ad f1
  have g0 : v_iv (n_v vs 13) = w_fi ws (n_v vs 0) 5 := congrArg v_iv f0
  have g2 : v_iv (n_v vs 10) = w_fi ws (n_v vs 0) 15 := congrArg v_iv f2
  have g3 : v_iv (n_v vs 9) = w_fi ws (n_v vs 0) 11 := congrArg v_iv f3
  simp only [ar_0_1_1, ar_0_2_1, ar_0_3_1, ar_0_4_1] at f16 f29 f31 f32
  have fe_0_5_1 : w_fi ws (n_v vs 0) 5 = w_fi w1 (n_v vs 0) 5 := congrArg v_iv (s1.2 _ _)
  have fe_0_8_1 : w_fi ws (n_v vs 0) 8 = w_fi w1 (n_v vs 0) 8 := congrArg v_iv (s1.2 _ _)
  have fe_0_10_1 : w_fi ws (n_v vs 0) 10 = w_fi w1 (n_v vs 0) 10 := congrArg v_iv (s1.2 _ _)
  have fe_0_11_1 : w_fi ws (n_v vs 0) 11 = w_fi w1 (n_v vs 0) 11 := congrArg v_iv (s1.2 _ _)
  have fe_0_12_1 : w_fi ws (n_v vs 0) 12 = w_fi w1 (n_v vs 0) 12 := congrArg v_iv (s1.2 _ _)
  have fe_0_13_1 : w_fi ws (n_v vs 0) 13 = w_fi w1 (n_v vs 0) 13 := congrArg v_iv (s1.2 _ _)
  have fe_0_14_1 : w_fi ws (n_v vs 0) 14 = w_fi w1 (n_v vs 0) 14 := congrArg v_iv (s1.2 _ _)
  have fe_0_15_1 : w_fi ws (n_v vs 0) 15 = w_fi w1 (n_v vs 0) 15 := congrArg v_iv (s1.2 _ _)
  have hE_0_1_1 : ∀ j : Int, w_ei ws (w_ar ws (n_v vs 0) 1) j = w_ei w1 (w_ar ws (n_v vs 0) 1) j := el_kp s1.1 r12 cr_0_1 (by decide)
  have hK_0_1 := elq_7 hD hth cr_0_1
  have hE_0_2_1 : ∀ j : Int, 0 ≤ j → (j = v_iv (n_v vs 19) → w_ei ws (w_ar ws (n_v vs 0) 2) j = v_iv (n_v vs 21)) ∧ (j ≠ v_iv (n_v vs 19) → w_ei ws (w_ar ws (n_v vs 0) 2) j = w_ei w1 (w_ar ws (n_v vs 0) 2) j) := fun j hj => ⟨fun h => by unfold w_ei; rw [s1.1, if_pos ⟨ad_12.symm, by rw [h]⟩], fun h => by unfold w_ei; rw [s1.1, if_neg (fun e => h (by have := e.2; omega))]⟩
  have hE_0_3_1 : ∀ j : Int, w_ei ws (w_ar ws (n_v vs 0) 3) j = w_ei w1 (w_ar ws (n_v vs 0) 3) j := el_kp s1.1 r12 cr_0_3 (by decide)
  have hK_0_3 := elq_80 hD hth cr_0_3
  have hE_0_4_1 : ∀ j : Int, w_ei ws (w_ar ws (n_v vs 0) 4) j = w_ei w1 (w_ar ws (n_v vs 0) 4) j := el_kp s1.1 r12 cr_0_4 (by decide)
  have hK_0_4 := elq_81 hD hth cr_0_4
  have kz_0_8 := fdq_34 hD hth r0
  have kz_0_10 := fdq_43 hD hth r0
  have kz_0_11 := fdq_237 hD hth r0
  have kz_0_12 := fdq_187 hD hth r0
  have kz_0_13 := fdq_238 hD hth r0
  have kz_0_14 := fdq_188 hD hth r0
  have kz_0_15 := fdq_239 hD hth r0
  first | have hJ0 : w_ei w1 (w_ar ws (n_v vs 0) 2) ((w_fi w1 (n_v vs 0) 5 + 2)) = w_ei w1 (w_ar ws (n_v vs 0) 2) ((w_fi ws (n_v vs 0) 5 + 2)) := congrArg _ (show ((w_fi w1 (n_v vs 0) 5 + 2) : Int) = (w_fi ws (n_v vs 0) 5 + 2) from by omega) | skip
  have hI1 := hE_0_1_1 (v_iv (n_v vs 20))
  first | have hI2 := (hE_0_2_1 ((w_fi ws (n_v vs 0) 5 + 2)) (by omega)).2 (by omega) | have hI2 := (hE_0_2_1 ((w_fi ws (n_v vs 0) 5 + 2)) (by omega)).1 (by omega) | skip
  have nf0 : fc_1 PRD (20, [7, 4], [50, 1, 1, 1005, 1002, 0, 6, 4, 2, 1, 0, 0, 1, 3, 1, 2, 4, 3, 2, 1, 5, 0, 2]) ws (vs) := by
    refine ⟨nf_in hl rfl, sgq_1009 ?_⟩
    · show (v_iv (n_v vs 7) + 1) ≤ w_ei ws (w_ar ws (n_v vs 4) 2) ((w_fi ws (n_v vs 4) 5 + 2))
      rw [q4]
      exact vc_Mo_groupItem_at_k3_16_0 (v_iv (n_v vs 7)) (v_iv (n_v vs 8)) (v_iv (n_v vs 13)) (v_iv (n_v vs 15)) (v_iv (n_v vs 17)) (v_iv (n_v vs 18)) (v_iv (n_v vs 19)) (v_iv (n_v vs 21)) (v_iv (n_v vs 22)) (w_fi ws (n_v vs 0) 5) (w_fi ws (n_v vs 0) 15) (w_fi ws (n_v vs 0) 11) (w_ei ws (w_ar ws (n_v vs 0) 1)) (w_fi ws (n_v vs 0) 10) (w_fi ws (n_v vs 0) 12) (w_ei w1 (w_ar ws (n_v vs 0) 1)) (w_fi w1 (n_v vs 0) 10) (w_fi w1 (n_v vs 0) 15) (w_fi w1 (n_v vs 0) 11) (w_fi w1 (n_v vs 0) 12) (w_ei w1 (w_ar ws (n_v vs 0) 2)) (w_fi w1 (n_v vs 0) 5) (w_ei w1 (w_ar ws (n_v vs 0) 3)) (w_ei w1 (w_ar ws (n_v vs 0) 4)) (w_fi w1 (n_v vs 0) 13) (w_fi w1 (n_v vs 0) 14) (w_fi w1 (n_v vs 0) 8) (w_fi ws (n_v vs 0) 8) (w_fi ws (n_v vs 0) 13) (w_fi ws (n_v vs 0) 14) (w_ei ws (w_ar ws (n_v vs 0) 2)) (w_ei ws (w_ar ws (n_v vs 0) 3)) (w_ei ws (w_ar ws (n_v vs 0) 4)) k7 k8 k13 k15 k17 k18 k19 k21 k22 d0 d9 d14 g0 f19 f20 f21 f29 fe_0_5_1 fe_0_8_1 fe_0_10_1 fe_0_11_1 fe_0_12_1 fe_0_13_1 fe_0_14_1 fe_0_15_1 hE_0_1_1 hE_0_2_1 hE_0_3_1 hE_0_4_1 kz_0_8 kz_0_10 kz_0_11 kz_0_12 kz_0_13 kz_0_14 kz_0_15
  have nf1 : fc_1 PRD (20, [4], [60, 1, 3, 199, 5, 2, 3, 4]) ws (vs) := by
    refine ⟨nf_in hl rfl, sgq_980 ?_⟩
    · show RWS (w_fi ws (n_v vs 4) 5) (w_ei ws (w_ar ws (n_v vs 4) 2)) (w_ei ws (w_ar ws (n_v vs 4) 3)) (w_ei ws (w_ar ws (n_v vs 4) 4))
      rw [q4]
      exact vc_Mo_groupItem_at_k3_16_1 (v_iv (n_v vs 7)) (v_iv (n_v vs 8)) (v_iv (n_v vs 13)) (v_iv (n_v vs 15)) (v_iv (n_v vs 17)) (v_iv (n_v vs 18)) (v_iv (n_v vs 19)) (v_iv (n_v vs 21)) (v_iv (n_v vs 22)) (w_fi ws (n_v vs 0) 5) (w_fi ws (n_v vs 0) 15) (w_fi ws (n_v vs 0) 11) (w_ei ws (w_ar ws (n_v vs 0) 1)) (w_fi ws (n_v vs 0) 10) (w_fi ws (n_v vs 0) 12) (w_ei w1 (w_ar ws (n_v vs 0) 1)) (w_fi w1 (n_v vs 0) 10) (w_fi w1 (n_v vs 0) 15) (w_fi w1 (n_v vs 0) 11) (w_fi w1 (n_v vs 0) 12) (w_ei w1 (w_ar ws (n_v vs 0) 2)) (w_fi w1 (n_v vs 0) 5) (w_ei w1 (w_ar ws (n_v vs 0) 3)) (w_ei w1 (w_ar ws (n_v vs 0) 4)) (w_fi w1 (n_v vs 0) 13) (w_fi w1 (n_v vs 0) 14) (w_fi w1 (n_v vs 0) 8) (w_fi ws (n_v vs 0) 8) (w_fi ws (n_v vs 0) 13) (w_fi ws (n_v vs 0) 14) (w_ei ws (w_ar ws (n_v vs 0) 2)) (w_ei ws (w_ar ws (n_v vs 0) 3)) (w_ei ws (w_ar ws (n_v vs 0) 4)) k7 k8 k13 k15 k17 k18 k19 k21 k22 d0 d9 d14 g0 f19 f20 f21 f31 fe_0_5_1 fe_0_8_1 fe_0_10_1 fe_0_11_1 fe_0_12_1 fe_0_13_1 fe_0_14_1 fe_0_15_1 hE_0_1_1 hE_0_2_1 hE_0_3_1 hE_0_4_1 kz_0_8 kz_0_10 kz_0_11 kz_0_12 kz_0_13 kz_0_14 kz_0_15
  have nf2 : fc_1 PRD (20, [4, 7, 22, 5, 6], [60, 8, 2, 1006, 10, 11, 12, 13, 14, 15, 8, 5, 1, 2]) ws (vs) := by
    refine ⟨nf_in hl rfl, sgq_2175 ?_⟩
    · show zMG (w_fi ws (n_v vs 4) 10) (w_fi ws (n_v vs 4) 11) (w_fi ws (n_v vs 4) 12) (w_fi ws (n_v vs 4) 13) (w_fi ws (n_v vs 4) 14) (w_fi ws (n_v vs 4) 15) (w_fi ws (n_v vs 4) 8) (w_fi ws (n_v vs 4) 5) (w_ei ws (w_ar ws (n_v vs 4) 1)) (w_ei ws (w_ar ws (n_v vs 4) 2)) (v_iv (n_v vs 7)) (v_iv (n_v vs 22)) (v_iv (n_v vs 5)) (v_iv (n_v vs 6))
      simp only [q4, q5, q6]
      exact vc_Mo_groupItem_at_k3_16_2 (v_iv (n_v vs 1)) (v_iv (n_v vs 2)) (v_iv (n_v vs 7)) (v_iv (n_v vs 8)) (v_iv (n_v vs 9)) (v_iv (n_v vs 10)) (v_iv (n_v vs 11)) (v_iv (n_v vs 13)) (v_iv (n_v vs 15)) (v_iv (n_v vs 17)) (v_iv (n_v vs 18)) (v_iv (n_v vs 19)) (v_iv (n_v vs 20)) (v_iv (n_v vs 21)) (v_iv (n_v vs 22)) (w_fi ws (n_v vs 0) 5) (w_fi ws (n_v vs 0) 15) (w_fi ws (n_v vs 0) 11) (w_ei ws (w_ar ws (n_v vs 0) 1)) (w_fi ws (n_v vs 0) 10) (w_fi ws (n_v vs 0) 12) (w_ei w1 (w_ar ws (n_v vs 0) 1)) (w_fi w1 (n_v vs 0) 10) (w_fi w1 (n_v vs 0) 15) (w_fi w1 (n_v vs 0) 11) (w_fi w1 (n_v vs 0) 12) (w_ei w1 (w_ar ws (n_v vs 0) 2)) (w_fi w1 (n_v vs 0) 5) (w_ei w1 (w_ar ws (n_v vs 0) 3)) (w_ei w1 (w_ar ws (n_v vs 0) 4)) (w_fi w1 (n_v vs 0) 13) (w_fi w1 (n_v vs 0) 14) (w_fi w1 (n_v vs 0) 8) (w_fi ws (n_v vs 0) 8) (w_fi ws (n_v vs 0) 13) (w_fi ws (n_v vs 0) 14) (w_ei ws (w_ar ws (n_v vs 0) 2)) (w_ei ws (w_ar ws (n_v vs 0) 3)) (w_ei ws (w_ar ws (n_v vs 0) 4)) k1 k2 k7 k8 k9 k10 k11 k13 k15 k17 k18 k19 k20 k21 k22 d0 d1 d4 d11 d14 d15 g0 g2 g3 f4 f16 f18 f19 f20 f21 f24 f32 fe_0_5_1 fe_0_8_1 fe_0_10_1 fe_0_11_1 fe_0_12_1 fe_0_13_1 fe_0_14_1 fe_0_15_1 hE_0_1_1 hE_0_2_1 hE_0_3_1 hE_0_4_1 kz_0_8 kz_0_10 kz_0_11 kz_0_12 kz_0_13 kz_0_14 kz_0_15
  refine ⟨(fun _ h => (by cases h)), [], trivial, ?_, (fun _ h => (by cases h))⟩
  rw [List.append_nil]
  exact List.forall_mem_cons.mpr ⟨⟨show (20 : Nat) < 100 from by decide, nf0⟩, List.forall_mem_cons.mpr ⟨⟨show (20 : Nat) < 100 from by decide, nf1⟩, List.forall_mem_cons.mpr ⟨⟨show (20 : Nat) < 100 from by decide, nf2⟩, (fun _ h => (by cases h))⟩⟩⟩
def o_Mo_groupItem_at_k3_17 : or_T := (153, 22, [(7, (0, 0, 7, [])), (8, (0, 0, 7, [])), (13, (5, 0, 66297, [539])), (14, (0, 459, 459, [])), (15, (0, 459, 66756, [])), (16, (0, 8, 8, [])), (17, (0, 0, 56, [])), (18, (0, 459, 66812, [])), (19, (0, 459, 66819, [])), (21, (0, 0, 255, []))], [(1, [19, 18, 8], []), (1, [18, 15, 17], []), (3, [17, 16, 7], []), (1, [15, 13, 14], [])], [], [], [(18, [19, 21], [1])], [], [(19, 8, 459, 66812), (19, 18, 0, 7), (19, 17, 459, 66763), (19, 15, 0, 63), (19, 13, 459, 522), (18, 17, 459, 66756), (18, 15, 0, 56), (18, 13, 459, 515), (15, 13, 459, 459)])
theorem oo_Mo_groupItem_at_k3_17 {kA : Nat → ClassId} : or_ok PRD kA GG o_Mo_groupItem_at_k3_17 := by
  refine or_mk fun A ta ws vs hD hth hl => ?_
  intro t7 k7 t8 k8 t13 t14 k14 t15 k15 t16 k16 t17 k17 t18 k18 t19 k19 t21 k21 d0 d1 d2 d3 d4 d5 d6 d7 d8 f0 f1 f2 f3
  obtain ⟨k13, q13_⟩ : (0 ≤ v_iv (n_v vs 13) ∧ v_iv (n_v vs 13) ≤ 66297) ∧ ∃ q : Int, v_iv (n_v vs 13) = 539 * q := tv_dvk t13
  obtain ⟨q13, hq13⟩ := q13_
  replace f0 := shm_12 f0
  replace f1 := shm_12 f1
  replace f2 := shm_38 f2
  rw [show v_iv (n_v vs 16) = 8 from by omega] at f2
  replace f3 := shm_12 f3
  have nf0 : fc_1 PRD (18, [19, 21], [1]) ws (vs) := by
    refine ⟨nf_in hl rfl, sgq_1302 ?_⟩
    · show pl_ok 1 (v_iv (n_v vs 19)).toNat (v_iv (n_v vs 21))
      exact pl_in pl_M1 (lo := 459) (hi := 522) (a := 0) (b := 255) (by decide +kernel) (by omega) (by omega) (by omega) (by omega)
  refine ⟨(fun _ h => (by cases h)), [], trivial, ?_, (fun _ h => (by cases h))⟩
  rw [List.append_nil]
  exact List.forall_mem_cons.mpr ⟨⟨show (18 : Nat) < 100 from by decide, nf0⟩, (fun _ h => (by cases h))⟩
set_option maxHeartbeats 4000000 in
theorem vc_Mo_groupItem_at_k3_18_0 (x7 : Int) (x8 : Int) (x13 : Int) (x15 : Int) (x17 : Int) (x18 : Int) (x19 : Int) (x21 : Int) (x22 : Int) (r_0 : Int) (from_0 : Int) (pos_0 : Int) (tape_0 : Int → Int) (limit_0 : Int) (kind_0 : Int) (tape_1 : Int → Int) (limit_1 : Int) (from_1 : Int) (pos_1 : Int) (kind_1 : Int) (all_1 : Int → Int) (r_1 : Int) (now_1 : Int → Int) (latest_1 : Int → Int) (place_1 : Int) (value_1 : Int) (fault_1 : Int) (fault_0 : Int) (place_0 : Int) (value_0 : Int) (all_0 : Int → Int) (now_0 : Int → Int) (latest_0 : Int → Int) (k7 : 0 ≤ x7 ∧ x7 ≤ 7) (k8 : 0 ≤ x8 ∧ x8 ≤ 7) (k13 : 0 ≤ x13 ∧ x13 ≤ 66297) (k15 : 459 ≤ x15 ∧ x15 ≤ 66756) (k17 : 0 ≤ x17 ∧ x17 ≤ 56) (k18 : 459 ≤ x18 ∧ x18 ≤ 66812) (k19 : 459 ≤ x19 ∧ x19 ≤ 66819) (k21 : 0 ≤ x21 ∧ x21 ≤ 255) (k22 : 1 ≤ x22 ∧ x22 ≤ 8) (d0 : x8 + 1 ≤ x22 ∧ x22 ≤ x8 + 1) (d8 : x15 + 0 ≤ x19 ∧ x19 ≤ x15 + 63) (d13 : x13 + 459 ≤ x15 ∧ x15 ≤ x13 + 459) (g0 : x13 = r_0) (f19 : x19 = x18 + x8) (f20 : x18 = x15 + x17) (f21 : x17 = 8 * x7) (f29 : (x7 + 1) ≤ all_1 ((r_1 + 2))) (fe_0_5_1 : r_0 = r_1) (fe_0_8_1 : fault_0 = fault_1) (fe_0_10_1 : limit_0 = limit_1) (fe_0_11_1 : pos_0 = pos_1) (fe_0_12_1 : kind_0 = kind_1) (fe_0_13_1 : place_0 = place_1) (fe_0_14_1 : value_0 = value_1) (fe_0_15_1 : from_0 = from_1) (hE_0_1_1 : ∀ j : Int, tape_0 j = tape_1 j) (hE_0_2_1 : ∀ j : Int, 0 ≤ j → (j = x19 → all_0 j = x21) ∧ (j ≠ x19 → all_0 j = all_1 j)) (hE_0_3_1 : ∀ j : Int, now_0 j = now_1 j) (hE_0_4_1 : ∀ j : Int, latest_0 j = latest_1 j) (kz_0_8 : 0 ≤ fault_0 ∧ fault_0 ≤ 5) (kz_0_10 : 0 ≤ limit_0 ∧ limit_0 ≤ 2000) (kz_0_11 : 0 ≤ pos_0 ∧ pos_0 ≤ 2000) (kz_0_12 : 0 ≤ kind_0 ∧ kind_0 ≤ 4) (kz_0_13 : 0 ≤ place_0 ∧ place_0 ≤ 2000) (kz_0_14 : (-49) ≤ value_0 ∧ value_0 ≤ 1048575) (kz_0_15 : 0 ≤ from_0 ∧ from_0 ≤ 2000) : (x7 + 1) ≤ all_0 ((r_0 + 2)) := by
  subst fe_0_5_1
  subst fe_0_8_1
  subst fe_0_10_1
  subst fe_0_11_1
  subst fe_0_12_1
  subst fe_0_13_1
  subst fe_0_14_1
  subst fe_0_15_1
  have e_hE_0_1_1 := funext hE_0_1_1; subst e_hE_0_1_1
  have e_hE_0_3_1 := funext hE_0_3_1; subst e_hE_0_3_1
  have e_hE_0_4_1 := funext hE_0_4_1; subst e_hE_0_4_1
  first
    | omega
    | (have q1 := (hE_0_2_1 (r_0 + 2) (by omega)).2 (by omega)
       have q2 := (hE_0_2_2 (r_0 + 2) (by omega)).2 (by omega)
       omega)
    | (have q1 := (hE_0_2_1 (r_0 + 1) (by omega)).2 (by omega)
       have q2 := (hE_0_2_2 (r_0 + 1) (by omega)).2 (by omega)
       omega)
    | (have q1 := (hE_0_2_1 (r_0 + 2) (by omega)).2 (by omega)
       omega)
    | (have q1 := (hE_0_2_1 (r_0 + 1) (by omega)).2 (by omega)
       omega)
    | (have q1 := (hE_0_2_1 (r_0 + 2) (by omega)).2 (by omega)
       have q2 := (hE_0_2_2 (r_0 + 2) (by omega)).2 (by omega)
       have q3 := (hE_0_2_3 (r_0 + 2) (by omega)).1 (by omega)
       omega)
    | (have q1 := (hE_0_2_1 (r_0 + 2) (by omega)).2 (by omega)
       have q2 := (hE_0_2_2 (r_0 + 2) (by omega)).2 (by omega)
       have q3 := (hE_0_2_3 (r_0 + 2) (by omega)).2 (by omega)
       omega)
    | (have q1 := (hE_0_2_1 (r_0 + 2) (by omega)).2 (by omega)
       have q2 := (hE_0_2_2 (r_0 + 2) (by omega)).2 (by omega)
       have q3 := (hE_0_2_3 (r_0 + 2) (by omega)).1 (by omega)
       have q4 : x13 = r_0 + 2 := by omega
       simp only [q4] at *
       omega)
set_option maxHeartbeats 4000000 in
theorem vc_Mo_groupItem_at_k3_18_1 (x7 : Int) (x8 : Int) (x13 : Int) (x15 : Int) (x17 : Int) (x18 : Int) (x19 : Int) (x21 : Int) (x22 : Int) (r_0 : Int) (from_0 : Int) (pos_0 : Int) (tape_0 : Int → Int) (limit_0 : Int) (kind_0 : Int) (tape_1 : Int → Int) (limit_1 : Int) (from_1 : Int) (pos_1 : Int) (kind_1 : Int) (all_1 : Int → Int) (r_1 : Int) (now_1 : Int → Int) (latest_1 : Int → Int) (place_1 : Int) (value_1 : Int) (fault_1 : Int) (fault_0 : Int) (place_0 : Int) (value_0 : Int) (all_0 : Int → Int) (now_0 : Int → Int) (latest_0 : Int → Int) (k7 : 0 ≤ x7 ∧ x7 ≤ 7) (k8 : 0 ≤ x8 ∧ x8 ≤ 7) (k13 : 0 ≤ x13 ∧ x13 ≤ 66297) (k15 : 459 ≤ x15 ∧ x15 ≤ 66756) (k17 : 0 ≤ x17 ∧ x17 ≤ 56) (k18 : 459 ≤ x18 ∧ x18 ≤ 66812) (k19 : 459 ≤ x19 ∧ x19 ≤ 66819) (k21 : 0 ≤ x21 ∧ x21 ≤ 255) (k22 : 1 ≤ x22 ∧ x22 ≤ 8) (d0 : x8 + 1 ≤ x22 ∧ x22 ≤ x8 + 1) (d8 : x15 + 0 ≤ x19 ∧ x19 ≤ x15 + 63) (d13 : x13 + 459 ≤ x15 ∧ x15 ≤ x13 + 459) (g0 : x13 = r_0) (f19 : x19 = x18 + x8) (f20 : x18 = x15 + x17) (f21 : x17 = 8 * x7) (f31 : RWS (r_1) (all_1) (now_1) (latest_1)) (fe_0_5_1 : r_0 = r_1) (fe_0_8_1 : fault_0 = fault_1) (fe_0_10_1 : limit_0 = limit_1) (fe_0_11_1 : pos_0 = pos_1) (fe_0_12_1 : kind_0 = kind_1) (fe_0_13_1 : place_0 = place_1) (fe_0_14_1 : value_0 = value_1) (fe_0_15_1 : from_0 = from_1) (hE_0_1_1 : ∀ j : Int, tape_0 j = tape_1 j) (hE_0_2_1 : ∀ j : Int, 0 ≤ j → (j = x19 → all_0 j = x21) ∧ (j ≠ x19 → all_0 j = all_1 j)) (hE_0_3_1 : ∀ j : Int, now_0 j = now_1 j) (hE_0_4_1 : ∀ j : Int, latest_0 j = latest_1 j) (kz_0_8 : 0 ≤ fault_0 ∧ fault_0 ≤ 5) (kz_0_10 : 0 ≤ limit_0 ∧ limit_0 ≤ 2000) (kz_0_11 : 0 ≤ pos_0 ∧ pos_0 ≤ 2000) (kz_0_12 : 0 ≤ kind_0 ∧ kind_0 ≤ 4) (kz_0_13 : 0 ≤ place_0 ∧ place_0 ≤ 2000) (kz_0_14 : (-49) ≤ value_0 ∧ value_0 ≤ 1048575) (kz_0_15 : 0 ≤ from_0 ∧ from_0 ≤ 2000) : RWS (r_0) (all_0) (now_0) (latest_0) := by
  subst fe_0_5_1
  subst fe_0_8_1
  subst fe_0_10_1
  subst fe_0_11_1
  subst fe_0_12_1
  subst fe_0_13_1
  subst fe_0_14_1
  subst fe_0_15_1
  have e_hE_0_1_1 := funext hE_0_1_1; subst e_hE_0_1_1
  have e_hE_0_3_1 := funext hE_0_3_1; subst e_hE_0_3_1
  have e_hE_0_4_1 := funext hE_0_4_1; subst e_hE_0_4_1
  first
    | (have hr := rws_r ‹RWS _ _ _ _›
       exact rws_off (rws_off (rws_off ‹RWS _ _ _ _› (by assumption) (by omega)) (by assumption) (by omega)) (by assumption) (by omega))
    | (have hr := rws_r ‹RWS _ _ _ _›
       exact rws_off ‹RWS _ _ _ _› (by assumption) (by omega))
set_option maxHeartbeats 4000000 in
theorem vc_Mo_groupItem_at_k3_18_2 (x1 : Int) (x2 : Int) (x7 : Int) (x8 : Int) (x9 : Int) (x10 : Int) (x11 : Int) (x13 : Int) (x15 : Int) (x17 : Int) (x18 : Int) (x19 : Int) (x20 : Int) (x21 : Int) (x22 : Int) (r_0 : Int) (from_0 : Int) (pos_0 : Int) (tape_0 : Int → Int) (limit_0 : Int) (kind_0 : Int) (tape_1 : Int → Int) (limit_1 : Int) (from_1 : Int) (pos_1 : Int) (kind_1 : Int) (all_1 : Int → Int) (r_1 : Int) (now_1 : Int → Int) (latest_1 : Int → Int) (place_1 : Int) (value_1 : Int) (fault_1 : Int) (fault_0 : Int) (place_0 : Int) (value_0 : Int) (all_0 : Int → Int) (now_0 : Int → Int) (latest_0 : Int → Int) (k1 : 0 ≤ x1 ∧ x1 ≤ 7) (k2 : 3 ≤ x2 ∧ x2 ≤ 3) (k7 : 0 ≤ x7 ∧ x7 ≤ 7) (k8 : 0 ≤ x8 ∧ x8 ≤ 7) (k9 : 1 ≤ x9 ∧ x9 ≤ 2000) (k10 : 0 ≤ x10 ∧ x10 ≤ 1999) (k11 : 1 ≤ x11 ∧ x11 ≤ 2000) (k13 : 0 ≤ x13 ∧ x13 ≤ 66297) (k15 : 459 ≤ x15 ∧ x15 ≤ 66756) (k17 : 0 ≤ x17 ∧ x17 ≤ 56) (k18 : 459 ≤ x18 ∧ x18 ≤ 66812) (k19 : 459 ≤ x19 ∧ x19 ≤ 66819) (k20 : 0 ≤ x20 ∧ x20 ≤ 1999) (k21 : 0 ≤ x21 ∧ x21 ≤ 255) (k22 : 1 ≤ x22 ∧ x22 ≤ 8) (d0 : x8 + 1 ≤ x22 ∧ x22 ≤ x8 + 1) (d1 : x11 + (-4294967296) ≤ x22 ∧ x22 ≤ x11 + 0) (d3 : x10 + 0 ≤ x20 ∧ x20 ≤ x10 + 7) (d10 : x17 + 459 ≤ x18 ∧ x18 ≤ x17 + 66756) (d13 : x13 + 459 ≤ x15 ∧ x15 ≤ x13 + 459) (d14 : x11 + (-4294967296) ≤ x8 ∧ x8 ≤ x11 + (-1)) (g0 : x13 = r_0) (g2 : x10 = from_0) (g3 : x9 = pos_0) (f4 : x22 = x8 + 1) (f16 : ((x20 + 1) ≤ limit_1) → (x21 = (tape_1 (x20) % 256))) (f18 : x20 = x10 + x8) (f19 : x19 = x18 + x8) (f20 : x18 = x15 + x17) (f21 : x17 = 8 * x7) (f24 : x11 = x9 - x10) (f32 : zMG (limit_1) (pos_1) (kind_1) (place_1) (value_1) (from_1) (fault_1) (r_1) (tape_1) (all_1) (x7) (x8) (x1) (x2)) (fe_0_5_1 : r_0 = r_1) (fe_0_8_1 : fault_0 = fault_1) (fe_0_10_1 : limit_0 = limit_1) (fe_0_11_1 : pos_0 = pos_1) (fe_0_12_1 : kind_0 = kind_1) (fe_0_13_1 : place_0 = place_1) (fe_0_14_1 : value_0 = value_1) (fe_0_15_1 : from_0 = from_1) (hE_0_1_1 : ∀ j : Int, tape_0 j = tape_1 j) (hE_0_2_1 : ∀ j : Int, 0 ≤ j → (j = x19 → all_0 j = x21) ∧ (j ≠ x19 → all_0 j = all_1 j)) (hE_0_3_1 : ∀ j : Int, now_0 j = now_1 j) (hE_0_4_1 : ∀ j : Int, latest_0 j = latest_1 j) (kz_0_8 : 0 ≤ fault_0 ∧ fault_0 ≤ 5) (kz_0_10 : 0 ≤ limit_0 ∧ limit_0 ≤ 2000) (kz_0_11 : 0 ≤ pos_0 ∧ pos_0 ≤ 2000) (kz_0_12 : 0 ≤ kind_0 ∧ kind_0 ≤ 4) (kz_0_13 : 0 ≤ place_0 ∧ place_0 ≤ 2000) (kz_0_14 : (-49) ≤ value_0 ∧ value_0 ≤ 1048575) (kz_0_15 : 0 ≤ from_0 ∧ from_0 ≤ 2000) : zMG (limit_0) (pos_0) (kind_0) (place_0) (value_0) (from_0) (fault_0) (r_0) (tape_0) (all_0) (x7) (x22) (x1) (x2) := by
  subst fe_0_5_1
  subst fe_0_8_1
  subst fe_0_10_1
  subst fe_0_11_1
  subst fe_0_12_1
  subst fe_0_13_1
  subst fe_0_14_1
  subst fe_0_15_1
  have e_hE_0_1_1 := funext hE_0_1_1; subst e_hE_0_1_1
  have e_hE_0_3_1 := funext hE_0_3_1; subst e_hE_0_3_1
  have e_hE_0_4_1 := funext hE_0_4_1; subst e_hE_0_4_1
  first | subst g0 | skip
  first | subst g2 | skip
  first | subst g3 | skip
  first
    | exact mg_step ‹zMG _ _ _ _ _ _ _ _ _ _ _ _ _ _› (by omega) (by assumption) (by omega) (tk_byte (mg_tk ‹zMG _ _ _ _ _ _ _ _ _ _ _ _ _ _›) (by assumption) (by omega) (by omega) (by omega)) (by omega) (by omega)
    | exact mg_start (rsq_of ‹zTS5 _ _ _ _ _ _ _ _› ‹TKR _ _ _ _ _ _ _ _›) (by omega) ‹NMQ _ _ _ _ _ _› (by omega) (by assumption) (by assumption) (by assumption) (by omega) (by omega) (by omega) (by omega) (by omega) (by omega) (by omega) (by omega)
def o_Mo_groupItem_at_k3_18 : or_T := (108, 23, [(0, (2, 0, 0, [165])), (1, (0, 0, 7, [])), (2, (0, 3, 3, [])), (3, (0, 0, 2000, [])), (4, (2, 0, 0, [165])), (5, (0, 0, 7, [])), (6, (0, 3, 3, [])), (7, (0, 0, 7, [])), (8, (0, 0, 7, [])), (9, (0, 1, 2000, [])), (10, (0, 0, 1999, [])), (11, (0, 1, 2000, [])), (12, (2, 0, 0, [167])), (13, (0, 0, 66297, [])), (14, (0, 459, 459, [])), (15, (0, 459, 66756, [])), (16, (0, 8, 8, [])), (17, (0, 0, 56, [])), (18, (0, 459, 66812, [])), (19, (0, 459, 66819, [])), (20, (0, 0, 1999, [])), (21, (0, 0, 255, [])), (22, (0, 1, 8, []))], [(9, [13, 4], [5]), (9, [12, 4], [2]), (9, [10, 4], [15]), (9, [9, 4], [11]), (6, [22, 8], [1]), (20, [20, 4, 21], [50, 1, 1, 1010, 1001, 4, 11, 0, 6, 4, 2, 1, 0, 0, 1, 2, 1, 10, 1, 2, 1, 2, 9, 5, 3, 1, 1, 1, 0, 0, 256]), (20, [4, 20, 21], [50, 1, 0, 10, 4, 7, 0, 3, 2, 0, 10, 1, 1, 1, 2, 1, 2, 0, -1]), (20, [4, 4], [30, 0, 1, 1, 15, -1, 1, 11]), (20, [4], [50, 3, 0, 12, 11, 15, 2, 21, 4, 7, 1, 3, 2, 0, 12, 0, 1, 0, 3, 2, 0, 11, 4, 3, 2, 0, 15, 0, 8, 3, 7, 1, 3, 2, 0, 12, 0, 0, 0, 7, 4, 3, 2, 0, 15, 0, 1, 2, 0, 11]), (20, [3, 4], [30, -1, 1, 0, 0, -1, 1, 11]), (20, [4], [50, 1, 0, 12, 1, 3, 2, 0, 12, 0, 1]), (23, [5, 7], [-1, 1, -1]), (24, [0, 4], []), (24, [1, 5], []), (24, [2, 6], []), (100, [12, 19, 21], []), (20, [20, 4, 21], [50, 1, 1, 1010, 1001, 4, 11, 0, 6, 4, 2, 1, 0, 0, 1, 2, 1, 10, 1, 2, 1, 2, 9, 5, 3, 1, 1, 1, 0, 0, 256]), (20, [4, 20, 21], [50, 1, 0, 10, 4, 7, 0, 3, 2, 0, 10, 1, 1, 1, 2, 1, 2, 0, -1]), (1, [20, 10, 8], []), (1, [19, 18, 8], []), (1, [18, 15, 17], []), (3, [17, 16, 7], []), (1, [15, 13, 14], []), (7, [8, 11], [2]), (2, [11, 9, 10], []), (20, [4, 4], [30, 0, 1, 1, 15, -1, 1, 11]), (20, [4], [50, 3, 0, 12, 11, 15, 2, 21, 4, 7, 1, 3, 2, 0, 12, 0, 1, 0, 3, 2, 0, 11, 4, 3, 2, 0, 15, 0, 8, 3, 7, 1, 3, 2, 0, 12, 0, 0, 0, 7, 4, 3, 2, 0, 15, 0, 1, 2, 0, 11]), (20, [3, 4], [30, -1, 1, 0, 0, -1, 1, 11]), (20, [4], [50, 1, 0, 12, 1, 3, 2, 0, 12, 0, 1]), (20, [7, 4], [50, 1, 1, 1005, 1002, 0, 6, 4, 2, 1, 0, 0, 1, 3, 1, 2, 4, 3, 2, 1, 5, 0, 2]), (23, [5, 7], [-1, 1, -1]), (20, [4], [60, 1, 3, 199, 5, 2, 3, 4]), (20, [4, 7, 8, 5, 6], [60, 8, 2, 1006, 10, 11, 12, 13, 14, 15, 8, 5, 1, 2])], [], [], [(20, [7, 4], [50, 1, 1, 1005, 1002, 0, 6, 4, 2, 1, 0, 0, 1, 3, 1, 2, 4, 3, 2, 1, 5, 0, 2]), (20, [4], [60, 1, 3, 199, 5, 2, 3, 4]), (20, [4, 7, 22, 5, 6], [60, 8, 2, 1006, 10, 11, 12, 13, 14, 15, 8, 5, 1, 2])], [], [(22, 8, 1, 1), (22, 11, -4294967296, 0), (20, 8, 0, 2000), (20, 10, 0, 7), (19, 8, 459, 66812), (19, 11, -4294967296, 66811), (19, 18, 0, 7), (19, 17, 459, 66763), (19, 15, 0, 63), (19, 13, 459, 522), (18, 17, 459, 66756), (18, 15, 0, 56), (18, 13, 459, 515), (15, 13, 459, 459), (8, 11, -4294967296, -1), (11, 9, -2000, 0), (1, 5, -4294967296, 0), (5, 1, -4294967296, 0)])
theorem oo_Mo_groupItem_at_k3_18 {kA : Nat → ClassId} : or_ok PRD kA GG o_Mo_groupItem_at_k3_18 := by
  refine or_mk fun A ta ws vs hD hth hl => ?_
  intro t0 r0 t1 k1 t2 k2 t3 k3 t4 r4 t5 k5 t6 k6 t7 k7 t8 k8 t9 k9 t10 k10 t11 k11 t12 r12 t13 k13 t14 k14 t15 k15 t16 k16 t17 k17 t18 k18 t19 k19 t20 k20 t21 k21 t22 k22 d0 d1 d2 d3 d4 d5 d6 d7 d8 d9 d10 d11 d12 d13 d14 d15 d16 d17 f0 f1 f2 f3 f4 f5 f6 f7 f8 f9 f10 f11 f12 f13 f14 ta1 w1 le1 s1 f16 f17 f18 f19 f20 f21 f22 f23 f24 f25 f26 f27 f28 f29 f30 f31 f32
  replace f0 := shm_110 f0
  replace f1 := shm_120 f1
  replace f2 := shm_177 f2
  replace f3 := shm_116 f3
  replace f4 := shm_4 f4
  replace f5 := shm_541 f5
  replace f6 := shm_542 f6
  replace f7 := shm_1437 f7
  replace f8 := shm_1438 f8
  replace f9 := shm_2005 f9
  replace f10 := shm_1890 f10
  replace f11 := shm_193 f11
  replace f12 := shm_5 f12
  replace f13 := shm_5 f13
  replace f14 := shm_5 f14
  have s1 : (∀ b j, w_el ws b j = if b = v_ad (n_v vs 12) ∧ j = (v_iv (n_v vs 19)).toNat then v_iv (n_v vs 21) else w_el w1 b j) ∧ ∀ b k, w_fd ws b k = w_fd w1 b k := s1.2
  replace f16 := shm_541 f16
  replace f17 := shm_542 f17
  replace f18 := shm_12 f18
  replace f19 := shm_12 f19
  replace f20 := shm_12 f20
  replace f21 := shm_38 f21
  rw [show v_iv (n_v vs 16) = 8 from by omega] at f21
  replace f22 := shm_12 f22
  replace f23 := shm_6 f23
  replace f24 := shm_14 f24
  replace f25 := shm_1437 f25
  replace f26 := shm_1438 f26
  replace f27 := shm_2005 f27
  replace f28 := shm_1890 f28
  replace f29 := shm_1009 f29
  replace f30 := shm_193 f30
  replace f31 := shm_980 f31
  replace f32 := shm_2175 f32
  have q4 : n_v vs 4 = n_v vs 0 := f12.symm
  have q5 : n_v vs 5 = n_v vs 1 := f13.symm
  have q6 : n_v vs 6 = n_v vs 2 := f14.symm
  simp only [q4, q5, q6] at f0 f1 f2 f3 f5 f6 f7 f8 f9 f10 f11 f16 f17 f25 f26 f27 f28 f29 f30 f31 f32
  have ar_0_1_1 : w_ar w1 (n_v vs 0) 1 = w_ar ws (n_v vs 0) 1 := congrArg v_ad (s1.2 _ _).symm
  have cr_0_1 := fdq_39 hD hth r0
  have ar_0_2_1 : w_ar w1 (n_v vs 0) 2 = w_ar ws (n_v vs 0) 2 := congrArg v_ad (s1.2 _ _).symm
  have cr_0_2 := fdq_10 hD hth r0
  have ar_0_3_1 : w_ar w1 (n_v vs 0) 3 = w_ar ws (n_v vs 0) 3 := congrArg v_ad (s1.2 _ _).symm
  have cr_0_3 := fdq_142 hD hth r0
  have ar_0_4_1 : w_ar w1 (n_v vs 0) 4 = w_ar ws (n_v vs 0) 4 := congrArg v_ad (s1.2 _ _).symm
  have cr_0_4 := fdq_143 hD hth r0
  have ad_12 : v_ad (n_v vs 12) = w_ar ws (n_v vs 0) 2 := congrArg v_ad f1
  have g0 : v_iv (n_v vs 13) = w_fi ws (n_v vs 0) 5 := congrArg v_iv f0
  have g2 : v_iv (n_v vs 10) = w_fi ws (n_v vs 0) 15 := congrArg v_iv f2
  have g3 : v_iv (n_v vs 9) = w_fi ws (n_v vs 0) 11 := congrArg v_iv f3
  simp only [ar_0_1_1, ar_0_2_1, ar_0_3_1, ar_0_4_1] at f16 f29 f31 f32
  have fe_0_5_1 : w_fi ws (n_v vs 0) 5 = w_fi w1 (n_v vs 0) 5 := congrArg v_iv (s1.2 _ _)
  have fe_0_8_1 : w_fi ws (n_v vs 0) 8 = w_fi w1 (n_v vs 0) 8 := congrArg v_iv (s1.2 _ _)
  have fe_0_10_1 : w_fi ws (n_v vs 0) 10 = w_fi w1 (n_v vs 0) 10 := congrArg v_iv (s1.2 _ _)
  have fe_0_11_1 : w_fi ws (n_v vs 0) 11 = w_fi w1 (n_v vs 0) 11 := congrArg v_iv (s1.2 _ _)
  have fe_0_12_1 : w_fi ws (n_v vs 0) 12 = w_fi w1 (n_v vs 0) 12 := congrArg v_iv (s1.2 _ _)
  have fe_0_13_1 : w_fi ws (n_v vs 0) 13 = w_fi w1 (n_v vs 0) 13 := congrArg v_iv (s1.2 _ _)
  have fe_0_14_1 : w_fi ws (n_v vs 0) 14 = w_fi w1 (n_v vs 0) 14 := congrArg v_iv (s1.2 _ _)
  have fe_0_15_1 : w_fi ws (n_v vs 0) 15 = w_fi w1 (n_v vs 0) 15 := congrArg v_iv (s1.2 _ _)
  have hE_0_1_1 : ∀ j : Int, w_ei ws (w_ar ws (n_v vs 0) 1) j = w_ei w1 (w_ar ws (n_v vs 0) 1) j := el_kp s1.1 r12 cr_0_1 (by decide)
  have hK_0_1 := elq_7 hD hth cr_0_1
  have hE_0_2_1 : ∀ j : Int, 0 ≤ j → (j = v_iv (n_v vs 19) → w_ei ws (w_ar ws (n_v vs 0) 2) j = v_iv (n_v vs 21)) ∧ (j ≠ v_iv (n_v vs 19) → w_ei ws (w_ar ws (n_v vs 0) 2) j = w_ei w1 (w_ar ws (n_v vs 0) 2) j) := fun j hj => ⟨fun h => by unfold w_ei; rw [s1.1, if_pos ⟨ad_12.symm, by rw [h]⟩], fun h => by unfold w_ei; rw [s1.1, if_neg (fun e => h (by have := e.2; omega))]⟩
  have hE_0_3_1 : ∀ j : Int, w_ei ws (w_ar ws (n_v vs 0) 3) j = w_ei w1 (w_ar ws (n_v vs 0) 3) j := el_kp s1.1 r12 cr_0_3 (by decide)
  have hK_0_3 := elq_80 hD hth cr_0_3
  have hE_0_4_1 : ∀ j : Int, w_ei ws (w_ar ws (n_v vs 0) 4) j = w_ei w1 (w_ar ws (n_v vs 0) 4) j := el_kp s1.1 r12 cr_0_4 (by decide)
  have hK_0_4 := elq_81 hD hth cr_0_4
  have kz_0_8 := fdq_34 hD hth r0
  have kz_0_10 := fdq_43 hD hth r0
  have kz_0_11 := fdq_237 hD hth r0
  have kz_0_12 := fdq_187 hD hth r0
  have kz_0_13 := fdq_238 hD hth r0
  have kz_0_14 := fdq_188 hD hth r0
  have kz_0_15 := fdq_239 hD hth r0
  first | have hJ0 : w_ei w1 (w_ar ws (n_v vs 0) 2) ((w_fi w1 (n_v vs 0) 5 + 2)) = w_ei w1 (w_ar ws (n_v vs 0) 2) ((w_fi ws (n_v vs 0) 5 + 2)) := congrArg _ (show ((w_fi w1 (n_v vs 0) 5 + 2) : Int) = (w_fi ws (n_v vs 0) 5 + 2) from by omega) | skip
  have hI1 := hE_0_1_1 (v_iv (n_v vs 20))
  first | have hI2 := (hE_0_2_1 ((w_fi ws (n_v vs 0) 5 + 2)) (by omega)).2 (by omega) | have hI2 := (hE_0_2_1 ((w_fi ws (n_v vs 0) 5 + 2)) (by omega)).1 (by omega) | skip
  have nf0 : fc_1 PRD (20, [7, 4], [50, 1, 1, 1005, 1002, 0, 6, 4, 2, 1, 0, 0, 1, 3, 1, 2, 4, 3, 2, 1, 5, 0, 2]) ws (vs) := by
    refine ⟨nf_in hl rfl, sgq_1009 ?_⟩
    · show (v_iv (n_v vs 7) + 1) ≤ w_ei ws (w_ar ws (n_v vs 4) 2) ((w_fi ws (n_v vs 4) 5 + 2))
      rw [q4]
      exact vc_Mo_groupItem_at_k3_18_0 (v_iv (n_v vs 7)) (v_iv (n_v vs 8)) (v_iv (n_v vs 13)) (v_iv (n_v vs 15)) (v_iv (n_v vs 17)) (v_iv (n_v vs 18)) (v_iv (n_v vs 19)) (v_iv (n_v vs 21)) (v_iv (n_v vs 22)) (w_fi ws (n_v vs 0) 5) (w_fi ws (n_v vs 0) 15) (w_fi ws (n_v vs 0) 11) (w_ei ws (w_ar ws (n_v vs 0) 1)) (w_fi ws (n_v vs 0) 10) (w_fi ws (n_v vs 0) 12) (w_ei w1 (w_ar ws (n_v vs 0) 1)) (w_fi w1 (n_v vs 0) 10) (w_fi w1 (n_v vs 0) 15) (w_fi w1 (n_v vs 0) 11) (w_fi w1 (n_v vs 0) 12) (w_ei w1 (w_ar ws (n_v vs 0) 2)) (w_fi w1 (n_v vs 0) 5) (w_ei w1 (w_ar ws (n_v vs 0) 3)) (w_ei w1 (w_ar ws (n_v vs 0) 4)) (w_fi w1 (n_v vs 0) 13) (w_fi w1 (n_v vs 0) 14) (w_fi w1 (n_v vs 0) 8) (w_fi ws (n_v vs 0) 8) (w_fi ws (n_v vs 0) 13) (w_fi ws (n_v vs 0) 14) (w_ei ws (w_ar ws (n_v vs 0) 2)) (w_ei ws (w_ar ws (n_v vs 0) 3)) (w_ei ws (w_ar ws (n_v vs 0) 4)) k7 k8 k13 k15 k17 k18 k19 k21 k22 d0 d8 d13 g0 f19 f20 f21 f29 fe_0_5_1 fe_0_8_1 fe_0_10_1 fe_0_11_1 fe_0_12_1 fe_0_13_1 fe_0_14_1 fe_0_15_1 hE_0_1_1 hE_0_2_1 hE_0_3_1 hE_0_4_1 kz_0_8 kz_0_10 kz_0_11 kz_0_12 kz_0_13 kz_0_14 kz_0_15
  have nf1 : fc_1 PRD (20, [4], [60, 1, 3, 199, 5, 2, 3, 4]) ws (vs) := by
    refine ⟨nf_in hl rfl, sgq_980 ?_⟩
    · show RWS (w_fi ws (n_v vs 4) 5) (w_ei ws (w_ar ws (n_v vs 4) 2)) (w_ei ws (w_ar ws (n_v vs 4) 3)) (w_ei ws (w_ar ws (n_v vs 4) 4))
      rw [q4]
      exact vc_Mo_groupItem_at_k3_18_1 (v_iv (n_v vs 7)) (v_iv (n_v vs 8)) (v_iv (n_v vs 13)) (v_iv (n_v vs 15)) (v_iv (n_v vs 17)) (v_iv (n_v vs 18)) (v_iv (n_v vs 19)) (v_iv (n_v vs 21)) (v_iv (n_v vs 22)) (w_fi ws (n_v vs 0) 5) (w_fi ws (n_v vs 0) 15) (w_fi ws (n_v vs 0) 11) (w_ei ws (w_ar ws (n_v vs 0) 1)) (w_fi ws (n_v vs 0) 10) (w_fi ws (n_v vs 0) 12) (w_ei w1 (w_ar ws (n_v vs 0) 1)) (w_fi w1 (n_v vs 0) 10) (w_fi w1 (n_v vs 0) 15) (w_fi w1 (n_v vs 0) 11) (w_fi w1 (n_v vs 0) 12) (w_ei w1 (w_ar ws (n_v vs 0) 2)) (w_fi w1 (n_v vs 0) 5) (w_ei w1 (w_ar ws (n_v vs 0) 3)) (w_ei w1 (w_ar ws (n_v vs 0) 4)) (w_fi w1 (n_v vs 0) 13) (w_fi w1 (n_v vs 0) 14) (w_fi w1 (n_v vs 0) 8) (w_fi ws (n_v vs 0) 8) (w_fi ws (n_v vs 0) 13) (w_fi ws (n_v vs 0) 14) (w_ei ws (w_ar ws (n_v vs 0) 2)) (w_ei ws (w_ar ws (n_v vs 0) 3)) (w_ei ws (w_ar ws (n_v vs 0) 4)) k7 k8 k13 k15 k17 k18 k19 k21 k22 d0 d8 d13 g0 f19 f20 f21 f31 fe_0_5_1 fe_0_8_1 fe_0_10_1 fe_0_11_1 fe_0_12_1 fe_0_13_1 fe_0_14_1 fe_0_15_1 hE_0_1_1 hE_0_2_1 hE_0_3_1 hE_0_4_1 kz_0_8 kz_0_10 kz_0_11 kz_0_12 kz_0_13 kz_0_14 kz_0_15
  have nf2 : fc_1 PRD (20, [4, 7, 22, 5, 6], [60, 8, 2, 1006, 10, 11, 12, 13, 14, 15, 8, 5, 1, 2]) ws (vs) := by
    refine ⟨nf_in hl rfl, sgq_2175 ?_⟩
    · show zMG (w_fi ws (n_v vs 4) 10) (w_fi ws (n_v vs 4) 11) (w_fi ws (n_v vs 4) 12) (w_fi ws (n_v vs 4) 13) (w_fi ws (n_v vs 4) 14) (w_fi ws (n_v vs 4) 15) (w_fi ws (n_v vs 4) 8) (w_fi ws (n_v vs 4) 5) (w_ei ws (w_ar ws (n_v vs 4) 1)) (w_ei ws (w_ar ws (n_v vs 4) 2)) (v_iv (n_v vs 7)) (v_iv (n_v vs 22)) (v_iv (n_v vs 5)) (v_iv (n_v vs 6))
      simp only [q4, q5, q6]
      exact vc_Mo_groupItem_at_k3_18_2 (v_iv (n_v vs 1)) (v_iv (n_v vs 2)) (v_iv (n_v vs 7)) (v_iv (n_v vs 8)) (v_iv (n_v vs 9)) (v_iv (n_v vs 10)) (v_iv (n_v vs 11)) (v_iv (n_v vs 13)) (v_iv (n_v vs 15)) (v_iv (n_v vs 17)) (v_iv (n_v vs 18)) (v_iv (n_v vs 19)) (v_iv (n_v vs 20)) (v_iv (n_v vs 21)) (v_iv (n_v vs 22)) (w_fi ws (n_v vs 0) 5) (w_fi ws (n_v vs 0) 15) (w_fi ws (n_v vs 0) 11) (w_ei ws (w_ar ws (n_v vs 0) 1)) (w_fi ws (n_v vs 0) 10) (w_fi ws (n_v vs 0) 12) (w_ei w1 (w_ar ws (n_v vs 0) 1)) (w_fi w1 (n_v vs 0) 10) (w_fi w1 (n_v vs 0) 15) (w_fi w1 (n_v vs 0) 11) (w_fi w1 (n_v vs 0) 12) (w_ei w1 (w_ar ws (n_v vs 0) 2)) (w_fi w1 (n_v vs 0) 5) (w_ei w1 (w_ar ws (n_v vs 0) 3)) (w_ei w1 (w_ar ws (n_v vs 0) 4)) (w_fi w1 (n_v vs 0) 13) (w_fi w1 (n_v vs 0) 14) (w_fi w1 (n_v vs 0) 8) (w_fi ws (n_v vs 0) 8) (w_fi ws (n_v vs 0) 13) (w_fi ws (n_v vs 0) 14) (w_ei ws (w_ar ws (n_v vs 0) 2)) (w_ei ws (w_ar ws (n_v vs 0) 3)) (w_ei ws (w_ar ws (n_v vs 0) 4)) k1 k2 k7 k8 k9 k10 k11 k13 k15 k17 k18 k19 k20 k21 k22 d0 d1 d3 d10 d13 d14 g0 g2 g3 f4 f16 f18 f19 f20 f21 f24 f32 fe_0_5_1 fe_0_8_1 fe_0_10_1 fe_0_11_1 fe_0_12_1 fe_0_13_1 fe_0_14_1 fe_0_15_1 hE_0_1_1 hE_0_2_1 hE_0_3_1 hE_0_4_1 kz_0_8 kz_0_10 kz_0_11 kz_0_12 kz_0_13 kz_0_14 kz_0_15
  refine ⟨(fun _ h => (by cases h)), [], trivial, ?_, (fun _ h => (by cases h))⟩
  rw [List.append_nil]
  exact List.forall_mem_cons.mpr ⟨⟨show (20 : Nat) < 100 from by decide, nf0⟩, List.forall_mem_cons.mpr ⟨⟨show (20 : Nat) < 100 from by decide, nf1⟩, List.forall_mem_cons.mpr ⟨⟨show (20 : Nat) < 100 from by decide, nf2⟩, (fun _ h => (by cases h))⟩⟩⟩
set_option maxHeartbeats 4000000 in
theorem vc_Mo_groupItem_at_k3_19_0 (x3 : Int) (r_0 : Int) (gx : Int) (k3 : 0 ≤ x3 ∧ x3 ≤ 2000) (ex2 : gx = x3) : 1 * gx + ((-1) * x3 + 0) ≤ 0 := by
  first
    | omega
    | (have q1 := (hE_0_2_1 (r_0 + 2) (by omega)).2 (by omega)
       have q2 := (hE_0_2_2 (r_0 + 2) (by omega)).2 (by omega)
       omega)
    | (have q1 := (hE_0_2_1 (r_0 + 1) (by omega)).2 (by omega)
       have q2 := (hE_0_2_2 (r_0 + 1) (by omega)).2 (by omega)
       omega)
    | (have q1 := (hE_0_2_1 (r_0 + 2) (by omega)).2 (by omega)
       omega)
    | (have q1 := (hE_0_2_1 (r_0 + 1) (by omega)).2 (by omega)
       omega)
    | (have q1 := (hE_0_2_1 (r_0 + 2) (by omega)).2 (by omega)
       have q2 := (hE_0_2_2 (r_0 + 2) (by omega)).2 (by omega)
       have q3 := (hE_0_2_3 (r_0 + 2) (by omega)).1 (by omega)
       omega)
    | (have q1 := (hE_0_2_1 (r_0 + 2) (by omega)).2 (by omega)
       have q2 := (hE_0_2_2 (r_0 + 2) (by omega)).2 (by omega)
       have q3 := (hE_0_2_3 (r_0 + 2) (by omega)).2 (by omega)
       omega)
    | (have q1 := (hE_0_2_1 (r_0 + 2) (by omega)).2 (by omega)
       have q2 := (hE_0_2_2 (r_0 + 2) (by omega)).2 (by omega)
       have q3 := (hE_0_2_3 (r_0 + 2) (by omega)).1 (by omega)
       have q4 : x13 = r_0 + 2 := by omega
       simp only [q4] at *
       omega)
set_option maxHeartbeats 4000000 in
theorem vc_Mo_groupItem_at_k3_19_1 (x3 : Int) (r_0 : Int) (gx : Int) (k3 : 0 ≤ x3 ∧ x3 ≤ 2000) (ex2 : gx = x3) : (-1) * gx + (1 * x3 + 0) ≤ 0 := by
  first
    | omega
    | (have q1 := (hE_0_2_1 (r_0 + 2) (by omega)).2 (by omega)
       have q2 := (hE_0_2_2 (r_0 + 2) (by omega)).2 (by omega)
       omega)
    | (have q1 := (hE_0_2_1 (r_0 + 1) (by omega)).2 (by omega)
       have q2 := (hE_0_2_2 (r_0 + 1) (by omega)).2 (by omega)
       omega)
    | (have q1 := (hE_0_2_1 (r_0 + 2) (by omega)).2 (by omega)
       omega)
    | (have q1 := (hE_0_2_1 (r_0 + 1) (by omega)).2 (by omega)
       omega)
    | (have q1 := (hE_0_2_1 (r_0 + 2) (by omega)).2 (by omega)
       have q2 := (hE_0_2_2 (r_0 + 2) (by omega)).2 (by omega)
       have q3 := (hE_0_2_3 (r_0 + 2) (by omega)).1 (by omega)
       omega)
    | (have q1 := (hE_0_2_1 (r_0 + 2) (by omega)).2 (by omega)
       have q2 := (hE_0_2_2 (r_0 + 2) (by omega)).2 (by omega)
       have q3 := (hE_0_2_3 (r_0 + 2) (by omega)).2 (by omega)
       omega)
    | (have q1 := (hE_0_2_1 (r_0 + 2) (by omega)).2 (by omega)
       have q2 := (hE_0_2_2 (r_0 + 2) (by omega)).2 (by omega)
       have q3 := (hE_0_2_3 (r_0 + 2) (by omega)).1 (by omega)
       have q4 : x13 = r_0 + 2 := by omega
       simp only [q4] at *
       omega)
set_option maxHeartbeats 4000000 in
theorem vc_Mo_groupItem_at_k3_19_2 (x1 : Int) (x5 : Int) (r_0 : Int) (gy : Int) (k1 : 0 ≤ x1 ∧ x1 ≤ 7) (k5 : 0 ≤ x5 ∧ x5 ≤ 7) (d0 : x5 + (-4294967296) ≤ x1 ∧ x1 ≤ x5 + 0) (d1 : x1 + (-4294967296) ≤ x5 ∧ x5 ≤ x1 + 0) (ey2 : gy = x1) : 1 * gy + ((-1) * x1 + 0) ≤ 0 := by
  first
    | omega
    | (have q1 := (hE_0_2_1 (r_0 + 2) (by omega)).2 (by omega)
       have q2 := (hE_0_2_2 (r_0 + 2) (by omega)).2 (by omega)
       omega)
    | (have q1 := (hE_0_2_1 (r_0 + 1) (by omega)).2 (by omega)
       have q2 := (hE_0_2_2 (r_0 + 1) (by omega)).2 (by omega)
       omega)
    | (have q1 := (hE_0_2_1 (r_0 + 2) (by omega)).2 (by omega)
       omega)
    | (have q1 := (hE_0_2_1 (r_0 + 1) (by omega)).2 (by omega)
       omega)
    | (have q1 := (hE_0_2_1 (r_0 + 2) (by omega)).2 (by omega)
       have q2 := (hE_0_2_2 (r_0 + 2) (by omega)).2 (by omega)
       have q3 := (hE_0_2_3 (r_0 + 2) (by omega)).1 (by omega)
       omega)
    | (have q1 := (hE_0_2_1 (r_0 + 2) (by omega)).2 (by omega)
       have q2 := (hE_0_2_2 (r_0 + 2) (by omega)).2 (by omega)
       have q3 := (hE_0_2_3 (r_0 + 2) (by omega)).2 (by omega)
       omega)
    | (have q1 := (hE_0_2_1 (r_0 + 2) (by omega)).2 (by omega)
       have q2 := (hE_0_2_2 (r_0 + 2) (by omega)).2 (by omega)
       have q3 := (hE_0_2_3 (r_0 + 2) (by omega)).1 (by omega)
       have q4 : x13 = r_0 + 2 := by omega
       simp only [q4] at *
       omega)
set_option maxHeartbeats 4000000 in
theorem vc_Mo_groupItem_at_k3_19_3 (x1 : Int) (x5 : Int) (r_0 : Int) (gy : Int) (k1 : 0 ≤ x1 ∧ x1 ≤ 7) (k5 : 0 ≤ x5 ∧ x5 ≤ 7) (d0 : x5 + (-4294967296) ≤ x1 ∧ x1 ≤ x5 + 0) (d1 : x1 + (-4294967296) ≤ x5 ∧ x5 ≤ x1 + 0) (ey2 : gy = x1) : (-1) * gy + (1 * x1 + 0) ≤ 0 := by
  first
    | omega
    | (have q1 := (hE_0_2_1 (r_0 + 2) (by omega)).2 (by omega)
       have q2 := (hE_0_2_2 (r_0 + 2) (by omega)).2 (by omega)
       omega)
    | (have q1 := (hE_0_2_1 (r_0 + 1) (by omega)).2 (by omega)
       have q2 := (hE_0_2_2 (r_0 + 1) (by omega)).2 (by omega)
       omega)
    | (have q1 := (hE_0_2_1 (r_0 + 2) (by omega)).2 (by omega)
       omega)
    | (have q1 := (hE_0_2_1 (r_0 + 1) (by omega)).2 (by omega)
       omega)
    | (have q1 := (hE_0_2_1 (r_0 + 2) (by omega)).2 (by omega)
       have q2 := (hE_0_2_2 (r_0 + 2) (by omega)).2 (by omega)
       have q3 := (hE_0_2_3 (r_0 + 2) (by omega)).1 (by omega)
       omega)
    | (have q1 := (hE_0_2_1 (r_0 + 2) (by omega)).2 (by omega)
       have q2 := (hE_0_2_2 (r_0 + 2) (by omega)).2 (by omega)
       have q3 := (hE_0_2_3 (r_0 + 2) (by omega)).2 (by omega)
       omega)
    | (have q1 := (hE_0_2_1 (r_0 + 2) (by omega)).2 (by omega)
       have q2 := (hE_0_2_2 (r_0 + 2) (by omega)).2 (by omega)
       have q3 := (hE_0_2_3 (r_0 + 2) (by omega)).1 (by omega)
       have q4 : x13 = r_0 + 2 := by omega
       simp only [q4] at *
       omega)
set_option maxHeartbeats 4000000 in
theorem vc_Mo_groupItem_at_k3_19_4 (x2 : Int) (r_0 : Int) (gu : Int) (k2 : 3 ≤ x2 ∧ x2 ≤ 3) (eu2 : gu = x2) : 1 * gu + ((-1) * x2 + 0) ≤ 0 := by
  first
    | omega
    | (have q1 := (hE_0_2_1 (r_0 + 2) (by omega)).2 (by omega)
       have q2 := (hE_0_2_2 (r_0 + 2) (by omega)).2 (by omega)
       omega)
    | (have q1 := (hE_0_2_1 (r_0 + 1) (by omega)).2 (by omega)
       have q2 := (hE_0_2_2 (r_0 + 1) (by omega)).2 (by omega)
       omega)
    | (have q1 := (hE_0_2_1 (r_0 + 2) (by omega)).2 (by omega)
       omega)
    | (have q1 := (hE_0_2_1 (r_0 + 1) (by omega)).2 (by omega)
       omega)
    | (have q1 := (hE_0_2_1 (r_0 + 2) (by omega)).2 (by omega)
       have q2 := (hE_0_2_2 (r_0 + 2) (by omega)).2 (by omega)
       have q3 := (hE_0_2_3 (r_0 + 2) (by omega)).1 (by omega)
       omega)
    | (have q1 := (hE_0_2_1 (r_0 + 2) (by omega)).2 (by omega)
       have q2 := (hE_0_2_2 (r_0 + 2) (by omega)).2 (by omega)
       have q3 := (hE_0_2_3 (r_0 + 2) (by omega)).2 (by omega)
       omega)
    | (have q1 := (hE_0_2_1 (r_0 + 2) (by omega)).2 (by omega)
       have q2 := (hE_0_2_2 (r_0 + 2) (by omega)).2 (by omega)
       have q3 := (hE_0_2_3 (r_0 + 2) (by omega)).1 (by omega)
       have q4 : x13 = r_0 + 2 := by omega
       simp only [q4] at *
       omega)
set_option maxHeartbeats 4000000 in
theorem vc_Mo_groupItem_at_k3_19_5 (x2 : Int) (r_0 : Int) (gu : Int) (k2 : 3 ≤ x2 ∧ x2 ≤ 3) (eu2 : gu = x2) : (-1) * gu + (1 * x2 + 0) ≤ 0 := by
  first
    | omega
    | (have q1 := (hE_0_2_1 (r_0 + 2) (by omega)).2 (by omega)
       have q2 := (hE_0_2_2 (r_0 + 2) (by omega)).2 (by omega)
       omega)
    | (have q1 := (hE_0_2_1 (r_0 + 1) (by omega)).2 (by omega)
       have q2 := (hE_0_2_2 (r_0 + 1) (by omega)).2 (by omega)
       omega)
    | (have q1 := (hE_0_2_1 (r_0 + 2) (by omega)).2 (by omega)
       omega)
    | (have q1 := (hE_0_2_1 (r_0 + 1) (by omega)).2 (by omega)
       omega)
    | (have q1 := (hE_0_2_1 (r_0 + 2) (by omega)).2 (by omega)
       have q2 := (hE_0_2_2 (r_0 + 2) (by omega)).2 (by omega)
       have q3 := (hE_0_2_3 (r_0 + 2) (by omega)).1 (by omega)
       omega)
    | (have q1 := (hE_0_2_1 (r_0 + 2) (by omega)).2 (by omega)
       have q2 := (hE_0_2_2 (r_0 + 2) (by omega)).2 (by omega)
       have q3 := (hE_0_2_3 (r_0 + 2) (by omega)).2 (by omega)
       omega)
    | (have q1 := (hE_0_2_1 (r_0 + 2) (by omega)).2 (by omega)
       have q2 := (hE_0_2_2 (r_0 + 2) (by omega)).2 (by omega)
       have q3 := (hE_0_2_3 (r_0 + 2) (by omega)).1 (by omega)
       have q4 : x13 = r_0 + 2 := by omega
       simp only [q4] at *
       omega)
set_option maxHeartbeats 4000000 in
theorem vc_Mo_groupItem_at_k3_19_6 (from_0 : Int) (pos_0 : Int) (r_0 : Int) (f2 : 1 * from_0 + ((-1) * pos_0 + 0) ≤ 0) (kz_0_11 : 0 ≤ pos_0 ∧ pos_0 ≤ 2000) (kz_0_15 : 0 ≤ from_0 ∧ from_0 ≤ 2000) : 1 * from_0 + ((-1) * pos_0 + 0) ≤ 0 := by
  first
    | omega
    | (have q1 := (hE_0_2_1 (r_0 + 2) (by omega)).2 (by omega)
       have q2 := (hE_0_2_2 (r_0 + 2) (by omega)).2 (by omega)
       omega)
    | (have q1 := (hE_0_2_1 (r_0 + 1) (by omega)).2 (by omega)
       have q2 := (hE_0_2_2 (r_0 + 1) (by omega)).2 (by omega)
       omega)
    | (have q1 := (hE_0_2_1 (r_0 + 2) (by omega)).2 (by omega)
       omega)
    | (have q1 := (hE_0_2_1 (r_0 + 1) (by omega)).2 (by omega)
       omega)
    | (have q1 := (hE_0_2_1 (r_0 + 2) (by omega)).2 (by omega)
       have q2 := (hE_0_2_2 (r_0 + 2) (by omega)).2 (by omega)
       have q3 := (hE_0_2_3 (r_0 + 2) (by omega)).1 (by omega)
       omega)
    | (have q1 := (hE_0_2_1 (r_0 + 2) (by omega)).2 (by omega)
       have q2 := (hE_0_2_2 (r_0 + 2) (by omega)).2 (by omega)
       have q3 := (hE_0_2_3 (r_0 + 2) (by omega)).2 (by omega)
       omega)
    | (have q1 := (hE_0_2_1 (r_0 + 2) (by omega)).2 (by omega)
       have q2 := (hE_0_2_2 (r_0 + 2) (by omega)).2 (by omega)
       have q3 := (hE_0_2_3 (r_0 + 2) (by omega)).1 (by omega)
       have q4 : x13 = r_0 + 2 := by omega
       simp only [q4] at *
       omega)
end
