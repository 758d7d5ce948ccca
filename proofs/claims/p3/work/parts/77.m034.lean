section

set_option maxHeartbeats 4000000 in
theorem vc_Mo_spread_16_0 (x1 : Int) (x4 : Int) (x6 : Int) (x10 : Int) (x11 : Int) (wide_0 : Int) (tall_0 : Int) (bucketMany_1 : Int → Int) (wide_1 : Int) (tall_1 : Int) (barredPoint_1 : Int → Int) (costOf_1 : Int → Int) (bucket_1 : Int → Int) (costOf_0 : Int → Int) (bucket_0 : Int → Int) (bucketMany_0 : Int → Int) (barredPoint_0 : Int → Int) (k1 : 0 ≤ x1 ∧ x1 ≤ 5999) (k4 : 0 ≤ x4 ∧ x4 ≤ 1000003) (k6 : 0 ≤ x6 ∧ x6 ≤ 3) (k10 : 0 ≤ x10 ∧ x10 ≤ 0) (k11 : 1 ≤ x11 ∧ x11 ≤ 1000004) (f0 : x11 = x4 + 1) (f12 : RTQ (wide_1) (tall_1) (barredPoint_1) (costOf_1) (bucket_1) (bucketMany_1) (x1) (x4)) (f14 : x6 = (x4 % 4)) (fe_0_146_1 : wide_0 = wide_1) (fe_0_147_1 : tall_0 = tall_1) (hE_0_140_1 : ∀ j : Int, costOf_0 j = costOf_1 j) (hE_0_141_1 : ∀ j : Int, bucket_0 j = bucket_1 j) (hE_0_142_1 : ∀ j : Int, 0 ≤ j → (j = x6 → bucketMany_0 j = x10) ∧ (j ≠ x6 → bucketMany_0 j = bucketMany_1 j)) (hE_0_143_1 : ∀ j : Int, barredPoint_0 j = barredPoint_1 j) (kz_0_146 : (-3999999) ≤ wide_0 ∧ wide_0 ≤ 600000023) (kz_0_147 : (-3999999) ≤ tall_0 ∧ tall_0 ≤ 600000007) : RTQ (wide_0) (tall_0) (barredPoint_0) (costOf_0) (bucket_0) (bucketMany_0) (x1) (x11) := by
  subst fe_0_146_1
  subst fe_0_147_1
  have e_hE_0_140_1 := funext hE_0_140_1; subst e_hE_0_140_1
  have e_hE_0_141_1 := funext hE_0_141_1; subst e_hE_0_141_1
  have e_hE_0_143_1 := funext hE_0_143_1; subst e_hE_0_143_1
  first
    | exact spr_next (b := x6) ‹RTQ _ _ _ _ _ _ _ _› (by omega) (by assumption) (by omega) (by assumption)
set_option maxHeartbeats 4000000 in
theorem vc_Mo_spread_16_1 (x4 : Int) (x5 : Int) (x6 : Int) (x7 : Int) (x9 : Int) (x10 : Int) (x11 : Int) (wide_0 : Int) (tall_0 : Int) (wide_1 : Int) (tall_1 : Int) (barredPoint_1 : Int → Int) (costOf_1 : Int → Int) (bucket_1 : Int → Int) (costOf_0 : Int → Int) (bucket_0 : Int → Int) (barredPoint_0 : Int → Int) (k4 : 0 ≤ x4 ∧ x4 ≤ 1000003) (k5 : 0 ≤ x5 ∧ x5 ≤ 4) (k11 : 1 ≤ x11 ∧ x11 ≤ 1000004) (d0 : x4 + 1 ≤ x11 ∧ x11 ≤ x4 + 1) (d4 : x4 + (-4294967296) ≤ x5 ∧ x5 ≤ x4 + 1) (f2 : (0 ≤ x5) ∧ (((x4 + 1) - x5) ≤ 1000000)) (fe_0_146_1 : wide_0 = wide_1) (fe_0_147_1 : tall_0 = tall_1) (hE_0_140_1 : ∀ j : Int, costOf_0 j = costOf_1 j) (hE_0_141_1 : ∀ j : Int, bucket_0 j = bucket_1 j) (hE_0_143_1 : ∀ j : Int, barredPoint_0 j = barredPoint_1 j) (kz_0_146 : (-3999999) ≤ wide_0 ∧ wide_0 ≤ 600000023) (kz_0_147 : (-3999999) ≤ tall_0 ∧ tall_0 ≤ 600000007) : (0 ≤ x5) ∧ ((x11 - x5) ≤ 1000000) := by
  subst fe_0_146_1
  subst fe_0_147_1
  have e_hE_0_140_1 := funext hE_0_140_1; subst e_hE_0_140_1
  have e_hE_0_141_1 := funext hE_0_141_1; subst e_hE_0_141_1
  have e_hE_0_143_1 := funext hE_0_143_1; subst e_hE_0_143_1
  first
    | omega
def o_Mo_spread_16 : or_T := (89, 12, [(0, (2, 0, 0, [165])), (1, (0, 0, 5999, [])), (4, (0, 0, 1000003, [])), (5, (0, 0, 4, [])), (6, (0, 0, 3, [])), (8, (2, 0, 0, [268])), (10, (0, 0, 0, [])), (11, (0, 1, 1000004, []))], [(6, [11, 4], [1]), (20, [5, 4], [50, 0, 0, 2, 6, 0, 2, 0, 0, 1, 0, 0, 10, 5, 6, 4, 2, 1, 1, 0, 1, 1, 0, 0, 1000000]), (24, [0, 2], []), (24, [1, 3], []), (100, [8, 6, 10], []), (9, [8, 2], [142]), (20, [2, 3, 4], [60, 2, 4, 495, 146, 147, 143, 140, 141, 142]), (20, [6, 4], [50, 0, 0, 1, 2, 1, 0, 9, 2, 1, 1, 0, 4])], [], [], [(20, [2, 3, 11], [60, 2, 4, 495, 146, 147, 143, 140, 141, 142]), (20, [5, 11], [50, 0, 0, 2, 6, 0, 2, 0, 0, 1, 0, 0, 6, 5, 2, 1, 1, 1, 0, 0, 1000000])], [], [(11, 4, 1, 1), (5, 4, -4294967296, 1)])
theorem oo_Mo_spread_16 {kA : Nat → ClassId} : or_ok PRD kA GG o_Mo_spread_16 := by
  refine or_mk fun A ta ws vs hD hth hl => ?_
  intro t0 r0 t1 k1 t4 k4 t5 k5 t6 k6 t8 r8 t10 k10 t11 k11 d0 d4 f0 f2 f5 f6 ta1 w1 le1 s1 f8 f12 f14
  replace f0 := shm_4 f0
  replace f2 := shm_1594 f2
  replace f5 := shm_5 f5
  replace f6 := shm_5 f6
  have s1 : (∀ b j, w_el ws b j = if b = v_ad (n_v vs 8) ∧ j = (v_iv (n_v vs 6)).toNat then v_iv (n_v vs 10) else w_el w1 b j) ∧ ∀ b k, w_fd ws b k = w_fd w1 b k := s1.2
  replace f8 := shm_701 f8
  replace f12 := shm_704 f12
  replace f14 := shm_1410 f14
  have q2 : n_v vs 2 = n_v vs 0 := f5.symm
  have q3 : n_v vs 3 = n_v vs 1 := f6.symm
  simp only [q2, q3] at f8 f12
  have ar_0_140_1 : w_ar w1 (n_v vs 0) 140 = w_ar ws (n_v vs 0) 140 := congrArg v_ad (s1.2 _ _).symm
  have cr_0_140 := fdq_175 hD hth r0
  have ar_0_141_1 : w_ar w1 (n_v vs 0) 141 = w_ar ws (n_v vs 0) 141 := congrArg v_ad (s1.2 _ _).symm
  have cr_0_141 := fdq_176 hD hth r0
  have ar_0_142_1 : w_ar w1 (n_v vs 0) 142 = w_ar ws (n_v vs 0) 142 := congrArg v_ad (s1.2 _ _).symm
  have ar_0_143_1 : w_ar w1 (n_v vs 0) 143 = w_ar ws (n_v vs 0) 143 := congrArg v_ad (s1.2 _ _).symm
  have cr_0_143 := fdq_178 hD hth r0
  have ad_8 : v_ad (n_v vs 8) = w_ar ws (n_v vs 0) 142 := (congrArg v_ad f8).trans ar_0_142_1
  simp only [ar_0_140_1, ar_0_141_1, ar_0_142_1, ar_0_143_1] at f12
  have fe_0_146_1 : w_fi ws (n_v vs 0) 146 = w_fi w1 (n_v vs 0) 146 := congrArg v_iv (s1.2 _ _)
  have fe_0_147_1 : w_fi ws (n_v vs 0) 147 = w_fi w1 (n_v vs 0) 147 := congrArg v_iv (s1.2 _ _)
  have hE_0_140_1 : ∀ j : Int, w_ei ws (w_ar ws (n_v vs 0) 140) j = w_ei w1 (w_ar ws (n_v vs 0) 140) j := el_kp s1.1 r8 cr_0_140 (by decide)
  have hE_0_141_1 : ∀ j : Int, w_ei ws (w_ar ws (n_v vs 0) 141) j = w_ei w1 (w_ar ws (n_v vs 0) 141) j := el_kp s1.1 r8 cr_0_141 (by decide)
  have hE_0_142_1 : ∀ j : Int, 0 ≤ j → (j = v_iv (n_v vs 6) → w_ei ws (w_ar ws (n_v vs 0) 142) j = v_iv (n_v vs 10)) ∧ (j ≠ v_iv (n_v vs 6) → w_ei ws (w_ar ws (n_v vs 0) 142) j = w_ei w1 (w_ar ws (n_v vs 0) 142) j) := fun j hj => ⟨fun h => by unfold w_ei; rw [s1.1, if_pos ⟨ad_8.symm, by rw [h]⟩], fun h => by unfold w_ei; rw [s1.1, if_neg (fun e => h (by have := e.2; omega))]⟩
  have hE_0_143_1 : ∀ j : Int, w_ei ws (w_ar ws (n_v vs 0) 143) j = w_ei w1 (w_ar ws (n_v vs 0) 143) j := el_kp s1.1 r8 cr_0_143 (by decide)
  have kz_0_146 := fdq_179 hD hth r0
  have kz_0_147 := fdq_180 hD hth r0
  have nf0 : fc_1 PRD (20, [2, 3, 11], [60, 2, 4, 495, 146, 147, 143, 140, 141, 142]) ws (vs) := by
    refine ⟨nf_in hl rfl, sgq_704 ?_⟩
    · show RTQ (w_fi ws (n_v vs 2) 146) (w_fi ws (n_v vs 2) 147) (w_ei ws (w_ar ws (n_v vs 2) 143)) (w_ei ws (w_ar ws (n_v vs 2) 140)) (w_ei ws (w_ar ws (n_v vs 2) 141)) (w_ei ws (w_ar ws (n_v vs 2) 142)) (v_iv (n_v vs 3)) (v_iv (n_v vs 11))
      simp only [q2, q3]
      exact vc_Mo_spread_16_0 (v_iv (n_v vs 1)) (v_iv (n_v vs 4)) (v_iv (n_v vs 6)) (v_iv (n_v vs 10)) (v_iv (n_v vs 11)) (w_fi ws (n_v vs 0) 146) (w_fi ws (n_v vs 0) 147) (w_ei w1 (w_ar ws (n_v vs 0) 142)) (w_fi w1 (n_v vs 0) 146) (w_fi w1 (n_v vs 0) 147) (w_ei w1 (w_ar ws (n_v vs 0) 143)) (w_ei w1 (w_ar ws (n_v vs 0) 140)) (w_ei w1 (w_ar ws (n_v vs 0) 141)) (w_ei ws (w_ar ws (n_v vs 0) 140)) (w_ei ws (w_ar ws (n_v vs 0) 141)) (w_ei ws (w_ar ws (n_v vs 0) 142)) (w_ei ws (w_ar ws (n_v vs 0) 143)) k1 k4 k6 k10 k11 f0 f12 f14 fe_0_146_1 fe_0_147_1 hE_0_140_1 hE_0_141_1 hE_0_142_1 hE_0_143_1 kz_0_146 kz_0_147
  have nf1 : fc_1 PRD (20, [5, 11], [50, 0, 0, 2, 6, 0, 2, 0, 0, 1, 0, 0, 6, 5, 2, 1, 1, 1, 0, 0, 1000000]) ws (vs) := ⟨nf_in hl rfl, sgq_1593 (vc_Mo_spread_16_1 (v_iv (n_v vs 4)) (v_iv (n_v vs 5)) (v_iv (n_v vs 6)) (v_iv (n_v vs 7)) (v_iv (n_v vs 9)) (v_iv (n_v vs 10)) (v_iv (n_v vs 11)) (w_fi ws (n_v vs 0) 146) (w_fi ws (n_v vs 0) 147) (w_fi w1 (n_v vs 0) 146) (w_fi w1 (n_v vs 0) 147) (w_ei w1 (w_ar ws (n_v vs 0) 143)) (w_ei w1 (w_ar ws (n_v vs 0) 140)) (w_ei w1 (w_ar ws (n_v vs 0) 141)) (w_ei ws (w_ar ws (n_v vs 0) 140)) (w_ei ws (w_ar ws (n_v vs 0) 141)) (w_ei ws (w_ar ws (n_v vs 0) 143)) k4 k5 k11 d0 d4 f2 fe_0_146_1 fe_0_147_1 hE_0_140_1 hE_0_141_1 hE_0_143_1 kz_0_146 kz_0_147)⟩
  refine ⟨(fun _ h => (by cases h)), [], trivial, ?_, (fun _ h => (by cases h))⟩
  rw [List.append_nil]
  exact List.forall_mem_cons.mpr ⟨⟨show (20 : Nat) < 100 from by decide, nf0⟩, List.forall_mem_cons.mpr ⟨⟨show (20 : Nat) < 100 from by decide, nf1⟩, (fun _ h => (by cases h))⟩⟩
set_option maxHeartbeats 4000000 in
theorem vc_Mo_spread_17_r0 (x1 : Int) (x4 : Int) (x6 : Int) (x7 : Int) (x9 : Int) (bucketMany_0 : Int → Int) (wide_0 : Int) (tall_0 : Int) (barredPoint_0 : Int → Int) (costOf_0 : Int → Int) (bucket_0 : Int → Int) (k1 : 0 ≤ x1 ∧ x1 ≤ 5999) (k4 : 0 ≤ x4 ∧ x4 ≤ 1000004) (k6 : 0 ≤ x6 ∧ x6 ≤ 3) (k7 : 0 ≤ x7 ∧ x7 ≤ 24000) (k9 : 1 ≤ x9 ∧ x9 ≤ 24009) (d0 : x9 + (-4294967296) ≤ x7 ∧ x7 ≤ x9 + (-1)) (h1 : x9 = bucketMany_0 (x6)) (f4 : RTQ (wide_0) (tall_0) (barredPoint_0) (costOf_0) (bucket_0) (bucketMany_0) (x1) (x4)) (f6 : x6 = (x4 % 4)) (kz_0_146 : (-3999999) ≤ wide_0 ∧ wide_0 ≤ 600000023) (kz_0_147 : (-3999999) ≤ tall_0 ∧ tall_0 ≤ 600000007) : 0 ≤ x7 ∧ x7 ≤ 23999 := by
  first
    | (have h := bm_pos (b := x8) (m := x10) ‹RTQ _ _ _ _ _ _ _ _› (by omega) (by assumption); omega)
    | (have h := bm_pos (b := x6) (m := x9) ‹RTQ _ _ _ _ _ _ _ _› (by omega) (by assumption); omega)
def o_Mo_spread_17 : or_T := (132, 10, [(0, (2, 0, 0, [165])), (1, (0, 0, 5999, [])), (2, (2, 0, 0, [165])), (3, (0, 0, 5999, [])), (4, (0, 0, 1000004, [])), (5, (0, 0, 4, [])), (6, (0, 0, 3, [])), (7, (0, 0, 24000, [])), (8, (2, 0, 0, [268])), (9, (0, 1, 24009, []))], [(7, [7, 9], [2]), (10, [9, 8, 6], []), (9, [8, 2], [142]), (20, [3, 2], [50, 2, 0, 1146, 1147, 2, 6, 0, 2, 0, 0, 1, 0, 0, 6, 4, 2, 1, 0, 0, 1, 6, 3, 2, 1, 146, 2, 1, 147]), (20, [2, 3, 4], [60, 2, 4, 495, 146, 147, 143, 140, 141, 142]), (20, [5, 4], [50, 0, 0, 2, 6, 0, 2, 0, 0, 1, 0, 0, 10, 5, 6, 4, 2, 1, 1, 0, 1, 1, 0, 0, 1000000]), (20, [6, 4], [50, 0, 0, 1, 2, 1, 0, 9, 2, 1, 1, 0, 4]), (20, [4], [50, 0, 0, 0, 2, 1, 0, 0, 1000003]), (24, [0, 2], []), (24, [1, 3], [])], [(7, (0, 0, 23999, []))], [], [], [], [(7, 9, -4294967296, -1), (1, 3, -4294967296, 0), (3, 1, -4294967296, 0), (5, 4, -4294967296, 1)])
theorem oo_Mo_spread_17 {kA : Nat → ClassId} : or_ok PRD kA GG o_Mo_spread_17 := by
  refine or_mk fun A ta ws vs hD hth hl => ?_
  intro t0 r0 t1 k1 t2 r2 t3 k3 t4 k4 t5 k5 t6 k6 t7 k7 t8 r8 t9 k9 d0 d1 d2 d3 f0 f1 f2 f3 f4 f5 f6 f7 f8 f9
  replace f1 := shm_107 f1
  replace f2 := shm_701 f2
  replace f4 := shm_704 f4
  replace f8 := shm_5 f8
  replace f9 := shm_5 f9
  have q2 : n_v vs 2 = n_v vs 0 := f8.symm
  have q3 : n_v vs 3 = n_v vs 1 := f9.symm
  simp only [q2, q3] at f2 f4
  have ad_8 : v_ad (n_v vs 8) = w_ar ws (n_v vs 0) 142 := congrArg v_ad f2
  simp only [ad_8] at f1
  have h1 : v_iv (n_v vs 9) = w_ei ws (w_ar ws (n_v vs 0) 142) (v_iv (n_v vs 6)) := f1
  have kz_0_146 := fdq_179 hD hth r0
  have kz_0_147 := fdq_180 hD hth r0
  have hrf0 : 0 ≤ v_iv (n_v vs 7) ∧ v_iv (n_v vs 7) ≤ 23999 := vc_Mo_spread_17_r0 (v_iv (n_v vs 1)) (v_iv (n_v vs 4)) (v_iv (n_v vs 6)) (v_iv (n_v vs 7)) (v_iv (n_v vs 9)) (w_ei ws (w_ar ws (n_v vs 0) 142)) (w_fi ws (n_v vs 0) 146) (w_fi ws (n_v vs 0) 147) (w_ei ws (w_ar ws (n_v vs 0) 143)) (w_ei ws (w_ar ws (n_v vs 0) 140)) (w_ei ws (w_ar ws (n_v vs 0) 141)) k1 k4 k6 k7 k9 d0 h1 f4 (shm_1410 f6) kz_0_146 kz_0_147
  have rf7 : tv_ok ta (0, 0, 23999, []) (n_v vs 7) := tv_in t7 (by first | omega | grind) (by first | omega | grind)
  refine ⟨List.forall_mem_cons.mpr ⟨rf7, (fun _ h => (by cases h))⟩, [], trivial, ?_, (fun _ h => (by cases h))⟩
  rw [List.append_nil]
  exact (fun _ h => (by cases h))
set_option maxHeartbeats 4000000 in
theorem vc_Mo_spread_18_0 (x1 : Int) (x3 : Int) (x6 : Int) (x7 : Int) (x9 : Int) (x13 : Int) (x14 : Int) (wide_0 : Int) (tall_0 : Int) (gx : Int) (k1 : 0 ≤ x1 ∧ x1 ≤ 5999) (k3 : 0 ≤ x3 ∧ x3 ≤ 5999) (d5 : x3 + (-4294967296) ≤ x1 ∧ x1 ≤ x3 + 0) (d6 : x1 + (-4294967296) ≤ x3 ∧ x3 ≤ x1 + 0) (ex2 : gx = x1) : 1 * gx + ((-1) * x1 + 0) ≤ 0 := by
  first
    | omega
set_option maxHeartbeats 4000000 in
theorem vc_Mo_spread_18_1 (x1 : Int) (x3 : Int) (x6 : Int) (x7 : Int) (x9 : Int) (x13 : Int) (x14 : Int) (wide_0 : Int) (tall_0 : Int) (gx : Int) (k1 : 0 ≤ x1 ∧ x1 ≤ 5999) (k3 : 0 ≤ x3 ∧ x3 ≤ 5999) (d5 : x3 + (-4294967296) ≤ x1 ∧ x1 ≤ x3 + 0) (d6 : x1 + (-4294967296) ≤ x3 ∧ x3 ≤ x1 + 0) (ex2 : gx = x1) : (-1) * gx + (1 * x1 + 0) ≤ 0 := by
  first
    | omega
set_option maxHeartbeats 4000000 in
theorem vc_Mo_spread_18_2 (x1 : Int) (x4 : Int) (costOf_0 : Int → Int) (bucket_0 : Int → Int) (bucketMany_0 : Int → Int) (wide_0 : Int) (tall_0 : Int) (barredPoint_0 : Int → Int) (gx : Int) (k1 : 0 ≤ x1 ∧ x1 ≤ 5999) (k4 : 0 ≤ x4 ∧ x4 ≤ 1000000) (f11 : RTQ (wide_0) (tall_0) (barredPoint_0) (costOf_0) (bucket_0) (bucketMany_0) (x1) (x4)) (kz_0_146 : (-3999999) ≤ wide_0 ∧ wide_0 ≤ 600000023) (kz_0_147 : (-3999999) ≤ tall_0 ∧ tall_0 ≤ 600000007) (ex2 : gx = x1) : RTQ (wide_0) (tall_0) (barredPoint_0) (costOf_0) (bucket_0) (bucketMany_0) (gx) (x4) := by
  first
    | assumption
    | (rw [ex2]; assumption)
set_option maxHeartbeats 4000000 in
theorem vc_Mo_spread_18_3 (x4 : Int) (x13 : Int) (x14 : Int) (x16 : Int) (costOf_0 : Int → Int) (bucket_0 : Int → Int) (k4 : 0 ≤ x4 ∧ x4 ≤ 1000000) (k13 : 0 ≤ x13 ∧ x13 ≤ 96029) (k14 : 0 ≤ x14 ∧ x14 ≤ 23999) (k16 : 0 ≤ x16 ∧ x16 ≤ 1000000) (d0 : x4 + 0 ≤ x16 ∧ x16 ≤ x4 + 0) (h1 : x16 = costOf_0 (x14)) (h3 : x14 = bucket_0 (x13)) : PIV (costOf_0) (x14) (x4) := by
  exact ⟨by omega, by omega⟩
set_option maxHeartbeats 4000000 in
theorem vc_Mo_spread_18_4 (x1 : Int) (x4 : Int) (x6 : Int) (x7 : Int) (x9 : Int) (x12 : Int) (x13 : Int) (x14 : Int) (x16 : Int) (costOf_0 : Int → Int) (bucket_0 : Int → Int) (bucketMany_0 : Int → Int) (wide_0 : Int) (tall_0 : Int) (barredPoint_0 : Int → Int) (k1 : 0 ≤ x1 ∧ x1 ≤ 5999) (k4 : 0 ≤ x4 ∧ x4 ≤ 1000000) (k6 : 0 ≤ x6 ∧ x6 ≤ 3) (k7 : 0 ≤ x7 ∧ x7 ≤ 23999) (k9 : 1 ≤ x9 ∧ x9 ≤ 24009) (k12 : 0 ≤ x12 ∧ x12 ≤ 72030) (k13 : 0 ≤ x13 ∧ x13 ≤ 96029) (k14 : 0 ≤ x14 ∧ x14 ≤ 23999) (k16 : 0 ≤ x16 ∧ x16 ≤ 1000000) (d0 : x4 + 0 ≤ x16 ∧ x16 ≤ x4 + 0) (d3 : x12 + 0 ≤ x13 ∧ x13 ≤ x12 + 23999) (d4 : x9 + (-4294967296) ≤ x7 ∧ x7 ≤ x9 + (-1)) (h1 : x16 = costOf_0 (x14)) (h3 : x14 = bucket_0 (x13)) (f4 : x13 = x12 + x7) (f5 : x12 = 24010 * x6) (h8 : x9 = bucketMany_0 (x6)) (f11 : RTQ (wide_0) (tall_0) (barredPoint_0) (costOf_0) (bucket_0) (bucketMany_0) (x1) (x4)) (f13 : x6 = (x4 % 4)) (kz_0_146 : (-3999999) ≤ wide_0 ∧ wide_0 ≤ 600000023) (kz_0_147 : (-3999999) ≤ tall_0 ∧ tall_0 ≤ 600000007) : (0 ≤ x14) ∧ ((x14 + 1) ≤ (4 * (wide_0 * tall_0))) := by
  first
    | (have h := bk_at (b := x6) (k := x7) (s := x14) (q := x13) ‹RTQ _ _ _ _ _ _ _ _› (by omega) (by omega) (by omega) (by omega) (by assumption); omega)
set_option maxHeartbeats 4000000 in
theorem vc_Mo_spread_18_5 (x1 : Int) (x4 : Int) (x6 : Int) (x7 : Int) (x9 : Int) (x12 : Int) (x13 : Int) (x14 : Int) (x16 : Int) (costOf_0 : Int → Int) (bucket_0 : Int → Int) (bucketMany_0 : Int → Int) (wide_0 : Int) (tall_0 : Int) (barredPoint_0 : Int → Int) (k1 : 0 ≤ x1 ∧ x1 ≤ 5999) (k4 : 0 ≤ x4 ∧ x4 ≤ 1000000) (k6 : 0 ≤ x6 ∧ x6 ≤ 3) (k7 : 0 ≤ x7 ∧ x7 ≤ 23999) (k9 : 1 ≤ x9 ∧ x9 ≤ 24009) (k12 : 0 ≤ x12 ∧ x12 ≤ 72030) (k13 : 0 ≤ x13 ∧ x13 ≤ 96029) (k14 : 0 ≤ x14 ∧ x14 ≤ 23999) (k16 : 0 ≤ x16 ∧ x16 ≤ 1000000) (d0 : x4 + 0 ≤ x16 ∧ x16 ≤ x4 + 0) (d3 : x12 + 0 ≤ x13 ∧ x13 ≤ x12 + 23999) (d4 : x9 + (-4294967296) ≤ x7 ∧ x7 ≤ x9 + (-1)) (h1 : x16 = costOf_0 (x14)) (h3 : x14 = bucket_0 (x13)) (f4 : x13 = x12 + x7) (f5 : x12 = 24010 * x6) (h8 : x9 = bucketMany_0 (x6)) (f11 : RTQ (wide_0) (tall_0) (barredPoint_0) (costOf_0) (bucket_0) (bucketMany_0) (x1) (x4)) (f13 : x6 = (x4 % 4)) (kz_0_146 : (-3999999) ≤ wide_0 ∧ wide_0 ≤ 600000023) (kz_0_147 : (-3999999) ≤ tall_0 ∧ tall_0 ≤ 600000007) : (0 ≤ x4) ∧ (x4 ≤ 999999) := by
  first
    | (have h := bk_at (b := x6) (k := x7) (s := x14) (q := x13) ‹RTQ _ _ _ _ _ _ _ _› (by omega) (by omega) (by omega) (by omega) (by assumption); omega)
set_option maxHeartbeats 4000000 in
theorem vc_Mo_spread_18_6 (x1 : Int) (x6 : Int) (x7 : Int) (x9 : Int) (x13 : Int) (x14 : Int) (wide_0 : Int) (tall_0 : Int) (gx : Int) (k1 : 0 ≤ x1 ∧ x1 ≤ 5999) (ex2 : gx = x1) : gx = x1 := by
  first
    | omega
def o_Mo_spread_18 : or_T := (163, 17, [(0, (2, 0, 0, [165])), (1, (0, 0, 5999, [])), (3, (0, 0, 5999, [])), (4, (0, 0, 1000000, [])), (6, (0, 0, 3, [])), (7, (0, 0, 23999, [])), (9, (0, 1, 24009, [])), (11, (0, 24010, 24010, [])), (12, (0, 0, 72030, [])), (13, (0, 0, 96029, [])), (14, (0, 0, 23999, [])), (16, (0, 0, 1000000, []))], [(10, [16, 15, 14], []), (9, [15, 2], [140]), (10, [14, 10, 13], []), (1, [13, 12, 7], []), (3, [12, 11, 6], []), (9, [10, 2], [141]), (10, [9, 8, 6], []), (9, [8, 2], [142]), (20, [2, 3, 4], [60, 2, 4, 495, 146, 147, 143, 140, 141, 142]), (20, [6, 4], [50, 0, 0, 1, 2, 1, 0, 9, 2, 1, 1, 0, 4]), (24, [0, 2], []), (24, [1, 3], [])], [], [(0, 0, 5999, [])], [(23, [17, 3], [0, 1, -1]), (23, [17, 3], [0, -1, 1]), (20, [2, 17, 4], [60, 2, 4, 495, 146, 147, 143, 140, 141, 142]), (20, [2, 14, 4], [60, 0, 1, 497, 140]), (20, [14, 2], [50, 2, 0, 1146, 1147, 2, 6, 0, 2, 0, 0, 1, 0, 0, 6, 4, 2, 1, 0, 0, 1, 6, 2, 0, 4, 6, 3, 2, 1, 146, 2, 1, 147]), (20, [4], [50, 0, 0, 2, 6, 0, 2, 0, 0, 1, 0, 0, 2, 1, 0, 0, 999999]), (20, [17, 3], [50, 0, 0, 1, 2, 1, 0, 1, 1])], [], [(16, 4, 0, 0), (13, 12, 0, 23999), (7, 9, -4294967296, -1), (1, 3, -4294967296, 0), (3, 1, -4294967296, 0)])
theorem oo_Mo_spread_18 {kA : Nat → ClassId} : or_ok PRD kA GG o_Mo_spread_18 := by
  refine or_mk fun A ta ws vs hD hth hl => ?_
  intro t0 r0 t1 k1 t3 k3 t4 k4 t6 k6 t7 k7 t9 k9 t11 k11 t12 k12 t13 k13 t14 k14 t16 k16 d0 d3 d4 d5 d6 f1 f2 f3 f4 f5 f6 f8 f9 f11 f13 f15 f16
  replace f1 := shm_107 f1
  replace f2 := shm_703 f2
  replace f3 := shm_107 f3
  replace f4 := shm_12 f4
  replace f5 := shm_38 f5
  rw [show v_iv (n_v vs 11) = 24010 from by omega] at f5
  replace f6 := shm_702 f6
  replace f8 := shm_107 f8
  replace f9 := shm_701 f9
  replace f11 := shm_704 f11
  replace f13 := shm_1410 f13
  replace f15 := shm_5 f15
  replace f16 := shm_5 f16
  have q2 : n_v vs 2 = n_v vs 0 := f15.symm
  have q3 : n_v vs 3 = n_v vs 1 := f16.symm
  simp only [q2, q3] at f2 f6 f9 f11
  have ad_15 : v_ad (n_v vs 15) = w_ar ws (n_v vs 0) 140 := congrArg v_ad f2
  have ad_10 : v_ad (n_v vs 10) = w_ar ws (n_v vs 0) 141 := congrArg v_ad f6
  have ad_8 : v_ad (n_v vs 8) = w_ar ws (n_v vs 0) 142 := congrArg v_ad f9
  simp only [ad_15] at f1
  have h1 : v_iv (n_v vs 16) = w_ei ws (w_ar ws (n_v vs 0) 140) (v_iv (n_v vs 14)) := f1
  simp only [ad_10] at f3
  have h3 : v_iv (n_v vs 14) = w_ei ws (w_ar ws (n_v vs 0) 141) (v_iv (n_v vs 13)) := f3
  simp only [ad_8] at f8
  have h8 : v_iv (n_v vs 9) = w_ei ws (w_ar ws (n_v vs 0) 142) (v_iv (n_v vs 6)) := f8
  have kz_0_146 := fdq_179 hD hth r0
  have kz_0_147 := fdq_180 hD hth r0
  obtain ⟨x, ex, hx⟩ := iv_ex (ta := ta) (lo := 0) (hi := 5999) (z := v_iv (n_v vs 1)) (by omega) (by omega) (by omega) (by omega)
  have ex2 : v_iv (Value.int x) = v_iv (n_v vs 1) := ex
  have ex3 : 0 ≤ v_iv (Value.int x) ∧ v_iv (Value.int x) ≤ 5999 := tv_rng hx
  have e_2 : n_v (vs ++ [Value.int x]) 2 = n_v vs 2 := n_v_old (by rw [hl]; decide)
  have e_3 : n_v (vs ++ [Value.int x]) 3 = n_v vs 3 := n_v_old (by rw [hl]; decide)
  have e_4 : n_v (vs ++ [Value.int x]) 4 = n_v vs 4 := n_v_old (by rw [hl]; decide)
  have e_14 : n_v (vs ++ [Value.int x]) 14 = n_v vs 14 := n_v_old (by rw [hl]; decide)
  have e_17 : n_v (vs ++ [Value.int x]) 17 = Value.int x := n_v_new hl
  have nf0 : fc_1 PRD (23, [17, 3], [0, 1, -1]) ws (vs ++ [Value.int x]) := by
    refine ⟨nf_inA hl rfl, sgq_7 ?_⟩
    · show 1 * v_iv (n_v (vs ++ [Value.int x]) 17) + ((-1) * v_iv (n_v (vs ++ [Value.int x]) 3) + 0) ≤ 0
      simp only [e_3, e_17, q3]
      exact vc_Mo_spread_18_0 (v_iv (n_v vs 1)) (v_iv (n_v vs 3)) (v_iv (n_v vs 6)) (v_iv (n_v vs 7)) (v_iv (n_v vs 9)) (v_iv (n_v vs 13)) (v_iv (n_v vs 14)) (w_fi ws (n_v vs 0) 146) (w_fi ws (n_v vs 0) 147) (v_iv (Value.int x)) k1 k3 d5 d6 ex2
  have nf1 : fc_1 PRD (23, [17, 3], [0, -1, 1]) ws (vs ++ [Value.int x]) := by
    refine ⟨nf_inA hl rfl, sgq_22 ?_⟩
    · show (-1) * v_iv (n_v (vs ++ [Value.int x]) 17) + (1 * v_iv (n_v (vs ++ [Value.int x]) 3) + 0) ≤ 0
      simp only [e_3, e_17, q3]
      exact vc_Mo_spread_18_1 (v_iv (n_v vs 1)) (v_iv (n_v vs 3)) (v_iv (n_v vs 6)) (v_iv (n_v vs 7)) (v_iv (n_v vs 9)) (v_iv (n_v vs 13)) (v_iv (n_v vs 14)) (w_fi ws (n_v vs 0) 146) (w_fi ws (n_v vs 0) 147) (v_iv (Value.int x)) k1 k3 d5 d6 ex2
  have nf2 : fc_1 PRD (20, [2, 17, 4], [60, 2, 4, 495, 146, 147, 143, 140, 141, 142]) ws (vs ++ [Value.int x]) := by
    refine ⟨nf_inA hl rfl, sgq_704 ?_⟩
    · show RTQ (w_fi ws (n_v (vs ++ [Value.int x]) 2) 146) (w_fi ws (n_v (vs ++ [Value.int x]) 2) 147) (w_ei ws (w_ar ws (n_v (vs ++ [Value.int x]) 2) 143)) (w_ei ws (w_ar ws (n_v (vs ++ [Value.int x]) 2) 140)) (w_ei ws (w_ar ws (n_v (vs ++ [Value.int x]) 2) 141)) (w_ei ws (w_ar ws (n_v (vs ++ [Value.int x]) 2) 142)) (v_iv (n_v (vs ++ [Value.int x]) 17)) (v_iv (n_v (vs ++ [Value.int x]) 4))
      simp only [e_2, e_4, e_17, q2]
      exact vc_Mo_spread_18_2 (v_iv (n_v vs 1)) (v_iv (n_v vs 4)) (w_ei ws (w_ar ws (n_v vs 0) 140)) (w_ei ws (w_ar ws (n_v vs 0) 141)) (w_ei ws (w_ar ws (n_v vs 0) 142)) (w_fi ws (n_v vs 0) 146) (w_fi ws (n_v vs 0) 147) (w_ei ws (w_ar ws (n_v vs 0) 143)) (v_iv (Value.int x)) k1 k4 f11 kz_0_146 kz_0_147 ex2
  have nf3 : fc_1 PRD (20, [2, 14, 4], [60, 0, 1, 497, 140]) ws (vs ++ [Value.int x]) := by
    refine ⟨nf_inA hl rfl, sgq_706 ?_⟩
    · show PIV (w_ei ws (w_ar ws (n_v (vs ++ [Value.int x]) 2) 140)) (v_iv (n_v (vs ++ [Value.int x]) 14)) (v_iv (n_v (vs ++ [Value.int x]) 4))
      simp only [e_2, e_4, e_14, q2]
      exact vc_Mo_spread_18_3 (v_iv (n_v vs 4)) (v_iv (n_v vs 13)) (v_iv (n_v vs 14)) (v_iv (n_v vs 16)) (w_ei ws (w_ar ws (n_v vs 0) 140)) (w_ei ws (w_ar ws (n_v vs 0) 141)) k4 k13 k14 k16 d0 h1 h3
  have nf4 : fc_1 PRD (20, [14, 2], [50, 2, 0, 1146, 1147, 2, 6, 0, 2, 0, 0, 1, 0, 0, 6, 4, 2, 1, 0, 0, 1, 6, 2, 0, 4, 6, 3, 2, 1, 146, 2, 1, 147]) ws (vs ++ [Value.int x]) := by
    refine ⟨nf_inA hl rfl, sgq_1407 ?_⟩
    · show (0 ≤ v_iv (n_v (vs ++ [Value.int x]) 14)) ∧ ((v_iv (n_v (vs ++ [Value.int x]) 14) + 1) ≤ (4 * (w_fi ws (n_v (vs ++ [Value.int x]) 2) 146 * w_fi ws (n_v (vs ++ [Value.int x]) 2) 147)))
      simp only [e_2, e_14, q2]
      exact vc_Mo_spread_18_4 (v_iv (n_v vs 1)) (v_iv (n_v vs 4)) (v_iv (n_v vs 6)) (v_iv (n_v vs 7)) (v_iv (n_v vs 9)) (v_iv (n_v vs 12)) (v_iv (n_v vs 13)) (v_iv (n_v vs 14)) (v_iv (n_v vs 16)) (w_ei ws (w_ar ws (n_v vs 0) 140)) (w_ei ws (w_ar ws (n_v vs 0) 141)) (w_ei ws (w_ar ws (n_v vs 0) 142)) (w_fi ws (n_v vs 0) 146) (w_fi ws (n_v vs 0) 147) (w_ei ws (w_ar ws (n_v vs 0) 143)) k1 k4 k6 k7 k9 k12 k13 k14 k16 d0 d3 d4 h1 h3 f4 f5 h8 f11 f13 kz_0_146 kz_0_147
  have nf5 : fc_1 PRD (20, [4], [50, 0, 0, 2, 6, 0, 2, 0, 0, 1, 0, 0, 2, 1, 0, 0, 999999]) ws (vs ++ [Value.int x]) := by
    refine ⟨nf_inA hl rfl, sgq_1408 ?_⟩
    · show (0 ≤ v_iv (n_v (vs ++ [Value.int x]) 4)) ∧ (v_iv (n_v (vs ++ [Value.int x]) 4) ≤ 999999)
      rw [e_4]
      exact vc_Mo_spread_18_5 (v_iv (n_v vs 1)) (v_iv (n_v vs 4)) (v_iv (n_v vs 6)) (v_iv (n_v vs 7)) (v_iv (n_v vs 9)) (v_iv (n_v vs 12)) (v_iv (n_v vs 13)) (v_iv (n_v vs 14)) (v_iv (n_v vs 16)) (w_ei ws (w_ar ws (n_v vs 0) 140)) (w_ei ws (w_ar ws (n_v vs 0) 141)) (w_ei ws (w_ar ws (n_v vs 0) 142)) (w_fi ws (n_v vs 0) 146) (w_fi ws (n_v vs 0) 147) (w_ei ws (w_ar ws (n_v vs 0) 143)) k1 k4 k6 k7 k9 k12 k13 k14 k16 d0 d3 d4 h1 h3 f4 f5 h8 f11 f13 kz_0_146 kz_0_147
  have nf6 : fc_1 PRD (20, [17, 3], [50, 0, 0, 1, 2, 1, 0, 1, 1]) ws (vs ++ [Value.int x]) := by
    refine ⟨nf_inA hl rfl, sgq_48 ?_⟩
    · show v_iv (n_v (vs ++ [Value.int x]) 17) = v_iv (n_v (vs ++ [Value.int x]) 3)
      simp only [e_3, e_17, q3]
      exact vc_Mo_spread_18_6 (v_iv (n_v vs 1)) (v_iv (n_v vs 6)) (v_iv (n_v vs 7)) (v_iv (n_v vs 9)) (v_iv (n_v vs 13)) (v_iv (n_v vs 14)) (w_fi ws (n_v vs 0) 146) (w_fi ws (n_v vs 0) 147) (v_iv (Value.int x)) k1 ex2
  exact ⟨(fun _ h => (by cases h)), [Value.int x], ag_one hx, List.forall_mem_cons.mpr ⟨⟨show (23 : Nat) < 100 from by decide, nf0⟩, List.forall_mem_cons.mpr ⟨⟨show (23 : Nat) < 100 from by decide, nf1⟩, List.forall_mem_cons.mpr ⟨⟨show (20 : Nat) < 100 from by decide, nf2⟩, List.forall_mem_cons.mpr ⟨⟨show (20 : Nat) < 100 from by decide, nf3⟩, List.forall_mem_cons.mpr ⟨⟨show (20 : Nat) < 100 from by decide, nf4⟩, List.forall_mem_cons.mpr ⟨⟨show (20 : Nat) < 100 from by decide, nf5⟩, List.forall_mem_cons.mpr ⟨⟨show (20 : Nat) < 100 from by decide, nf6⟩, (fun _ h => (by cases h))⟩⟩⟩⟩⟩⟩⟩, (fun _ h => (by cases h))⟩
set_option maxHeartbeats 4000000 in
theorem vc_Mo_spread_19_0 (x1 : Int) (x3 : Int) (x4 : Int) (x17 : Int) (wide_0 : Int) (tall_0 : Int) (barredPoint_0 : Int → Int) (costOf_0 : Int → Int) (bucket_0 : Int → Int) (bucketMany_0 : Int → Int) (k1 : 0 ≤ x1 ∧ x1 ≤ 5999) (k3 : 0 ≤ x3 ∧ x3 ≤ 5999) (k4 : 0 ≤ x4 ∧ x4 ≤ 1000000) (k17 : 0 ≤ x17 ∧ x17 ≤ 5999) (d1 : x3 + (-4294967296) ≤ x1 ∧ x1 ≤ x3 + 0) (d2 : x1 + (-4294967296) ≤ x3 ∧ x3 ≤ x1 + 0) (f0 : 1 * x17 + ((-1) * x1 + 0) ≤ 0) (f1 : (-1) * x17 + (1 * x1 + 0) ≤ 0) (f11 : RTQ (wide_0) (tall_0) (barredPoint_0) (costOf_0) (bucket_0) (bucketMany_0) (x17) (x4)) (kz_0_146 : (-3999999) ≤ wide_0 ∧ wide_0 ≤ 600000023) (kz_0_147 : (-3999999) ≤ tall_0 ∧ tall_0 ≤ 600000007) : RTQ (wide_0) (tall_0) (barredPoint_0) (costOf_0) (bucket_0) (bucketMany_0) (x1) (x4) := by
  first
    | assumption
    | (rw [show x1 = x17 by omega]; assumption)
    | (rw [show x3 = x17 by omega]; assumption)
def o_Mo_spread_19 : or_T := (120, 19, [(0, (2, 0, 0, [165])), (1, (0, 0, 5999, [])), (3, (0, 0, 5999, [])), (4, (0, 0, 1000000, [])), (17, (0, 0, 5999, []))], [(23, [17, 3], [0, 1, -1]), (23, [17, 3], [0, -1, 1]), (24, [0, 2], []), (24, [1, 3], []), (20, [2, 17, 4], [60, 2, 4, 495, 146, 147, 143, 140, 141, 142])], [], [], [(20, [2, 3, 4], [60, 2, 4, 495, 146, 147, 143, 140, 141, 142])], [], [(1, 3, -4294967296, 0), (3, 1, -4294967296, 0)])
theorem oo_Mo_spread_19 {kA : Nat → ClassId} : or_ok PRD kA GG o_Mo_spread_19 := by
  refine or_mk fun A ta ws vs hD hth hl => ?_
  intro t0 r0 t1 k1 t3 k3 t4 k4 t17 k17 d1 d2 f0 f1 f9 f10 f11
  replace f0 := shm_7 f0
  replace f1 := shm_22 f1
  replace f9 := shm_5 f9
  replace f10 := shm_5 f10
  replace f11 := shm_704 f11
  have q2 : n_v vs 2 = n_v vs 0 := f9.symm
  have q3 : n_v vs 3 = n_v vs 1 := f10.symm
  simp only [q3, q2] at f0 f1 f11
  have kz_0_146 := fdq_179 hD hth r0
  have kz_0_147 := fdq_180 hD hth r0
  have nf0 : fc_1 PRD (20, [2, 3, 4], [60, 2, 4, 495, 146, 147, 143, 140, 141, 142]) ws (vs) := by
    refine ⟨nf_in hl rfl, sgq_704 ?_⟩
    · show RTQ (w_fi ws (n_v vs 2) 146) (w_fi ws (n_v vs 2) 147) (w_ei ws (w_ar ws (n_v vs 2) 143)) (w_ei ws (w_ar ws (n_v vs 2) 140)) (w_ei ws (w_ar ws (n_v vs 2) 141)) (w_ei ws (w_ar ws (n_v vs 2) 142)) (v_iv (n_v vs 3)) (v_iv (n_v vs 4))
      simp only [q2, q3]
      exact vc_Mo_spread_19_0 (v_iv (n_v vs 1)) (v_iv (n_v vs 3)) (v_iv (n_v vs 4)) (v_iv (n_v vs 17)) (w_fi ws (n_v vs 0) 146) (w_fi ws (n_v vs 0) 147) (w_ei ws (w_ar ws (n_v vs 0) 143)) (w_ei ws (w_ar ws (n_v vs 0) 140)) (w_ei ws (w_ar ws (n_v vs 0) 141)) (w_ei ws (w_ar ws (n_v vs 0) 142)) k1 k3 k4 k17 d1 d2 f0 f1 f11 kz_0_146 kz_0_147
  refine ⟨(fun _ h => (by cases h)), [], trivial, ?_, (fun _ h => (by cases h))⟩
  rw [List.append_nil]
  exact List.forall_mem_cons.mpr ⟨⟨show (20 : Nat) < 100 from by decide, nf0⟩, (fun _ h => (by cases h))⟩
def n_Mo_spread_an : List an_T := [(2, [(0, (2, 0, 0, [165])), (1, (0, 0, 5999, [])), (2, (0, 0, 24000, []))], [], (0, 0), [(0, 0, 99998), (1, 4, 24000), (0, 0, 100000), (0, 0, 0), (0, 0, 0)], [(1, 3, (Int.negSucc 999999999999), 0), (3, 1, (Int.negSucc 999999999999), 0)], [], [(2, 0, 0, [165]), (0, 0, 5999, [])], 0, [], [(20, [2], [60, 2, 0, 494, 146, 147]), (20, [3, 2], [50, 2, 0, 1146, 1147, 2, 6, 0, 2, 0, 0, 1, 0, 0, 6, 4, 2, 1, 0, 0, 1, 6, 3, 2, 1, 146, 2, 1, 147]), (20, [2, 4], [60, 0, 1, 501, 140]), (24, [0, 2], []), (24, [1, 3], [])]), (34, [(0, (2, 0, 0, [165])), (1, (0, 0, 5999, [])), (2, (0, 0, 4, []))], [], (0, 0), [(0, 0, 99966), (1, 4, 4), (0, 0, 100000), (0, 0, 0), (0, 0, 0)], [(1, 3, (Int.negSucc 999999999999), 0), (3, 1, (Int.negSucc 999999999999), 0)], [], [(2, 0, 0, [165]), (0, 0, 5999, [])], 0, [], [(20, [2], [60, 2, 0, 494, 146, 147]), (20, [3, 2], [50, 2, 0, 1146, 1147, 2, 6, 0, 2, 0, 0, 1, 0, 0, 6, 4, 2, 1, 0, 0, 1, 6, 3, 2, 1, 146, 2, 1, 147]), (20, [2], [60, 2, 1, 502, 146, 147, 140]), (20, [2, 4], [60, 0, 1, 503, 142]), (24, [0, 2], []), (24, [1, 3], [])]), (64, [(0, (2, 0, 0, [165])), (1, (0, 0, 5999, [])), (2, (0, 0, 4, []))], [], (0, 0), [(0, 0, 99936), (1, 4, 4), (0, 0, 100000), (0, 0, 0), (0, 0, 0)], [(1, 3, (Int.negSucc 999999999999), 0), (3, 1, (Int.negSucc 999999999999), 0)], [], [(2, 0, 0, [165]), (0, 0, 5999, [])], 0, [], [(20, [3, 2], [50, 2, 0, 1146, 1147, 2, 6, 0, 2, 0, 0, 1, 0, 0, 6, 4, 2, 1, 0, 0, 1, 6, 3, 2, 1, 146, 2, 1, 147]), (20, [2, 3], [60, 2, 4, 496, 146, 147, 143, 140, 141, 142]), (20, [2, 3], [50, 0, 1, 143, 1, 5, 3, 0, 143, 1, 1, 0, 0]), (24, [0, 2], []), (24, [1, 3], [])]), (89, [(0, (2, 0, 0, [165])), (1, (0, 0, 5999, [])), (2, (0, 0, 1000004, [])), (3, (0, 0, 4, []))], [], (0, 0), [(0, 0, 99911), (1, 4, 1000004), (0, 0, 100000), (0, 0, 0), (0, 0, 0)], [(1, 3, (Int.negSucc 999999999999), 0), (3, 1, (Int.negSucc 999999999999), 0), (5, 4, (Int.negSucc 999999999999), 0)], [], [(2, 0, 0, [165]), (0, 0, 5999, [])], 0, [], [(20, [3, 2], [50, 2, 0, 1146, 1147, 2, 6, 0, 2, 0, 0, 1, 0, 0, 6, 4, 2, 1, 0, 0, 1, 6, 3, 2, 1, 146, 2, 1, 147]), (20, [2, 3, 4], [60, 2, 4, 495, 146, 147, 143, 140, 141, 142]), (20, [5, 4], [50, 0, 0, 2, 6, 0, 2, 0, 0, 1, 0, 0, 6, 5, 2, 1, 1, 1, 0, 0, 1000000]), (24, [0, 2], []), (24, [1, 3], [])]), (120, [(0, (2, 0, 0, [165])), (1, (0, 0, 5999, [])), (2, (0, 0, 1000004, [])), (3, (0, 0, 4, [])), (4, (0, 0, 3, [])), (5, (0, 0, 24000, []))], [], (0, 0), [(0, 0, 99911), (1, 4, 1000004), (0, 0, 99880), (1, 7, 24000), (0, 0, 100000)], [(1, 3, (Int.negSucc 999999999999), 0), (3, 1, (Int.negSucc 999999999999), 0), (5, 4, (Int.negSucc 999999999999), 1)], [], [(2, 0, 0, [165]), (0, 0, 5999, [])], 0, [], [(20, [3, 2], [50, 2, 0, 1146, 1147, 2, 6, 0, 2, 0, 0, 1, 0, 0, 6, 4, 2, 1, 0, 0, 1, 6, 3, 2, 1, 146, 2, 1, 147]), (20, [2, 3, 4], [60, 2, 4, 495, 146, 147, 143, 140, 141, 142]), (20, [5, 4], [50, 0, 0, 2, 6, 0, 2, 0, 0, 1, 0, 0, 10, 5, 6, 4, 2, 1, 1, 0, 1, 1, 0, 0, 1000000]), (20, [6, 4], [50, 0, 0, 1, 2, 1, 0, 9, 2, 1, 1, 0, 4]), (20, [4], [50, 0, 0, 0, 2, 1, 0, 0, 1000003]), (24, [0, 2], []), (24, [1, 3], [])])]
def t_Mo_spread_ct : ct_L := [(1, 1073, e_Mo_backFrom), (232, 1070, e_Mo_reached_at_gi)]
set_option maxRecDepth 100000 in
theorem c_Mo_spread {l : Launch} {D : va_G} {kA : Nat → ClassId} (h_Mo_backFrom : ct_ok PRD l D kA GG y_Mo_backFrom z_Mo_backFrom e_Mo_backFrom) (h_Mo_reached_at_gi : ct_ok PRD l D kA GG y_Mo_reached_at_gi z_Mo_reached_at_gi e_Mo_reached_at_gi) : ct_ok PRD l D kA GG y_Mo_spread z_Mo_spread e_Mo_spread := chk_all_ok (FT := [(317, 13, 140), (321, 13, 141), (324, 13, 142), (327, 13, 143), (1043, 13, 146), (1046, 13, 147)]) (PT := []) (CT := t_Mo_spread_ct) (KT := [(1, 546, .int (1000000), (0, 1000000, 1000000, []))]) (NT := []) (AN := n_Mo_spread_an) (OT := [o_Mo_spread_0, o_Mo_spread_1, o_Mo_spread_2, o_Mo_spread_3, o_Mo_spread_4, o_Mo_spread_5, o_Mo_spread_6, o_Mo_spread_7, o_Mo_spread_8, o_Mo_spread_9, o_Mo_spread_10, o_Mo_spread_11, o_Mo_spread_12, o_Mo_spread_13, o_Mo_spread_14, o_Mo_spread_15, o_Mo_spread_16, o_Mo_spread_17, o_Mo_spread_18, o_Mo_spread_19]) 5 460 (List.forall_mem_cons.mpr ⟨oo_Mo_spread_0, List.forall_mem_cons.mpr ⟨oo_Mo_spread_1, List.forall_mem_cons.mpr ⟨oo_Mo_spread_2, List.forall_mem_cons.mpr ⟨oo_Mo_spread_3, List.forall_mem_cons.mpr ⟨oo_Mo_spread_4, List.forall_mem_cons.mpr ⟨oo_Mo_spread_5, List.forall_mem_cons.mpr ⟨oo_Mo_spread_6, List.forall_mem_cons.mpr ⟨oo_Mo_spread_7, List.forall_mem_cons.mpr ⟨oo_Mo_spread_8, List.forall_mem_cons.mpr ⟨oo_Mo_spread_9, List.forall_mem_cons.mpr ⟨oo_Mo_spread_10, List.forall_mem_cons.mpr ⟨oo_Mo_spread_11, List.forall_mem_cons.mpr ⟨oo_Mo_spread_12, List.forall_mem_cons.mpr ⟨oo_Mo_spread_13, List.forall_mem_cons.mpr ⟨oo_Mo_spread_14, List.forall_mem_cons.mpr ⟨oo_Mo_spread_15, List.forall_mem_cons.mpr ⟨oo_Mo_spread_16, List.forall_mem_cons.mpr ⟨oo_Mo_spread_17, List.forall_mem_cons.mpr ⟨oo_Mo_spread_18, List.forall_mem_cons.mpr ⟨oo_Mo_spread_19, List.forall_mem_nil _⟩⟩⟩⟩⟩⟩⟩⟩⟩⟩⟩⟩⟩⟩⟩⟩⟩⟩⟩⟩) (by decide +kernel) ⟨List.forall_mem_cons.mpr ⟨gf_Mo_317, List.forall_mem_cons.mpr ⟨gf_Mo_321, List.forall_mem_cons.mpr ⟨gf_Mo_324, List.forall_mem_cons.mpr ⟨gf_Mo_327, List.forall_mem_cons.mpr ⟨gf_Mo_1043, List.forall_mem_cons.mpr ⟨gf_Mo_1046, List.forall_mem_nil _⟩⟩⟩⟩⟩⟩, List.forall_mem_nil _, List.forall_mem_cons.mpr ⟨cl_virtual (y := y_Mo_backFrom) (ci := 13) rfl rfl ⟨_, _, rfl⟩ (by decide +kernel) h_Mo_backFrom wm_3700 wm_9 wm_3697 wm_3699 wv_22_4 ⟨by decide, by decide, by decide +kernel⟩ (by decide), List.forall_mem_cons.mpr ⟨cl_virtual (y := y_Mo_reached_at_gi) (ci := 13) rfl rfl ⟨_, _, rfl⟩ (by decide +kernel) h_Mo_reached_at_gi wm_3696 wm_9 wm_3693 wm_3695 wv_22_3 ⟨by decide, by decide, by decide +kernel⟩ (by decide), List.forall_mem_nil _⟩⟩, List.forall_mem_cons.mpr ⟨kx_Mo_1_546, List.forall_mem_nil _⟩, List.forall_mem_nil _, GG_pl⟩ (by decide +kernel)
set_option maxHeartbeats 4000000 in
theorem vc_Em_findWay_at_gn_0_r0 (x2 : Int) (x3 : Int) (pieceEnds_0 : Int) (pieceNodes_0 : Int) (k2 : 0 ≤ x2 ∧ x2 ≤ 33554431) (k3 : 0 ≤ x3 ∧ x3 ≤ 63) (f0 : LOW (x2) (x3)) (g1 : x2 = pieceEnds_0) (f2 : PEN (pieceNodes_0) (pieceEnds_0)) (kz_0_16 : 0 ≤ pieceNodes_0 ∧ pieceNodes_0 ≤ 33554431) (kz_0_17 : 0 ≤ pieceEnds_0 ∧ pieceEnds_0 ≤ 33554431) : 0 ≤ x3 ∧ x3 ≤ 24 := by
  first
    | (have h := (‹PEN _ _› : PEN pieceNodes_0 pieceEnds_0); rw [← ‹x2 = pieceEnds_0›] at h; have q := pen_low h (‹LOW _ _› : LOW x2 x3) (by omega) (by omega); omega)
def o_Em_findWay_at_gn_0 : or_T := (7, 4, [(0, (2, 0, 0, [1])), (1, (2, 0, 0, [5])), (2, (0, 0, 33554431, [])), (3, (0, 0, 63, []))], [(20, [2, 3], [61, 0, 555]), (9, [2, 0], [17]), (20, [0], [60, 2, 0, 576, 16, 17]), (20, [1], [60, 1, 1, 575, 5, 9]), (20, [0, 1], [60, 3, 0, 610, 16, 6, 1005])], [(3, (0, 0, 24, []))], [], [], [], [])
theorem oo_Em_findWay_at_gn_0 {kA : Nat → ClassId} : or_ok PRD kA GG o_Em_findWay_at_gn_0 := by
  refine or_mk fun A ta ws vs hD hth hl => ?_
  intro t0 r0 t1 r1 t2 k2 t3 k3 f0 f1 f2 f3 f4
  replace f1 := shm_795 f1
  have g1 : v_iv (n_v vs 2) = w_fi ws (n_v vs 0) 17 := congrArg v_iv f1
  have kz_0_16 := fdq_284 hD hth r0
  have kz_0_17 := fdq_285 hD hth r0
  have hrf0 : 0 ≤ v_iv (n_v vs 3) ∧ v_iv (n_v vs 3) ≤ 24 := vc_Em_findWay_at_gn_0_r0 (v_iv (n_v vs 2)) (v_iv (n_v vs 3)) (w_fi ws (n_v vs 0) 17) (w_fi ws (n_v vs 0) 16) k2 k3 (shm_810 f0) g1 (shm_1596 f2) kz_0_16 kz_0_17
  have rf3 : tv_ok ta (0, 0, 24, []) (n_v vs 3) := tv_in t3 (by first | omega | grind) (by first | omega | grind)
  refine ⟨List.forall_mem_cons.mpr ⟨rf3, (fun _ h => (by cases h))⟩, [], trivial, ?_, (fun _ h => (by cases h))⟩
  rw [List.append_nil]
  exact (fun _ h => (by cases h))
set_option maxHeartbeats 4000000 in
theorem vc_Em_findWay_at_gn_1_0 (x11 : Int) (nodes_0o1 : Int) (near_0o1 : Int → Int) (k11 : 0 ≤ x11 ∧ x11 ≤ 24) (g1 : x11 = nodes_0o1) (f10 : SYE (nodes_0o1) (near_0o1)) (kz_1_5 : 0 ≤ nodes_0o1 ∧ nodes_0o1 ≤ 24) : SYMN (near_0o1) (x11) := by
  first
    | (rw [‹x11 = nodes_0o1›]; exact ‹SYE _ _›)
  
set_option maxHeartbeats 4000000 in
theorem vc_Em_findWay_at_gn_1_1 (x9 : Int) (x11 : Int) (pieceNodes_0 : Int) (nodes_0o1 : Int) (drawnNodes_0 : Int) (k9 : 1 ≤ x9 ∧ x9 ≤ 33554431) (k11 : 0 ≤ x11 ∧ x11 ≤ 24) (g0 : x9 = pieceNodes_0) (g1 : x11 = nodes_0o1) (f11 : PKD (pieceNodes_0) (drawnNodes_0) (nodes_0o1)) (kz_0_6 : 0 ≤ drawnNodes_0 ∧ drawnNodes_0 ≤ 33554431) (kz_0_16 : 0 ≤ pieceNodes_0 ∧ pieceNodes_0 ≤ 33554431) (kz_1_5 : 0 ≤ nodes_0o1 ∧ nodes_0o1 ≤ 24) : FRN (x11) (x9) := by
  first
    | (rw [‹x11 = nodes_0o1›, ‹x9 = pieceNodes_0›]; exact (‹PKD _ _ _›).1)
  
def o_Em_findWay_at_gn_1 : or_T := (80, 14, [(0, (2, 0, 0, [1])), (1, (2, 0, 0, [5])), (9, (0, 1, 33554431, [])), (11, (0, 0, 24, []))], [(9, [9, 0], [16]), (9, [11, 1], [5]), (9, [10, 1], [9]), (20, [1], [60, 1, 1, 575, 5, 9]), (20, [0, 1], [60, 3, 0, 610, 16, 6, 1005])], [], [], [(20, [10, 11], [61, 1, 560]), (20, [11, 9], [61, 0, 561])], [], [])
theorem oo_Em_findWay_at_gn_1 {kA : Nat → ClassId} : or_ok PRD kA GG o_Em_findWay_at_gn_1 := by
  refine or_mk fun A ta ws vs hD hth hl => ?_
  intro t0 r0 t1 r1 t9 k9 t11 k11 f0 f1 f2 f10 f11
  replace f0 := shm_176 f0
  replace f1 := shm_110 f1
  replace f2 := shm_119 f2
  replace f10 := shm_1597 f10
  replace f11 := shm_1598 f11
  have ad_10 : v_ad (n_v vs 10) = w_ar ws (n_v vs 1) 9 := congrArg v_ad f2
  have g0 : v_iv (n_v vs 9) = w_fi ws (n_v vs 0) 16 := congrArg v_iv f0
  have g1 : v_iv (n_v vs 11) = w_fi ws (n_v vs 1) 5 := congrArg v_iv f1
  have kz_0_6 := fdq_53 hD hth r0
  have kz_0_16 := fdq_284 hD hth r0
  have kz_1_5 := fdq_82 hD hth r1
  have nf0 : fc_1 PRD (20, [10, 11], [61, 1, 560]) ws (vs) := by
    refine ⟨nf_in hl rfl, sgq_1180 ?_⟩
    · show SYMN (w_ei ws (v_ad (n_v vs 10))) (v_iv (n_v vs 11))
      rw [ad_10]
      exact vc_Em_findWay_at_gn_1_0 (v_iv (n_v vs 11)) (w_fi ws (n_v vs 1) 5) (w_ei ws (w_ar ws (n_v vs 1) 9)) k11 g1 f10 kz_1_5
  have nf1 : fc_1 PRD (20, [11, 9], [61, 0, 561]) ws (vs) := ⟨nf_in hl rfl, sgq_1181 (vc_Em_findWay_at_gn_1_1 (v_iv (n_v vs 9)) (v_iv (n_v vs 11)) (w_fi ws (n_v vs 0) 16) (w_fi ws (n_v vs 1) 5) (w_fi ws (n_v vs 0) 6) k9 k11 g0 g1 f11 kz_0_6 kz_0_16 kz_1_5)⟩
  refine ⟨(fun _ h => (by cases h)), [], trivial, ?_, (fun _ h => (by cases h))⟩
  rw [List.append_nil]
  exact List.forall_mem_cons.mpr ⟨⟨show (20 : Nat) < 100 from by decide, nf0⟩, List.forall_mem_cons.mpr ⟨⟨show (20 : Nat) < 100 from by decide, nf1⟩, (fun _ h => (by cases h))⟩⟩
set_option maxHeartbeats 4000000 in
theorem vc_Em_findWay_at_gn_2_0 (x9 : Int) (x14 : Int) (pieceNodes_0 : Int) (wayLength_0 : Int) (drawnNodes_0 : Int) (way_0 : Int → Int) (k14 : 0 ≤ x14 ∧ x14 ≤ 1) (g6 : x14 = wayLength_0) (kz_0_6 : 0 ≤ drawnNodes_0 ∧ drawnNodes_0 ≤ 33554431) (kz_0_15 : 0 ≤ wayLength_0 ∧ wayLength_0 ≤ 27) : WYN (drawnNodes_0) (wayLength_0) (way_0) := by
  first
    | exact wyn_two (by omega)
set_option maxHeartbeats 4000000 in
theorem vc_Em_findWay_at_gn_2_1 (x2 : Int) (x3 : Int) (x8 : Int) (x9 : Int) (x16 : Int) (pieceNodes_0 : Int) (pieceEnds_0 : Int) (wayLength_0 : Int) (cycles_0 : Int) (k16 : 0 ≤ x16 ∧ x16 ≤ 0) (kz_0_7 : 0 ≤ cycles_0 ∧ cycles_0 ≤ 50) (kz_0_15 : 0 ≤ wayLength_0 ∧ wayLength_0 ≤ 27) : (x16 = 0) ∨ ((2 ≤ wayLength_0) ∧ ((cycles_0 + 1) ≤ 50)) := by
  first
    | omega
def o_Em_findWay_at_gn_2 : or_T := (112, 17, [(0, (2, 0, 0, [1])), (14, (0, 0, 1, [])), (16, (0, 0, 0, []))], [(9, [14, 0], [15])], [], [], [(20, [0], [60, 2, 1, 613, 6, 15, 14]), (20, [16, 0], [50, 2, 0, 1015, 1007, 3, 6, 1, 2, 1, 0, 0, 0, 2, 7, 0, 2, 0, 2, 2, 1, 15, 0, 7, 4, 3, 2, 1, 7, 0, 1, 0, 50])], [], [])
theorem oo_Em_findWay_at_gn_2 {kA : Nat → ClassId} : or_ok PRD kA GG o_Em_findWay_at_gn_2 := by
  refine or_mk fun A ta ws vs hD hth hl => ?_
  intro t0 r0 t14 k14 t16 k16 f6
  replace f6 := shm_177 f6
  have g6 : v_iv (n_v vs 14) = w_fi ws (n_v vs 0) 15 := congrArg v_iv f6
  have kz_0_6 := fdq_53 hD hth r0
  have kz_0_7 := fdq_49 hD hth r0
  have kz_0_15 := fdq_54 hD hth r0
  have nf0 : fc_1 PRD (20, [0], [60, 2, 1, 613, 6, 15, 14]) ws (vs) := ⟨nf_in hl rfl, sgq_801 (vc_Em_findWay_at_gn_2_0 (v_iv (n_v vs 9)) (v_iv (n_v vs 14)) (w_fi ws (n_v vs 0) 16) (w_fi ws (n_v vs 0) 15) (w_fi ws (n_v vs 0) 6) (w_ei ws (w_ar ws (n_v vs 0) 14)) k14 g6 kz_0_6 kz_0_15)⟩
  have nf1 : fc_1 PRD (20, [16, 0], [50, 2, 0, 1015, 1007, 3, 6, 1, 2, 1, 0, 0, 0, 2, 7, 0, 2, 0, 2, 2, 1, 15, 0, 7, 4, 3, 2, 1, 7, 0, 1, 0, 50]) ws (vs) := ⟨nf_in hl rfl, sgq_1599 (vc_Em_findWay_at_gn_2_1 (v_iv (n_v vs 2)) (v_iv (n_v vs 3)) (v_iv (n_v vs 8)) (v_iv (n_v vs 9)) (v_iv (n_v vs 16)) (w_fi ws (n_v vs 0) 16) (w_fi ws (n_v vs 0) 17) (w_fi ws (n_v vs 0) 15) (w_fi ws (n_v vs 0) 7) k16 kz_0_7 kz_0_15)⟩
  refine ⟨(fun _ h => (by cases h)), [], trivial, ?_, (fun _ h => (by cases h))⟩
  rw [List.append_nil]
  exact List.forall_mem_cons.mpr ⟨⟨show (20 : Nat) < 100 from by decide, nf0⟩, List.forall_mem_cons.mpr ⟨⟨show (20 : Nat) < 100 from by decide, nf1⟩, (fun _ h => (by cases h))⟩⟩
set_option maxHeartbeats 4000000 in
theorem vc_Em_findWay_at_gn_3_0 (x3 : Int) (x8 : Int) (x9 : Int) (x11 : Int) (x14 : Int) (nodes_0o1 : Int) (pieceNodes_0 : Int) (wayLength_0 : Int) (drawnNodes_0 : Int) (way_0 : Int → Int) (k3 : 0 ≤ x3 ∧ x3 ≤ 24) (k8 : 0 ≤ x8 ∧ x8 ≤ 33554431) (k9 : 1 ≤ x9 ∧ x9 ≤ 33554431) (k11 : 0 ≤ x11 ∧ x11 ≤ 24) (k14 : 2 ≤ x14 ∧ x14 ≤ 25) (g1 : x11 = nodes_0o1) (g3 : x9 = pieceNodes_0) (g8 : x14 = wayLength_0) (f14 : PKD (pieceNodes_0) (drawnNodes_0) (nodes_0o1)) (f15 : SHW (way_0) (x3) (x8) (x9) (x14)) (kz_0_6 : 0 ≤ drawnNodes_0 ∧ drawnNodes_0 ≤ 33554431) (kz_0_15 : 0 ≤ wayLength_0 ∧ wayLength_0 ≤ 27) (kz_0_16 : 0 ≤ pieceNodes_0 ∧ pieceNodes_0 ≤ 33554431) (kz_1_5 : 0 ≤ nodes_0o1 ∧ nodes_0o1 ≤ 24) : WYN (drawnNodes_0) (wayLength_0) (way_0) := by
  first
    | (have hk := (‹PKD _ _ _›); rw [show pieceNodes_0 = x9 by omega] at hk; exact wyn_of ‹SHW _ _ _ _ _› hk (by omega) (by omega))
set_option maxHeartbeats 4000000 in
theorem vc_Em_findWay_at_gn_3_1 (x2 : Int) (x3 : Int) (x8 : Int) (x9 : Int) (x14 : Int) (x18 : Int) (pieceNodes_0 : Int) (pieceEnds_0 : Int) (cycles_0 : Int) (wayLength_0 : Int) (k14 : 2 ≤ x14 ∧ x14 ≤ 25) (k18 : 0 ≤ x18 ∧ x18 ≤ 0) (g8 : x14 = wayLength_0) (kz_0_7 : 0 ≤ cycles_0 ∧ cycles_0 ≤ 50) (kz_0_15 : 0 ≤ wayLength_0 ∧ wayLength_0 ≤ 27) : (x18 = 0) ∨ ((2 ≤ wayLength_0) ∧ ((cycles_0 + 1) ≤ 50)) := by
  first
    | omega
def o_Em_findWay_at_gn_3 : or_T := (112, 19, [(0, (2, 0, 0, [1])), (1, (2, 0, 0, [5])), (2, (0, 0, 33554431, [])), (3, (0, 0, 24, [])), (8, (0, 0, 33554431, [])), (9, (0, 1, 33554431, [])), (10, (2, 0, 0, [82])), (11, (0, 0, 24, [])), (13, (2, 0, 0, [35])), (14, (0, 2, 25, [])), (15, (0, 2, 2, [])), (16, (0, 50, 50, [])), (17, (0, 50, 50, [])), (18, (0, 0, 0, []))], [(9, [13, 0], [14]), (9, [11, 1], [5]), (9, [10, 1], [9]), (9, [9, 0], [16]), (9, [2, 0], [17]), (7, [16, 17], [3]), (9, [16, 0], [7]), (7, [14, 15], [3]), (9, [14, 0], [15]), (20, [10, 11], [61, 1, 560]), (20, [11, 9], [61, 0, 561]), (20, [2, 3], [61, 0, 555]), (20, [0], [60, 2, 0, 576, 16, 17]), (20, [1], [60, 1, 1, 575, 5, 9]), (20, [0, 1], [60, 3, 0, 610, 16, 6, 1005]), (20, [13, 3, 8, 9, 14], [61, 1, 564]), (20, [10, 11, 3, 8, 9, 14], [61, 1, 899]), (102, [14], [134217728]), (101, [0, 14], [15]), (102, [13], [51539607552]), (8, [9], [1])], [], [], [(20, [0], [60, 2, 1, 613, 6, 15, 14]), (20, [18, 0], [50, 2, 0, 1015, 1007, 3, 6, 1, 2, 1, 0, 0, 0, 2, 7, 0, 2, 0, 2, 2, 1, 15, 0, 7, 4, 3, 2, 1, 7, 0, 1, 0, 50])], [], [])
theorem oo_Em_findWay_at_gn_3 {kA : Nat → ClassId} : or_ok PRD kA GG o_Em_findWay_at_gn_3 := by
  refine or_mk fun A ta ws vs hD hth hl => ?_
  intro t0 r0 t1 r1 t2 k2 t3 k3 t8 k8 t9 k9 t10 r10 t11 k11 t13 r13 t14 k14 t15 k15 t16 k16 t17 k17 t18 k18 f0 f1 f2 f3 f4 f5 f6 f7 f8 f9 f10 f11 f12 f13 f14 f15 f16 ta1 w1 le1 s1 ta2 w2 le2 s2 ta3 w3 le3 s3 f20
  replace f0 := shm_115 f0
  replace f1 := shm_110 f1
  replace f2 := shm_119 f2
  replace f3 := shm_176 f3
  replace f8 := shm_177 f8
  replace f15 := shm_1187 f15
  have ad_13 : v_ad (n_v vs 13) = w_ar ws (n_v vs 0) 14 := congrArg v_ad f0
  have ad_10 : v_ad (n_v vs 10) = w_ar ws (n_v vs 1) 9 := congrArg v_ad f2
  have g1 : v_iv (n_v vs 11) = w_fi ws (n_v vs 1) 5 := congrArg v_iv f1
  have g3 : v_iv (n_v vs 9) = w_fi ws (n_v vs 0) 16 := congrArg v_iv f3
  have g8 : v_iv (n_v vs 14) = w_fi ws (n_v vs 0) 15 := congrArg v_iv f8
  simp only [ad_10, ad_13] at f15
  have kz_0_6 := fdq_53 hD hth r0
  have kz_0_7 := fdq_49 hD hth r0
  have kz_0_15 := fdq_54 hD hth r0
  have kz_0_16 := fdq_284 hD hth r0
  have kz_1_5 := fdq_82 hD hth r1
  have nf0 : fc_1 PRD (20, [0], [60, 2, 1, 613, 6, 15, 14]) ws (vs) := ⟨nf_in hl rfl, sgq_801 (vc_Em_findWay_at_gn_3_0 (v_iv (n_v vs 3)) (v_iv (n_v vs 8)) (v_iv (n_v vs 9)) (v_iv (n_v vs 11)) (v_iv (n_v vs 14)) (w_fi ws (n_v vs 1) 5) (w_fi ws (n_v vs 0) 16) (w_fi ws (n_v vs 0) 15) (w_fi ws (n_v vs 0) 6) (w_ei ws (w_ar ws (n_v vs 0) 14)) k3 k8 k9 k11 k14 g1 g3 g8 (shm_1598 f14) f15 kz_0_6 kz_0_15 kz_0_16 kz_1_5)⟩
  have nf1 : fc_1 PRD (20, [18, 0], [50, 2, 0, 1015, 1007, 3, 6, 1, 2, 1, 0, 0, 0, 2, 7, 0, 2, 0, 2, 2, 1, 15, 0, 7, 4, 3, 2, 1, 7, 0, 1, 0, 50]) ws (vs) := ⟨nf_in hl rfl, sgq_1599 (vc_Em_findWay_at_gn_3_1 (v_iv (n_v vs 2)) (v_iv (n_v vs 3)) (v_iv (n_v vs 8)) (v_iv (n_v vs 9)) (v_iv (n_v vs 14)) (v_iv (n_v vs 18)) (w_fi ws (n_v vs 0) 16) (w_fi ws (n_v vs 0) 17) (w_fi ws (n_v vs 0) 7) (w_fi ws (n_v vs 0) 15) k14 k18 g8 kz_0_7 kz_0_15)⟩
  refine ⟨(fun _ h => (by cases h)), [], trivial, ?_, (fun _ h => (by cases h))⟩
  rw [List.append_nil]
  exact List.forall_mem_cons.mpr ⟨⟨show (20 : Nat) < 100 from by decide, nf0⟩, List.forall_mem_cons.mpr ⟨⟨show (20 : Nat) < 100 from by decide, nf1⟩, (fun _ h => (by cases h))⟩⟩
set_option maxHeartbeats 4000000 in
theorem vc_Em_findWay_at_gn_4_0 (x3 : Int) (x8 : Int) (x9 : Int) (x11 : Int) (x14 : Int) (nodes_0o1 : Int) (pieceNodes_0 : Int) (wayLength_0 : Int) (drawnNodes_0 : Int) (way_0 : Int → Int) (k3 : 0 ≤ x3 ∧ x3 ≤ 24) (k8 : 0 ≤ x8 ∧ x8 ≤ 33554431) (k9 : 1 ≤ x9 ∧ x9 ≤ 33554431) (k11 : 0 ≤ x11 ∧ x11 ≤ 24) (k14 : 2 ≤ x14 ∧ x14 ≤ 25) (g1 : x11 = nodes_0o1) (g3 : x9 = pieceNodes_0) (g8 : x14 = wayLength_0) (f14 : PKD (pieceNodes_0) (drawnNodes_0) (nodes_0o1)) (f15 : SHW (way_0) (x3) (x8) (x9) (x14)) (kz_0_6 : 0 ≤ drawnNodes_0 ∧ drawnNodes_0 ≤ 33554431) (kz_0_15 : 0 ≤ wayLength_0 ∧ wayLength_0 ≤ 27) (kz_0_16 : 0 ≤ pieceNodes_0 ∧ pieceNodes_0 ≤ 33554431) (kz_1_5 : 0 ≤ nodes_0o1 ∧ nodes_0o1 ≤ 24) : WYN (drawnNodes_0) (wayLength_0) (way_0) := by
  first
    | (have hk := (‹PKD _ _ _›); rw [show pieceNodes_0 = x9 by omega] at hk; exact wyn_of ‹SHW _ _ _ _ _› hk (by omega) (by omega))
set_option maxHeartbeats 4000000 in
theorem vc_Em_findWay_at_gn_4_1 (x2 : Int) (x3 : Int) (x8 : Int) (x9 : Int) (x14 : Int) (x16 : Int) (x18 : Int) (pieceNodes_0 : Int) (pieceEnds_0 : Int) (cycles_0 : Int) (wayLength_0 : Int) (k14 : 2 ≤ x14 ∧ x14 ≤ 25) (k16 : 0 ≤ x16 ∧ x16 ≤ 49) (k18 : 1 ≤ x18 ∧ x18 ≤ 1) (g6 : x16 = cycles_0) (g8 : x14 = wayLength_0) (kz_0_7 : 0 ≤ cycles_0 ∧ cycles_0 ≤ 50) (kz_0_15 : 0 ≤ wayLength_0 ∧ wayLength_0 ≤ 27) : (x18 = 0) ∨ ((2 ≤ wayLength_0) ∧ ((cycles_0 + 1) ≤ 50)) := by
  first
    | omega
def o_Em_findWay_at_gn_4 : or_T := (112, 19, [(0, (2, 0, 0, [1])), (1, (2, 0, 0, [5])), (2, (0, 0, 33554431, [])), (3, (0, 0, 24, [])), (8, (0, 0, 33554431, [])), (9, (0, 1, 33554431, [])), (10, (2, 0, 0, [82])), (11, (0, 0, 24, [])), (13, (2, 0, 0, [35])), (14, (0, 2, 25, [])), (15, (0, 2, 2, [])), (16, (0, 0, 49, [])), (17, (0, 50, 50, [])), (18, (0, 1, 1, []))], [(9, [13, 0], [14]), (9, [11, 1], [5]), (9, [10, 1], [9]), (9, [9, 0], [16]), (9, [2, 0], [17]), (7, [16, 17], [2]), (9, [16, 0], [7]), (7, [14, 15], [3]), (9, [14, 0], [15]), (20, [10, 11], [61, 1, 560]), (20, [11, 9], [61, 0, 561]), (20, [2, 3], [61, 0, 555]), (20, [0], [60, 2, 0, 576, 16, 17]), (20, [1], [60, 1, 1, 575, 5, 9]), (20, [0, 1], [60, 3, 0, 610, 16, 6, 1005]), (20, [13, 3, 8, 9, 14], [61, 1, 564]), (20, [10, 11, 3, 8, 9, 14], [61, 1, 899]), (102, [14], [134217728]), (101, [0, 14], [15]), (102, [13], [51539607552]), (8, [9], [1])], [], [], [(20, [0], [60, 2, 1, 613, 6, 15, 14]), (20, [18, 0], [50, 2, 0, 1015, 1007, 3, 6, 1, 2, 1, 0, 0, 0, 2, 7, 0, 2, 0, 2, 2, 1, 15, 0, 7, 4, 3, 2, 1, 7, 0, 1, 0, 50])], [], [])
theorem oo_Em_findWay_at_gn_4 {kA : Nat → ClassId} : or_ok PRD kA GG o_Em_findWay_at_gn_4 := by
  refine or_mk fun A ta ws vs hD hth hl => ?_
  intro t0 r0 t1 r1 t2 k2 t3 k3 t8 k8 t9 k9 t10 r10 t11 k11 t13 r13 t14 k14 t15 k15 t16 k16 t17 k17 t18 k18 f0 f1 f2 f3 f4 f5 f6 f7 f8 f9 f10 f11 f12 f13 f14 f15 f16 ta1 w1 le1 s1 ta2 w2 le2 s2 ta3 w3 le3 s3 f20
  replace f0 := shm_115 f0
  replace f1 := shm_110 f1
  replace f2 := shm_119 f2
  replace f3 := shm_176 f3
  replace f6 := shm_198 f6
  replace f8 := shm_177 f8
  replace f15 := shm_1187 f15
  have ad_13 : v_ad (n_v vs 13) = w_ar ws (n_v vs 0) 14 := congrArg v_ad f0
  have ad_10 : v_ad (n_v vs 10) = w_ar ws (n_v vs 1) 9 := congrArg v_ad f2
  have g1 : v_iv (n_v vs 11) = w_fi ws (n_v vs 1) 5 := congrArg v_iv f1
  have g3 : v_iv (n_v vs 9) = w_fi ws (n_v vs 0) 16 := congrArg v_iv f3
  have g6 : v_iv (n_v vs 16) = w_fi ws (n_v vs 0) 7 := congrArg v_iv f6
  have g8 : v_iv (n_v vs 14) = w_fi ws (n_v vs 0) 15 := congrArg v_iv f8
  simp only [ad_10, ad_13] at f15
  have kz_0_6 := fdq_53 hD hth r0
  have kz_0_7 := fdq_49 hD hth r0
  have kz_0_15 := fdq_54 hD hth r0
  have kz_0_16 := fdq_284 hD hth r0
  have kz_1_5 := fdq_82 hD hth r1
  have nf0 : fc_1 PRD (20, [0], [60, 2, 1, 613, 6, 15, 14]) ws (vs) := ⟨nf_in hl rfl, sgq_801 (vc_Em_findWay_at_gn_4_0 (v_iv (n_v vs 3)) (v_iv (n_v vs 8)) (v_iv (n_v vs 9)) (v_iv (n_v vs 11)) (v_iv (n_v vs 14)) (w_fi ws (n_v vs 1) 5) (w_fi ws (n_v vs 0) 16) (w_fi ws (n_v vs 0) 15) (w_fi ws (n_v vs 0) 6) (w_ei ws (w_ar ws (n_v vs 0) 14)) k3 k8 k9 k11 k14 g1 g3 g8 (shm_1598 f14) f15 kz_0_6 kz_0_15 kz_0_16 kz_1_5)⟩
  have nf1 : fc_1 PRD (20, [18, 0], [50, 2, 0, 1015, 1007, 3, 6, 1, 2, 1, 0, 0, 0, 2, 7, 0, 2, 0, 2, 2, 1, 15, 0, 7, 4, 3, 2, 1, 7, 0, 1, 0, 50]) ws (vs) := ⟨nf_in hl rfl, sgq_1599 (vc_Em_findWay_at_gn_4_1 (v_iv (n_v vs 2)) (v_iv (n_v vs 3)) (v_iv (n_v vs 8)) (v_iv (n_v vs 9)) (v_iv (n_v vs 14)) (v_iv (n_v vs 16)) (v_iv (n_v vs 18)) (w_fi ws (n_v vs 0) 16) (w_fi ws (n_v vs 0) 17) (w_fi ws (n_v vs 0) 7) (w_fi ws (n_v vs 0) 15) k14 k16 k18 g6 g8 kz_0_7 kz_0_15)⟩
  refine ⟨(fun _ h => (by cases h)), [], trivial, ?_, (fun _ h => (by cases h))⟩
  rw [List.append_nil]
  exact List.forall_mem_cons.mpr ⟨⟨show (20 : Nat) < 100 from by decide, nf0⟩, List.forall_mem_cons.mpr ⟨⟨show (20 : Nat) < 100 from by decide, nf1⟩, (fun _ h => (by cases h))⟩⟩
set_option maxHeartbeats 4000000 in
theorem vc_Em_findWay_at_gn_5_r0 (x2 : Int) (x3 : Int) (x4 : Int) (x5 : Int) (x6 : Int) (x7 : Int) (x8 : Int) (x9 : Int) (x13 : Int) (pieceNodes_0 : Int) (pieceEnds_0 : Int) (near_0o1 : Int → Int) (nodes_0o1 : Int) (drawnNodes_0 : Int) (pieceNodes_1 : Int) (pieceEnds_1 : Int) (near_1o1 : Int → Int) (nodes_1o1 : Int) (drawnNodes_1 : Int) (k2 : 0 ≤ x2 ∧ x2 ≤ 33554431) (k3 : 0 ≤ x3 ∧ x3 ≤ 24) (k4 : 1 ≤ x4 ∧ x4 ≤ 1) (k5 : 1 ≤ x5 ∧ x5 ≤ 16777216) (k6 : (-1) ≤ x6 ∧ x6 ≤ (-1)) (k7 : (-2147483648) ≤ x7 ∧ x7 ≤ 2147483647) (k8 : 0 ≤ x8 ∧ x8 ≤ 33554431) (k9 : 0 ≤ x9 ∧ x9 ≤ 0) (k13 : 0 ≤ x13 ∧ x13 ≤ 63) (g0 : x9 = pieceNodes_0) (g1 : x2 = pieceEnds_0) (f2 : LOW (x8) (x13)) (f9 : x9 = 0) (f10 : bvp (x8) = bvp (x2) &&& bvp (x7)) (f11 : bvp (x7) = bvp (x5) ^^^ bvp (x6)) (f12 : bvp (x5) = bvp (x4) <<< (x3).toNat) (f14 : PEN (pieceNodes_1) (pieceEnds_1)) (fe_0_6_1 : drawnNodes_0 = drawnNodes_1) (fe_0_16_1 : pieceNodes_0 = pieceNodes_1) (fe_0_17_1 : pieceEnds_0 = pieceEnds_1) (fe_1_5_1 : nodes_0o1 = nodes_1o1) (hE_1_9_1 : ∀ j : Int, near_0o1 j = near_1o1 j) (kz_0_6 : 0 ≤ drawnNodes_0 ∧ drawnNodes_0 ≤ 33554431) (kz_0_16 : 0 ≤ pieceNodes_0 ∧ pieceNodes_0 ≤ 33554431) (kz_0_17 : 0 ≤ pieceEnds_0 ∧ pieceEnds_0 ≤ 33554431) (kz_1_5 : 0 ≤ nodes_0o1 ∧ nodes_0o1 ≤ 24) : 0 ≤ x13 ∧ x13 ≤ 24 := by
  subst fe_0_6_1
  subst fe_0_16_1
  subst fe_0_17_1
  subst fe_1_5_1
  have e_hE_1_9_1 := funext hE_1_9_1; subst e_hE_1_9_1
  first
    | (have h := (‹PEN _ _› : PEN pieceNodes_0 pieceEnds_0); rw [← ‹x2 = pieceEnds_0›, ← ‹x9 = pieceNodes_0›] at h; have q := pen_two (an := x3) (q := x5) (r := x7) (m1 := x6) h (by omega) (by omega) ‹bvp x5 = _› (by omega) ‹bvp x7 = _› (by omega) ‹bvp x8 = _› (by omega) (by omega) (‹LOW _ _› : LOW x8 x13); omega)
def o_Em_findWay_at_gn_5 : or_T := (42, 14, [(0, (2, 0, 0, [1])), (1, (2, 0, 0, [5])), (2, (0, 0, 33554431, [])), (3, (0, 0, 24, [])), (4, (0, 1, 1, [])), (5, (0, 1, 16777216, [])), (6, (0, -1, -1, [])), (7, (0, -2147483648, 2147483647, [])), (8, (0, 0, 33554431, [])), (9, (0, 0, 0, [])), (10, (2, 0, 0, [35])), (11, (0, 0, 0, [])), (13, (0, 0, 63, []))], [(9, [9, 0], [16]), (9, [2, 0], [17]), (20, [8, 13], [61, 0, 555]), (9, [10, 0], [14]), (20, [2, 3], [61, 0, 555]), (20, [0], [60, 2, 0, 576, 16, 17]), (20, [1], [60, 1, 1, 575, 5, 9]), (20, [0, 1], [60, 3, 0, 610, 16, 6, 1005]), (100, [10, 11, 3], []), (8, [9], [0]), (16, [8, 2, 7], [0]), (16, [7, 5, 6], [2]), (16, [5, 4, 3], [3]), (20, [2, 3], [61, 0, 555]), (20, [0], [60, 2, 0, 576, 16, 17]), (20, [1], [60, 1, 1, 575, 5, 9]), (20, [0, 1], [60, 3, 0, 610, 16, 6, 1005])], [(13, (0, 0, 24, []))], [], [], [], [])
theorem oo_Em_findWay_at_gn_5 {kA : Nat → ClassId} : or_ok PRD kA GG o_Em_findWay_at_gn_5 := by
  refine or_mk fun A ta ws vs hD hth hl => ?_
  intro t0 r0 t1 r1 t2 k2 t3 k3 t4 k4 t5 k5 t6 k6 t7 k7 t8 k8 t9 k9 t10 r10 t11 k11 t13 k13 f0 f1 f2 f3 f4 f5 f6 f7 ta1 w1 le1 s1 f9 f10 f11 f12 f13 f14 f15 f16
  replace f0 := shm_176 f0
  replace f1 := shm_795 f1
  have s1 : (∀ b j, w_el ws b j = if b = v_ad (n_v vs 10) ∧ j = (v_iv (n_v vs 11)).toNat then v_iv (n_v vs 3) else w_el w1 b j) ∧ ∀ b k, w_fd ws b k = w_fd w1 b k := s1.2
  have cr_1_9 := fdq_80 hD hth r1
  have g0 : v_iv (n_v vs 9) = w_fi ws (n_v vs 0) 16 := congrArg v_iv f0
  have g1 : v_iv (n_v vs 2) = w_fi ws (n_v vs 0) 17 := congrArg v_iv f1
  have fe_0_6_1 : w_fi ws (n_v vs 0) 6 = w_fi w1 (n_v vs 0) 6 := congrArg v_iv (s1.2 _ _)
  have fe_0_16_1 : w_fi ws (n_v vs 0) 16 = w_fi w1 (n_v vs 0) 16 := congrArg v_iv (s1.2 _ _)
  have fe_0_17_1 : w_fi ws (n_v vs 0) 17 = w_fi w1 (n_v vs 0) 17 := congrArg v_iv (s1.2 _ _)
  have fe_1_5_1 : w_fi ws (n_v vs 1) 5 = w_fi w1 (n_v vs 1) 5 := congrArg v_iv (s1.2 _ _)
  have hE_1_9_1 : ∀ j : Int, w_ei ws (w_ar ws (n_v vs 1) 9) j = w_ei w1 (w_ar ws (n_v vs 1) 9) j := el_kp s1.1 r10 cr_1_9 (by decide)
  have kz_0_6 := fdq_53 hD hth r0
  have kz_0_16 := fdq_284 hD hth r0
  have kz_0_17 := fdq_285 hD hth r0
  have kz_1_5 := fdq_82 hD hth r1
  have hrf0 : 0 ≤ v_iv (n_v vs 13) ∧ v_iv (n_v vs 13) ≤ 24 := vc_Em_findWay_at_gn_5_r0 (v_iv (n_v vs 2)) (v_iv (n_v vs 3)) (v_iv (n_v vs 4)) (v_iv (n_v vs 5)) (v_iv (n_v vs 6)) (v_iv (n_v vs 7)) (v_iv (n_v vs 8)) (v_iv (n_v vs 9)) (v_iv (n_v vs 13)) (w_fi ws (n_v vs 0) 16) (w_fi ws (n_v vs 0) 17) (w_ei ws (w_ar ws (n_v vs 1) 9)) (w_fi ws (n_v vs 1) 5) (w_fi ws (n_v vs 0) 6) (w_fi w1 (n_v vs 0) 16) (w_fi w1 (n_v vs 0) 17) (w_ei w1 (w_ar ws (n_v vs 1) 9)) (w_fi w1 (n_v vs 1) 5) (w_fi w1 (n_v vs 0) 6) k2 k3 k4 k5 k6 k7 k8 k9 k13 g0 g1 (shm_810 f2) (shm_192 f9) (shm_11 f10) (shm_33 f11) (shm_349 f12) (shm_1596 f14) fe_0_6_1 fe_0_16_1 fe_0_17_1 fe_1_5_1 hE_1_9_1 kz_0_6 kz_0_16 kz_0_17 kz_1_5
  have rf13 : tv_ok ta (0, 0, 24, []) (n_v vs 13) := tv_in t13 (by first | omega | grind) (by first | omega | grind)
  refine ⟨List.forall_mem_cons.mpr ⟨rf13, (fun _ h => (by cases h))⟩, [], trivial, ?_, (fun _ h => (by cases h))⟩
  rw [List.append_nil]
  exact (fun _ h => (by cases h))
set_option maxHeartbeats 4000000 in
theorem vc_Em_findWay_at_gn_6_0 (x9 : Int) (x14 : Int) (pieceNodes_0 : Int) (wayLength_0 : Int) (drawnNodes_0 : Int) (way_0 : Int → Int) (k14 : 2 ≤ x14 ∧ x14 ≤ 2) (g6 : x14 = wayLength_0) (kz_0_6 : 0 ≤ drawnNodes_0 ∧ drawnNodes_0 ≤ 33554431) (kz_0_15 : 0 ≤ wayLength_0 ∧ wayLength_0 ≤ 27) : WYN (drawnNodes_0) (wayLength_0) (way_0) := by
  first
    | exact wyn_two (by omega)
set_option maxHeartbeats 4000000 in
theorem vc_Em_findWay_at_gn_6_1 (x2 : Int) (x3 : Int) (x8 : Int) (x9 : Int) (x13 : Int) (x14 : Int) (x18 : Int) (pieceNodes_0 : Int) (pieceEnds_0 : Int) (cycles_0 : Int) (wayLength_0 : Int) (k14 : 2 ≤ x14 ∧ x14 ≤ 2) (k18 : 0 ≤ x18 ∧ x18 ≤ 0) (g6 : x14 = wayLength_0) (kz_0_7 : 0 ≤ cycles_0 ∧ cycles_0 ≤ 50) (kz_0_15 : 0 ≤ wayLength_0 ∧ wayLength_0 ≤ 27) : (x18 = 0) ∨ ((2 ≤ wayLength_0) ∧ ((cycles_0 + 1) ≤ 50)) := by
  first
    | omega
def o_Em_findWay_at_gn_6 : or_T := (112, 19, [(0, (2, 0, 0, [1])), (1, (2, 0, 0, [5])), (2, (0, 0, 33554431, [])), (3, (0, 0, 24, [])), (8, (0, 0, 33554431, [])), (9, (0, 0, 0, [])), (10, (2, 0, 0, [35])), (11, (0, 0, 0, [])), (12, (0, 1, 1, [])), (13, (0, 0, 24, [])), (14, (0, 2, 2, [])), (15, (0, 2, 2, [])), (16, (0, 50, 50, [])), (17, (0, 50, 50, [])), (18, (0, 0, 0, []))], [(9, [10, 0], [14]), (9, [9, 0], [16]), (9, [2, 0], [17]), (7, [16, 17], [3]), (9, [16, 0], [7]), (7, [14, 15], [3]), (9, [14, 0], [15]), (20, [8, 13], [61, 0, 555]), (20, [2, 3], [61, 0, 555]), (20, [0], [60, 2, 0, 576, 16, 17]), (20, [1], [60, 1, 1, 575, 5, 9]), (20, [0, 1], [60, 3, 0, 610, 16, 6, 1005]), (102, [14], [134217728]), (101, [0, 14], [15]), (100, [10, 12, 13], []), (100, [10, 11, 3], []), (8, [9], [0])], [], [], [(20, [0], [60, 2, 1, 613, 6, 15, 14]), (20, [18, 0], [50, 2, 0, 1015, 1007, 3, 6, 1, 2, 1, 0, 0, 0, 2, 7, 0, 2, 0, 2, 2, 1, 15, 0, 7, 4, 3, 2, 1, 7, 0, 1, 0, 50])], [], [])
theorem oo_Em_findWay_at_gn_6 {kA : Nat → ClassId} : or_ok PRD kA GG o_Em_findWay_at_gn_6 := by
  refine or_mk fun A ta ws vs hD hth hl => ?_
  intro t0 r0 t1 r1 t2 k2 t3 k3 t8 k8 t9 k9 t10 r10 t11 k11 t12 k12 t13 k13 t14 k14 t15 k15 t16 k16 t17 k17 t18 k18 f0 f1 f2 f3 f4 f5 f6 f7 f8 f9 f10 f11 ta1 w1 le1 s1 ta2 w2 le2 s2 ta3 w3 le3 s3 ta4 w4 le4 s4 f16
  replace f6 := shm_177 f6
  have g6 : v_iv (n_v vs 14) = w_fi ws (n_v vs 0) 15 := congrArg v_iv f6
  have kz_0_6 := fdq_53 hD hth r0
  have kz_0_7 := fdq_49 hD hth r0
  have kz_0_15 := fdq_54 hD hth r0
  have nf0 : fc_1 PRD (20, [0], [60, 2, 1, 613, 6, 15, 14]) ws (vs) := ⟨nf_in hl rfl, sgq_801 (vc_Em_findWay_at_gn_6_0 (v_iv (n_v vs 9)) (v_iv (n_v vs 14)) (w_fi ws (n_v vs 0) 16) (w_fi ws (n_v vs 0) 15) (w_fi ws (n_v vs 0) 6) (w_ei ws (w_ar ws (n_v vs 0) 14)) k14 g6 kz_0_6 kz_0_15)⟩
  have nf1 : fc_1 PRD (20, [18, 0], [50, 2, 0, 1015, 1007, 3, 6, 1, 2, 1, 0, 0, 0, 2, 7, 0, 2, 0, 2, 2, 1, 15, 0, 7, 4, 3, 2, 1, 7, 0, 1, 0, 50]) ws (vs) := ⟨nf_in hl rfl, sgq_1599 (vc_Em_findWay_at_gn_6_1 (v_iv (n_v vs 2)) (v_iv (n_v vs 3)) (v_iv (n_v vs 8)) (v_iv (n_v vs 9)) (v_iv (n_v vs 13)) (v_iv (n_v vs 14)) (v_iv (n_v vs 18)) (w_fi ws (n_v vs 0) 16) (w_fi ws (n_v vs 0) 17) (w_fi ws (n_v vs 0) 7) (w_fi ws (n_v vs 0) 15) k14 k18 g6 kz_0_7 kz_0_15)⟩
  refine ⟨(fun _ h => (by cases h)), [], trivial, ?_, (fun _ h => (by cases h))⟩
  rw [List.append_nil]
  exact List.forall_mem_cons.mpr ⟨⟨show (20 : Nat) < 100 from by decide, nf0⟩, List.forall_mem_cons.mpr ⟨⟨show (20 : Nat) < 100 from by decide, nf1⟩, (fun _ h => (by cases h))⟩⟩
set_option maxHeartbeats 4000000 in
theorem vc_Em_findWay_at_gn_7_0 (x9 : Int) (x14 : Int) (pieceNodes_0 : Int) (wayLength_0 : Int) (drawnNodes_0 : Int) (way_0 : Int → Int) (k14 : 2 ≤ x14 ∧ x14 ≤ 2) (g6 : x14 = wayLength_0) (kz_0_6 : 0 ≤ drawnNodes_0 ∧ drawnNodes_0 ≤ 33554431) (kz_0_15 : 0 ≤ wayLength_0 ∧ wayLength_0 ≤ 27) : WYN (drawnNodes_0) (wayLength_0) (way_0) := by
  first
    | exact wyn_two (by omega)
set_option maxHeartbeats 4000000 in
theorem vc_Em_findWay_at_gn_7_1 (x2 : Int) (x3 : Int) (x8 : Int) (x9 : Int) (x13 : Int) (x14 : Int) (x16 : Int) (x18 : Int) (pieceNodes_0 : Int) (pieceEnds_0 : Int) (cycles_0 : Int) (wayLength_0 : Int) (k14 : 2 ≤ x14 ∧ x14 ≤ 2) (k16 : 0 ≤ x16 ∧ x16 ≤ 49) (k18 : 1 ≤ x18 ∧ x18 ≤ 1) (g4 : x16 = cycles_0) (g6 : x14 = wayLength_0) (kz_0_7 : 0 ≤ cycles_0 ∧ cycles_0 ≤ 50) (kz_0_15 : 0 ≤ wayLength_0 ∧ wayLength_0 ≤ 27) : (x18 = 0) ∨ ((2 ≤ wayLength_0) ∧ ((cycles_0 + 1) ≤ 50)) := by
  first
    | omega
def o_Em_findWay_at_gn_7 : or_T := (112, 19, [(0, (2, 0, 0, [1])), (1, (2, 0, 0, [5])), (2, (0, 0, 33554431, [])), (3, (0, 0, 24, [])), (8, (0, 0, 33554431, [])), (9, (0, 0, 0, [])), (10, (2, 0, 0, [35])), (11, (0, 0, 0, [])), (12, (0, 1, 1, [])), (13, (0, 0, 24, [])), (14, (0, 2, 2, [])), (15, (0, 2, 2, [])), (16, (0, 0, 49, [])), (17, (0, 50, 50, [])), (18, (0, 1, 1, []))], [(9, [10, 0], [14]), (9, [9, 0], [16]), (9, [2, 0], [17]), (7, [16, 17], [2]), (9, [16, 0], [7]), (7, [14, 15], [3]), (9, [14, 0], [15]), (20, [8, 13], [61, 0, 555]), (20, [2, 3], [61, 0, 555]), (20, [0], [60, 2, 0, 576, 16, 17]), (20, [1], [60, 1, 1, 575, 5, 9]), (20, [0, 1], [60, 3, 0, 610, 16, 6, 1005]), (102, [14], [134217728]), (101, [0, 14], [15]), (100, [10, 12, 13], []), (100, [10, 11, 3], []), (8, [9], [0])], [], [], [(20, [0], [60, 2, 1, 613, 6, 15, 14]), (20, [18, 0], [50, 2, 0, 1015, 1007, 3, 6, 1, 2, 1, 0, 0, 0, 2, 7, 0, 2, 0, 2, 2, 1, 15, 0, 7, 4, 3, 2, 1, 7, 0, 1, 0, 50])], [], [])
theorem oo_Em_findWay_at_gn_7 {kA : Nat → ClassId} : or_ok PRD kA GG o_Em_findWay_at_gn_7 := by
  refine or_mk fun A ta ws vs hD hth hl => ?_
  intro t0 r0 t1 r1 t2 k2 t3 k3 t8 k8 t9 k9 t10 r10 t11 k11 t12 k12 t13 k13 t14 k14 t15 k15 t16 k16 t17 k17 t18 k18 f0 f1 f2 f3 f4 f5 f6 f7 f8 f9 f10 f11 ta1 w1 le1 s1 ta2 w2 le2 s2 ta3 w3 le3 s3 ta4 w4 le4 s4 f16
  replace f4 := shm_198 f4
  replace f6 := shm_177 f6
  have g4 : v_iv (n_v vs 16) = w_fi ws (n_v vs 0) 7 := congrArg v_iv f4
  have g6 : v_iv (n_v vs 14) = w_fi ws (n_v vs 0) 15 := congrArg v_iv f6
  have kz_0_6 := fdq_53 hD hth r0
  have kz_0_7 := fdq_49 hD hth r0
  have kz_0_15 := fdq_54 hD hth r0
  have nf0 : fc_1 PRD (20, [0], [60, 2, 1, 613, 6, 15, 14]) ws (vs) := ⟨nf_in hl rfl, sgq_801 (vc_Em_findWay_at_gn_7_0 (v_iv (n_v vs 9)) (v_iv (n_v vs 14)) (w_fi ws (n_v vs 0) 16) (w_fi ws (n_v vs 0) 15) (w_fi ws (n_v vs 0) 6) (w_ei ws (w_ar ws (n_v vs 0) 14)) k14 g6 kz_0_6 kz_0_15)⟩
  have nf1 : fc_1 PRD (20, [18, 0], [50, 2, 0, 1015, 1007, 3, 6, 1, 2, 1, 0, 0, 0, 2, 7, 0, 2, 0, 2, 2, 1, 15, 0, 7, 4, 3, 2, 1, 7, 0, 1, 0, 50]) ws (vs) := ⟨nf_in hl rfl, sgq_1599 (vc_Em_findWay_at_gn_7_1 (v_iv (n_v vs 2)) (v_iv (n_v vs 3)) (v_iv (n_v vs 8)) (v_iv (n_v vs 9)) (v_iv (n_v vs 13)) (v_iv (n_v vs 14)) (v_iv (n_v vs 16)) (v_iv (n_v vs 18)) (w_fi ws (n_v vs 0) 16) (w_fi ws (n_v vs 0) 17) (w_fi ws (n_v vs 0) 7) (w_fi ws (n_v vs 0) 15) k14 k16 k18 g4 g6 kz_0_7 kz_0_15)⟩
  refine ⟨(fun _ h => (by cases h)), [], trivial, ?_, (fun _ h => (by cases h))⟩
  rw [List.append_nil]
  exact List.forall_mem_cons.mpr ⟨⟨show (20 : Nat) < 100 from by decide, nf0⟩, List.forall_mem_cons.mpr ⟨⟨show (20 : Nat) < 100 from by decide, nf1⟩, (fun _ h => (by cases h))⟩⟩
def n_Em_findWay_at_gn_an : List an_T := []
def t_Em_findWay_at_gn_ct : ct_L := [(0, 194, e_Fa_lowest), (243, 166, e_Fa_shortestWay_at_Nenear_Emlevel_Emway), (265, 173, e_Em_drawWay_at_gn)]
set_option maxRecDepth 100000 in
theorem c_Em_findWay_at_gn {l : Launch} {D : va_G} {kA : Nat → ClassId} (h_Em_drawWay_at_gn : ct_ok PRD l D kA GG y_Em_drawWay_at_gn z_Em_drawWay_at_gn e_Em_drawWay_at_gn) (h_Fa_lowest : ct_ok PRD l D kA GG y_Fa_lowest z_Fa_lowest e_Fa_lowest) (h_Fa_shortestWay_at_Nenear_Emlevel_Emway : ct_ok PRD l D kA GG y_Fa_shortestWay_at_Nenear_Emlevel_Emway z_Fa_shortestWay_at_Nenear_Emlevel_Emway e_Fa_shortestWay_at_Nenear_Emlevel_Emway) : ct_ok PRD l D kA GG y_Em_findWay_at_gn z_Em_findWay_at_gn e_Em_findWay_at_gn := chk_all_ok (FT := [(9, 1, 0), (39, 1, 7), (57, 1, 13), (60, 1, 14), (63, 1, 15), (66, 1, 16), (69, 1, 17), (85, 5, 5), (114, 5, 9)]) (PT := [(63, 1, 15, .int)]) (CT := t_Em_findWay_at_gn_ct) (KT := []) (NT := []) (AN := n_Em_findWay_at_gn_an) (OT := [o_Em_findWay_at_gn_0, o_Em_findWay_at_gn_1, o_Em_findWay_at_gn_2, o_Em_findWay_at_gn_3, o_Em_findWay_at_gn_4, o_Em_findWay_at_gn_5, o_Em_findWay_at_gn_6, o_Em_findWay_at_gn_7]) 0 320 (List.forall_mem_cons.mpr ⟨oo_Em_findWay_at_gn_0, List.forall_mem_cons.mpr ⟨oo_Em_findWay_at_gn_1, List.forall_mem_cons.mpr ⟨oo_Em_findWay_at_gn_2, List.forall_mem_cons.mpr ⟨oo_Em_findWay_at_gn_3, List.forall_mem_cons.mpr ⟨oo_Em_findWay_at_gn_4, List.forall_mem_cons.mpr ⟨oo_Em_findWay_at_gn_5, List.forall_mem_cons.mpr ⟨oo_Em_findWay_at_gn_6, List.forall_mem_cons.mpr ⟨oo_Em_findWay_at_gn_7, List.forall_mem_nil _⟩⟩⟩⟩⟩⟩⟩⟩) (by decide +kernel) ⟨List.forall_mem_cons.mpr ⟨gf_Em_9, List.forall_mem_cons.mpr ⟨gf_Em_39, List.forall_mem_cons.mpr ⟨gf_Em_57, List.forall_mem_cons.mpr ⟨gf_Em_60, List.forall_mem_cons.mpr ⟨gf_Em_63, List.forall_mem_cons.mpr ⟨gf_Em_66, List.forall_mem_cons.mpr ⟨gf_Em_69, List.forall_mem_cons.mpr ⟨gf_Em_85, List.forall_mem_cons.mpr ⟨gf_Em_114, List.forall_mem_nil _⟩⟩⟩⟩⟩⟩⟩⟩⟩, List.forall_mem_cons.mpr ⟨pf_Em_63, List.forall_mem_nil _⟩, List.forall_mem_cons.mpr ⟨cl_static (y := y_Fa_lowest) h_Fa_lowest wm_899 wm_7 wm_1109 wm_898 ⟨by decide, by decide, by decide +kernel⟩ (by decide), List.forall_mem_cons.mpr ⟨cl_static (y := y_Fa_shortestWay_at_Nenear_Emlevel_Emway) h_Fa_shortestWay_at_Nenear_Emlevel_Emway wm_1077 wm_7 wm_1075 wm_1076 ⟨by decide, by decide, by decide +kernel⟩ (by decide), List.forall_mem_cons.mpr ⟨cl_virtual (y := y_Em_drawWay_at_gn) (ci := 1) rfl rfl ⟨_, _, rfl⟩ (by decide +kernel) h_Em_drawWay_at_gn wm_1085 wm_5 wm_1082 wm_1084 wv_3_9 ⟨by decide, by decide, by decide +kernel⟩ (by decide), List.forall_mem_nil _⟩⟩⟩, List.forall_mem_nil _, List.forall_mem_nil _, GG_pl⟩ (by decide +kernel)

set_option maxHeartbeats 4000000 in
theorem vc_Em_findWay_at_gp_0_r0 (x2 : Int) (x3 : Int) (pieceEnds_0 : Int) (pieceNodes_0 : Int) (k2 : 0 ≤ x2 ∧ x2 ≤ 33554431) (k3 : 0 ≤ x3 ∧ x3 ≤ 63) (f0 : LOW (x2) (x3)) (g1 : x2 = pieceEnds_0) (f2 : PEN (pieceNodes_0) (pieceEnds_0)) (kz_0_16 : 0 ≤ pieceNodes_0 ∧ pieceNodes_0 ≤ 33554431) (kz_0_17 : 0 ≤ pieceEnds_0 ∧ pieceEnds_0 ≤ 33554431) : 0 ≤ x3 ∧ x3 ≤ 24 := by
  first
    | (have h := (‹PEN _ _› : PEN pieceNodes_0 pieceEnds_0); rw [← ‹x2 = pieceEnds_0›] at h; have q := pen_low h (‹LOW _ _› : LOW x2 x3) (by omega) (by omega); omega)
def o_Em_findWay_at_gp_0 : or_T := (7, 4, [(0, (2, 0, 0, [1])), (1, (2, 0, 0, [149])), (2, (0, 0, 33554431, [])), (3, (0, 0, 63, []))], [(20, [2, 3], [61, 0, 555]), (9, [2, 0], [17]), (20, [0], [60, 2, 0, 576, 16, 17]), (20, [1], [60, 1, 1, 575, 5, 9]), (20, [0, 1], [60, 3, 0, 610, 16, 6, 1005])], [(3, (0, 0, 24, []))], [], [], [], [])
theorem oo_Em_findWay_at_gp_0 {kA : Nat → ClassId} : or_ok PRD kA GG o_Em_findWay_at_gp_0 := by
  refine or_mk fun A ta ws vs hD hth hl => ?_
  intro t0 r0 t1 r1 t2 k2 t3 k3 f0 f1 f2 f3 f4
  replace f1 := shm_795 f1
  have g1 : v_iv (n_v vs 2) = w_fi ws (n_v vs 0) 17 := congrArg v_iv f1
  have kz_0_16 := fdq_284 hD hth r0
  have kz_0_17 := fdq_285 hD hth r0
  have hrf0 : 0 ≤ v_iv (n_v vs 3) ∧ v_iv (n_v vs 3) ≤ 24 := vc_Em_findWay_at_gp_0_r0 (v_iv (n_v vs 2)) (v_iv (n_v vs 3)) (w_fi ws (n_v vs 0) 17) (w_fi ws (n_v vs 0) 16) k2 k3 (shm_810 f0) g1 (shm_1596 f2) kz_0_16 kz_0_17
  have rf3 : tv_ok ta (0, 0, 24, []) (n_v vs 3) := tv_in t3 (by first | omega | grind) (by first | omega | grind)
  refine ⟨List.forall_mem_cons.mpr ⟨rf3, (fun _ h => (by cases h))⟩, [], trivial, ?_, (fun _ h => (by cases h))⟩
  rw [List.append_nil]
  exact (fun _ h => (by cases h))
set_option maxHeartbeats 4000000 in
theorem vc_Em_findWay_at_gp_1_0 (x11 : Int) (nodes_0o1 : Int) (near_0o1 : Int → Int) (k11 : 0 ≤ x11 ∧ x11 ≤ 25) (g1 : x11 = nodes_0o1) (f10 : SYE (nodes_0o1) (near_0o1)) (kz_1_5 : 0 ≤ nodes_0o1 ∧ nodes_0o1 ≤ 25) : SYMN (near_0o1) (x11) := by
  first
    | (rw [‹x11 = nodes_0o1›]; exact ‹SYE _ _›)
  
set_option maxHeartbeats 4000000 in
theorem vc_Em_findWay_at_gp_1_1 (x9 : Int) (x11 : Int) (pieceNodes_0 : Int) (nodes_0o1 : Int) (drawnNodes_0 : Int) (k9 : 1 ≤ x9 ∧ x9 ≤ 33554431) (k11 : 0 ≤ x11 ∧ x11 ≤ 25) (g0 : x9 = pieceNodes_0) (g1 : x11 = nodes_0o1) (f11 : PKD (pieceNodes_0) (drawnNodes_0) (nodes_0o1)) (kz_0_6 : 0 ≤ drawnNodes_0 ∧ drawnNodes_0 ≤ 33554431) (kz_0_16 : 0 ≤ pieceNodes_0 ∧ pieceNodes_0 ≤ 33554431) (kz_1_5 : 0 ≤ nodes_0o1 ∧ nodes_0o1 ≤ 25) : FRN (x11) (x9) := by
  first
    | (rw [‹x11 = nodes_0o1›, ‹x9 = pieceNodes_0›]; exact (‹PKD _ _ _›).1)
  
def o_Em_findWay_at_gp_1 : or_T := (80, 14, [(0, (2, 0, 0, [1])), (1, (2, 0, 0, [149])), (9, (0, 1, 33554431, [])), (11, (0, 0, 25, []))], [(9, [9, 0], [16]), (9, [11, 1], [5]), (9, [10, 1], [9]), (20, [1], [60, 1, 1, 575, 5, 9]), (20, [0, 1], [60, 3, 0, 610, 16, 6, 1005])], [], [], [(20, [10, 11], [61, 1, 560]), (20, [11, 9], [61, 0, 561])], [], [])
theorem oo_Em_findWay_at_gp_1 {kA : Nat → ClassId} : or_ok PRD kA GG o_Em_findWay_at_gp_1 := by
  refine or_mk fun A ta ws vs hD hth hl => ?_
  intro t0 r0 t1 r1 t9 k9 t11 k11 f0 f1 f2 f10 f11
  replace f0 := shm_176 f0
  replace f1 := shm_110 f1
  replace f2 := shm_119 f2
  replace f10 := shm_1597 f10
  replace f11 := shm_1598 f11
  have ad_10 : v_ad (n_v vs 10) = w_ar ws (n_v vs 1) 9 := congrArg v_ad f2
  have g0 : v_iv (n_v vs 9) = w_fi ws (n_v vs 0) 16 := congrArg v_iv f0
  have g1 : v_iv (n_v vs 11) = w_fi ws (n_v vs 1) 5 := congrArg v_iv f1
  have kz_0_6 := fdq_53 hD hth r0
  have kz_0_16 := fdq_284 hD hth r0
  have kz_1_5 := fdq_85 hD hth r1
  have nf0 : fc_1 PRD (20, [10, 11], [61, 1, 560]) ws (vs) := by
    refine ⟨nf_in hl rfl, sgq_1180 ?_⟩
    · show SYMN (w_ei ws (v_ad (n_v vs 10))) (v_iv (n_v vs 11))
      rw [ad_10]
      exact vc_Em_findWay_at_gp_1_0 (v_iv (n_v vs 11)) (w_fi ws (n_v vs 1) 5) (w_ei ws (w_ar ws (n_v vs 1) 9)) k11 g1 f10 kz_1_5
  have nf1 : fc_1 PRD (20, [11, 9], [61, 0, 561]) ws (vs) := ⟨nf_in hl rfl, sgq_1181 (vc_Em_findWay_at_gp_1_1 (v_iv (n_v vs 9)) (v_iv (n_v vs 11)) (w_fi ws (n_v vs 0) 16) (w_fi ws (n_v vs 1) 5) (w_fi ws (n_v vs 0) 6) k9 k11 g0 g1 f11 kz_0_6 kz_0_16 kz_1_5)⟩
  refine ⟨(fun _ h => (by cases h)), [], trivial, ?_, (fun _ h => (by cases h))⟩
  rw [List.append_nil]
  exact List.forall_mem_cons.mpr ⟨⟨show (20 : Nat) < 100 from by decide, nf0⟩, List.forall_mem_cons.mpr ⟨⟨show (20 : Nat) < 100 from by decide, nf1⟩, (fun _ h => (by cases h))⟩⟩
set_option maxHeartbeats 4000000 in
theorem vc_Em_findWay_at_gp_2_0 (x9 : Int) (x14 : Int) (pieceNodes_0 : Int) (wayLength_0 : Int) (drawnNodes_0 : Int) (way_0 : Int → Int) (k14 : 0 ≤ x14 ∧ x14 ≤ 1) (g6 : x14 = wayLength_0) (kz_0_6 : 0 ≤ drawnNodes_0 ∧ drawnNodes_0 ≤ 33554431) (kz_0_15 : 0 ≤ wayLength_0 ∧ wayLength_0 ≤ 27) : WYN (drawnNodes_0) (wayLength_0) (way_0) := by
  first
    | exact wyn_two (by omega)
set_option maxHeartbeats 4000000 in
theorem vc_Em_findWay_at_gp_2_1 (x2 : Int) (x3 : Int) (x8 : Int) (x9 : Int) (x16 : Int) (pieceNodes_0 : Int) (pieceEnds_0 : Int) (wayLength_0 : Int) (cycles_0 : Int) (k16 : 0 ≤ x16 ∧ x16 ≤ 0) (kz_0_7 : 0 ≤ cycles_0 ∧ cycles_0 ≤ 50) (kz_0_15 : 0 ≤ wayLength_0 ∧ wayLength_0 ≤ 27) : (x16 = 0) ∨ ((2 ≤ wayLength_0) ∧ ((cycles_0 + 1) ≤ 50)) := by
  first
    | omega
def o_Em_findWay_at_gp_2 : or_T := (112, 17, [(0, (2, 0, 0, [1])), (14, (0, 0, 1, [])), (16, (0, 0, 0, []))], [(9, [14, 0], [15])], [], [], [(20, [0], [60, 2, 1, 613, 6, 15, 14]), (20, [16, 0], [50, 2, 0, 1015, 1007, 3, 6, 1, 2, 1, 0, 0, 0, 2, 7, 0, 2, 0, 2, 2, 1, 15, 0, 7, 4, 3, 2, 1, 7, 0, 1, 0, 50])], [], [])
theorem oo_Em_findWay_at_gp_2 {kA : Nat → ClassId} : or_ok PRD kA GG o_Em_findWay_at_gp_2 := by
  refine or_mk fun A ta ws vs hD hth hl => ?_
  intro t0 r0 t14 k14 t16 k16 f6
  replace f6 := shm_177 f6
  have g6 : v_iv (n_v vs 14) = w_fi ws (n_v vs 0) 15 := congrArg v_iv f6
  have kz_0_6 := fdq_53 hD hth r0
  have kz_0_7 := fdq_49 hD hth r0
  have kz_0_15 := fdq_54 hD hth r0
  have nf0 : fc_1 PRD (20, [0], [60, 2, 1, 613, 6, 15, 14]) ws (vs) := ⟨nf_in hl rfl, sgq_801 (vc_Em_findWay_at_gp_2_0 (v_iv (n_v vs 9)) (v_iv (n_v vs 14)) (w_fi ws (n_v vs 0) 16) (w_fi ws (n_v vs 0) 15) (w_fi ws (n_v vs 0) 6) (w_ei ws (w_ar ws (n_v vs 0) 14)) k14 g6 kz_0_6 kz_0_15)⟩
  have nf1 : fc_1 PRD (20, [16, 0], [50, 2, 0, 1015, 1007, 3, 6, 1, 2, 1, 0, 0, 0, 2, 7, 0, 2, 0, 2, 2, 1, 15, 0, 7, 4, 3, 2, 1, 7, 0, 1, 0, 50]) ws (vs) := ⟨nf_in hl rfl, sgq_1599 (vc_Em_findWay_at_gp_2_1 (v_iv (n_v vs 2)) (v_iv (n_v vs 3)) (v_iv (n_v vs 8)) (v_iv (n_v vs 9)) (v_iv (n_v vs 16)) (w_fi ws (n_v vs 0) 16) (w_fi ws (n_v vs 0) 17) (w_fi ws (n_v vs 0) 15) (w_fi ws (n_v vs 0) 7) k16 kz_0_7 kz_0_15)⟩
  refine ⟨(fun _ h => (by cases h)), [], trivial, ?_, (fun _ h => (by cases h))⟩
  rw [List.append_nil]
  exact List.forall_mem_cons.mpr ⟨⟨show (20 : Nat) < 100 from by decide, nf0⟩, List.forall_mem_cons.mpr ⟨⟨show (20 : Nat) < 100 from by decide, nf1⟩, (fun _ h => (by cases h))⟩⟩
set_option maxHeartbeats 4000000 in
theorem vc_Em_findWay_at_gp_3_0 (x3 : Int) (x8 : Int) (x9 : Int) (x11 : Int) (x14 : Int) (nodes_0o1 : Int) (pieceNodes_0 : Int) (wayLength_0 : Int) (drawnNodes_0 : Int) (way_0 : Int → Int) (k3 : 0 ≤ x3 ∧ x3 ≤ 24) (k8 : 0 ≤ x8 ∧ x8 ≤ 33554431) (k9 : 1 ≤ x9 ∧ x9 ≤ 33554431) (k11 : 0 ≤ x11 ∧ x11 ≤ 25) (k14 : 2 ≤ x14 ∧ x14 ≤ 26) (g1 : x11 = nodes_0o1) (g3 : x9 = pieceNodes_0) (g8 : x14 = wayLength_0) (f14 : PKD (pieceNodes_0) (drawnNodes_0) (nodes_0o1)) (f15 : SHW (way_0) (x3) (x8) (x9) (x14)) (kz_0_6 : 0 ≤ drawnNodes_0 ∧ drawnNodes_0 ≤ 33554431) (kz_0_15 : 0 ≤ wayLength_0 ∧ wayLength_0 ≤ 27) (kz_0_16 : 0 ≤ pieceNodes_0 ∧ pieceNodes_0 ≤ 33554431) (kz_1_5 : 0 ≤ nodes_0o1 ∧ nodes_0o1 ≤ 25) : WYN (drawnNodes_0) (wayLength_0) (way_0) := by
  first
    | (have hk := (‹PKD _ _ _›); rw [show pieceNodes_0 = x9 by omega] at hk; exact wyn_of ‹SHW _ _ _ _ _› hk (by omega) (by omega))
set_option maxHeartbeats 4000000 in
theorem vc_Em_findWay_at_gp_3_1 (x2 : Int) (x3 : Int) (x8 : Int) (x9 : Int) (x14 : Int) (x18 : Int) (pieceNodes_0 : Int) (pieceEnds_0 : Int) (cycles_0 : Int) (wayLength_0 : Int) (k14 : 2 ≤ x14 ∧ x14 ≤ 26) (k18 : 0 ≤ x18 ∧ x18 ≤ 0) (g8 : x14 = wayLength_0) (kz_0_7 : 0 ≤ cycles_0 ∧ cycles_0 ≤ 50) (kz_0_15 : 0 ≤ wayLength_0 ∧ wayLength_0 ≤ 27) : (x18 = 0) ∨ ((2 ≤ wayLength_0) ∧ ((cycles_0 + 1) ≤ 50)) := by
  first
    | omega
def o_Em_findWay_at_gp_3 : or_T := (112, 19, [(0, (2, 0, 0, [1])), (1, (2, 0, 0, [149])), (2, (0, 0, 33554431, [])), (3, (0, 0, 24, [])), (8, (0, 0, 33554431, [])), (9, (0, 1, 33554431, [])), (10, (2, 0, 0, [142])), (11, (0, 0, 25, [])), (13, (2, 0, 0, [35])), (14, (0, 2, 26, [])), (15, (0, 2, 2, [])), (16, (0, 50, 50, [])), (17, (0, 50, 50, [])), (18, (0, 0, 0, []))], [(9, [13, 0], [14]), (9, [11, 1], [5]), (9, [10, 1], [9]), (9, [9, 0], [16]), (9, [2, 0], [17]), (7, [16, 17], [3]), (9, [16, 0], [7]), (7, [14, 15], [3]), (9, [14, 0], [15]), (20, [10, 11], [61, 1, 560]), (20, [11, 9], [61, 0, 561]), (20, [2, 3], [61, 0, 555]), (20, [0], [60, 2, 0, 576, 16, 17]), (20, [1], [60, 1, 1, 575, 5, 9]), (20, [0, 1], [60, 3, 0, 610, 16, 6, 1005]), (20, [13, 3, 8, 9, 14], [61, 1, 564]), (20, [10, 11, 3, 8, 9, 14], [61, 1, 899]), (102, [14], [134217728]), (101, [0, 14], [15]), (102, [13], [51539607552]), (8, [9], [1])], [], [], [(20, [0], [60, 2, 1, 613, 6, 15, 14]), (20, [18, 0], [50, 2, 0, 1015, 1007, 3, 6, 1, 2, 1, 0, 0, 0, 2, 7, 0, 2, 0, 2, 2, 1, 15, 0, 7, 4, 3, 2, 1, 7, 0, 1, 0, 50])], [], [])
theorem oo_Em_findWay_at_gp_3 {kA : Nat → ClassId} : or_ok PRD kA GG o_Em_findWay_at_gp_3 := by
  refine or_mk fun A ta ws vs hD hth hl => ?_
  intro t0 r0 t1 r1 t2 k2 t3 k3 t8 k8 t9 k9 t10 r10 t11 k11 t13 r13 t14 k14 t15 k15 t16 k16 t17 k17 t18 k18 f0 f1 f2 f3 f4 f5 f6 f7 f8 f9 f10 f11 f12 f13 f14 f15 f16 ta1 w1 le1 s1 ta2 w2 le2 s2 ta3 w3 le3 s3 f20
  replace f0 := shm_115 f0
  replace f1 := shm_110 f1
  replace f2 := shm_119 f2
  replace f3 := shm_176 f3
  replace f8 := shm_177 f8
  replace f15 := shm_1187 f15
  have ad_13 : v_ad (n_v vs 13) = w_ar ws (n_v vs 0) 14 := congrArg v_ad f0
  have ad_10 : v_ad (n_v vs 10) = w_ar ws (n_v vs 1) 9 := congrArg v_ad f2
  have g1 : v_iv (n_v vs 11) = w_fi ws (n_v vs 1) 5 := congrArg v_iv f1
  have g3 : v_iv (n_v vs 9) = w_fi ws (n_v vs 0) 16 := congrArg v_iv f3
  have g8 : v_iv (n_v vs 14) = w_fi ws (n_v vs 0) 15 := congrArg v_iv f8
  simp only [ad_10, ad_13] at f15
  have kz_0_6 := fdq_53 hD hth r0
  have kz_0_7 := fdq_49 hD hth r0
  have kz_0_15 := fdq_54 hD hth r0
  have kz_0_16 := fdq_284 hD hth r0
  have kz_1_5 := fdq_85 hD hth r1
  have nf0 : fc_1 PRD (20, [0], [60, 2, 1, 613, 6, 15, 14]) ws (vs) := ⟨nf_in hl rfl, sgq_801 (vc_Em_findWay_at_gp_3_0 (v_iv (n_v vs 3)) (v_iv (n_v vs 8)) (v_iv (n_v vs 9)) (v_iv (n_v vs 11)) (v_iv (n_v vs 14)) (w_fi ws (n_v vs 1) 5) (w_fi ws (n_v vs 0) 16) (w_fi ws (n_v vs 0) 15) (w_fi ws (n_v vs 0) 6) (w_ei ws (w_ar ws (n_v vs 0) 14)) k3 k8 k9 k11 k14 g1 g3 g8 (shm_1598 f14) f15 kz_0_6 kz_0_15 kz_0_16 kz_1_5)⟩
  have nf1 : fc_1 PRD (20, [18, 0], [50, 2, 0, 1015, 1007, 3, 6, 1, 2, 1, 0, 0, 0, 2, 7, 0, 2, 0, 2, 2, 1, 15, 0, 7, 4, 3, 2, 1, 7, 0, 1, 0, 50]) ws (vs) := ⟨nf_in hl rfl, sgq_1599 (vc_Em_findWay_at_gp_3_1 (v_iv (n_v vs 2)) (v_iv (n_v vs 3)) (v_iv (n_v vs 8)) (v_iv (n_v vs 9)) (v_iv (n_v vs 14)) (v_iv (n_v vs 18)) (w_fi ws (n_v vs 0) 16) (w_fi ws (n_v vs 0) 17) (w_fi ws (n_v vs 0) 7) (w_fi ws (n_v vs 0) 15) k14 k18 g8 kz_0_7 kz_0_15)⟩
  refine ⟨(fun _ h => (by cases h)), [], trivial, ?_, (fun _ h => (by cases h))⟩
  rw [List.append_nil]
  exact List.forall_mem_cons.mpr ⟨⟨show (20 : Nat) < 100 from by decide, nf0⟩, List.forall_mem_cons.mpr ⟨⟨show (20 : Nat) < 100 from by decide, nf1⟩, (fun _ h => (by cases h))⟩⟩
set_option maxHeartbeats 4000000 in
theorem vc_Em_findWay_at_gp_4_0 (x3 : Int) (x8 : Int) (x9 : Int) (x11 : Int) (x14 : Int) (nodes_0o1 : Int) (pieceNodes_0 : Int) (wayLength_0 : Int) (drawnNodes_0 : Int) (way_0 : Int → Int) (k3 : 0 ≤ x3 ∧ x3 ≤ 24) (k8 : 0 ≤ x8 ∧ x8 ≤ 33554431) (k9 : 1 ≤ x9 ∧ x9 ≤ 33554431) (k11 : 0 ≤ x11 ∧ x11 ≤ 25) (k14 : 2 ≤ x14 ∧ x14 ≤ 26) (g1 : x11 = nodes_0o1) (g3 : x9 = pieceNodes_0) (g8 : x14 = wayLength_0) (f14 : PKD (pieceNodes_0) (drawnNodes_0) (nodes_0o1)) (f15 : SHW (way_0) (x3) (x8) (x9) (x14)) (kz_0_6 : 0 ≤ drawnNodes_0 ∧ drawnNodes_0 ≤ 33554431) (kz_0_15 : 0 ≤ wayLength_0 ∧ wayLength_0 ≤ 27) (kz_0_16 : 0 ≤ pieceNodes_0 ∧ pieceNodes_0 ≤ 33554431) (kz_1_5 : 0 ≤ nodes_0o1 ∧ nodes_0o1 ≤ 25) : WYN (drawnNodes_0) (wayLength_0) (way_0) := by
  first
    | (have hk := (‹PKD _ _ _›); rw [show pieceNodes_0 = x9 by omega] at hk; exact wyn_of ‹SHW _ _ _ _ _› hk (by omega) (by omega))
set_option maxHeartbeats 4000000 in
theorem vc_Em_findWay_at_gp_4_1 (x2 : Int) (x3 : Int) (x8 : Int) (x9 : Int) (x14 : Int) (x16 : Int) (x18 : Int) (pieceNodes_0 : Int) (pieceEnds_0 : Int) (cycles_0 : Int) (wayLength_0 : Int) (k14 : 2 ≤ x14 ∧ x14 ≤ 26) (k16 : 0 ≤ x16 ∧ x16 ≤ 49) (k18 : 1 ≤ x18 ∧ x18 ≤ 1) (g6 : x16 = cycles_0) (g8 : x14 = wayLength_0) (kz_0_7 : 0 ≤ cycles_0 ∧ cycles_0 ≤ 50) (kz_0_15 : 0 ≤ wayLength_0 ∧ wayLength_0 ≤ 27) : (x18 = 0) ∨ ((2 ≤ wayLength_0) ∧ ((cycles_0 + 1) ≤ 50)) := by
  first
    | omega
def o_Em_findWay_at_gp_4 : or_T := (112, 19, [(0, (2, 0, 0, [1])), (1, (2, 0, 0, [149])), (2, (0, 0, 33554431, [])), (3, (0, 0, 24, [])), (8, (0, 0, 33554431, [])), (9, (0, 1, 33554431, [])), (10, (2, 0, 0, [142])), (11, (0, 0, 25, [])), (13, (2, 0, 0, [35])), (14, (0, 2, 26, [])), (15, (0, 2, 2, [])), (16, (0, 0, 49, [])), (17, (0, 50, 50, [])), (18, (0, 1, 1, []))], [(9, [13, 0], [14]), (9, [11, 1], [5]), (9, [10, 1], [9]), (9, [9, 0], [16]), (9, [2, 0], [17]), (7, [16, 17], [2]), (9, [16, 0], [7]), (7, [14, 15], [3]), (9, [14, 0], [15]), (20, [10, 11], [61, 1, 560]), (20, [11, 9], [61, 0, 561]), (20, [2, 3], [61, 0, 555]), (20, [0], [60, 2, 0, 576, 16, 17]), (20, [1], [60, 1, 1, 575, 5, 9]), (20, [0, 1], [60, 3, 0, 610, 16, 6, 1005]), (20, [13, 3, 8, 9, 14], [61, 1, 564]), (20, [10, 11, 3, 8, 9, 14], [61, 1, 899]), (102, [14], [134217728]), (101, [0, 14], [15]), (102, [13], [51539607552]), (8, [9], [1])], [], [], [(20, [0], [60, 2, 1, 613, 6, 15, 14]), (20, [18, 0], [50, 2, 0, 1015, 1007, 3, 6, 1, 2, 1, 0, 0, 0, 2, 7, 0, 2, 0, 2, 2, 1, 15, 0, 7, 4, 3, 2, 1, 7, 0, 1, 0, 50])], [], [])
theorem oo_Em_findWay_at_gp_4 {kA : Nat → ClassId} : or_ok PRD kA GG o_Em_findWay_at_gp_4 := by
  refine or_mk fun A ta ws vs hD hth hl => ?_
  intro t0 r0 t1 r1 t2 k2 t3 k3 t8 k8 t9 k9 t10 r10 t11 k11 t13 r13 t14 k14 t15 k15 t16 k16 t17 k17 t18 k18 f0 f1 f2 f3 f4 f5 f6 f7 f8 f9 f10 f11 f12 f13 f14 f15 f16 ta1 w1 le1 s1 ta2 w2 le2 s2 ta3 w3 le3 s3 f20
  replace f0 := shm_115 f0
  replace f1 := shm_110 f1
  replace f2 := shm_119 f2
  replace f3 := shm_176 f3
  replace f6 := shm_198 f6
  replace f8 := shm_177 f8
  replace f15 := shm_1187 f15
  have ad_13 : v_ad (n_v vs 13) = w_ar ws (n_v vs 0) 14 := congrArg v_ad f0
  have ad_10 : v_ad (n_v vs 10) = w_ar ws (n_v vs 1) 9 := congrArg v_ad f2
  have g1 : v_iv (n_v vs 11) = w_fi ws (n_v vs 1) 5 := congrArg v_iv f1
  have g3 : v_iv (n_v vs 9) = w_fi ws (n_v vs 0) 16 := congrArg v_iv f3
  have g6 : v_iv (n_v vs 16) = w_fi ws (n_v vs 0) 7 := congrArg v_iv f6
  have g8 : v_iv (n_v vs 14) = w_fi ws (n_v vs 0) 15 := congrArg v_iv f8
  simp only [ad_10, ad_13] at f15
  have kz_0_6 := fdq_53 hD hth r0
  have kz_0_7 := fdq_49 hD hth r0
  have kz_0_15 := fdq_54 hD hth r0
  have kz_0_16 := fdq_284 hD hth r0
  have kz_1_5 := fdq_85 hD hth r1
  have nf0 : fc_1 PRD (20, [0], [60, 2, 1, 613, 6, 15, 14]) ws (vs) := ⟨nf_in hl rfl, sgq_801 (vc_Em_findWay_at_gp_4_0 (v_iv (n_v vs 3)) (v_iv (n_v vs 8)) (v_iv (n_v vs 9)) (v_iv (n_v vs 11)) (v_iv (n_v vs 14)) (w_fi ws (n_v vs 1) 5) (w_fi ws (n_v vs 0) 16) (w_fi ws (n_v vs 0) 15) (w_fi ws (n_v vs 0) 6) (w_ei ws (w_ar ws (n_v vs 0) 14)) k3 k8 k9 k11 k14 g1 g3 g8 (shm_1598 f14) f15 kz_0_6 kz_0_15 kz_0_16 kz_1_5)⟩
  have nf1 : fc_1 PRD (20, [18, 0], [50, 2, 0, 1015, 1007, 3, 6, 1, 2, 1, 0, 0, 0, 2, 7, 0, 2, 0, 2, 2, 1, 15, 0, 7, 4, 3, 2, 1, 7, 0, 1, 0, 50]) ws (vs) := ⟨nf_in hl rfl, sgq_1599 (vc_Em_findWay_at_gp_4_1 (v_iv (n_v vs 2)) (v_iv (n_v vs 3)) (v_iv (n_v vs 8)) (v_iv (n_v vs 9)) (v_iv (n_v vs 14)) (v_iv (n_v vs 16)) (v_iv (n_v vs 18)) (w_fi ws (n_v vs 0) 16) (w_fi ws (n_v vs 0) 17) (w_fi ws (n_v vs 0) 7) (w_fi ws (n_v vs 0) 15) k14 k16 k18 g6 g8 kz_0_7 kz_0_15)⟩
  refine ⟨(fun _ h => (by cases h)), [], trivial, ?_, (fun _ h => (by cases h))⟩
  rw [List.append_nil]
  exact List.forall_mem_cons.mpr ⟨⟨show (20 : Nat) < 100 from by decide, nf0⟩, List.forall_mem_cons.mpr ⟨⟨show (20 : Nat) < 100 from by decide, nf1⟩, (fun _ h => (by cases h))⟩⟩
set_option maxHeartbeats 4000000 in
theorem vc_Em_findWay_at_gp_5_r0 (x2 : Int) (x3 : Int) (x4 : Int) (x5 : Int) (x6 : Int) (x7 : Int) (x8 : Int) (x9 : Int) (x13 : Int) (pieceNodes_0 : Int) (pieceEnds_0 : Int) (near_0o1 : Int → Int) (nodes_0o1 : Int) (drawnNodes_0 : Int) (pieceNodes_1 : Int) (pieceEnds_1 : Int) (near_1o1 : Int → Int) (nodes_1o1 : Int) (drawnNodes_1 : Int) (k2 : 0 ≤ x2 ∧ x2 ≤ 33554431) (k3 : 0 ≤ x3 ∧ x3 ≤ 24) (k4 : 1 ≤ x4 ∧ x4 ≤ 1) (k5 : 1 ≤ x5 ∧ x5 ≤ 16777216) (k6 : (-1) ≤ x6 ∧ x6 ≤ (-1)) (k7 : (-2147483648) ≤ x7 ∧ x7 ≤ 2147483647) (k8 : 0 ≤ x8 ∧ x8 ≤ 33554431) (k9 : 0 ≤ x9 ∧ x9 ≤ 0) (k13 : 0 ≤ x13 ∧ x13 ≤ 63) (g0 : x9 = pieceNodes_0) (g1 : x2 = pieceEnds_0) (f2 : LOW (x8) (x13)) (f9 : x9 = 0) (f10 : bvp (x8) = bvp (x2) &&& bvp (x7)) (f11 : bvp (x7) = bvp (x5) ^^^ bvp (x6)) (f12 : bvp (x5) = bvp (x4) <<< (x3).toNat) (f14 : PEN (pieceNodes_1) (pieceEnds_1)) (fe_0_6_1 : drawnNodes_0 = drawnNodes_1) (fe_0_16_1 : pieceNodes_0 = pieceNodes_1) (fe_0_17_1 : pieceEnds_0 = pieceEnds_1) (fe_1_5_1 : nodes_0o1 = nodes_1o1) (hE_1_9_1 : ∀ j : Int, near_0o1 j = near_1o1 j) (kz_0_6 : 0 ≤ drawnNodes_0 ∧ drawnNodes_0 ≤ 33554431) (kz_0_16 : 0 ≤ pieceNodes_0 ∧ pieceNodes_0 ≤ 33554431) (kz_0_17 : 0 ≤ pieceEnds_0 ∧ pieceEnds_0 ≤ 33554431) (kz_1_5 : 0 ≤ nodes_0o1 ∧ nodes_0o1 ≤ 25) : 0 ≤ x13 ∧ x13 ≤ 24 := by
  subst fe_0_6_1
  subst fe_0_16_1
  subst fe_0_17_1
  subst fe_1_5_1
  have e_hE_1_9_1 := funext hE_1_9_1; subst e_hE_1_9_1
  first
    | (have h := (‹PEN _ _› : PEN pieceNodes_0 pieceEnds_0); rw [← ‹x2 = pieceEnds_0›, ← ‹x9 = pieceNodes_0›] at h; have q := pen_two (an := x3) (q := x5) (r := x7) (m1 := x6) h (by omega) (by omega) ‹bvp x5 = _› (by omega) ‹bvp x7 = _› (by omega) ‹bvp x8 = _› (by omega) (by omega) (‹LOW _ _› : LOW x8 x13); omega)
def o_Em_findWay_at_gp_5 : or_T := (42, 14, [(0, (2, 0, 0, [1])), (1, (2, 0, 0, [149])), (2, (0, 0, 33554431, [])), (3, (0, 0, 24, [])), (4, (0, 1, 1, [])), (5, (0, 1, 16777216, [])), (6, (0, -1, -1, [])), (7, (0, -2147483648, 2147483647, [])), (8, (0, 0, 33554431, [])), (9, (0, 0, 0, [])), (10, (2, 0, 0, [35])), (11, (0, 0, 0, [])), (13, (0, 0, 63, []))], [(9, [9, 0], [16]), (9, [2, 0], [17]), (20, [8, 13], [61, 0, 555]), (9, [10, 0], [14]), (20, [2, 3], [61, 0, 555]), (20, [0], [60, 2, 0, 576, 16, 17]), (20, [1], [60, 1, 1, 575, 5, 9]), (20, [0, 1], [60, 3, 0, 610, 16, 6, 1005]), (100, [10, 11, 3], []), (8, [9], [0]), (16, [8, 2, 7], [0]), (16, [7, 5, 6], [2]), (16, [5, 4, 3], [3]), (20, [2, 3], [61, 0, 555]), (20, [0], [60, 2, 0, 576, 16, 17]), (20, [1], [60, 1, 1, 575, 5, 9]), (20, [0, 1], [60, 3, 0, 610, 16, 6, 1005])], [(13, (0, 0, 24, []))], [], [], [], [])
theorem oo_Em_findWay_at_gp_5 {kA : Nat → ClassId} : or_ok PRD kA GG o_Em_findWay_at_gp_5 := by
  refine or_mk fun A ta ws vs hD hth hl => ?_
  intro t0 r0 t1 r1 t2 k2 t3 k3 t4 k4 t5 k5 t6 k6 t7 k7 t8 k8 t9 k9 t10 r10 t11 k11 t13 k13 f0 f1 f2 f3 f4 f5 f6 f7 ta1 w1 le1 s1 f9 f10 f11 f12 f13 f14 f15 f16
  replace f0 := shm_176 f0
  replace f1 := shm_795 f1
  have s1 : (∀ b j, w_el ws b j = if b = v_ad (n_v vs 10) ∧ j = (v_iv (n_v vs 11)).toNat then v_iv (n_v vs 3) else w_el w1 b j) ∧ ∀ b k, w_fd ws b k = w_fd w1 b k := s1.2
  have cr_1_9 := fdq_83 hD hth r1
  have g0 : v_iv (n_v vs 9) = w_fi ws (n_v vs 0) 16 := congrArg v_iv f0
  have g1 : v_iv (n_v vs 2) = w_fi ws (n_v vs 0) 17 := congrArg v_iv f1
  have fe_0_6_1 : w_fi ws (n_v vs 0) 6 = w_fi w1 (n_v vs 0) 6 := congrArg v_iv (s1.2 _ _)
  have fe_0_16_1 : w_fi ws (n_v vs 0) 16 = w_fi w1 (n_v vs 0) 16 := congrArg v_iv (s1.2 _ _)
  have fe_0_17_1 : w_fi ws (n_v vs 0) 17 = w_fi w1 (n_v vs 0) 17 := congrArg v_iv (s1.2 _ _)
  have fe_1_5_1 : w_fi ws (n_v vs 1) 5 = w_fi w1 (n_v vs 1) 5 := congrArg v_iv (s1.2 _ _)
  have hE_1_9_1 : ∀ j : Int, w_ei ws (w_ar ws (n_v vs 1) 9) j = w_ei w1 (w_ar ws (n_v vs 1) 9) j := el_kp s1.1 r10 cr_1_9 (by decide)
  have kz_0_6 := fdq_53 hD hth r0
  have kz_0_16 := fdq_284 hD hth r0
  have kz_0_17 := fdq_285 hD hth r0
  have kz_1_5 := fdq_85 hD hth r1
  have hrf0 : 0 ≤ v_iv (n_v vs 13) ∧ v_iv (n_v vs 13) ≤ 24 := vc_Em_findWay_at_gp_5_r0 (v_iv (n_v vs 2)) (v_iv (n_v vs 3)) (v_iv (n_v vs 4)) (v_iv (n_v vs 5)) (v_iv (n_v vs 6)) (v_iv (n_v vs 7)) (v_iv (n_v vs 8)) (v_iv (n_v vs 9)) (v_iv (n_v vs 13)) (w_fi ws (n_v vs 0) 16) (w_fi ws (n_v vs 0) 17) (w_ei ws (w_ar ws (n_v vs 1) 9)) (w_fi ws (n_v vs 1) 5) (w_fi ws (n_v vs 0) 6) (w_fi w1 (n_v vs 0) 16) (w_fi w1 (n_v vs 0) 17) (w_ei w1 (w_ar ws (n_v vs 1) 9)) (w_fi w1 (n_v vs 1) 5) (w_fi w1 (n_v vs 0) 6) k2 k3 k4 k5 k6 k7 k8 k9 k13 g0 g1 (shm_810 f2) (shm_192 f9) (shm_11 f10) (shm_33 f11) (shm_349 f12) (shm_1596 f14) fe_0_6_1 fe_0_16_1 fe_0_17_1 fe_1_5_1 hE_1_9_1 kz_0_6 kz_0_16 kz_0_17 kz_1_5
  have rf13 : tv_ok ta (0, 0, 24, []) (n_v vs 13) := tv_in t13 (by first | omega | grind) (by first | omega | grind)
  refine ⟨List.forall_mem_cons.mpr ⟨rf13, (fun _ h => (by cases h))⟩, [], trivial, ?_, (fun _ h => (by cases h))⟩
  rw [List.append_nil]
  exact (fun _ h => (by cases h))
set_option maxHeartbeats 4000000 in
theorem vc_Em_findWay_at_gp_6_0 (x9 : Int) (x14 : Int) (pieceNodes_0 : Int) (wayLength_0 : Int) (drawnNodes_0 : Int) (way_0 : Int → Int) (k14 : 2 ≤ x14 ∧ x14 ≤ 2) (g6 : x14 = wayLength_0) (kz_0_6 : 0 ≤ drawnNodes_0 ∧ drawnNodes_0 ≤ 33554431) (kz_0_15 : 0 ≤ wayLength_0 ∧ wayLength_0 ≤ 27) : WYN (drawnNodes_0) (wayLength_0) (way_0) := by
  first
    | exact wyn_two (by omega)
set_option maxHeartbeats 4000000 in
theorem vc_Em_findWay_at_gp_6_1 (x2 : Int) (x3 : Int) (x8 : Int) (x9 : Int) (x13 : Int) (x14 : Int) (x18 : Int) (pieceNodes_0 : Int) (pieceEnds_0 : Int) (cycles_0 : Int) (wayLength_0 : Int) (k14 : 2 ≤ x14 ∧ x14 ≤ 2) (k18 : 0 ≤ x18 ∧ x18 ≤ 0) (g6 : x14 = wayLength_0) (kz_0_7 : 0 ≤ cycles_0 ∧ cycles_0 ≤ 50) (kz_0_15 : 0 ≤ wayLength_0 ∧ wayLength_0 ≤ 27) : (x18 = 0) ∨ ((2 ≤ wayLength_0) ∧ ((cycles_0 + 1) ≤ 50)) := by
  first
    | omega
def o_Em_findWay_at_gp_6 : or_T := (112, 19, [(0, (2, 0, 0, [1])), (1, (2, 0, 0, [149])), (2, (0, 0, 33554431, [])), (3, (0, 0, 24, [])), (8, (0, 0, 33554431, [])), (9, (0, 0, 0, [])), (10, (2, 0, 0, [35])), (11, (0, 0, 0, [])), (12, (0, 1, 1, [])), (13, (0, 0, 24, [])), (14, (0, 2, 2, [])), (15, (0, 2, 2, [])), (16, (0, 50, 50, [])), (17, (0, 50, 50, [])), (18, (0, 0, 0, []))], [(9, [10, 0], [14]), (9, [9, 0], [16]), (9, [2, 0], [17]), (7, [16, 17], [3]), (9, [16, 0], [7]), (7, [14, 15], [3]), (9, [14, 0], [15]), (20, [8, 13], [61, 0, 555]), (20, [2, 3], [61, 0, 555]), (20, [0], [60, 2, 0, 576, 16, 17]), (20, [1], [60, 1, 1, 575, 5, 9]), (20, [0, 1], [60, 3, 0, 610, 16, 6, 1005]), (102, [14], [134217728]), (101, [0, 14], [15]), (100, [10, 12, 13], []), (100, [10, 11, 3], []), (8, [9], [0])], [], [], [(20, [0], [60, 2, 1, 613, 6, 15, 14]), (20, [18, 0], [50, 2, 0, 1015, 1007, 3, 6, 1, 2, 1, 0, 0, 0, 2, 7, 0, 2, 0, 2, 2, 1, 15, 0, 7, 4, 3, 2, 1, 7, 0, 1, 0, 50])], [], [])
theorem oo_Em_findWay_at_gp_6 {kA : Nat → ClassId} : or_ok PRD kA GG o_Em_findWay_at_gp_6 := by
  refine or_mk fun A ta ws vs hD hth hl => ?_
  intro t0 r0 t1 r1 t2 k2 t3 k3 t8 k8 t9 k9 t10 r10 t11 k11 t12 k12 t13 k13 t14 k14 t15 k15 t16 k16 t17 k17 t18 k18 f0 f1 f2 f3 f4 f5 f6 f7 f8 f9 f10 f11 ta1 w1 le1 s1 ta2 w2 le2 s2 ta3 w3 le3 s3 ta4 w4 le4 s4 f16
  replace f6 := shm_177 f6
  have g6 : v_iv (n_v vs 14) = w_fi ws (n_v vs 0) 15 := congrArg v_iv f6
  have kz_0_6 := fdq_53 hD hth r0
  have kz_0_7 := fdq_49 hD hth r0
  have kz_0_15 := fdq_54 hD hth r0
  have nf0 : fc_1 PRD (20, [0], [60, 2, 1, 613, 6, 15, 14]) ws (vs) := ⟨nf_in hl rfl, sgq_801 (vc_Em_findWay_at_gp_6_0 (v_iv (n_v vs 9)) (v_iv (n_v vs 14)) (w_fi ws (n_v vs 0) 16) (w_fi ws (n_v vs 0) 15) (w_fi ws (n_v vs 0) 6) (w_ei ws (w_ar ws (n_v vs 0) 14)) k14 g6 kz_0_6 kz_0_15)⟩
  have nf1 : fc_1 PRD (20, [18, 0], [50, 2, 0, 1015, 1007, 3, 6, 1, 2, 1, 0, 0, 0, 2, 7, 0, 2, 0, 2, 2, 1, 15, 0, 7, 4, 3, 2, 1, 7, 0, 1, 0, 50]) ws (vs) := ⟨nf_in hl rfl, sgq_1599 (vc_Em_findWay_at_gp_6_1 (v_iv (n_v vs 2)) (v_iv (n_v vs 3)) (v_iv (n_v vs 8)) (v_iv (n_v vs 9)) (v_iv (n_v vs 13)) (v_iv (n_v vs 14)) (v_iv (n_v vs 18)) (w_fi ws (n_v vs 0) 16) (w_fi ws (n_v vs 0) 17) (w_fi ws (n_v vs 0) 7) (w_fi ws (n_v vs 0) 15) k14 k18 g6 kz_0_7 kz_0_15)⟩
  refine ⟨(fun _ h => (by cases h)), [], trivial, ?_, (fun _ h => (by cases h))⟩
  rw [List.append_nil]
  exact List.forall_mem_cons.mpr ⟨⟨show (20 : Nat) < 100 from by decide, nf0⟩, List.forall_mem_cons.mpr ⟨⟨show (20 : Nat) < 100 from by decide, nf1⟩, (fun _ h => (by cases h))⟩⟩
set_option maxHeartbeats 4000000 in
theorem vc_Em_findWay_at_gp_7_0 (x9 : Int) (x14 : Int) (pieceNodes_0 : Int) (wayLength_0 : Int) (drawnNodes_0 : Int) (way_0 : Int → Int) (k14 : 2 ≤ x14 ∧ x14 ≤ 2) (g6 : x14 = wayLength_0) (kz_0_6 : 0 ≤ drawnNodes_0 ∧ drawnNodes_0 ≤ 33554431) (kz_0_15 : 0 ≤ wayLength_0 ∧ wayLength_0 ≤ 27) : WYN (drawnNodes_0) (wayLength_0) (way_0) := by
  first
    | exact wyn_two (by omega)
set_option maxHeartbeats 4000000 in
theorem vc_Em_findWay_at_gp_7_1 (x2 : Int) (x3 : Int) (x8 : Int) (x9 : Int) (x13 : Int) (x14 : Int) (x16 : Int) (x18 : Int) (pieceNodes_0 : Int) (pieceEnds_0 : Int) (cycles_0 : Int) (wayLength_0 : Int) (k14 : 2 ≤ x14 ∧ x14 ≤ 2) (k16 : 0 ≤ x16 ∧ x16 ≤ 49) (k18 : 1 ≤ x18 ∧ x18 ≤ 1) (g4 : x16 = cycles_0) (g6 : x14 = wayLength_0) (kz_0_7 : 0 ≤ cycles_0 ∧ cycles_0 ≤ 50) (kz_0_15 : 0 ≤ wayLength_0 ∧ wayLength_0 ≤ 27) : (x18 = 0) ∨ ((2 ≤ wayLength_0) ∧ ((cycles_0 + 1) ≤ 50)) := by
  first
    | omega
def o_Em_findWay_at_gp_7 : or_T := (112, 19, [(0, (2, 0, 0, [1])), (1, (2, 0, 0, [149])), (2, (0, 0, 33554431, [])), (3, (0, 0, 24, [])), (8, (0, 0, 33554431, [])), (9, (0, 0, 0, [])), (10, (2, 0, 0, [35])), (11, (0, 0, 0, [])), (12, (0, 1, 1, [])), (13, (0, 0, 24, [])), (14, (0, 2, 2, [])), (15, (0, 2, 2, [])), (16, (0, 0, 49, [])), (17, (0, 50, 50, [])), (18, (0, 1, 1, []))], [(9, [10, 0], [14]), (9, [9, 0], [16]), (9, [2, 0], [17]), (7, [16, 17], [2]), (9, [16, 0], [7]), (7, [14, 15], [3]), (9, [14, 0], [15]), (20, [8, 13], [61, 0, 555]), (20, [2, 3], [61, 0, 555]), (20, [0], [60, 2, 0, 576, 16, 17]), (20, [1], [60, 1, 1, 575, 5, 9]), (20, [0, 1], [60, 3, 0, 610, 16, 6, 1005]), (102, [14], [134217728]), (101, [0, 14], [15]), (100, [10, 12, 13], []), (100, [10, 11, 3], []), (8, [9], [0])], [], [], [(20, [0], [60, 2, 1, 613, 6, 15, 14]), (20, [18, 0], [50, 2, 0, 1015, 1007, 3, 6, 1, 2, 1, 0, 0, 0, 2, 7, 0, 2, 0, 2, 2, 1, 15, 0, 7, 4, 3, 2, 1, 7, 0, 1, 0, 50])], [], [])
theorem oo_Em_findWay_at_gp_7 {kA : Nat → ClassId} : or_ok PRD kA GG o_Em_findWay_at_gp_7 := by
  refine or_mk fun A ta ws vs hD hth hl => ?_
  intro t0 r0 t1 r1 t2 k2 t3 k3 t8 k8 t9 k9 t10 r10 t11 k11 t12 k12 t13 k13 t14 k14 t15 k15 t16 k16 t17 k17 t18 k18 f0 f1 f2 f3 f4 f5 f6 f7 f8 f9 f10 f11 ta1 w1 le1 s1 ta2 w2 le2 s2 ta3 w3 le3 s3 ta4 w4 le4 s4 f16
  replace f4 := shm_198 f4
  replace f6 := shm_177 f6
  have g4 : v_iv (n_v vs 16) = w_fi ws (n_v vs 0) 7 := congrArg v_iv f4
  have g6 : v_iv (n_v vs 14) = w_fi ws (n_v vs 0) 15 := congrArg v_iv f6
  have kz_0_6 := fdq_53 hD hth r0
  have kz_0_7 := fdq_49 hD hth r0
  have kz_0_15 := fdq_54 hD hth r0
  have nf0 : fc_1 PRD (20, [0], [60, 2, 1, 613, 6, 15, 14]) ws (vs) := ⟨nf_in hl rfl, sgq_801 (vc_Em_findWay_at_gp_7_0 (v_iv (n_v vs 9)) (v_iv (n_v vs 14)) (w_fi ws (n_v vs 0) 16) (w_fi ws (n_v vs 0) 15) (w_fi ws (n_v vs 0) 6) (w_ei ws (w_ar ws (n_v vs 0) 14)) k14 g6 kz_0_6 kz_0_15)⟩
  have nf1 : fc_1 PRD (20, [18, 0], [50, 2, 0, 1015, 1007, 3, 6, 1, 2, 1, 0, 0, 0, 2, 7, 0, 2, 0, 2, 2, 1, 15, 0, 7, 4, 3, 2, 1, 7, 0, 1, 0, 50]) ws (vs) := ⟨nf_in hl rfl, sgq_1599 (vc_Em_findWay_at_gp_7_1 (v_iv (n_v vs 2)) (v_iv (n_v vs 3)) (v_iv (n_v vs 8)) (v_iv (n_v vs 9)) (v_iv (n_v vs 13)) (v_iv (n_v vs 14)) (v_iv (n_v vs 16)) (v_iv (n_v vs 18)) (w_fi ws (n_v vs 0) 16) (w_fi ws (n_v vs 0) 17) (w_fi ws (n_v vs 0) 7) (w_fi ws (n_v vs 0) 15) k14 k16 k18 g4 g6 kz_0_7 kz_0_15)⟩
  refine ⟨(fun _ h => (by cases h)), [], trivial, ?_, (fun _ h => (by cases h))⟩
  rw [List.append_nil]
  exact List.forall_mem_cons.mpr ⟨⟨show (20 : Nat) < 100 from by decide, nf0⟩, List.forall_mem_cons.mpr ⟨⟨show (20 : Nat) < 100 from by decide, nf1⟩, (fun _ h => (by cases h))⟩⟩
def n_Em_findWay_at_gp_an : List an_T := []
def t_Em_findWay_at_gp_ct : ct_L := [(0, 194, e_Fa_lowest), (243, 166, e_Fa_shortestWay_at_Npnear_Emlevel_Emway), (265, 173, e_Em_drawWay_at_gp)]
set_option maxRecDepth 100000 in
theorem c_Em_findWay_at_gp {l : Launch} {D : va_G} {kA : Nat → ClassId} (h_Em_drawWay_at_gp : ct_ok PRD l D kA GG y_Em_drawWay_at_gp z_Em_drawWay_at_gp e_Em_drawWay_at_gp) (h_Fa_lowest : ct_ok PRD l D kA GG y_Fa_lowest z_Fa_lowest e_Fa_lowest) (h_Fa_shortestWay_at_Npnear_Emlevel_Emway : ct_ok PRD l D kA GG y_Fa_shortestWay_at_Npnear_Emlevel_Emway z_Fa_shortestWay_at_Npnear_Emlevel_Emway e_Fa_shortestWay_at_Npnear_Emlevel_Emway) : ct_ok PRD l D kA GG y_Em_findWay_at_gp z_Em_findWay_at_gp e_Em_findWay_at_gp := chk_all_ok (FT := [(9, 1, 0), (39, 1, 7), (57, 1, 13), (60, 1, 14), (63, 1, 15), (66, 1, 16), (69, 1, 17), (85, 5, 5), (114, 5, 9)]) (PT := [(63, 1, 15, .int)]) (CT := t_Em_findWay_at_gp_ct) (KT := []) (NT := []) (AN := n_Em_findWay_at_gp_an) (OT := [o_Em_findWay_at_gp_0, o_Em_findWay_at_gp_1, o_Em_findWay_at_gp_2, o_Em_findWay_at_gp_3, o_Em_findWay_at_gp_4, o_Em_findWay_at_gp_5, o_Em_findWay_at_gp_6, o_Em_findWay_at_gp_7]) 0 320 (List.forall_mem_cons.mpr ⟨oo_Em_findWay_at_gp_0, List.forall_mem_cons.mpr ⟨oo_Em_findWay_at_gp_1, List.forall_mem_cons.mpr ⟨oo_Em_findWay_at_gp_2, List.forall_mem_cons.mpr ⟨oo_Em_findWay_at_gp_3, List.forall_mem_cons.mpr ⟨oo_Em_findWay_at_gp_4, List.forall_mem_cons.mpr ⟨oo_Em_findWay_at_gp_5, List.forall_mem_cons.mpr ⟨oo_Em_findWay_at_gp_6, List.forall_mem_cons.mpr ⟨oo_Em_findWay_at_gp_7, List.forall_mem_nil _⟩⟩⟩⟩⟩⟩⟩⟩) (by decide +kernel) ⟨List.forall_mem_cons.mpr ⟨gf_Em_9, List.forall_mem_cons.mpr ⟨gf_Em_39, List.forall_mem_cons.mpr ⟨gf_Em_57, List.forall_mem_cons.mpr ⟨gf_Em_60, List.forall_mem_cons.mpr ⟨gf_Em_63, List.forall_mem_cons.mpr ⟨gf_Em_66, List.forall_mem_cons.mpr ⟨gf_Em_69, List.forall_mem_cons.mpr ⟨gf_Em_85, List.forall_mem_cons.mpr ⟨gf_Em_114, List.forall_mem_nil _⟩⟩⟩⟩⟩⟩⟩⟩⟩, List.forall_mem_cons.mpr ⟨pf_Em_63, List.forall_mem_nil _⟩, List.forall_mem_cons.mpr ⟨cl_static (y := y_Fa_lowest) h_Fa_lowest wm_899 wm_7 wm_1109 wm_898 ⟨by decide, by decide, by decide +kernel⟩ (by decide), List.forall_mem_cons.mpr ⟨cl_static (y := y_Fa_shortestWay_at_Npnear_Emlevel_Emway) h_Fa_shortestWay_at_Npnear_Emlevel_Emway wm_1077 wm_7 wm_1075 wm_1076 ⟨by decide, by decide, by decide +kernel⟩ (by decide), List.forall_mem_cons.mpr ⟨cl_virtual (y := y_Em_drawWay_at_gp) (ci := 1) rfl rfl ⟨_, _, rfl⟩ (by decide +kernel) h_Em_drawWay_at_gp wm_1085 wm_5 wm_1082 wm_1084 wv_3_9 ⟨by decide, by decide, by decide +kernel⟩ (by decide), List.forall_mem_nil _⟩⟩⟩, List.forall_mem_nil _, List.forall_mem_nil _, GG_pl⟩ (by decide +kernel)
set_option maxHeartbeats 4000000 in
theorem vc_Fa_blocksOf_at_Grtail_Grhead_Grnear_Fablock_0_0 (x6 : Int) (a5_0 : Int → Int) (k6 : 0 ≤ x6 ∧ x6 ≤ 0) : BL0 (a5_0) (x6) := by
  first
    | exact bl0_start (by omega)
def o_Fa_blocksOf_at_Grtail_Grhead_Grnear_Fablock_0 : or_T := (3, 7, [(6, (0, 0, 0, []))], [], [], [], [(20, [5, 6], [61, 1, 565]), (24, [0, 0], []), (24, [1, 1], []), (24, [2, 2], []), (24, [3, 3], []), (24, [4, 4], []), (24, [5, 5], [])], [], [])
theorem oo_Fa_blocksOf_at_Grtail_Grhead_Grnear_Fablock_0 {kA : Nat → ClassId} : or_ok PRD kA GG o_Fa_blocksOf_at_Grtail_Grhead_Grnear_Fablock_0 := by
  refine or_mk fun A ta ws vs hD hth hl => ?_
  intro t6 k6
  have nf0 : fc_1 PRD (20, [5, 6], [61, 1, 565]) ws (vs) := ⟨nf_in hl rfl, sgq_1600 (vc_Fa_blocksOf_at_Grtail_Grhead_Grnear_Fablock_0_0 (v_iv (n_v vs 6)) (w_ei ws (v_ad (n_v vs 5))) k6)⟩
  have nf1 : fc_1 PRD (24, [0, 0], []) ws (vs) := by
    refine ⟨nf_in hl rfl, sgq_1 ?_⟩
    · show n_v vs 0 = n_v vs 0
      first | rfl | simp only [true_and]
  have nf2 : fc_1 PRD (24, [1, 1], []) ws (vs) := by
    refine ⟨nf_in hl rfl, sgq_1 ?_⟩
    · show n_v vs 1 = n_v vs 1
      first | rfl | simp only [true_and]
  have nf3 : fc_1 PRD (24, [2, 2], []) ws (vs) := by
    refine ⟨nf_in hl rfl, sgq_1 ?_⟩
    · show n_v vs 2 = n_v vs 2
      first | rfl | simp only [true_and]
  have nf4 : fc_1 PRD (24, [3, 3], []) ws (vs) := by
    refine ⟨nf_in hl rfl, sgq_1 ?_⟩
    · show n_v vs 3 = n_v vs 3
      first | rfl | simp only [true_and]
  have nf5 : fc_1 PRD (24, [4, 4], []) ws (vs) := by
    refine ⟨nf_in hl rfl, sgq_1 ?_⟩
    · show n_v vs 4 = n_v vs 4
      first | rfl | simp only [true_and]
  have nf6 : fc_1 PRD (24, [5, 5], []) ws (vs) := by
    refine ⟨nf_in hl rfl, sgq_1 ?_⟩
    · show n_v vs 5 = n_v vs 5
      first | rfl | simp only [true_and]
  refine ⟨(fun _ h => (by cases h)), [], trivial, ?_, (fun _ h => (by cases h))⟩
  rw [List.append_nil]
  exact List.forall_mem_cons.mpr ⟨⟨show (20 : Nat) < 100 from by decide, nf0⟩, List.forall_mem_cons.mpr ⟨⟨show (24 : Nat) < 100 from by decide, nf1⟩, List.forall_mem_cons.mpr ⟨⟨show (24 : Nat) < 100 from by decide, nf2⟩, List.forall_mem_cons.mpr ⟨⟨show (24 : Nat) < 100 from by decide, nf3⟩, List.forall_mem_cons.mpr ⟨⟨show (24 : Nat) < 100 from by decide, nf4⟩, List.forall_mem_cons.mpr ⟨⟨show (24 : Nat) < 100 from by decide, nf5⟩, List.forall_mem_cons.mpr ⟨⟨show (24 : Nat) < 100 from by decide, nf6⟩, (fun _ h => (by cases h))⟩⟩⟩⟩⟩⟩⟩
set_option maxHeartbeats 4000000 in
theorem vc_Fa_blocksOf_at_Grtail_Grhead_Grnear_Fablock_1_0 (x1 : Int) (x12 : Int) (a5_0 : Int → Int) (k1 : 0 ≤ x1 ∧ x1 ≤ 48) (k12 : 0 ≤ x12 ∧ x12 ≤ 48) (f2 : x1 ≤ x12) (f3 : BL0 (a5_0) (x12)) : BLQ (a5_0) (x1) := by
  first
    | exact blq_start ‹BL0 _ _› (by omega)
set_option maxHeartbeats 4000000 in
theorem vc_Fa_blocksOf_at_Grtail_Grhead_Grnear_Fablock_1_1 (x1 : Int) (x12 : Int) (a5_0 : Int → Int) (a2_0 : Int → Int) (a3_0 : Int → Int) (k1 : 0 ≤ x1 ∧ x1 ≤ 48) (k12 : 0 ≤ x12 ∧ x12 ≤ 48) (f2 : x1 ≤ x12) (f3 : BL0 (a5_0) (x12)) : BLZ (a5_0) (a2_0) (a3_0) (x1) := by
  first
    | exact blz_start ‹BL0 _ _› (by omega)
set_option maxHeartbeats 4000000 in
theorem vc_Fa_blocksOf_at_Grtail_Grhead_Grnear_Fablock_1_2 (x0 : Int) (x1 : Int) (x12 : Int) (a5_0 : Int → Int) (a2_0 : Int → Int) (a3_0 : Int → Int) (a4_0 : Int → Int) (k0 : 0 ≤ x0 ∧ x0 ≤ 24) (k1 : 0 ≤ x1 ∧ x1 ≤ 48) (k12 : 0 ≤ x12 ∧ x12 ≤ 48) (f2 : x1 ≤ x12) (f3 : BL0 (a5_0) (x12)) : BCU (a5_0) (a2_0) (a3_0) (a4_0) (x0) (x1) := by
  first
    | exact bcu_start ‹BL0 _ _› (by omega)
def o_Fa_blocksOf_at_Grtail_Grhead_Grnear_Fablock_1 : or_T := (32, 18, [(0, (0, 0, 24, [])), (1, (0, 0, 48, [])), (12, (0, 0, 48, []))], [(7, [12, 7], [3]), (20, [11, 12], [61, 1, 565]), (24, [0, 6], []), (24, [1, 7], []), (24, [2, 8], []), (24, [3, 9], []), (24, [4, 10], []), (24, [5, 11], [])], [], [], [(20, [11, 7], [61, 1, 566]), (20, [11, 8, 9, 7], [61, 3, 580]), (20, [11, 8, 9, 10, 6, 7], [61, 4, 587])], [], [])
theorem oo_Fa_blocksOf_at_Grtail_Grhead_Grnear_Fablock_1 {kA : Nat → ClassId} : or_ok PRD kA GG o_Fa_blocksOf_at_Grtail_Grhead_Grnear_Fablock_1 := by
  refine or_mk fun A ta ws vs hD hth hl => ?_
  intro t0 k0 t1 k1 t12 k12 f2 f3 f4 f5 f6 f7 f8 f9
  replace f2 := shm_2 f2
  replace f3 := shm_1600 f3
  replace f4 := shm_5 f4
  replace f5 := shm_5 f5
  replace f6 := shm_5 f6
  replace f7 := shm_5 f7
  replace f8 := shm_5 f8
  replace f9 := shm_5 f9
  have q6 : n_v vs 6 = n_v vs 0 := f4.symm
  have q7 : n_v vs 7 = n_v vs 1 := f5.symm
  have q8 : n_v vs 8 = n_v vs 2 := f6.symm
  have q9 : n_v vs 9 = n_v vs 3 := f7.symm
  have q10 : n_v vs 10 = n_v vs 4 := f8.symm
  have q11 : n_v vs 11 = n_v vs 5 := f9.symm
  simp only [q7, q11] at f2 f3
  have nf0 : fc_1 PRD (20, [11, 7], [61, 1, 566]) ws (vs) := by
    refine ⟨nf_in hl rfl, sgq_365 ?_⟩
    · show BLQ (w_ei ws (v_ad (n_v vs 11))) (v_iv (n_v vs 7))
      simp only [q7, q11]
      exact vc_Fa_blocksOf_at_Grtail_Grhead_Grnear_Fablock_1_0 (v_iv (n_v vs 1)) (v_iv (n_v vs 12)) (w_ei ws (v_ad (n_v vs 5))) k1 k12 f2 f3
  have nf1 : fc_1 PRD (20, [11, 8, 9, 7], [61, 3, 580]) ws (vs) := by
    refine ⟨nf_in hl rfl, sgq_1190 ?_⟩
    · show BLZ (w_ei ws (v_ad (n_v vs 11))) (w_ei ws (v_ad (n_v vs 8))) (w_ei ws (v_ad (n_v vs 9))) (v_iv (n_v vs 7))
      simp only [q7, q8, q9, q11]
      exact vc_Fa_blocksOf_at_Grtail_Grhead_Grnear_Fablock_1_1 (v_iv (n_v vs 1)) (v_iv (n_v vs 12)) (w_ei ws (v_ad (n_v vs 5))) (w_ei ws (v_ad (n_v vs 2))) (w_ei ws (v_ad (n_v vs 3))) k1 k12 f2 f3
  have nf2 : fc_1 PRD (20, [11, 8, 9, 10, 6, 7], [61, 4, 587]) ws (vs) := by
    refine ⟨nf_in hl rfl, sgq_1191 ?_⟩
    · show BCU (w_ei ws (v_ad (n_v vs 11))) (w_ei ws (v_ad (n_v vs 8))) (w_ei ws (v_ad (n_v vs 9))) (w_ei ws (v_ad (n_v vs 10))) (v_iv (n_v vs 6)) (v_iv (n_v vs 7))
      simp only [q6, q7, q8, q9, q10, q11]
      exact vc_Fa_blocksOf_at_Grtail_Grhead_Grnear_Fablock_1_2 (v_iv (n_v vs 0)) (v_iv (n_v vs 1)) (v_iv (n_v vs 12)) (w_ei ws (v_ad (n_v vs 5))) (w_ei ws (v_ad (n_v vs 2))) (w_ei ws (v_ad (n_v vs 3))) (w_ei ws (v_ad (n_v vs 4))) k0 k1 k12 f2 f3
  refine ⟨(fun _ h => (by cases h)), [], trivial, ?_, (fun _ h => (by cases h))⟩
  rw [List.append_nil]
  exact List.forall_mem_cons.mpr ⟨⟨show (20 : Nat) < 100 from by decide, nf0⟩, List.forall_mem_cons.mpr ⟨⟨show (20 : Nat) < 100 from by decide, nf1⟩, List.forall_mem_cons.mpr ⟨⟨show (20 : Nat) < 100 from by decide, nf2⟩, (fun _ h => (by cases h))⟩⟩⟩
set_option maxHeartbeats 4000000 in
theorem vc_Fa_blocksOf_at_Grtail_Grhead_Grnear_Fablock_2_0 (x12 : Int) (x13 : Int) (a5_1 : Int → Int) (a5_0 : Int → Int) (k12 : 0 ≤ x12 ∧ x12 ≤ 47) (k13 : 1 ≤ x13 ∧ x13 ≤ 48) (f0 : x13 = x12 + 1) (f9 : BL0 (a5_1) (x12)) (hE_5_999_1 : ∀ j : Int, 0 ≤ j → (j = x12 → a5_0 j = x12) ∧ (j ≠ x12 → a5_0 j = a5_1 j)) : BL0 (a5_0) (x13) := by
  first
    | exact bl0_step ‹BL0 _ _› (by assumption) (by omega) (by omega) (by omega)
def o_Fa_blocksOf_at_Grtail_Grhead_Grnear_Fablock_2 : or_T := (3, 14, [(5, (2, 0, 0, [38])), (12, (0, 0, 47, [])), (13, (0, 1, 48, []))], [(6, [13, 12], [1]), (24, [5, 11], []), (100, [11, 12, 12], []), (20, [11, 12], [61, 1, 565])], [], [], [(20, [11, 13], [61, 1, 565])], [], [(13, 12, 1, 1), (12, 7, -4294967296, -1), (12, 1, -4294967296, 0), (12, 7, -4294967296, 0)])
theorem oo_Fa_blocksOf_at_Grtail_Grhead_Grnear_Fablock_2 {kA : Nat → ClassId} : or_ok PRD kA GG o_Fa_blocksOf_at_Grtail_Grhead_Grnear_Fablock_2 := by
  refine or_mk fun A ta ws vs hD hth hl => ?_
  intro t5 r5 t12 k12 t13 k13 d0 d4 d9 d10 f0 f6 ta1 w1 le1 s1 f9
  replace f0 := shm_4 f0
  replace f6 := shm_5 f6
  have s1 : (∀ b j, w_el ws b j = if b = v_ad (n_v vs 11) ∧ j = (v_iv (n_v vs 12)).toNat then v_iv (n_v vs 12) else w_el w1 b j) ∧ ∀ b k, w_fd ws b k = w_fd w1 b k := s1.2
  replace f9 := shm_1600 f9
  have q11 : n_v vs 11 = n_v vs 5 := f6.symm
  rw [q11] at s1
  simp only [q11] at f9
  have ad_5 : v_ad (n_v vs 5) = v_ad (n_v vs 5) := rfl
  have hE_5_999_1 : ∀ j : Int, 0 ≤ j → (j = v_iv (n_v vs 12) → w_ei ws (v_ad (n_v vs 5)) j = v_iv (n_v vs 12)) ∧ (j ≠ v_iv (n_v vs 12) → w_ei ws (v_ad (n_v vs 5)) j = w_ei w1 (v_ad (n_v vs 5)) j) := fun j hj => ⟨fun h => by unfold w_ei; rw [s1.1, if_pos ⟨ad_5.symm, by rw [h]⟩], fun h => by unfold w_ei; rw [s1.1, if_neg (fun e => h (by have := e.2; omega))]⟩
  have nf0 : fc_1 PRD (20, [11, 13], [61, 1, 565]) ws (vs) := by
    refine ⟨nf_in hl rfl, sgq_1600 ?_⟩
    · show BL0 (w_ei ws (v_ad (n_v vs 11))) (v_iv (n_v vs 13))
      rw [q11]
      exact vc_Fa_blocksOf_at_Grtail_Grhead_Grnear_Fablock_2_0 (v_iv (n_v vs 12)) (v_iv (n_v vs 13)) (w_ei w1 (v_ad (n_v vs 5))) (w_ei ws (v_ad (n_v vs 5))) k12 k13 f0 f9 hE_5_999_1
  refine ⟨(fun _ h => (by cases h)), [], trivial, ?_, (fun _ h => (by cases h))⟩
  rw [List.append_nil]
  exact List.forall_mem_cons.mpr ⟨⟨show (20 : Nat) < 100 from by decide, nf0⟩, (fun _ h => (by cases h))⟩
set_option maxHeartbeats 4000000 in
theorem vc_Fa_blocksOf_at_Grtail_Grhead_Grnear_Fablock_3_0 (x1 : Int) (x14 : Int) (x15 : Int) (a5_0 : Int → Int) (k1 : 0 ≤ x1 ∧ x1 ≤ 48) (k14 : 0 ≤ x14 ∧ x14 ≤ 0) (k15 : 0 ≤ x15 ∧ x15 ≤ 0) (f1 : BLQ (a5_0) (x1)) : LBI (a5_0) (x1) (x15) (x14) := by
  first
    | exact lbi_start ‹BLQ _ _› (by omega) (by omega)
set_option maxHeartbeats 4000000 in
theorem vc_Fa_blocksOf_at_Grtail_Grhead_Grnear_Fablock_3_1 (x1 : Int) (x14 : Int) (x15 : Int) (a5_0 : Int → Int) (a2_0 : Int → Int) (a3_0 : Int → Int) (k1 : 0 ≤ x1 ∧ x1 ≤ 48) (k14 : 0 ≤ x14 ∧ x14 ≤ 0) (k15 : 0 ≤ x15 ∧ x15 ≤ 0) (f2 : BLZ (a5_0) (a2_0) (a3_0) (x1)) : LBJ (a5_0) (a2_0) (a3_0) (x1) (x15) (x14) := by
  first
    | exact lbj_start ‹BLZ _ _ _ _› (by omega)
set_option maxHeartbeats 4000000 in
theorem vc_Fa_blocksOf_at_Grtail_Grhead_Grnear_Fablock_3_2 (x0 : Int) (x1 : Int) (x14 : Int) (x15 : Int) (a5_0 : Int → Int) (a2_0 : Int → Int) (a3_0 : Int → Int) (a4_0 : Int → Int) (k0 : 0 ≤ x0 ∧ x0 ≤ 24) (k1 : 0 ≤ x1 ∧ x1 ≤ 48) (k14 : 0 ≤ x14 ∧ x14 ≤ 0) (k15 : 0 ≤ x15 ∧ x15 ≤ 0) (f2 : BLZ (a5_0) (a2_0) (a3_0) (x1)) (f3 : BCU (a5_0) (a2_0) (a3_0) (a4_0) (x0) (x1)) : LKJ (a5_0) (a2_0) (a3_0) (a4_0) (x0) (x1) (x15) (x14) := by
  first
    | exact lkj_start ‹BLZ _ _ _ _› ‹BCU _ _ _ _ _ _› (by omega)
set_option maxHeartbeats 4000000 in
theorem vc_Fa_blocksOf_at_Grtail_Grhead_Grnear_Fablock_3_3 (x1 : Int) (x7 : Int) (x14 : Int) (x15 : Int) (k1 : 0 ≤ x1 ∧ x1 ≤ 48) (k7 : 0 ≤ x7 ∧ x7 ≤ 48) (k15 : 0 ≤ x15 ∧ x15 ≤ 0) (d2 : x7 + (-4294967296) ≤ x1 ∧ x1 ≤ x7 + 0) (d4 : x1 + (-4294967296) ≤ x7 ∧ x7 ≤ x1 + 0) : x15 ≤ x1 := by
  first
    | omega
    | (have q3 := (‹LBI _ _ _ _›).2.2.1; omega)
    | (have q := (‹LBI _ _ _ _›).2.2.2.2.1 x14 (by omega) (by omega); omega)
    | (have q := (‹LBI _ _ _ _›).2.2.2.2.1 x14 (by omega) (by omega); have q2 := (‹LBI _ _ _ _›).2.2.2.1 x16 (by omega) (by omega); have q3 := (‹LBI _ _ _ _›).2.2.1; omega)
def o_Fa_blocksOf_at_Grtail_Grhead_Grnear_Fablock_3 : or_T := (124, 16, [(0, (0, 0, 24, [])), (1, (0, 0, 48, [])), (7, (0, 0, 48, [])), (14, (0, 0, 0, [])), (15, (0, 0, 0, []))], [(20, [11, 7], [61, 1, 566]), (20, [11, 8, 9, 7], [61, 3, 580]), (20, [11, 8, 9, 10, 6, 7], [61, 4, 587]), (24, [0, 6], []), (24, [1, 7], []), (24, [2, 8], []), (24, [3, 9], []), (24, [4, 10], []), (24, [5, 11], [])], [], [], [(20, [11, 7, 15, 14], [61, 1, 567]), (20, [11, 8, 9, 7, 15, 14], [61, 3, 585]), (20, [11, 8, 9, 10, 6, 7, 15, 14], [61, 4, 593]), (20, [15, 7], [50, 0, 0, 0, 2, 1, 0, 1, 1])], [], [(1, 7, -4294967296, 0), (7, 1, -4294967296, 0)])
theorem oo_Fa_blocksOf_at_Grtail_Grhead_Grnear_Fablock_3 {kA : Nat → ClassId} : or_ok PRD kA GG o_Fa_blocksOf_at_Grtail_Grhead_Grnear_Fablock_3 := by
  refine or_mk fun A ta ws vs hD hth hl => ?_
  intro t0 k0 t1 k1 t7 k7 t14 k14 t15 k15 d2 d4 f1 f2 f3 f4 f5 f6 f7 f8 f9
  replace f1 := shm_365 f1
  replace f2 := shm_1190 f2
  replace f3 := shm_1191 f3
  replace f4 := shm_5 f4
  replace f5 := shm_5 f5
  replace f6 := shm_5 f6
  replace f7 := shm_5 f7
  replace f8 := shm_5 f8
  replace f9 := shm_5 f9
  have q6 : n_v vs 6 = n_v vs 0 := f4.symm
  have q7 : n_v vs 7 = n_v vs 1 := f5.symm
  have q8 : n_v vs 8 = n_v vs 2 := f6.symm
  have q9 : n_v vs 9 = n_v vs 3 := f7.symm
  have q10 : n_v vs 10 = n_v vs 4 := f8.symm
  have q11 : n_v vs 11 = n_v vs 5 := f9.symm
  simp only [q6, q7, q11, q8, q9, q10] at f1 f2 f3
  have nf0 : fc_1 PRD (20, [11, 7, 15, 14], [61, 1, 567]) ws (vs) := by
    refine ⟨nf_in hl rfl, sgq_1601 ?_⟩
    · show LBI (w_ei ws (v_ad (n_v vs 11))) (v_iv (n_v vs 7)) (v_iv (n_v vs 15)) (v_iv (n_v vs 14))
      simp only [q7, q11]
      exact vc_Fa_blocksOf_at_Grtail_Grhead_Grnear_Fablock_3_0 (v_iv (n_v vs 1)) (v_iv (n_v vs 14)) (v_iv (n_v vs 15)) (w_ei ws (v_ad (n_v vs 5))) k1 k14 k15 f1
  have nf1 : fc_1 PRD (20, [11, 8, 9, 7, 15, 14], [61, 3, 585]) ws (vs) := by
    refine ⟨nf_in hl rfl, sgq_1602 ?_⟩
    · show LBJ (w_ei ws (v_ad (n_v vs 11))) (w_ei ws (v_ad (n_v vs 8))) (w_ei ws (v_ad (n_v vs 9))) (v_iv (n_v vs 7)) (v_iv (n_v vs 15)) (v_iv (n_v vs 14))
      simp only [q7, q8, q9, q11]
      exact vc_Fa_blocksOf_at_Grtail_Grhead_Grnear_Fablock_3_1 (v_iv (n_v vs 1)) (v_iv (n_v vs 14)) (v_iv (n_v vs 15)) (w_ei ws (v_ad (n_v vs 5))) (w_ei ws (v_ad (n_v vs 2))) (w_ei ws (v_ad (n_v vs 3))) k1 k14 k15 f2
  have nf2 : fc_1 PRD (20, [11, 8, 9, 10, 6, 7, 15, 14], [61, 4, 593]) ws (vs) := by
    refine ⟨nf_in hl rfl, sgq_1603 ?_⟩
    · show LKJ (w_ei ws (v_ad (n_v vs 11))) (w_ei ws (v_ad (n_v vs 8))) (w_ei ws (v_ad (n_v vs 9))) (w_ei ws (v_ad (n_v vs 10))) (v_iv (n_v vs 6)) (v_iv (n_v vs 7)) (v_iv (n_v vs 15)) (v_iv (n_v vs 14))
      simp only [q6, q7, q8, q9, q10, q11]
      exact vc_Fa_blocksOf_at_Grtail_Grhead_Grnear_Fablock_3_2 (v_iv (n_v vs 0)) (v_iv (n_v vs 1)) (v_iv (n_v vs 14)) (v_iv (n_v vs 15)) (w_ei ws (v_ad (n_v vs 5))) (w_ei ws (v_ad (n_v vs 2))) (w_ei ws (v_ad (n_v vs 3))) (w_ei ws (v_ad (n_v vs 4))) k0 k1 k14 k15 f2 f3
  have nf3 : fc_1 PRD (20, [15, 7], [50, 0, 0, 0, 2, 1, 0, 1, 1]) ws (vs) := by
    refine ⟨nf_in hl rfl, sgq_360 ?_⟩
    · show v_iv (n_v vs 15) ≤ v_iv (n_v vs 7)
      rw [q7]
      exact vc_Fa_blocksOf_at_Grtail_Grhead_Grnear_Fablock_3_3 (v_iv (n_v vs 1)) (v_iv (n_v vs 7)) (v_iv (n_v vs 14)) (v_iv (n_v vs 15)) k1 k7 k15 d2 d4
  refine ⟨(fun _ h => (by cases h)), [], trivial, ?_, (fun _ h => (by cases h))⟩
  rw [List.append_nil]
  exact List.forall_mem_cons.mpr ⟨⟨show (20 : Nat) < 100 from by decide, nf0⟩, List.forall_mem_cons.mpr ⟨⟨show (20 : Nat) < 100 from by decide, nf1⟩, List.forall_mem_cons.mpr ⟨⟨show (20 : Nat) < 100 from by decide, nf2⟩, List.forall_mem_cons.mpr ⟨⟨show (20 : Nat) < 100 from by decide, nf3⟩, (fun _ h => (by cases h))⟩⟩⟩⟩
set_option maxHeartbeats 4000000 in
theorem vc_Fa_blocksOf_at_Grtail_Grhead_Grnear_Fablock_4_1 (x0 : Int) (x6 : Int) (x14 : Int) (x16 : Int) (gy : Int) (k0 : 1 ≤ x0 ∧ x0 ≤ 24) (k6 : 1 ≤ x6 ∧ x6 ≤ 24) (d1 : x6 + (-4294967296) ≤ x0 ∧ x0 ≤ x6 + 0) (d3 : x0 + (-4294967296) ≤ x6 ∧ x6 ≤ x0 + 0) (ey2 : gy = x0) : 1 * gy + ((-1) * x0 + 0) ≤ 0 := by
  first
    | omega
    | (have q3 := (‹LBI _ _ _ _›).2.2.1; omega)
    | (have q := (‹LBI _ _ _ _›).2.2.2.2.1 x14 (by omega) (by omega); omega)
    | (have q := (‹LBI _ _ _ _›).2.2.2.2.1 x14 (by omega) (by omega); have q2 := (‹LBI _ _ _ _›).2.2.2.1 x16 (by omega) (by omega); have q3 := (‹LBI _ _ _ _›).2.2.1; omega)
set_option maxHeartbeats 4000000 in
theorem vc_Fa_blocksOf_at_Grtail_Grhead_Grnear_Fablock_4_2 (x0 : Int) (x6 : Int) (x14 : Int) (x16 : Int) (gy : Int) (k0 : 1 ≤ x0 ∧ x0 ≤ 24) (k6 : 1 ≤ x6 ∧ x6 ≤ 24) (d1 : x6 + (-4294967296) ≤ x0 ∧ x0 ≤ x6 + 0) (d3 : x0 + (-4294967296) ≤ x6 ∧ x6 ≤ x0 + 0) (ey2 : gy = x0) : (-1) * gy + (1 * x0 + 0) ≤ 0 := by
  first
    | omega
    | (have q3 := (‹LBI _ _ _ _›).2.2.1; omega)
    | (have q := (‹LBI _ _ _ _›).2.2.2.2.1 x14 (by omega) (by omega); omega)
    | (have q := (‹LBI _ _ _ _›).2.2.2.2.1 x14 (by omega) (by omega); have q2 := (‹LBI _ _ _ _›).2.2.2.1 x16 (by omega) (by omega); have q3 := (‹LBI _ _ _ _›).2.2.1; omega)
set_option maxHeartbeats 4000000 in
theorem vc_Fa_blocksOf_at_Grtail_Grhead_Grnear_Fablock_4_3 (x1 : Int) (a5_0 : Int → Int) (k1 : 0 ≤ x1 ∧ x1 ≤ 48) (f12 : BLQ (a5_0) (x1)) : BLQ (a5_0) (x1) := by
  first
    | assumption
set_option maxHeartbeats 4000000 in
theorem vc_Fa_blocksOf_at_Grtail_Grhead_Grnear_Fablock_4_4 (x1 : Int) (a5_0 : Int → Int) (a2_0 : Int → Int) (a3_0 : Int → Int) (k1 : 0 ≤ x1 ∧ x1 ≤ 48) (f13 : BLZ (a5_0) (a2_0) (a3_0) (x1)) : BLZ (a5_0) (a2_0) (a3_0) (x1) := by
  first
    | assumption
set_option maxHeartbeats 4000000 in
theorem vc_Fa_blocksOf_at_Grtail_Grhead_Grnear_Fablock_4_5 (x0 : Int) (x1 : Int) (a4_0 : Int → Int) (a5_0 : Int → Int) (a2_0 : Int → Int) (a3_0 : Int → Int) (gy : Int) (k0 : 1 ≤ x0 ∧ x0 ≤ 24) (k1 : 0 ≤ x1 ∧ x1 ≤ 48) (f14 : BCU (a5_0) (a2_0) (a3_0) (a4_0) (x0) (x1)) (ey2 : gy = x0) : BCU (a5_0) (a2_0) (a3_0) (a4_0) (gy) (x1) := by
  first
    | assumption
    | (rw [show gy = x0 by omega]; assumption)
    | (rw [show x0 = x31 by omega]; assumption)
set_option maxHeartbeats 4000000 in
theorem vc_Fa_blocksOf_at_Grtail_Grhead_Grnear_Fablock_4_6 (x0 : Int) (x1 : Int) (x12 : Int) (x13 : Int) (x15 : Int) (x19 : Int) (x20 : Int) (x21 : Int) (x22 : Int) (x23 : Int) (x24 : Int) (x25 : Int) (x26 : Int) (a4_0 : Int → Int) (a2_0 : Int → Int) (a3_0 : Int → Int) (gy : Int) (k0 : 1 ≤ x0 ∧ x0 ≤ 24) (k1 : 0 ≤ x1 ∧ x1 ≤ 48) (k12 : 0 ≤ x12 ∧ x12 ≤ 16777215) (k13 : 0 ≤ x13 ∧ x13 ≤ 23) (k15 : 0 ≤ x15 ∧ x15 ≤ 23) (k19 : 1 ≤ x19 ∧ x19 ≤ 1) (k20 : 1 ≤ x20 ∧ x20 ≤ 8388608) (k21 : 1 ≤ x21 ∧ x21 ≤ 1) (k22 : 1 ≤ x22 ∧ x22 ≤ 8388608) (k23 : (-1) ≤ x23 ∧ x23 ≤ (-1)) (k24 : (-2147483648) ≤ x24 ∧ x24 ≤ 2147483647) (k25 : 0 ≤ x25 ∧ x25 ≤ 16777215) (k26 : 0 ≤ x26 ∧ x26 ≤ 16777215) (f2 : SPZ (a4_0) (x0) (x20) (x25) (x26)) (f3 : bvp (x25) = bvp (x12) &&& bvp (x24)) (f4 : bvp (x24) = bvp (x22) ^^^ bvp (x23)) (f5 : bvp (x22) = bvp (x21) <<< (x13).toNat) (f6 : bvp (x20) = bvp (x19) <<< (x15).toNat) (ey2 : gy = x0) : USD (a2_0) (a3_0) (a4_0) (gy) (x1) (x13) (x26) := by
  first
    | (rw [show gy = x0 by omega]
       exact usd_of (q := x20) (al := x25) (w := x15) ‹SPZ _ _ _ _ _› (by rw [show (1 : Int) = x19 by omega]; assumption) (by omega) (by omega) (fun x a b z e => ((bit_xor (by assumption : bvp x24 = _) (by omega) a b).mp ((bit_and (by assumption : bvp x25 = _) x).mp z).2) ((bit_shl (by assumption : bvp x22 = _) (by omega) (by omega) a b).mpr e)))
  
set_option maxHeartbeats 4000000 in
theorem vc_Fa_blocksOf_at_Grtail_Grhead_Grnear_Fablock_4_7 (x0 : Int) (x14 : Int) (x16 : Int) (gy : Int) (k0 : 1 ≤ x0 ∧ x0 ≤ 24) (ey2 : gy = x0) : gy = x0 := by
  first
    | omega
    | (have q3 := (‹LBI _ _ _ _›).2.2.1; omega)
    | (have q := (‹LBI _ _ _ _›).2.2.2.2.1 x14 (by omega) (by omega); omega)
    | (have q := (‹LBI _ _ _ _›).2.2.2.2.1 x14 (by omega) (by omega); have q2 := (‹LBI _ _ _ _›).2.2.2.1 x16 (by omega) (by omega); have q3 := (‹LBI _ _ _ _›).2.2.1; omega)
def o_Fa_blocksOf_at_Grtail_Grhead_Grnear_Fablock_4 : or_T := (103, 30, [(0, (0, 1, 24, [])), (1, (0, 0, 48, [])), (4, (2, 0, 0, [59])), (6, (0, 1, 24, [])), (12, (0, 0, 16777215, [])), (13, (0, 0, 23, [])), (15, (0, 0, 23, [])), (19, (0, 1, 1, [])), (20, (0, 1, 8388608, [])), (21, (0, 1, 1, [])), (22, (0, 1, 8388608, [])), (23, (0, -1, -1, [])), (24, (0, -2147483648, 2147483647, [])), (25, (0, 0, 16777215, [])), (26, (0, 0, 16777215, []))], [(20, [10, 6, 20, 25, 26], [61, 1, 579]), (16, [25, 12, 24], [0]), (16, [24, 22, 23], [2]), (16, [22, 21, 13], [3]), (16, [20, 19, 15], [3]), (20, [11, 7], [61, 1, 566]), (20, [11, 8, 9, 7], [61, 3, 580]), (20, [11, 8, 9, 10, 6, 7], [61, 4, 587]), (24, [0, 6], []), (24, [1, 7], []), (24, [2, 8], []), (24, [3, 9], []), (24, [4, 10], []), (24, [5, 11], [])], [], [(2, 0, 0, [59]), (0, 0, 25, [])], [(24, [4, 30], []), (23, [31, 6], [0, 1, -1]), (23, [31, 6], [0, -1, 1]), (20, [11, 7], [61, 1, 566]), (20, [11, 8, 9, 7], [61, 3, 580]), (20, [11, 8, 9, 30, 31, 7], [61, 4, 587]), (20, [8, 9, 30, 31, 7, 13, 26], [61, 3, 588]), (20, [31, 6], [50, 0, 0, 1, 2, 1, 0, 1, 1])], [], [(0, 6, -4294967296, 0), (6, 0, -4294967296, 0), (13, 0, -4294967296, -1), (15, 0, -4294967296, 0)])
theorem oo_Fa_blocksOf_at_Grtail_Grhead_Grnear_Fablock_4 {kA : Nat → ClassId} : or_ok PRD kA GG o_Fa_blocksOf_at_Grtail_Grhead_Grnear_Fablock_4 := by
  refine or_mk fun A ta ws vs hD hth hl => ?_
  intro t0 k0 t1 k1 t4 r4 t6 k6 t12 k12 t13 k13 t15 k15 t19 k19 t20 k20 t21 k21 t22 k22 t23 k23 t24 k24 t25 k25 t26 k26 d1 d3 d5 d7 f2 f3 f4 f5 f6 f12 f13 f14 f15 f16 f17 f18 f19 f20
  replace f2 := shm_822 f2
  replace f3 := shm_11 f3
  replace f4 := shm_33 f4
  replace f5 := shm_349 f5
  replace f6 := shm_349 f6
  replace f12 := shm_365 f12
  replace f13 := shm_1190 f13
  replace f14 := shm_1191 f14
  replace f15 := shm_5 f15
  replace f16 := shm_5 f16
  replace f17 := shm_5 f17
  replace f18 := shm_5 f18
  replace f19 := shm_5 f19
  replace f20 := shm_5 f20
  have q6 : n_v vs 6 = n_v vs 0 := f15.symm
  have q7 : n_v vs 7 = n_v vs 1 := f16.symm
  have q8 : n_v vs 8 = n_v vs 2 := f17.symm
  have q9 : n_v vs 9 = n_v vs 3 := f18.symm
  have q10 : n_v vs 10 = n_v vs 4 := f19.symm
  have q11 : n_v vs 11 = n_v vs 5 := f20.symm
  simp only [q6, q10, q7, q11, q8, q9] at f2 f12 f13 f14
  obtain ⟨y, ey, hy⟩ := iv_ex (ta := ta) (lo := 0) (hi := 25) (z := v_iv (n_v vs 0)) (by omega) (by omega) (by omega) (by omega)
  have ey2 : v_iv (Value.int y) = v_iv (n_v vs 0) := ey
  have ey3 : 0 ≤ v_iv (Value.int y) ∧ v_iv (Value.int y) ≤ 25 := tv_rng hy
  have e_4 : n_v (vs ++ [n_v vs 4, Value.int y]) 4 = n_v vs 4 := n_v_old (by rw [hl]; decide)
  have e_6 : n_v (vs ++ [n_v vs 4, Value.int y]) 6 = n_v vs 6 := n_v_old (by rw [hl]; decide)
  have e_7 : n_v (vs ++ [n_v vs 4, Value.int y]) 7 = n_v vs 7 := n_v_old (by rw [hl]; decide)
  have e_8 : n_v (vs ++ [n_v vs 4, Value.int y]) 8 = n_v vs 8 := n_v_old (by rw [hl]; decide)
  have e_9 : n_v (vs ++ [n_v vs 4, Value.int y]) 9 = n_v vs 9 := n_v_old (by rw [hl]; decide)
  have e_11 : n_v (vs ++ [n_v vs 4, Value.int y]) 11 = n_v vs 11 := n_v_old (by rw [hl]; decide)
  have e_13 : n_v (vs ++ [n_v vs 4, Value.int y]) 13 = n_v vs 13 := n_v_old (by rw [hl]; decide)
  have e_26 : n_v (vs ++ [n_v vs 4, Value.int y]) 26 = n_v vs 26 := n_v_old (by rw [hl]; decide)
  have e_30 : n_v (vs ++ [n_v vs 4, Value.int y]) 30 = n_v vs 4 := n_v_new0 hl
  have e_31 : n_v (vs ++ [n_v vs 4, Value.int y]) 31 = Value.int y := n_v_new1 hl
  have nf0 : fc_1 PRD (24, [4, 30], []) ws (vs ++ [n_v vs 4, Value.int y]) := by
    refine ⟨nf_inA hl rfl, sgq_5 ?_⟩
    · show n_v (vs ++ [n_v vs 4, Value.int y]) 4 = n_v (vs ++ [n_v vs 4, Value.int y]) 30
      first | rfl | simp only [e_4, e_30, q6, q7, q8, q9, q10, q11]
  have nf1 : fc_1 PRD (23, [31, 6], [0, 1, -1]) ws (vs ++ [n_v vs 4, Value.int y]) := by
    refine ⟨nf_inA hl rfl, sgq_7 ?_⟩
    · show 1 * v_iv (n_v (vs ++ [n_v vs 4, Value.int y]) 31) + ((-1) * v_iv (n_v (vs ++ [n_v vs 4, Value.int y]) 6) + 0) ≤ 0
      simp only [e_6, e_31, q6]
      exact vc_Fa_blocksOf_at_Grtail_Grhead_Grnear_Fablock_4_1 (v_iv (n_v vs 0)) (v_iv (n_v vs 6)) (v_iv (n_v vs 14)) (v_iv (n_v vs 16)) (v_iv (Value.int y)) k0 k6 d1 d3 ey2
  have nf2 : fc_1 PRD (23, [31, 6], [0, -1, 1]) ws (vs ++ [n_v vs 4, Value.int y]) := by
    refine ⟨nf_inA hl rfl, sgq_22 ?_⟩
    · show (-1) * v_iv (n_v (vs ++ [n_v vs 4, Value.int y]) 31) + (1 * v_iv (n_v (vs ++ [n_v vs 4, Value.int y]) 6) + 0) ≤ 0
      simp only [e_6, e_31, q6]
      exact vc_Fa_blocksOf_at_Grtail_Grhead_Grnear_Fablock_4_2 (v_iv (n_v vs 0)) (v_iv (n_v vs 6)) (v_iv (n_v vs 14)) (v_iv (n_v vs 16)) (v_iv (Value.int y)) k0 k6 d1 d3 ey2
  have nf3 : fc_1 PRD (20, [11, 7], [61, 1, 566]) ws (vs ++ [n_v vs 4, Value.int y]) := by
    refine ⟨nf_inA hl rfl, sgq_365 ?_⟩
    · show BLQ (w_ei ws (v_ad (n_v (vs ++ [n_v vs 4, Value.int y]) 11))) (v_iv (n_v (vs ++ [n_v vs 4, Value.int y]) 7))
      simp only [e_7, e_11, q7, q11]
      exact vc_Fa_blocksOf_at_Grtail_Grhead_Grnear_Fablock_4_3 (v_iv (n_v vs 1)) (w_ei ws (v_ad (n_v vs 5))) k1 f12
  have nf4 : fc_1 PRD (20, [11, 8, 9, 7], [61, 3, 580]) ws (vs ++ [n_v vs 4, Value.int y]) := by
    refine ⟨nf_inA hl rfl, sgq_1190 ?_⟩
    · show BLZ (w_ei ws (v_ad (n_v (vs ++ [n_v vs 4, Value.int y]) 11))) (w_ei ws (v_ad (n_v (vs ++ [n_v vs 4, Value.int y]) 8))) (w_ei ws (v_ad (n_v (vs ++ [n_v vs 4, Value.int y]) 9))) (v_iv (n_v (vs ++ [n_v vs 4, Value.int y]) 7))
      simp only [e_7, e_8, e_9, e_11, q7, q8, q9, q11]
      exact vc_Fa_blocksOf_at_Grtail_Grhead_Grnear_Fablock_4_4 (v_iv (n_v vs 1)) (w_ei ws (v_ad (n_v vs 5))) (w_ei ws (v_ad (n_v vs 2))) (w_ei ws (v_ad (n_v vs 3))) k1 f13
  have nf5 : fc_1 PRD (20, [11, 8, 9, 30, 31, 7], [61, 4, 587]) ws (vs ++ [n_v vs 4, Value.int y]) := by
    refine ⟨nf_inA hl rfl, sgq_1191 ?_⟩
    · show BCU (w_ei ws (v_ad (n_v (vs ++ [n_v vs 4, Value.int y]) 11))) (w_ei ws (v_ad (n_v (vs ++ [n_v vs 4, Value.int y]) 8))) (w_ei ws (v_ad (n_v (vs ++ [n_v vs 4, Value.int y]) 9))) (w_ei ws (v_ad (n_v (vs ++ [n_v vs 4, Value.int y]) 30))) (v_iv (n_v (vs ++ [n_v vs 4, Value.int y]) 31)) (v_iv (n_v (vs ++ [n_v vs 4, Value.int y]) 7))
      simp only [e_7, e_8, e_9, e_11, e_30, e_31, q7, q8, q9, q11]
      exact vc_Fa_blocksOf_at_Grtail_Grhead_Grnear_Fablock_4_5 (v_iv (n_v vs 0)) (v_iv (n_v vs 1)) (w_ei ws (v_ad (n_v vs 4))) (w_ei ws (v_ad (n_v vs 5))) (w_ei ws (v_ad (n_v vs 2))) (w_ei ws (v_ad (n_v vs 3))) (v_iv (Value.int y)) k0 k1 f14 ey2
  have nf6 : fc_1 PRD (20, [8, 9, 30, 31, 7, 13, 26], [61, 3, 588]) ws (vs ++ [n_v vs 4, Value.int y]) := by
    refine ⟨nf_inA hl rfl, sgq_1192 ?_⟩
    · show USD (w_ei ws (v_ad (n_v (vs ++ [n_v vs 4, Value.int y]) 8))) (w_ei ws (v_ad (n_v (vs ++ [n_v vs 4, Value.int y]) 9))) (w_ei ws (v_ad (n_v (vs ++ [n_v vs 4, Value.int y]) 30))) (v_iv (n_v (vs ++ [n_v vs 4, Value.int y]) 31)) (v_iv (n_v (vs ++ [n_v vs 4, Value.int y]) 7)) (v_iv (n_v (vs ++ [n_v vs 4, Value.int y]) 13)) (v_iv (n_v (vs ++ [n_v vs 4, Value.int y]) 26))
      simp only [e_7, e_8, e_9, e_13, e_26, e_30, e_31, q7, q8, q9]
      exact vc_Fa_blocksOf_at_Grtail_Grhead_Grnear_Fablock_4_6 (v_iv (n_v vs 0)) (v_iv (n_v vs 1)) (v_iv (n_v vs 12)) (v_iv (n_v vs 13)) (v_iv (n_v vs 15)) (v_iv (n_v vs 19)) (v_iv (n_v vs 20)) (v_iv (n_v vs 21)) (v_iv (n_v vs 22)) (v_iv (n_v vs 23)) (v_iv (n_v vs 24)) (v_iv (n_v vs 25)) (v_iv (n_v vs 26)) (w_ei ws (v_ad (n_v vs 4))) (w_ei ws (v_ad (n_v vs 2))) (w_ei ws (v_ad (n_v vs 3))) (v_iv (Value.int y)) k0 k1 k12 k13 k15 k19 k20 k21 k22 k23 k24 k25 k26 f2 f3 f4 f5 f6 ey2
  have nf7 : fc_1 PRD (20, [31, 6], [50, 0, 0, 1, 2, 1, 0, 1, 1]) ws (vs ++ [n_v vs 4, Value.int y]) := by
    refine ⟨nf_inA hl rfl, sgq_48 ?_⟩
    · show v_iv (n_v (vs ++ [n_v vs 4, Value.int y]) 31) = v_iv (n_v (vs ++ [n_v vs 4, Value.int y]) 6)
      simp only [e_6, e_31, q6]
      exact vc_Fa_blocksOf_at_Grtail_Grhead_Grnear_Fablock_4_7 (v_iv (n_v vs 0)) (v_iv (n_v vs 14)) (v_iv (n_v vs 16)) (v_iv (Value.int y)) k0 ey2
  exact ⟨(fun _ h => (by cases h)), [n_v vs 4, Value.int y], ag_two t4 hy, List.forall_mem_cons.mpr ⟨⟨show (24 : Nat) < 100 from by decide, nf0⟩, List.forall_mem_cons.mpr ⟨⟨show (23 : Nat) < 100 from by decide, nf1⟩, List.forall_mem_cons.mpr ⟨⟨show (23 : Nat) < 100 from by decide, nf2⟩, List.forall_mem_cons.mpr ⟨⟨show (20 : Nat) < 100 from by decide, nf3⟩, List.forall_mem_cons.mpr ⟨⟨show (20 : Nat) < 100 from by decide, nf4⟩, List.forall_mem_cons.mpr ⟨⟨show (20 : Nat) < 100 from by decide, nf5⟩, List.forall_mem_cons.mpr ⟨⟨show (20 : Nat) < 100 from by decide, nf6⟩, List.forall_mem_cons.mpr ⟨⟨show (20 : Nat) < 100 from by decide, nf7⟩, (fun _ h => (by cases h))⟩⟩⟩⟩⟩⟩⟩⟩, (fun _ h => (by cases h))⟩
set_option maxHeartbeats 4000000 in
theorem vc_Fa_blocksOf_at_Grtail_Grhead_Grnear_Fablock_5_0 (x0 : Int) (x1 : Int) (x6 : Int) (x31 : Int) (a2_0 : Int → Int) (a3_0 : Int → Int) (a4_0 : Int → Int) (a5_0 : Int → Int) (k0 : 1 ≤ x0 ∧ x0 ≤ 24) (k1 : 0 ≤ x1 ∧ x1 ≤ 48) (k6 : 1 ≤ x6 ∧ x6 ≤ 24) (k31 : 0 ≤ x31 ∧ x31 ≤ 25) (d5 : x6 + (-4294967296) ≤ x0 ∧ x0 ≤ x6 + 0) (d7 : x0 + (-4294967296) ≤ x6 ∧ x6 ≤ x0 + 0) (f2 : 1 * x31 + ((-1) * x0 + 0) ≤ 0) (f3 : (-1) * x31 + (1 * x0 + 0) ≤ 0) (f15 : BCU (a5_0) (a2_0) (a3_0) (a4_0) (x31) (x1)) : BCU (a5_0) (a2_0) (a3_0) (a4_0) (x0) (x1) := by
  first
    | assumption
    | (rw [show gy = x0 by omega]; assumption)
    | (rw [show x0 = x31 by omega]; assumption)
def o_Fa_blocksOf_at_Grtail_Grhead_Grnear_Fablock_5 : or_T := (48, 33, [(0, (0, 1, 24, [])), (1, (0, 0, 48, [])), (6, (0, 1, 24, [])), (31, (0, 0, 25, []))], [(24, [4, 30], []), (23, [31, 6], [0, 1, -1]), (23, [31, 6], [0, -1, 1]), (24, [0, 6], []), (24, [1, 7], []), (24, [2, 8], []), (24, [3, 9], []), (24, [4, 10], []), (24, [5, 11], []), (20, [11, 8, 9, 30, 31, 7], [61, 4, 587])], [], [], [(20, [11, 8, 9, 10, 6, 7], [61, 4, 587])], [], [(0, 6, -4294967296, 0), (6, 0, -4294967296, 0)])
theorem oo_Fa_blocksOf_at_Grtail_Grhead_Grnear_Fablock_5 {kA : Nat → ClassId} : or_ok PRD kA GG o_Fa_blocksOf_at_Grtail_Grhead_Grnear_Fablock_5 := by
  refine or_mk fun A ta ws vs hD hth hl => ?_
  intro t0 k0 t1 k1 t6 k6 t31 k31 d5 d7 f1 f2 f3 f7 f8 f9 f10 f11 f12 f15
  replace f1 := shm_5 f1
  replace f2 := shm_7 f2
  replace f3 := shm_22 f3
  replace f7 := shm_5 f7
  replace f8 := shm_5 f8
  replace f9 := shm_5 f9
  replace f10 := shm_5 f10
  replace f11 := shm_5 f11
  replace f12 := shm_5 f12
  replace f15 := shm_1191 f15
  have q30 : n_v vs 30 = n_v vs 4 := f1.symm
  have q6 : n_v vs 6 = n_v vs 0 := f7.symm
  have q7 : n_v vs 7 = n_v vs 1 := f8.symm
  have q8 : n_v vs 8 = n_v vs 2 := f9.symm
  have q9 : n_v vs 9 = n_v vs 3 := f10.symm
  have q10 : n_v vs 10 = n_v vs 4 := f11.symm
  have q11 : n_v vs 11 = n_v vs 5 := f12.symm
  simp only [q6, q30, q7, q8, q9, q11] at f2 f3 f15
  have nf0 : fc_1 PRD (20, [11, 8, 9, 10, 6, 7], [61, 4, 587]) ws (vs) := by
    refine ⟨nf_in hl rfl, sgq_1191 ?_⟩
    · show BCU (w_ei ws (v_ad (n_v vs 11))) (w_ei ws (v_ad (n_v vs 8))) (w_ei ws (v_ad (n_v vs 9))) (w_ei ws (v_ad (n_v vs 10))) (v_iv (n_v vs 6)) (v_iv (n_v vs 7))
      simp only [q6, q7, q8, q9, q10, q11]
      exact vc_Fa_blocksOf_at_Grtail_Grhead_Grnear_Fablock_5_0 (v_iv (n_v vs 0)) (v_iv (n_v vs 1)) (v_iv (n_v vs 6)) (v_iv (n_v vs 31)) (w_ei ws (v_ad (n_v vs 2))) (w_ei ws (v_ad (n_v vs 3))) (w_ei ws (v_ad (n_v vs 4))) (w_ei ws (v_ad (n_v vs 5))) k0 k1 k6 k31 d5 d7 f2 f3 f15
  refine ⟨(fun _ h => (by cases h)), [], trivial, ?_, (fun _ h => (by cases h))⟩
  rw [List.append_nil]
  exact List.forall_mem_cons.mpr ⟨⟨show (20 : Nat) < 100 from by decide, nf0⟩, (fun _ h => (by cases h))⟩
set_option maxHeartbeats 4000000 in
theorem vc_Fa_blocksOf_at_Grtail_Grhead_Grnear_Fablock_6_0 (x1 : Int) (x7 : Int) (x13 : Int) (x14 : Int) (a5_0 : Int → Int) (k1 : 0 ≤ x1 ∧ x1 ≤ 48) (k7 : 0 ≤ x7 ∧ x7 ≤ 48) (k13 : 0 ≤ x13 ∧ x13 ≤ 48) (k14 : 0 ≤ x14 ∧ x14 ≤ 48) (d0 : x7 + 0 ≤ x14 ∧ x14 ≤ x7 + 4294967296) (d2 : x7 + (-4294967296) ≤ x1 ∧ x1 ≤ x7 + 0) (d4 : x1 + (-4294967296) ≤ x7 ∧ x7 ≤ x1 + 0) (d8 : x1 + (-4294967296) ≤ x14 ∧ x14 ≤ x1 + 0) (f0 : x1 ≤ x14) (f1 : LBI (a5_0) (x1) (x14) (x13)) (f4 : x14 ≤ x1) : LBL (a5_0) (x1) (x13) := by
  first
    | exact lbl_of ‹LBI _ _ _ _› (by omega) (by omega) (by omega) (by omega)
  
set_option maxHeartbeats 4000000 in
theorem vc_Fa_blocksOf_at_Grtail_Grhead_Grnear_Fablock_6_1 (x1 : Int) (x13 : Int) (x14 : Int) (a5_0 : Int → Int) (a2_0 : Int → Int) (a3_0 : Int → Int) (k1 : 0 ≤ x1 ∧ x1 ≤ 48) (k13 : 0 ≤ x13 ∧ x13 ≤ 48) (k14 : 0 ≤ x14 ∧ x14 ≤ 48) (f0 : x1 ≤ x14) (f2 : LBJ (a5_0) (a2_0) (a3_0) (x1) (x14) (x13)) : CNL (a5_0) (a2_0) (a3_0) (x1) := by
  first
    | exact cnl_of ‹LBJ _ _ _ _ _ _› (by omega)
  
set_option maxHeartbeats 4000000 in
theorem vc_Fa_blocksOf_at_Grtail_Grhead_Grnear_Fablock_6_2 (x0 : Int) (x1 : Int) (x13 : Int) (x14 : Int) (a5_0 : Int → Int) (a2_0 : Int → Int) (a3_0 : Int → Int) (a4_0 : Int → Int) (k0 : 0 ≤ x0 ∧ x0 ≤ 24) (k1 : 0 ≤ x1 ∧ x1 ≤ 48) (k13 : 0 ≤ x13 ∧ x13 ≤ 48) (k14 : 0 ≤ x14 ∧ x14 ≤ 48) (f0 : x1 ≤ x14) (f1 : LBI (a5_0) (x1) (x14) (x13)) (f3 : LKJ (a5_0) (a2_0) (a3_0) (a4_0) (x0) (x1) (x14) (x13)) (f4 : x14 ≤ x1) : BKL (a2_0) (a3_0) (a4_0) (x0) (x1) (x13) := by
  first
    | exact bkl_of ‹LKJ _ _ _ _ _ _ _ _› ‹LBI _ _ _ _› (by omega) (by omega)
  
def o_Fa_blocksOf_at_Grtail_Grhead_Grnear_Fablock_6 : or_T := (174, 15, [(0, (0, 0, 24, [])), (1, (0, 0, 48, [])), (7, (0, 0, 48, [])), (13, (0, 0, 48, [])), (14, (0, 0, 48, []))], [(7, [14, 7], [3]), (20, [11, 7, 14, 13], [61, 1, 567]), (20, [11, 8, 9, 7, 14, 13], [61, 3, 585]), (20, [11, 8, 9, 10, 6, 7, 14, 13], [61, 4, 593]), (20, [14, 7], [50, 0, 0, 0, 2, 1, 0, 1, 1]), (24, [0, 6], []), (24, [1, 7], []), (24, [2, 8], []), (24, [3, 9], []), (24, [4, 10], []), (24, [5, 11], [])], [], [], [(20, [5, 1, 13], [61, 1, 568]), (20, [5, 2, 3, 1], [61, 3, 586]), (20, [2, 3, 4, 0, 1, 13], [61, 3, 594])], [], [(14, 7, 0, 4294967296), (1, 7, -4294967296, 0), (7, 1, -4294967296, 0), (14, 1, -4294967296, 0)])
theorem oo_Fa_blocksOf_at_Grtail_Grhead_Grnear_Fablock_6 {kA : Nat → ClassId} : or_ok PRD kA GG o_Fa_blocksOf_at_Grtail_Grhead_Grnear_Fablock_6 := by
  refine or_mk fun A ta ws vs hD hth hl => ?_
  intro t0 k0 t1 k1 t7 k7 t13 k13 t14 k14 d0 d2 d4 d8 f0 f1 f2 f3 f4 f5 f6 f7 f8 f9 f10
  replace f0 := shm_2 f0
  replace f1 := shm_1601 f1
  replace f2 := shm_1602 f2
  replace f3 := shm_1603 f3
  replace f4 := shm_360 f4
  replace f5 := shm_5 f5
  replace f6 := shm_5 f6
  replace f7 := shm_5 f7
  replace f8 := shm_5 f8
  replace f9 := shm_5 f9
  replace f10 := shm_5 f10
  have q6 : n_v vs 6 = n_v vs 0 := f5.symm
  have q7 : n_v vs 7 = n_v vs 1 := f6.symm
  have q8 : n_v vs 8 = n_v vs 2 := f7.symm
  have q9 : n_v vs 9 = n_v vs 3 := f8.symm
  have q10 : n_v vs 10 = n_v vs 4 := f9.symm
  have q11 : n_v vs 11 = n_v vs 5 := f10.symm
  simp only [q7, q11, q8, q9, q6, q10] at f0 f1 f2 f3 f4
  have nf0 : fc_1 PRD (20, [5, 1, 13], [61, 1, 568]) ws (vs) := ⟨nf_in hl rfl, sgq_1604 (vc_Fa_blocksOf_at_Grtail_Grhead_Grnear_Fablock_6_0 (v_iv (n_v vs 1)) (v_iv (n_v vs 7)) (v_iv (n_v vs 13)) (v_iv (n_v vs 14)) (w_ei ws (v_ad (n_v vs 5))) k1 k7 k13 k14 d0 d2 d4 d8 f0 f1 f4)⟩
  have nf1 : fc_1 PRD (20, [5, 2, 3, 1], [61, 3, 586]) ws (vs) := ⟨nf_in hl rfl, sgq_1605 (vc_Fa_blocksOf_at_Grtail_Grhead_Grnear_Fablock_6_1 (v_iv (n_v vs 1)) (v_iv (n_v vs 13)) (v_iv (n_v vs 14)) (w_ei ws (v_ad (n_v vs 5))) (w_ei ws (v_ad (n_v vs 2))) (w_ei ws (v_ad (n_v vs 3))) k1 k13 k14 f0 f2)⟩
  have nf2 : fc_1 PRD (20, [2, 3, 4, 0, 1, 13], [61, 3, 594]) ws (vs) := ⟨nf_in hl rfl, sgq_1606 (vc_Fa_blocksOf_at_Grtail_Grhead_Grnear_Fablock_6_2 (v_iv (n_v vs 0)) (v_iv (n_v vs 1)) (v_iv (n_v vs 13)) (v_iv (n_v vs 14)) (w_ei ws (v_ad (n_v vs 5))) (w_ei ws (v_ad (n_v vs 2))) (w_ei ws (v_ad (n_v vs 3))) (w_ei ws (v_ad (n_v vs 4))) k0 k1 k13 k14 f0 f1 f3 f4)⟩
  refine ⟨(fun _ h => (by cases h)), [], trivial, ?_, (fun _ h => (by cases h))⟩
  rw [List.append_nil]
  exact List.forall_mem_cons.mpr ⟨⟨show (20 : Nat) < 100 from by decide, nf0⟩, List.forall_mem_cons.mpr ⟨⟨show (20 : Nat) < 100 from by decide, nf1⟩, List.forall_mem_cons.mpr ⟨⟨show (20 : Nat) < 100 from by decide, nf2⟩, (fun _ h => (by cases h))⟩⟩⟩
set_option maxHeartbeats 4000000 in
theorem vc_Fa_blocksOf_at_Grtail_Grhead_Grnear_Fablock_7_r0 (x1 : Int) (x13 : Int) (x14 : Int) (x15 : Int) (x16 : Int) (a5_0 : Int → Int) (k1 : 1 ≤ x1 ∧ x1 ≤ 48) (k13 : 0 ≤ x13 ∧ x13 ≤ 47) (k14 : 0 ≤ x14 ∧ x14 ≤ 47) (k15 : (-1) ≤ x15 ∧ x15 ≤ 47) (k16 : (-1) ≤ x16 ∧ x16 ≤ 47) (h0 : x16 = a5_0 (x14)) (h2 : x15 = a5_0 (x14)) (f3 : x14 < x1) (f4 : LBI (a5_0) (x1) (x14) (x13)) : 0 ≤ x16 ∧ x16 ≤ 47 := by
  first
    | omega
    | (have q3 := (‹LBI _ _ _ _›).2.2.1; omega)
    | (have q := (‹LBI _ _ _ _›).2.2.2.2.1 x14 (by omega) (by omega); omega)
    | (have q := (‹LBI _ _ _ _›).2.2.2.2.1 x14 (by omega) (by omega); have q2 := (‹LBI _ _ _ _›).2.2.2.1 x16 (by omega) (by omega); have q3 := (‹LBI _ _ _ _›).2.2.1; omega)
def o_Fa_blocksOf_at_Grtail_Grhead_Grnear_Fablock_7 : or_T := (164, 17, [(0, (0, 0, 24, [])), (1, (0, 1, 48, [])), (2, (2, 0, 0, [52])), (3, (2, 0, 0, [53])), (4, (2, 0, 0, [59])), (5, (2, 0, 0, [38])), (6, (0, 0, 24, [])), (7, (0, 1, 48, [])), (8, (2, 0, 0, [52])), (9, (2, 0, 0, [53])), (10, (2, 0, 0, [59])), (11, (2, 0, 0, [38])), (13, (0, 0, 47, [])), (14, (0, 0, 47, [])), (15, (0, -1, 47, [])), (16, (0, -1, 47, []))], [(10, [16, 11, 14], []), (7, [15, 14], [1]), (10, [15, 11, 14], []), (7, [14, 7], [2]), (20, [11, 7, 14, 13], [61, 1, 567]), (20, [11, 8, 9, 7, 14, 13], [61, 3, 585]), (20, [11, 8, 9, 10, 6, 7, 14, 13], [61, 4, 593]), (20, [14, 7], [50, 0, 0, 0, 2, 1, 0, 1, 1]), (24, [0, 6], []), (24, [1, 7], []), (24, [2, 8], []), (24, [3, 9], []), (24, [4, 10], []), (24, [5, 11], [])], [(16, (0, 0, 47, []))], [], [], [], [(14, 7, -4294967296, -1), (0, 6, -4294967296, 0), (1, 7, -4294967296, 0), (6, 0, -4294967296, 0), (7, 1, -4294967296, 0), (13, 1, -4294967296, 1), (13, 7, -4294967296, 0), (13, 14, -4294967296, 0), (14, 1, -4294967296, 0), (14, 7, -4294967296, 0)])
theorem oo_Fa_blocksOf_at_Grtail_Grhead_Grnear_Fablock_7 {kA : Nat → ClassId} : or_ok PRD kA GG o_Fa_blocksOf_at_Grtail_Grhead_Grnear_Fablock_7 := by
  refine or_mk fun A ta ws vs hD hth hl => ?_
  intro t0 k0 t1 k1 t2 r2 t3 r3 t4 r4 t5 r5 t6 k6 t7 k7 t8 r8 t9 r9 t10 r10 t11 r11 t13 k13 t14 k14 t15 k15 t16 k16 d0 d1 d2 d3 d4 d5 d6 d7 d8 d9 f0 f1 f2 f3 f4 f5 f6 f7 f8 f9 f10 f11 f12 f13
  replace f0 := shm_107 f0
  replace f2 := shm_107 f2
  replace f3 := shm_6 f3
  replace f4 := shm_1601 f4
  replace f9 := shm_5 f9
  replace f13 := shm_5 f13
  have q7 : n_v vs 7 = n_v vs 1 := f9.symm
  have q11 : n_v vs 11 = n_v vs 5 := f13.symm
  simp only [q11, q7] at f0 f2 f3 f4
  have h0 : v_iv (n_v vs 16) = w_ei ws (v_ad (n_v vs 5)) (v_iv (n_v vs 14)) := f0
  have h2 : v_iv (n_v vs 15) = w_ei ws (v_ad (n_v vs 5)) (v_iv (n_v vs 14)) := f2
  have hrf0 : 0 ≤ v_iv (n_v vs 16) ∧ v_iv (n_v vs 16) ≤ 47 := vc_Fa_blocksOf_at_Grtail_Grhead_Grnear_Fablock_7_r0 (v_iv (n_v vs 1)) (v_iv (n_v vs 13)) (v_iv (n_v vs 14)) (v_iv (n_v vs 15)) (v_iv (n_v vs 16)) (w_ei ws (v_ad (n_v vs 5))) k1 k13 k14 k15 k16 h0 h2 f3 f4
  have rf16 : tv_ok ta (0, 0, 47, []) (n_v vs 16) := tv_in t16 (by first | omega | grind) (by first | omega | grind)
  refine ⟨List.forall_mem_cons.mpr ⟨rf16, (fun _ h => (by cases h))⟩, [], trivial, ?_, (fun _ h => (by cases h))⟩
  rw [List.append_nil]
  exact (fun _ h => (by cases h))
set_option maxHeartbeats 4000000 in
theorem vc_Fa_blocksOf_at_Grtail_Grhead_Grnear_Fablock_8_r0 (x1 : Int) (x13 : Int) (x14 : Int) (x15 : Int) (x16 : Int) (x17 : Int) (a5_0 : Int → Int) (k1 : 1 ≤ x1 ∧ x1 ≤ 48) (k13 : 0 ≤ x13 ∧ x13 ≤ 47) (k14 : 0 ≤ x14 ∧ x14 ≤ 47) (k15 : (-1) ≤ x15 ∧ x15 ≤ 47) (k16 : 0 ≤ x16 ∧ x16 ≤ 47) (k17 : (-1) ≤ x17 ∧ x17 ≤ 47) (h0 : x17 = a5_0 (x16)) (h1 : x16 = a5_0 (x14)) (f2 : x15 ≠ x14) (h3 : x15 = a5_0 (x14)) (f4 : x14 < x1) (f5 : LBI (a5_0) (x1) (x14) (x13)) : 0 ≤ x17 ∧ x17 ≤ 47 := by
  first
    | omega
    | (have q3 := (‹LBI _ _ _ _›).2.2.1; omega)
    | (have q := (‹LBI _ _ _ _›).2.2.2.2.1 x14 (by omega) (by omega); omega)
    | (have q := (‹LBI _ _ _ _›).2.2.2.2.1 x14 (by omega) (by omega); have q2 := (‹LBI _ _ _ _›).2.2.2.1 x16 (by omega) (by omega); have q3 := (‹LBI _ _ _ _›).2.2.1; omega)
def o_Fa_blocksOf_at_Grtail_Grhead_Grnear_Fablock_8 : or_T := (165, 18, [(0, (0, 0, 24, [])), (1, (0, 1, 48, [])), (2, (2, 0, 0, [52])), (3, (2, 0, 0, [53])), (4, (2, 0, 0, [59])), (5, (2, 0, 0, [38])), (6, (0, 0, 24, [])), (7, (0, 1, 48, [])), (8, (2, 0, 0, [52])), (9, (2, 0, 0, [53])), (10, (2, 0, 0, [59])), (11, (2, 0, 0, [38])), (13, (0, 0, 47, [])), (14, (0, 0, 47, [])), (15, (0, -1, 47, [])), (16, (0, 0, 47, [])), (17, (0, -1, 47, []))], [(10, [17, 11, 16], []), (10, [16, 11, 14], []), (7, [15, 14], [1]), (10, [15, 11, 14], []), (7, [14, 7], [2]), (20, [11, 7, 14, 13], [61, 1, 567]), (20, [11, 8, 9, 7, 14, 13], [61, 3, 585]), (20, [11, 8, 9, 10, 6, 7, 14, 13], [61, 4, 593]), (20, [14, 7], [50, 0, 0, 0, 2, 1, 0, 1, 1]), (24, [0, 6], []), (24, [1, 7], []), (24, [2, 8], []), (24, [3, 9], []), (24, [4, 10], []), (24, [5, 11], [])], [(17, (0, 0, 47, []))], [], [], [], [(14, 7, -4294967296, -1), (0, 6, -4294967296, 0), (1, 7, -4294967296, 0), (6, 0, -4294967296, 0), (7, 1, -4294967296, 0), (13, 1, -4294967296, 1), (13, 7, -4294967296, 0), (13, 14, -4294967296, 0), (14, 1, -4294967296, 0), (14, 7, -4294967296, 0)])
theorem oo_Fa_blocksOf_at_Grtail_Grhead_Grnear_Fablock_8 {kA : Nat → ClassId} : or_ok PRD kA GG o_Fa_blocksOf_at_Grtail_Grhead_Grnear_Fablock_8 := by
  refine or_mk fun A ta ws vs hD hth hl => ?_
  intro t0 k0 t1 k1 t2 r2 t3 r3 t4 r4 t5 r5 t6 k6 t7 k7 t8 r8 t9 r9 t10 r10 t11 r11 t13 k13 t14 k14 t15 k15 t16 k16 t17 k17 d0 d1 d2 d3 d4 d5 d6 d7 d8 d9 f0 f1 f2 f3 f4 f5 f6 f7 f8 f9 f10 f11 f12 f13 f14
  replace f0 := shm_107 f0
  replace f1 := shm_107 f1
  replace f3 := shm_107 f3
  replace f4 := shm_6 f4
  replace f5 := shm_1601 f5
  replace f10 := shm_5 f10
  replace f14 := shm_5 f14
  have q7 : n_v vs 7 = n_v vs 1 := f10.symm
  have q11 : n_v vs 11 = n_v vs 5 := f14.symm
  simp only [q11, q7] at f0 f1 f3 f4 f5
  have h0 : v_iv (n_v vs 17) = w_ei ws (v_ad (n_v vs 5)) (v_iv (n_v vs 16)) := f0
  have h1 : v_iv (n_v vs 16) = w_ei ws (v_ad (n_v vs 5)) (v_iv (n_v vs 14)) := f1
  have h3 : v_iv (n_v vs 15) = w_ei ws (v_ad (n_v vs 5)) (v_iv (n_v vs 14)) := f3
  have hrf0 : 0 ≤ v_iv (n_v vs 17) ∧ v_iv (n_v vs 17) ≤ 47 := vc_Fa_blocksOf_at_Grtail_Grhead_Grnear_Fablock_8_r0 (v_iv (n_v vs 1)) (v_iv (n_v vs 13)) (v_iv (n_v vs 14)) (v_iv (n_v vs 15)) (v_iv (n_v vs 16)) (v_iv (n_v vs 17)) (w_ei ws (v_ad (n_v vs 5))) k1 k13 k14 k15 k16 k17 h0 h1 (shm_40 f2) h3 f4 f5
  have rf17 : tv_ok ta (0, 0, 47, []) (n_v vs 17) := tv_in t17 (by first | omega | grind) (by first | omega | grind)
  refine ⟨List.forall_mem_cons.mpr ⟨rf17, (fun _ h => (by cases h))⟩, [], trivial, ?_, (fun _ h => (by cases h))⟩
  rw [List.append_nil]
  exact (fun _ h => (by cases h))
set_option maxHeartbeats 4000000 in
theorem vc_Fa_blocksOf_at_Grtail_Grhead_Grnear_Fablock_9_0 (x1 : Int) (x13 : Int) (x14 : Int) (x15 : Int) (x16 : Int) (x17 : Int) (x18 : Int) (a5_1 : Int → Int) (a2_1 : Int → Int) (a3_1 : Int → Int) (a4_1 : Int → Int) (a2_0 : Int → Int) (a3_0 : Int → Int) (a4_0 : Int → Int) (a5_0 : Int → Int) (k1 : 1 ≤ x1 ∧ x1 ≤ 48) (k13 : 0 ≤ x13 ∧ x13 ≤ 47) (k14 : 0 ≤ x14 ∧ x14 ≤ 47) (k15 : (-1) ≤ x15 ∧ x15 ≤ 47) (k16 : 0 ≤ x16 ∧ x16 ≤ 47) (k17 : 0 ≤ x17 ∧ x17 ≤ 47) (k18 : 1 ≤ x18 ∧ x18 ≤ 48) (d0 : x14 + 1 ≤ x18 ∧ x18 ≤ x14 + 1) (f0 : x18 = x14 + 1) (h9 : x17 = a5_1 (x16)) (h10 : x16 = a5_1 (x14)) (f11 : x15 ≠ x14) (h12 : x15 = a5_1 (x14)) (f13 : x14 < x1) (f14 : LBI (a5_1) (x1) (x14) (x13)) (hE_2_999_1 : ∀ j : Int, a2_0 j = a2_1 j) (hE_3_999_1 : ∀ j : Int, a3_0 j = a3_1 j) (hE_4_999_1 : ∀ j : Int, a4_0 j = a4_1 j) (hE_5_999_1 : ∀ j : Int, 0 ≤ j → (j = x14 → a5_0 j = x17) ∧ (j ≠ x14 → a5_0 j = a5_1 j)) : LBI (a5_0) (x1) (x18) (x13) := by
  have e_hE_2_999_1 := funext hE_2_999_1; subst e_hE_2_999_1
  have e_hE_3_999_1 := funext hE_3_999_1; subst e_hE_3_999_1
  have e_hE_4_999_1 := funext hE_4_999_1; subst e_hE_4_999_1
  first
    | exact lbi_old (r := x16) ‹LBI _ _ _ _› (by omega) (by assumption) (by omega) (by assumption) (by assumption) (by omega) (by omega)
set_option maxHeartbeats 4000000 in
theorem vc_Fa_blocksOf_at_Grtail_Grhead_Grnear_Fablock_9_1 (x1 : Int) (x13 : Int) (x14 : Int) (x15 : Int) (x16 : Int) (x17 : Int) (x18 : Int) (a5_1 : Int → Int) (a2_1 : Int → Int) (a3_1 : Int → Int) (a4_1 : Int → Int) (a2_0 : Int → Int) (a3_0 : Int → Int) (a4_0 : Int → Int) (a5_0 : Int → Int) (k1 : 1 ≤ x1 ∧ x1 ≤ 48) (k13 : 0 ≤ x13 ∧ x13 ≤ 47) (k14 : 0 ≤ x14 ∧ x14 ≤ 47) (k15 : (-1) ≤ x15 ∧ x15 ≤ 47) (k16 : 0 ≤ x16 ∧ x16 ≤ 47) (k17 : 0 ≤ x17 ∧ x17 ≤ 47) (k18 : 1 ≤ x18 ∧ x18 ≤ 48) (f0 : x18 = x14 + 1) (h9 : x17 = a5_1 (x16)) (h10 : x16 = a5_1 (x14)) (f11 : x15 ≠ x14) (h12 : x15 = a5_1 (x14)) (f13 : x14 < x1) (f15 : LBJ (a5_1) (a2_1) (a3_1) (x1) (x14) (x13)) (hE_2_999_1 : ∀ j : Int, a2_0 j = a2_1 j) (hE_3_999_1 : ∀ j : Int, a3_0 j = a3_1 j) (hE_4_999_1 : ∀ j : Int, a4_0 j = a4_1 j) (hE_5_999_1 : ∀ j : Int, 0 ≤ j → (j = x14 → a5_0 j = x17) ∧ (j ≠ x14 → a5_0 j = a5_1 j)) : LBJ (a5_0) (a2_0) (a3_0) (x1) (x18) (x13) := by
  have e_hE_2_999_1 := funext hE_2_999_1; subst e_hE_2_999_1
  have e_hE_3_999_1 := funext hE_3_999_1; subst e_hE_3_999_1
  have e_hE_4_999_1 := funext hE_4_999_1; subst e_hE_4_999_1
  first
    | exact lbj_old (r := x16) (y := x15) ‹LBJ _ _ _ _ _ _› (by omega) (by assumption) (by omega) (by assumption) (by assumption) (by assumption) (by omega) (by omega)
set_option maxHeartbeats 4000000 in
theorem vc_Fa_blocksOf_at_Grtail_Grhead_Grnear_Fablock_9_2 (x0 : Int) (x1 : Int) (x13 : Int) (x14 : Int) (x15 : Int) (x16 : Int) (x17 : Int) (x18 : Int) (a5_1 : Int → Int) (a2_1 : Int → Int) (a3_1 : Int → Int) (a4_1 : Int → Int) (a2_0 : Int → Int) (a3_0 : Int → Int) (a4_0 : Int → Int) (a5_0 : Int → Int) (k0 : 0 ≤ x0 ∧ x0 ≤ 24) (k1 : 1 ≤ x1 ∧ x1 ≤ 48) (k13 : 0 ≤ x13 ∧ x13 ≤ 47) (k14 : 0 ≤ x14 ∧ x14 ≤ 47) (k15 : (-1) ≤ x15 ∧ x15 ≤ 47) (k16 : 0 ≤ x16 ∧ x16 ≤ 47) (k17 : 0 ≤ x17 ∧ x17 ≤ 47) (k18 : 1 ≤ x18 ∧ x18 ≤ 48) (f0 : x18 = x14 + 1) (h9 : x17 = a5_1 (x16)) (h10 : x16 = a5_1 (x14)) (f11 : x15 ≠ x14) (h12 : x15 = a5_1 (x14)) (f13 : x14 < x1) (f16 : LKJ (a5_1) (a2_1) (a3_1) (a4_1) (x0) (x1) (x14) (x13)) (hE_2_999_1 : ∀ j : Int, a2_0 j = a2_1 j) (hE_3_999_1 : ∀ j : Int, a3_0 j = a3_1 j) (hE_4_999_1 : ∀ j : Int, a4_0 j = a4_1 j) (hE_5_999_1 : ∀ j : Int, 0 ≤ j → (j = x14 → a5_0 j = x17) ∧ (j ≠ x14 → a5_0 j = a5_1 j)) : LKJ (a5_0) (a2_0) (a3_0) (a4_0) (x0) (x1) (x18) (x13) := by
  have e_hE_2_999_1 := funext hE_2_999_1; subst e_hE_2_999_1
  have e_hE_3_999_1 := funext hE_3_999_1; subst e_hE_3_999_1
  have e_hE_4_999_1 := funext hE_4_999_1; subst e_hE_4_999_1
  first
    | exact lkj_old (r := x16) (y := x15) ‹LKJ _ _ _ _ _ _ _ _› (by omega) (by assumption) (by omega) (by assumption) (by assumption) (by assumption) (by omega) (by omega)
set_option maxHeartbeats 4000000 in
theorem vc_Fa_blocksOf_at_Grtail_Grhead_Grnear_Fablock_9_3 (x1 : Int) (x7 : Int) (x14 : Int) (x16 : Int) (x18 : Int) (a2_1 : Int → Int) (a3_1 : Int → Int) (a4_1 : Int → Int) (a2_0 : Int → Int) (a3_0 : Int → Int) (a4_0 : Int → Int) (k1 : 1 ≤ x1 ∧ x1 ≤ 48) (k7 : 1 ≤ x7 ∧ x7 ≤ 48) (k14 : 0 ≤ x14 ∧ x14 ≤ 47) (k18 : 1 ≤ x18 ∧ x18 ≤ 48) (d0 : x14 + 1 ≤ x18 ∧ x18 ≤ x14 + 1) (d1 : x7 + (-4294967296) ≤ x18 ∧ x18 ≤ x7 + 0) (d4 : x7 + (-4294967296) ≤ x14 ∧ x14 ≤ x7 + (-1)) (d6 : x7 + (-4294967296) ≤ x1 ∧ x1 ≤ x7 + 0) (d8 : x1 + (-4294967296) ≤ x7 ∧ x7 ≤ x1 + 0) (hE_2_999_1 : ∀ j : Int, a2_0 j = a2_1 j) (hE_3_999_1 : ∀ j : Int, a3_0 j = a3_1 j) (hE_4_999_1 : ∀ j : Int, a4_0 j = a4_1 j) : x18 ≤ x1 := by
  have e_hE_2_999_1 := funext hE_2_999_1; subst e_hE_2_999_1
  have e_hE_3_999_1 := funext hE_3_999_1; subst e_hE_3_999_1
  have e_hE_4_999_1 := funext hE_4_999_1; subst e_hE_4_999_1
  first
    | omega
    | (have q3 := (‹LBI _ _ _ _›).2.2.1; omega)
    | (have q := (‹LBI _ _ _ _›).2.2.2.2.1 x14 (by omega) (by omega); omega)
    | (have q := (‹LBI _ _ _ _›).2.2.2.2.1 x14 (by omega) (by omega); have q2 := (‹LBI _ _ _ _›).2.2.2.1 x16 (by omega) (by omega); have q3 := (‹LBI _ _ _ _›).2.2.1; omega)
def o_Fa_blocksOf_at_Grtail_Grhead_Grnear_Fablock_9 : or_T := (124, 19, [(0, (0, 0, 24, [])), (1, (0, 1, 48, [])), (2, (2, 0, 0, [52])), (3, (2, 0, 0, [53])), (4, (2, 0, 0, [59])), (5, (2, 0, 0, [38])), (7, (0, 1, 48, [])), (13, (0, 0, 47, [])), (14, (0, 0, 47, [])), (15, (0, -1, 47, [])), (16, (0, 0, 47, [])), (17, (0, 0, 47, [])), (18, (0, 1, 48, []))], [(6, [18, 14], [1]), (24, [0, 6], []), (24, [1, 7], []), (24, [2, 8], []), (24, [3, 9], []), (24, [4, 10], []), (24, [5, 11], []), (100, [11, 14, 17], []), (10, [17, 11, 16], []), (10, [16, 11, 14], []), (7, [15, 14], [1]), (10, [15, 11, 14], []), (7, [14, 7], [2]), (20, [11, 7, 14, 13], [61, 1, 567]), (20, [11, 8, 9, 7, 14, 13], [61, 3, 585]), (20, [11, 8, 9, 10, 6, 7, 14, 13], [61, 4, 593])], [], [], [(20, [11, 7, 18, 13], [61, 1, 567]), (20, [11, 8, 9, 7, 18, 13], [61, 3, 585]), (20, [11, 8, 9, 10, 6, 7, 18, 13], [61, 4, 593]), (20, [18, 7], [50, 0, 0, 0, 2, 1, 0, 1, 1])], [], [(18, 14, 1, 1), (18, 7, -4294967296, 0), (14, 7, -4294967296, -1), (1, 7, -4294967296, 0), (7, 1, -4294967296, 0), (13, 14, -4294967296, 0), (14, 1, -4294967296, 0), (14, 7, -4294967296, 0)])
theorem oo_Fa_blocksOf_at_Grtail_Grhead_Grnear_Fablock_9 {kA : Nat → ClassId} : or_ok PRD kA GG o_Fa_blocksOf_at_Grtail_Grhead_Grnear_Fablock_9 := by
  refine or_mk fun A ta ws vs hD hth hl => ?_
  intro t0 k0 t1 k1 t2 r2 t3 r3 t4 r4 t5 r5 t7 k7 t13 k13 t14 k14 t15 k15 t16 k16 t17 k17 t18 k18 d0 d1 d4 d6 d8 d11 d12 d13 f0 f2 f3 f4 f5 f6 f7 ta1 w1 le1 s1 f9 f10 f11 f12 f13 f14 f15 f16
  replace f0 := shm_4 f0
  replace f2 := shm_5 f2
  replace f3 := shm_5 f3
  replace f4 := shm_5 f4
  replace f5 := shm_5 f5
  replace f6 := shm_5 f6
  replace f7 := shm_5 f7
  have s1 : (∀ b j, w_el ws b j = if b = v_ad (n_v vs 11) ∧ j = (v_iv (n_v vs 14)).toNat then v_iv (n_v vs 17) else w_el w1 b j) ∧ ∀ b k, w_fd ws b k = w_fd w1 b k := s1.2
  replace f9 := shm_107 f9
  replace f10 := shm_107 f10
  replace f11 := shm_40 f11
  replace f12 := shm_107 f12
  replace f13 := shm_6 f13
  replace f14 := shm_1601 f14
  replace f15 := shm_1602 f15
  replace f16 := shm_1603 f16
  have q6 : n_v vs 6 = n_v vs 0 := f2.symm
  have q7 : n_v vs 7 = n_v vs 1 := f3.symm
  have q8 : n_v vs 8 = n_v vs 2 := f4.symm
  have q9 : n_v vs 9 = n_v vs 3 := f5.symm
  have q10 : n_v vs 10 = n_v vs 4 := f6.symm
  have q11 : n_v vs 11 = n_v vs 5 := f7.symm
  rw [q11] at s1
  simp only [q11, q7, q8, q9, q6, q10] at f9 f10 f12 f13 f14 f15 f16
  have cr_2_999 : ta (v_ad (n_v vs 2)) = some 52 := r2
  have cr_3_999 : ta (v_ad (n_v vs 3)) = some 53 := r3
  have cr_4_999 : ta (v_ad (n_v vs 4)) = some 59 := r4
  have ad_5 : v_ad (n_v vs 5) = v_ad (n_v vs 5) := rfl
  have h9 : v_iv (n_v vs 17) = w_ei w1 (v_ad (n_v vs 5)) (v_iv (n_v vs 16)) := f9
  have h10 : v_iv (n_v vs 16) = w_ei w1 (v_ad (n_v vs 5)) (v_iv (n_v vs 14)) := f10
  have h12 : v_iv (n_v vs 15) = w_ei w1 (v_ad (n_v vs 5)) (v_iv (n_v vs 14)) := f12
  have hE_2_999_1 : ∀ j : Int, w_ei ws (v_ad (n_v vs 2)) j = w_ei w1 (v_ad (n_v vs 2)) j := el_kp s1.1 r5 cr_2_999 (by decide)
  have hE_3_999_1 : ∀ j : Int, w_ei ws (v_ad (n_v vs 3)) j = w_ei w1 (v_ad (n_v vs 3)) j := el_kp s1.1 r5 cr_3_999 (by decide)
  have hE_4_999_1 : ∀ j : Int, w_ei ws (v_ad (n_v vs 4)) j = w_ei w1 (v_ad (n_v vs 4)) j := el_kp s1.1 r5 cr_4_999 (by decide)
  have hE_5_999_1 : ∀ j : Int, 0 ≤ j → (j = v_iv (n_v vs 14) → w_ei ws (v_ad (n_v vs 5)) j = v_iv (n_v vs 17)) ∧ (j ≠ v_iv (n_v vs 14) → w_ei ws (v_ad (n_v vs 5)) j = w_ei w1 (v_ad (n_v vs 5)) j) := fun j hj => ⟨fun h => by unfold w_ei; rw [s1.1, if_pos ⟨ad_5.symm, by rw [h]⟩], fun h => by unfold w_ei; rw [s1.1, if_neg (fun e => h (by have := e.2; omega))]⟩
  have nf0 : fc_1 PRD (20, [11, 7, 18, 13], [61, 1, 567]) ws (vs) := by
    refine ⟨nf_in hl rfl, sgq_1601 ?_⟩
    · show LBI (w_ei ws (v_ad (n_v vs 11))) (v_iv (n_v vs 7)) (v_iv (n_v vs 18)) (v_iv (n_v vs 13))
      simp only [q7, q11]
      exact vc_Fa_blocksOf_at_Grtail_Grhead_Grnear_Fablock_9_0 (v_iv (n_v vs 1)) (v_iv (n_v vs 13)) (v_iv (n_v vs 14)) (v_iv (n_v vs 15)) (v_iv (n_v vs 16)) (v_iv (n_v vs 17)) (v_iv (n_v vs 18)) (w_ei w1 (v_ad (n_v vs 5))) (w_ei w1 (v_ad (n_v vs 2))) (w_ei w1 (v_ad (n_v vs 3))) (w_ei w1 (v_ad (n_v vs 4))) (w_ei ws (v_ad (n_v vs 2))) (w_ei ws (v_ad (n_v vs 3))) (w_ei ws (v_ad (n_v vs 4))) (w_ei ws (v_ad (n_v vs 5))) k1 k13 k14 k15 k16 k17 k18 d0 f0 h9 h10 f11 h12 f13 f14 hE_2_999_1 hE_3_999_1 hE_4_999_1 hE_5_999_1
  have nf1 : fc_1 PRD (20, [11, 8, 9, 7, 18, 13], [61, 3, 585]) ws (vs) := by
    refine ⟨nf_in hl rfl, sgq_1602 ?_⟩
    · show LBJ (w_ei ws (v_ad (n_v vs 11))) (w_ei ws (v_ad (n_v vs 8))) (w_ei ws (v_ad (n_v vs 9))) (v_iv (n_v vs 7)) (v_iv (n_v vs 18)) (v_iv (n_v vs 13))
      simp only [q7, q8, q9, q11]
      exact vc_Fa_blocksOf_at_Grtail_Grhead_Grnear_Fablock_9_1 (v_iv (n_v vs 1)) (v_iv (n_v vs 13)) (v_iv (n_v vs 14)) (v_iv (n_v vs 15)) (v_iv (n_v vs 16)) (v_iv (n_v vs 17)) (v_iv (n_v vs 18)) (w_ei w1 (v_ad (n_v vs 5))) (w_ei w1 (v_ad (n_v vs 2))) (w_ei w1 (v_ad (n_v vs 3))) (w_ei w1 (v_ad (n_v vs 4))) (w_ei ws (v_ad (n_v vs 2))) (w_ei ws (v_ad (n_v vs 3))) (w_ei ws (v_ad (n_v vs 4))) (w_ei ws (v_ad (n_v vs 5))) k1 k13 k14 k15 k16 k17 k18 f0 h9 h10 f11 h12 f13 f15 hE_2_999_1 hE_3_999_1 hE_4_999_1 hE_5_999_1
  have nf2 : fc_1 PRD (20, [11, 8, 9, 10, 6, 7, 18, 13], [61, 4, 593]) ws (vs) := by
    refine ⟨nf_in hl rfl, sgq_1603 ?_⟩
    · show LKJ (w_ei ws (v_ad (n_v vs 11))) (w_ei ws (v_ad (n_v vs 8))) (w_ei ws (v_ad (n_v vs 9))) (w_ei ws (v_ad (n_v vs 10))) (v_iv (n_v vs 6)) (v_iv (n_v vs 7)) (v_iv (n_v vs 18)) (v_iv (n_v vs 13))
      simp only [q6, q7, q8, q9, q10, q11]
      exact vc_Fa_blocksOf_at_Grtail_Grhead_Grnear_Fablock_9_2 (v_iv (n_v vs 0)) (v_iv (n_v vs 1)) (v_iv (n_v vs 13)) (v_iv (n_v vs 14)) (v_iv (n_v vs 15)) (v_iv (n_v vs 16)) (v_iv (n_v vs 17)) (v_iv (n_v vs 18)) (w_ei w1 (v_ad (n_v vs 5))) (w_ei w1 (v_ad (n_v vs 2))) (w_ei w1 (v_ad (n_v vs 3))) (w_ei w1 (v_ad (n_v vs 4))) (w_ei ws (v_ad (n_v vs 2))) (w_ei ws (v_ad (n_v vs 3))) (w_ei ws (v_ad (n_v vs 4))) (w_ei ws (v_ad (n_v vs 5))) k0 k1 k13 k14 k15 k16 k17 k18 f0 h9 h10 f11 h12 f13 f16 hE_2_999_1 hE_3_999_1 hE_4_999_1 hE_5_999_1
  have nf3 : fc_1 PRD (20, [18, 7], [50, 0, 0, 0, 2, 1, 0, 1, 1]) ws (vs) := by
    refine ⟨nf_in hl rfl, sgq_360 ?_⟩
    · show v_iv (n_v vs 18) ≤ v_iv (n_v vs 7)
      rw [q7]
      exact vc_Fa_blocksOf_at_Grtail_Grhead_Grnear_Fablock_9_3 (v_iv (n_v vs 1)) (v_iv (n_v vs 7)) (v_iv (n_v vs 14)) (v_iv (n_v vs 16)) (v_iv (n_v vs 18)) (w_ei w1 (v_ad (n_v vs 2))) (w_ei w1 (v_ad (n_v vs 3))) (w_ei w1 (v_ad (n_v vs 4))) (w_ei ws (v_ad (n_v vs 2))) (w_ei ws (v_ad (n_v vs 3))) (w_ei ws (v_ad (n_v vs 4))) k1 k7 k14 k18 d0 d1 d4 d6 d8 hE_2_999_1 hE_3_999_1 hE_4_999_1
  refine ⟨(fun _ h => (by cases h)), [], trivial, ?_, (fun _ h => (by cases h))⟩
  rw [List.append_nil]
  exact List.forall_mem_cons.mpr ⟨⟨show (20 : Nat) < 100 from by decide, nf0⟩, List.forall_mem_cons.mpr ⟨⟨show (20 : Nat) < 100 from by decide, nf1⟩, List.forall_mem_cons.mpr ⟨⟨show (20 : Nat) < 100 from by decide, nf2⟩, List.forall_mem_cons.mpr ⟨⟨show (20 : Nat) < 100 from by decide, nf3⟩, (fun _ h => (by cases h))⟩⟩⟩⟩
set_option maxHeartbeats 4000000 in
theorem vc_Fa_blocksOf_at_Grtail_Grhead_Grnear_Fablock_10_0 (x1 : Int) (x13 : Int) (x14 : Int) (x16 : Int) (x17 : Int) (a5_1 : Int → Int) (a2_1 : Int → Int) (a3_1 : Int → Int) (a4_1 : Int → Int) (a2_0 : Int → Int) (a3_0 : Int → Int) (a4_0 : Int → Int) (a5_0 : Int → Int) (k1 : 1 ≤ x1 ∧ x1 ≤ 48) (k13 : 0 ≤ x13 ∧ x13 ≤ 47) (k14 : 0 ≤ x14 ∧ x14 ≤ 47) (k16 : 1 ≤ x16 ∧ x16 ≤ 48) (k17 : 1 ≤ x17 ∧ x17 ≤ 48) (f0 : x17 = x14 + 1) (f1 : x16 = x13 + 1) (f13 : LBI (a5_1) (x1) (x14) (x13)) (hE_2_999_1 : ∀ j : Int, a2_0 j = a2_1 j) (hE_3_999_1 : ∀ j : Int, a3_0 j = a3_1 j) (hE_4_999_1 : ∀ j : Int, a4_0 j = a4_1 j) (hE_5_999_1 : ∀ j : Int, 0 ≤ j → (j = x14 → a5_0 j = x13) ∧ (j ≠ x14 → a5_0 j = a5_1 j)) : LBI (a5_0) (x1) (x17) (x16) := by
  have e_hE_2_999_1 := funext hE_2_999_1; subst e_hE_2_999_1
  have e_hE_3_999_1 := funext hE_3_999_1; subst e_hE_3_999_1
  have e_hE_4_999_1 := funext hE_4_999_1; subst e_hE_4_999_1
  first
    | exact lbi_new ‹LBI _ _ _ _› (by assumption) (by omega) (by omega) (by omega) (by omega)
set_option maxHeartbeats 4000000 in
theorem vc_Fa_blocksOf_at_Grtail_Grhead_Grnear_Fablock_10_1 (x1 : Int) (x13 : Int) (x14 : Int) (x15 : Int) (x16 : Int) (x17 : Int) (a5_1 : Int → Int) (a2_1 : Int → Int) (a3_1 : Int → Int) (a4_1 : Int → Int) (a2_0 : Int → Int) (a3_0 : Int → Int) (a4_0 : Int → Int) (a5_0 : Int → Int) (k1 : 1 ≤ x1 ∧ x1 ≤ 48) (k13 : 0 ≤ x13 ∧ x13 ≤ 47) (k14 : 0 ≤ x14 ∧ x14 ≤ 47) (k15 : 0 ≤ x15 ∧ x15 ≤ 47) (k16 : 1 ≤ x16 ∧ x16 ≤ 48) (k17 : 1 ≤ x17 ∧ x17 ≤ 48) (f0 : x17 = x14 + 1) (f1 : x16 = x13 + 1) (f10 : x15 = x14) (h11 : x15 = a5_1 (x14)) (f12 : x14 < x1) (f14 : LBJ (a5_1) (a2_1) (a3_1) (x1) (x14) (x13)) (hE_2_999_1 : ∀ j : Int, a2_0 j = a2_1 j) (hE_3_999_1 : ∀ j : Int, a3_0 j = a3_1 j) (hE_4_999_1 : ∀ j : Int, a4_0 j = a4_1 j) (hE_5_999_1 : ∀ j : Int, 0 ≤ j → (j = x14 → a5_0 j = x13) ∧ (j ≠ x14 → a5_0 j = a5_1 j)) : LBJ (a5_0) (a2_0) (a3_0) (x1) (x17) (x16) := by
  have e_hE_2_999_1 := funext hE_2_999_1; subst e_hE_2_999_1
  have e_hE_3_999_1 := funext hE_3_999_1; subst e_hE_3_999_1
  have e_hE_4_999_1 := funext hE_4_999_1; subst e_hE_4_999_1
  first
    | exact lbj_new ‹LBJ _ _ _ _ _ _› (by omega) (by assumption) (by omega) (by assumption) (by omega) (by omega) (by omega) (by omega)
set_option maxHeartbeats 4000000 in
theorem vc_Fa_blocksOf_at_Grtail_Grhead_Grnear_Fablock_10_2 (x0 : Int) (x1 : Int) (x13 : Int) (x14 : Int) (x15 : Int) (x16 : Int) (x17 : Int) (a5_1 : Int → Int) (a2_1 : Int → Int) (a3_1 : Int → Int) (a4_1 : Int → Int) (a2_0 : Int → Int) (a3_0 : Int → Int) (a4_0 : Int → Int) (a5_0 : Int → Int) (k0 : 0 ≤ x0 ∧ x0 ≤ 24) (k1 : 1 ≤ x1 ∧ x1 ≤ 48) (k13 : 0 ≤ x13 ∧ x13 ≤ 47) (k14 : 0 ≤ x14 ∧ x14 ≤ 47) (k15 : 0 ≤ x15 ∧ x15 ≤ 47) (k16 : 1 ≤ x16 ∧ x16 ≤ 48) (k17 : 1 ≤ x17 ∧ x17 ≤ 48) (f0 : x17 = x14 + 1) (f1 : x16 = x13 + 1) (f10 : x15 = x14) (h11 : x15 = a5_1 (x14)) (f12 : x14 < x1) (f15 : LKJ (a5_1) (a2_1) (a3_1) (a4_1) (x0) (x1) (x14) (x13)) (hE_2_999_1 : ∀ j : Int, a2_0 j = a2_1 j) (hE_3_999_1 : ∀ j : Int, a3_0 j = a3_1 j) (hE_4_999_1 : ∀ j : Int, a4_0 j = a4_1 j) (hE_5_999_1 : ∀ j : Int, 0 ≤ j → (j = x14 → a5_0 j = x13) ∧ (j ≠ x14 → a5_0 j = a5_1 j)) : LKJ (a5_0) (a2_0) (a3_0) (a4_0) (x0) (x1) (x17) (x16) := by
  have e_hE_2_999_1 := funext hE_2_999_1; subst e_hE_2_999_1
  have e_hE_3_999_1 := funext hE_3_999_1; subst e_hE_3_999_1
  have e_hE_4_999_1 := funext hE_4_999_1; subst e_hE_4_999_1
  first
    | exact lkj_new ‹LKJ _ _ _ _ _ _ _ _› (by omega) (by assumption) (by omega) (by assumption) (by omega) (by omega) (by omega) (by omega)
set_option maxHeartbeats 4000000 in
theorem vc_Fa_blocksOf_at_Grtail_Grhead_Grnear_Fablock_10_3 (x1 : Int) (x7 : Int) (x14 : Int) (x15 : Int) (x16 : Int) (x17 : Int) (a5_1 : Int → Int) (a2_1 : Int → Int) (a3_1 : Int → Int) (a4_1 : Int → Int) (a2_0 : Int → Int) (a3_0 : Int → Int) (a4_0 : Int → Int) (k1 : 1 ≤ x1 ∧ x1 ≤ 48) (k7 : 1 ≤ x7 ∧ x7 ≤ 48) (k14 : 0 ≤ x14 ∧ x14 ≤ 47) (k15 : 0 ≤ x15 ∧ x15 ≤ 47) (k17 : 1 ≤ x17 ∧ x17 ≤ 48) (d0 : x14 + 1 ≤ x17 ∧ x17 ≤ x14 + 1) (d1 : x7 + (-4294967296) ≤ x17 ∧ x17 ≤ x7 + 0) (d8 : x14 + 0 ≤ x15 ∧ x15 ≤ x14 + 0) (d9 : x7 + (-4294967296) ≤ x14 ∧ x14 ≤ x7 + (-1)) (d11 : x7 + (-4294967296) ≤ x1 ∧ x1 ≤ x7 + 0) (d13 : x1 + (-4294967296) ≤ x7 ∧ x7 ≤ x1 + 0) (h11 : x15 = a5_1 (x14)) (hE_2_999_1 : ∀ j : Int, a2_0 j = a2_1 j) (hE_3_999_1 : ∀ j : Int, a3_0 j = a3_1 j) (hE_4_999_1 : ∀ j : Int, a4_0 j = a4_1 j) : x17 ≤ x1 := by
  have e_hE_2_999_1 := funext hE_2_999_1; subst e_hE_2_999_1
  have e_hE_3_999_1 := funext hE_3_999_1; subst e_hE_3_999_1
  have e_hE_4_999_1 := funext hE_4_999_1; subst e_hE_4_999_1
  first
    | omega
    | (have q3 := (‹LBI _ _ _ _›).2.2.1; omega)
    | (have q := (‹LBI _ _ _ _›).2.2.2.2.1 x14 (by omega) (by omega); omega)
    | (have q := (‹LBI _ _ _ _›).2.2.2.2.1 x14 (by omega) (by omega); have q2 := (‹LBI _ _ _ _›).2.2.2.1 x16 (by omega) (by omega); have q3 := (‹LBI _ _ _ _›).2.2.1; omega)
def o_Fa_blocksOf_at_Grtail_Grhead_Grnear_Fablock_10 : or_T := (124, 18, [(0, (0, 0, 24, [])), (1, (0, 1, 48, [])), (2, (2, 0, 0, [52])), (3, (2, 0, 0, [53])), (4, (2, 0, 0, [59])), (5, (2, 0, 0, [38])), (7, (0, 1, 48, [])), (13, (0, 0, 47, [])), (14, (0, 0, 47, [])), (15, (0, 0, 47, [])), (16, (0, 1, 48, [])), (17, (0, 1, 48, []))], [(6, [17, 14], [1]), (6, [16, 13], [1]), (24, [0, 6], []), (24, [1, 7], []), (24, [2, 8], []), (24, [3, 9], []), (24, [4, 10], []), (24, [5, 11], []), (100, [11, 14, 13], []), (7, [15, 14], [0]), (10, [15, 11, 14], []), (7, [14, 7], [2]), (20, [11, 7, 14, 13], [61, 1, 567]), (20, [11, 8, 9, 7, 14, 13], [61, 3, 585]), (20, [11, 8, 9, 10, 6, 7, 14, 13], [61, 4, 593])], [], [], [(20, [11, 7, 17, 16], [61, 1, 567]), (20, [11, 8, 9, 7, 17, 16], [61, 3, 585]), (20, [11, 8, 9, 10, 6, 7, 17, 16], [61, 4, 593]), (20, [17, 7], [50, 0, 0, 0, 2, 1, 0, 1, 1])], [], [(17, 14, 1, 1), (17, 7, -4294967296, 0), (16, 13, 1, 1), (16, 14, -4294967296, 1), (15, 14, 0, 0), (14, 7, -4294967296, -1), (1, 7, -4294967296, 0), (7, 1, -4294967296, 0), (13, 1, -4294967296, 1), (13, 7, -4294967296, 0), (13, 14, -4294967296, 0), (14, 1, -4294967296, 0), (14, 7, -4294967296, 0)])
theorem oo_Fa_blocksOf_at_Grtail_Grhead_Grnear_Fablock_10 {kA : Nat → ClassId} : or_ok PRD kA GG o_Fa_blocksOf_at_Grtail_Grhead_Grnear_Fablock_10 := by
  refine or_mk fun A ta ws vs hD hth hl => ?_
  intro t0 k0 t1 k1 t2 r2 t3 r3 t4 r4 t5 r5 t7 k7 t13 k13 t14 k14 t15 k15 t16 k16 t17 k17 d0 d1 d4 d7 d8 d9 d11 d13 d14 d15 d16 d17 d18 f0 f1 f3 f4 f5 f6 f7 f8 ta1 w1 le1 s1 f10 f11 f12 f13 f14 f15
  replace f0 := shm_4 f0
  replace f1 := shm_4 f1
  replace f3 := shm_5 f3
  replace f4 := shm_5 f4
  replace f5 := shm_5 f5
  replace f6 := shm_5 f6
  replace f7 := shm_5 f7
  replace f8 := shm_5 f8
  have s1 : (∀ b j, w_el ws b j = if b = v_ad (n_v vs 11) ∧ j = (v_iv (n_v vs 14)).toNat then v_iv (n_v vs 13) else w_el w1 b j) ∧ ∀ b k, w_fd ws b k = w_fd w1 b k := s1.2
  replace f10 := shm_37 f10
  replace f11 := shm_107 f11
  replace f12 := shm_6 f12
  replace f13 := shm_1601 f13
  replace f14 := shm_1602 f14
  replace f15 := shm_1603 f15
  have q6 : n_v vs 6 = n_v vs 0 := f3.symm
  have q7 : n_v vs 7 = n_v vs 1 := f4.symm
  have q8 : n_v vs 8 = n_v vs 2 := f5.symm
  have q9 : n_v vs 9 = n_v vs 3 := f6.symm
  have q10 : n_v vs 10 = n_v vs 4 := f7.symm
  have q11 : n_v vs 11 = n_v vs 5 := f8.symm
  rw [q11] at s1
  simp only [q11, q7, q8, q9, q6, q10] at f11 f12 f13 f14 f15
  have cr_2_999 : ta (v_ad (n_v vs 2)) = some 52 := r2
  have cr_3_999 : ta (v_ad (n_v vs 3)) = some 53 := r3
  have cr_4_999 : ta (v_ad (n_v vs 4)) = some 59 := r4
  have ad_5 : v_ad (n_v vs 5) = v_ad (n_v vs 5) := rfl
  have h11 : v_iv (n_v vs 15) = w_ei w1 (v_ad (n_v vs 5)) (v_iv (n_v vs 14)) := f11
  have hE_2_999_1 : ∀ j : Int, w_ei ws (v_ad (n_v vs 2)) j = w_ei w1 (v_ad (n_v vs 2)) j := el_kp s1.1 r5 cr_2_999 (by decide)
  have hE_3_999_1 : ∀ j : Int, w_ei ws (v_ad (n_v vs 3)) j = w_ei w1 (v_ad (n_v vs 3)) j := el_kp s1.1 r5 cr_3_999 (by decide)
  have hE_4_999_1 : ∀ j : Int, w_ei ws (v_ad (n_v vs 4)) j = w_ei w1 (v_ad (n_v vs 4)) j := el_kp s1.1 r5 cr_4_999 (by decide)
  have hE_5_999_1 : ∀ j : Int, 0 ≤ j → (j = v_iv (n_v vs 14) → w_ei ws (v_ad (n_v vs 5)) j = v_iv (n_v vs 13)) ∧ (j ≠ v_iv (n_v vs 14) → w_ei ws (v_ad (n_v vs 5)) j = w_ei w1 (v_ad (n_v vs 5)) j) := fun j hj => ⟨fun h => by unfold w_ei; rw [s1.1, if_pos ⟨ad_5.symm, by rw [h]⟩], fun h => by unfold w_ei; rw [s1.1, if_neg (fun e => h (by have := e.2; omega))]⟩
  have nf0 : fc_1 PRD (20, [11, 7, 17, 16], [61, 1, 567]) ws (vs) := by
    refine ⟨nf_in hl rfl, sgq_1601 ?_⟩
    · show LBI (w_ei ws (v_ad (n_v vs 11))) (v_iv (n_v vs 7)) (v_iv (n_v vs 17)) (v_iv (n_v vs 16))
      simp only [q7, q11]
      exact vc_Fa_blocksOf_at_Grtail_Grhead_Grnear_Fablock_10_0 (v_iv (n_v vs 1)) (v_iv (n_v vs 13)) (v_iv (n_v vs 14)) (v_iv (n_v vs 16)) (v_iv (n_v vs 17)) (w_ei w1 (v_ad (n_v vs 5))) (w_ei w1 (v_ad (n_v vs 2))) (w_ei w1 (v_ad (n_v vs 3))) (w_ei w1 (v_ad (n_v vs 4))) (w_ei ws (v_ad (n_v vs 2))) (w_ei ws (v_ad (n_v vs 3))) (w_ei ws (v_ad (n_v vs 4))) (w_ei ws (v_ad (n_v vs 5))) k1 k13 k14 k16 k17 f0 f1 f13 hE_2_999_1 hE_3_999_1 hE_4_999_1 hE_5_999_1
  have nf1 : fc_1 PRD (20, [11, 8, 9, 7, 17, 16], [61, 3, 585]) ws (vs) := by
    refine ⟨nf_in hl rfl, sgq_1602 ?_⟩
    · show LBJ (w_ei ws (v_ad (n_v vs 11))) (w_ei ws (v_ad (n_v vs 8))) (w_ei ws (v_ad (n_v vs 9))) (v_iv (n_v vs 7)) (v_iv (n_v vs 17)) (v_iv (n_v vs 16))
      simp only [q7, q8, q9, q11]
      exact vc_Fa_blocksOf_at_Grtail_Grhead_Grnear_Fablock_10_1 (v_iv (n_v vs 1)) (v_iv (n_v vs 13)) (v_iv (n_v vs 14)) (v_iv (n_v vs 15)) (v_iv (n_v vs 16)) (v_iv (n_v vs 17)) (w_ei w1 (v_ad (n_v vs 5))) (w_ei w1 (v_ad (n_v vs 2))) (w_ei w1 (v_ad (n_v vs 3))) (w_ei w1 (v_ad (n_v vs 4))) (w_ei ws (v_ad (n_v vs 2))) (w_ei ws (v_ad (n_v vs 3))) (w_ei ws (v_ad (n_v vs 4))) (w_ei ws (v_ad (n_v vs 5))) k1 k13 k14 k15 k16 k17 f0 f1 f10 h11 f12 f14 hE_2_999_1 hE_3_999_1 hE_4_999_1 hE_5_999_1
  have nf2 : fc_1 PRD (20, [11, 8, 9, 10, 6, 7, 17, 16], [61, 4, 593]) ws (vs) := by
    refine ⟨nf_in hl rfl, sgq_1603 ?_⟩
    · show LKJ (w_ei ws (v_ad (n_v vs 11))) (w_ei ws (v_ad (n_v vs 8))) (w_ei ws (v_ad (n_v vs 9))) (w_ei ws (v_ad (n_v vs 10))) (v_iv (n_v vs 6)) (v_iv (n_v vs 7)) (v_iv (n_v vs 17)) (v_iv (n_v vs 16))
      simp only [q6, q7, q8, q9, q10, q11]
      exact vc_Fa_blocksOf_at_Grtail_Grhead_Grnear_Fablock_10_2 (v_iv (n_v vs 0)) (v_iv (n_v vs 1)) (v_iv (n_v vs 13)) (v_iv (n_v vs 14)) (v_iv (n_v vs 15)) (v_iv (n_v vs 16)) (v_iv (n_v vs 17)) (w_ei w1 (v_ad (n_v vs 5))) (w_ei w1 (v_ad (n_v vs 2))) (w_ei w1 (v_ad (n_v vs 3))) (w_ei w1 (v_ad (n_v vs 4))) (w_ei ws (v_ad (n_v vs 2))) (w_ei ws (v_ad (n_v vs 3))) (w_ei ws (v_ad (n_v vs 4))) (w_ei ws (v_ad (n_v vs 5))) k0 k1 k13 k14 k15 k16 k17 f0 f1 f10 h11 f12 f15 hE_2_999_1 hE_3_999_1 hE_4_999_1 hE_5_999_1
  have nf3 : fc_1 PRD (20, [17, 7], [50, 0, 0, 0, 2, 1, 0, 1, 1]) ws (vs) := by
    refine ⟨nf_in hl rfl, sgq_360 ?_⟩
    · show v_iv (n_v vs 17) ≤ v_iv (n_v vs 7)
      rw [q7]
      exact vc_Fa_blocksOf_at_Grtail_Grhead_Grnear_Fablock_10_3 (v_iv (n_v vs 1)) (v_iv (n_v vs 7)) (v_iv (n_v vs 14)) (v_iv (n_v vs 15)) (v_iv (n_v vs 16)) (v_iv (n_v vs 17)) (w_ei w1 (v_ad (n_v vs 5))) (w_ei w1 (v_ad (n_v vs 2))) (w_ei w1 (v_ad (n_v vs 3))) (w_ei w1 (v_ad (n_v vs 4))) (w_ei ws (v_ad (n_v vs 2))) (w_ei ws (v_ad (n_v vs 3))) (w_ei ws (v_ad (n_v vs 4))) k1 k7 k14 k15 k17 d0 d1 d8 d9 d11 d13 h11 hE_2_999_1 hE_3_999_1 hE_4_999_1
  refine ⟨(fun _ h => (by cases h)), [], trivial, ?_, (fun _ h => (by cases h))⟩
  rw [List.append_nil]
  exact List.forall_mem_cons.mpr ⟨⟨show (20 : Nat) < 100 from by decide, nf0⟩, List.forall_mem_cons.mpr ⟨⟨show (20 : Nat) < 100 from by decide, nf1⟩, List.forall_mem_cons.mpr ⟨⟨show (20 : Nat) < 100 from by decide, nf2⟩, List.forall_mem_cons.mpr ⟨⟨show (20 : Nat) < 100 from by decide, nf3⟩, (fun _ h => (by cases h))⟩⟩⟩⟩
def n_Fa_blocksOf_at_Grtail_Grhead_Grnear_Fablock_an : List an_T := [(3, [(0, (0, 0, 24, [])), (1, (0, 0, 48, [])), (2, (2, 0, 0, [52])), (3, (2, 0, 0, [53])), (4, (2, 0, 0, [59])), (5, (2, 0, 0, [38])), (6, (0, 0, 48, []))], [], (0, 0), [(0, 0, 99997), (1, 12, 48), (0, 0, 100000), (0, 0, 0), (0, 0, 0)], [(0, 6, (Int.negSucc 999999999999), 0), (1, 7, (Int.negSucc 999999999999), 0), (6, 0, (Int.negSucc 999999999999), 0), (7, 1, (Int.negSucc 999999999999), 0), (12, 1, (Int.negSucc 999999999999), 0), (12, 7, (Int.negSucc 999999999999), 0)], [], [(0, 0, 24, []), (0, 0, 48, []), (2, 0, 0, [52]), (2, 0, 0, [53]), (2, 0, 0, [59]), (2, 0, 0, [38])], 0, [], [(20, [11, 12], [61, 1, 565]), (24, [0, 6], []), (24, [1, 7], []), (24, [2, 8], []), (24, [3, 9], []), (24, [4, 10], []), (24, [5, 11], [])]), (32, [(0, (0, 0, 24, [])), (1, (0, 0, 48, [])), (2, (2, 0, 0, [52])), (3, (2, 0, 0, [53])), (4, (2, 0, 0, [59])), (5, (2, 0, 0, [38])), (6, (0, 0, 16777215, [])), (7, (0, 0, 24, []))], [], (0, 0), [(0, 0, 99968), (1, 13, 24), (0, 0, 100000), (0, 0, 0), (0, 0, 0)], [(0, 6, (Int.negSucc 999999999999), 0), (1, 7, (Int.negSucc 999999999999), 0), (6, 0, (Int.negSucc 999999999999), 0), (7, 1, (Int.negSucc 999999999999), 0), (13, 0, (Int.negSucc 999999999999), 0), (13, 6, (Int.negSucc 999999999999), 0)], [], [(0, 0, 24, []), (0, 0, 48, []), (2, 0, 0, [52]), (2, 0, 0, [53]), (2, 0, 0, [59]), (2, 0, 0, [38])], 0, [], [(20, [11, 7], [61, 1, 566]), (20, [11, 8, 9, 7], [61, 3, 580]), (20, [11, 8, 9, 10, 6, 7], [61, 4, 587]), (24, [0, 6], []), (24, [1, 7], []), (24, [2, 8], []), (24, [3, 9], []), (24, [4, 10], []), (24, [5, 11], [])]), (48, [(0, (0, 1, 24, [])), (1, (0, 0, 48, [])), (2, (2, 0, 0, [52])), (3, (2, 0, 0, [53])), (4, (2, 0, 0, [59])), (5, (2, 0, 0, [38])), (6, (0, 0, 16777215, [])), (7, (0, 0, 23, [])), (8, (0, 0, 16777215, [])), (9, (0, 0, 24, []))], [], (0, 0), [(0, 0, 99968), (1, 13, 24), (0, 0, 99952), (1, 15, 24), (0, 0, 100000)], [(0, 6, (Int.negSucc 999999999999), 0), (1, 7, (Int.negSucc 999999999999), 0), (6, 0, (Int.negSucc 999999999999), 0), (7, 1, (Int.negSucc 999999999999), 0), (13, 0, (Int.negSucc 999999999999), (Int.negSucc 0)), (13, 6, (Int.negSucc 999999999999), (Int.negSucc 0)), (15, 0, (Int.negSucc 999999999999), 0), (15, 6, (Int.negSucc 999999999999), 0)], [], [(0, 0, 24, []), (0, 0, 48, []), (2, 0, 0, [52]), (2, 0, 0, [53]), (2, 0, 0, [59]), (2, 0, 0, [38])], 0, [], [(20, [11, 7], [61, 1, 566]), (20, [11, 8, 9, 7], [61, 3, 580]), (20, [11, 8, 9, 10, 6, 7], [61, 4, 587]), (24, [0, 6], []), (24, [1, 7], []), (24, [2, 8], []), (24, [3, 9], []), (24, [4, 10], []), (24, [5, 11], [])]), (124, [(0, (0, 0, 24, [])), (1, (0, 0, 48, [])), (2, (2, 0, 0, [52])), (3, (2, 0, 0, [53])), (4, (2, 0, 0, [59])), (5, (2, 0, 0, [38])), (6, (0, 0, 16777215, [])), (7, (0, 0, 48, [])), (8, (0, 0, 48, []))], [], (0, 0), [(0, 0, 99876), (1, 14, 48), (0, 0, 100000), (0, 0, 0), (0, 0, 0)], [(0, 6, (Int.negSucc 999999999999), 0), (1, 7, (Int.negSucc 999999999999), 0), (6, 0, (Int.negSucc 999999999999), 0), (7, 1, (Int.negSucc 999999999999), 0), (13, 1, (Int.negSucc 999999999999), 1), (13, 7, (Int.negSucc 999999999999), 0), (13, 14, (Int.negSucc 999999999999), 0), (14, 1, (Int.negSucc 999999999999), 0), (14, 7, (Int.negSucc 999999999999), 0)], [], [(0, 0, 24, []), (0, 0, 48, []), (2, 0, 0, [52]), (2, 0, 0, [53]), (2, 0, 0, [59]), (2, 0, 0, [38])], 0, [], [(20, [11, 7, 14, 13], [61, 1, 567]), (20, [11, 8, 9, 7, 14, 13], [61, 3, 585]), (20, [11, 8, 9, 10, 6, 7, 14, 13], [61, 4, 593]), (20, [14, 7], [50, 0, 0, 0, 2, 1, 0, 1, 1]), (24, [0, 6], []), (24, [1, 7], []), (24, [2, 8], []), (24, [3, 9], []), (24, [4, 10], []), (24, [5, 11], [])])]
def t_Fa_blocksOf_at_Grtail_Grhead_Grnear_Fablock_ct : ct_L := [(243, 110, e_Fa_spread_at_Grnear), (312, 114, e_Fa_uniteAt_at_Grtail_Grhead_Fablock)]
set_option maxRecDepth 100000 in
theorem c_Fa_blocksOf_at_Grtail_Grhead_Grnear_Fablock {l : Launch} {D : va_G} {kA : Nat → ClassId} (h_Fa_spread_at_Grnear : ct_ok PRD l D kA GG y_Fa_spread_at_Grnear z_Fa_spread_at_Grnear e_Fa_spread_at_Grnear) (h_Fa_uniteAt_at_Grtail_Grhead_Fablock : ct_ok PRD l D kA GG y_Fa_uniteAt_at_Grtail_Grhead_Fablock z_Fa_uniteAt_at_Grtail_Grhead_Fablock e_Fa_uniteAt_at_Grtail_Grhead_Fablock) : ct_ok PRD l D kA GG y_Fa_blocksOf_at_Grtail_Grhead_Grnear_Fablock z_Fa_blocksOf_at_Grtail_Grhead_Grnear_Fablock e_Fa_blocksOf_at_Grtail_Grhead_Grnear_Fablock := chk_all_ok (FT := []) (PT := []) (CT := t_Fa_blocksOf_at_Grtail_Grhead_Grnear_Fablock_ct) (KT := []) (NT := []) (AN := n_Fa_blocksOf_at_Grtail_Grhead_Grnear_Fablock_an) (OT := [o_Fa_blocksOf_at_Grtail_Grhead_Grnear_Fablock_0, o_Fa_blocksOf_at_Grtail_Grhead_Grnear_Fablock_1, o_Fa_blocksOf_at_Grtail_Grhead_Grnear_Fablock_2, o_Fa_blocksOf_at_Grtail_Grhead_Grnear_Fablock_3, o_Fa_blocksOf_at_Grtail_Grhead_Grnear_Fablock_4, o_Fa_blocksOf_at_Grtail_Grhead_Grnear_Fablock_5, o_Fa_blocksOf_at_Grtail_Grhead_Grnear_Fablock_6, o_Fa_blocksOf_at_Grtail_Grhead_Grnear_Fablock_7, o_Fa_blocksOf_at_Grtail_Grhead_Grnear_Fablock_8, o_Fa_blocksOf_at_Grtail_Grhead_Grnear_Fablock_9, o_Fa_blocksOf_at_Grtail_Grhead_Grnear_Fablock_10]) 5 408 (List.forall_mem_cons.mpr ⟨oo_Fa_blocksOf_at_Grtail_Grhead_Grnear_Fablock_0, List.forall_mem_cons.mpr ⟨oo_Fa_blocksOf_at_Grtail_Grhead_Grnear_Fablock_1, List.forall_mem_cons.mpr ⟨oo_Fa_blocksOf_at_Grtail_Grhead_Grnear_Fablock_2, List.forall_mem_cons.mpr ⟨oo_Fa_blocksOf_at_Grtail_Grhead_Grnear_Fablock_3, List.forall_mem_cons.mpr ⟨oo_Fa_blocksOf_at_Grtail_Grhead_Grnear_Fablock_4, List.forall_mem_cons.mpr ⟨oo_Fa_blocksOf_at_Grtail_Grhead_Grnear_Fablock_5, List.forall_mem_cons.mpr ⟨oo_Fa_blocksOf_at_Grtail_Grhead_Grnear_Fablock_6, List.forall_mem_cons.mpr ⟨oo_Fa_blocksOf_at_Grtail_Grhead_Grnear_Fablock_7, List.forall_mem_cons.mpr ⟨oo_Fa_blocksOf_at_Grtail_Grhead_Grnear_Fablock_8, List.forall_mem_cons.mpr ⟨oo_Fa_blocksOf_at_Grtail_Grhead_Grnear_Fablock_9, List.forall_mem_cons.mpr ⟨oo_Fa_blocksOf_at_Grtail_Grhead_Grnear_Fablock_10, List.forall_mem_nil _⟩⟩⟩⟩⟩⟩⟩⟩⟩⟩⟩) (by decide +kernel) ⟨List.forall_mem_nil _, List.forall_mem_nil _, List.forall_mem_cons.mpr ⟨cl_static (y := y_Fa_spread_at_Grnear) h_Fa_spread_at_Grnear wm_821 wm_7 wm_819 wm_820 ⟨by decide, by decide, by decide +kernel⟩ (by decide), List.forall_mem_cons.mpr ⟨cl_static (y := y_Fa_uniteAt_at_Grtail_Grhead_Fablock) h_Fa_uniteAt_at_Grtail_Grhead_Fablock wm_833 wm_7 wm_831 wm_832 ⟨by decide, by decide, by decide +kernel⟩ (by decide), List.forall_mem_nil _⟩⟩, List.forall_mem_nil _, List.forall_mem_nil _, GG_pl⟩ (by decide +kernel)

set_option maxHeartbeats 4000000 in
theorem vc_Fa_blocksOf_at_Netail_Nehead_Nenear_Emblock_0_0 (x6 : Int) (a5_0 : Int → Int) (k6 : 0 ≤ x6 ∧ x6 ≤ 0) : BL0 (a5_0) (x6) := by
  first
    | exact bl0_start (by omega)
def o_Fa_blocksOf_at_Netail_Nehead_Nenear_Emblock_0 : or_T := (3, 7, [(6, (0, 0, 0, []))], [], [], [], [(20, [5, 6], [61, 1, 565]), (24, [0, 0], []), (24, [1, 1], []), (24, [2, 2], []), (24, [3, 3], []), (24, [4, 4], []), (24, [5, 5], [])], [], [])
theorem oo_Fa_blocksOf_at_Netail_Nehead_Nenear_Emblock_0 {kA : Nat → ClassId} : or_ok PRD kA GG o_Fa_blocksOf_at_Netail_Nehead_Nenear_Emblock_0 := by
  refine or_mk fun A ta ws vs hD hth hl => ?_
  intro t6 k6
  have nf0 : fc_1 PRD (20, [5, 6], [61, 1, 565]) ws (vs) := ⟨nf_in hl rfl, sgq_1600 (vc_Fa_blocksOf_at_Netail_Nehead_Nenear_Emblock_0_0 (v_iv (n_v vs 6)) (w_ei ws (v_ad (n_v vs 5))) k6)⟩
  have nf1 : fc_1 PRD (24, [0, 0], []) ws (vs) := by
    refine ⟨nf_in hl rfl, sgq_1 ?_⟩
    · show n_v vs 0 = n_v vs 0
      first | rfl | simp only [true_and]
  have nf2 : fc_1 PRD (24, [1, 1], []) ws (vs) := by
    refine ⟨nf_in hl rfl, sgq_1 ?_⟩
    · show n_v vs 1 = n_v vs 1
      first | rfl | simp only [true_and]
  have nf3 : fc_1 PRD (24, [2, 2], []) ws (vs) := by
    refine ⟨nf_in hl rfl, sgq_1 ?_⟩
    · show n_v vs 2 = n_v vs 2
      first | rfl | simp only [true_and]
  have nf4 : fc_1 PRD (24, [3, 3], []) ws (vs) := by
    refine ⟨nf_in hl rfl, sgq_1 ?_⟩
    · show n_v vs 3 = n_v vs 3
      first | rfl | simp only [true_and]
  have nf5 : fc_1 PRD (24, [4, 4], []) ws (vs) := by
    refine ⟨nf_in hl rfl, sgq_1 ?_⟩
    · show n_v vs 4 = n_v vs 4
      first | rfl | simp only [true_and]
  have nf6 : fc_1 PRD (24, [5, 5], []) ws (vs) := by
    refine ⟨nf_in hl rfl, sgq_1 ?_⟩
    · show n_v vs 5 = n_v vs 5
      first | rfl | simp only [true_and]
  refine ⟨(fun _ h => (by cases h)), [], trivial, ?_, (fun _ h => (by cases h))⟩
  rw [List.append_nil]
  exact List.forall_mem_cons.mpr ⟨⟨show (20 : Nat) < 100 from by decide, nf0⟩, List.forall_mem_cons.mpr ⟨⟨show (24 : Nat) < 100 from by decide, nf1⟩, List.forall_mem_cons.mpr ⟨⟨show (24 : Nat) < 100 from by decide, nf2⟩, List.forall_mem_cons.mpr ⟨⟨show (24 : Nat) < 100 from by decide, nf3⟩, List.forall_mem_cons.mpr ⟨⟨show (24 : Nat) < 100 from by decide, nf4⟩, List.forall_mem_cons.mpr ⟨⟨show (24 : Nat) < 100 from by decide, nf5⟩, List.forall_mem_cons.mpr ⟨⟨show (24 : Nat) < 100 from by decide, nf6⟩, (fun _ h => (by cases h))⟩⟩⟩⟩⟩⟩⟩
set_option maxHeartbeats 4000000 in
theorem vc_Fa_blocksOf_at_Netail_Nehead_Nenear_Emblock_1_0 (x1 : Int) (x12 : Int) (a5_0 : Int → Int) (k1 : 0 ≤ x1 ∧ x1 ≤ 72) (k12 : 0 ≤ x12 ∧ x12 ≤ 72) (f2 : x1 ≤ x12) (f3 : BL0 (a5_0) (x12)) : BLQ (a5_0) (x1) := by
  first
    | exact blq_start ‹BL0 _ _› (by omega)
set_option maxHeartbeats 4000000 in
theorem vc_Fa_blocksOf_at_Netail_Nehead_Nenear_Emblock_1_1 (x1 : Int) (x12 : Int) (a5_0 : Int → Int) (a2_0 : Int → Int) (a3_0 : Int → Int) (k1 : 0 ≤ x1 ∧ x1 ≤ 72) (k12 : 0 ≤ x12 ∧ x12 ≤ 72) (f2 : x1 ≤ x12) (f3 : BL0 (a5_0) (x12)) : BLZ (a5_0) (a2_0) (a3_0) (x1) := by
  first
    | exact blz_start ‹BL0 _ _› (by omega)
set_option maxHeartbeats 4000000 in
theorem vc_Fa_blocksOf_at_Netail_Nehead_Nenear_Emblock_1_2 (x0 : Int) (x1 : Int) (x12 : Int) (a5_0 : Int → Int) (a2_0 : Int → Int) (a3_0 : Int → Int) (a4_0 : Int → Int) (k0 : 0 ≤ x0 ∧ x0 ≤ 24) (k1 : 0 ≤ x1 ∧ x1 ≤ 72) (k12 : 0 ≤ x12 ∧ x12 ≤ 72) (f2 : x1 ≤ x12) (f3 : BL0 (a5_0) (x12)) : BCU (a5_0) (a2_0) (a3_0) (a4_0) (x0) (x1) := by
  first
    | exact bcu_start ‹BL0 _ _› (by omega)
def o_Fa_blocksOf_at_Netail_Nehead_Nenear_Emblock_1 : or_T := (32, 18, [(0, (0, 0, 24, [])), (1, (0, 0, 72, [])), (12, (0, 0, 72, []))], [(7, [12, 7], [3]), (20, [11, 12], [61, 1, 565]), (24, [0, 6], []), (24, [1, 7], []), (24, [2, 8], []), (24, [3, 9], []), (24, [4, 10], []), (24, [5, 11], [])], [], [], [(20, [11, 7], [61, 1, 566]), (20, [11, 8, 9, 7], [61, 3, 580]), (20, [11, 8, 9, 10, 6, 7], [61, 4, 587])], [], [])
theorem oo_Fa_blocksOf_at_Netail_Nehead_Nenear_Emblock_1 {kA : Nat → ClassId} : or_ok PRD kA GG o_Fa_blocksOf_at_Netail_Nehead_Nenear_Emblock_1 := by
  refine or_mk fun A ta ws vs hD hth hl => ?_
  intro t0 k0 t1 k1 t12 k12 f2 f3 f4 f5 f6 f7 f8 f9
  replace f2 := shm_2 f2
  replace f3 := shm_1600 f3
  replace f4 := shm_5 f4
  replace f5 := shm_5 f5
  replace f6 := shm_5 f6
  replace f7 := shm_5 f7
  replace f8 := shm_5 f8
  replace f9 := shm_5 f9
  have q6 : n_v vs 6 = n_v vs 0 := f4.symm
  have q7 : n_v vs 7 = n_v vs 1 := f5.symm
  have q8 : n_v vs 8 = n_v vs 2 := f6.symm
  have q9 : n_v vs 9 = n_v vs 3 := f7.symm
  have q10 : n_v vs 10 = n_v vs 4 := f8.symm
  have q11 : n_v vs 11 = n_v vs 5 := f9.symm
  simp only [q7, q11] at f2 f3
  have nf0 : fc_1 PRD (20, [11, 7], [61, 1, 566]) ws (vs) := by
    refine ⟨nf_in hl rfl, sgq_365 ?_⟩
    · show BLQ (w_ei ws (v_ad (n_v vs 11))) (v_iv (n_v vs 7))
      simp only [q7, q11]
      exact vc_Fa_blocksOf_at_Netail_Nehead_Nenear_Emblock_1_0 (v_iv (n_v vs 1)) (v_iv (n_v vs 12)) (w_ei ws (v_ad (n_v vs 5))) k1 k12 f2 f3
  have nf1 : fc_1 PRD (20, [11, 8, 9, 7], [61, 3, 580]) ws (vs) := by
    refine ⟨nf_in hl rfl, sgq_1190 ?_⟩
    · show BLZ (w_ei ws (v_ad (n_v vs 11))) (w_ei ws (v_ad (n_v vs 8))) (w_ei ws (v_ad (n_v vs 9))) (v_iv (n_v vs 7))
      simp only [q7, q8, q9, q11]
      exact vc_Fa_blocksOf_at_Netail_Nehead_Nenear_Emblock_1_1 (v_iv (n_v vs 1)) (v_iv (n_v vs 12)) (w_ei ws (v_ad (n_v vs 5))) (w_ei ws (v_ad (n_v vs 2))) (w_ei ws (v_ad (n_v vs 3))) k1 k12 f2 f3
  have nf2 : fc_1 PRD (20, [11, 8, 9, 10, 6, 7], [61, 4, 587]) ws (vs) := by
    refine ⟨nf_in hl rfl, sgq_1191 ?_⟩
    · show BCU (w_ei ws (v_ad (n_v vs 11))) (w_ei ws (v_ad (n_v vs 8))) (w_ei ws (v_ad (n_v vs 9))) (w_ei ws (v_ad (n_v vs 10))) (v_iv (n_v vs 6)) (v_iv (n_v vs 7))
      simp only [q6, q7, q8, q9, q10, q11]
      exact vc_Fa_blocksOf_at_Netail_Nehead_Nenear_Emblock_1_2 (v_iv (n_v vs 0)) (v_iv (n_v vs 1)) (v_iv (n_v vs 12)) (w_ei ws (v_ad (n_v vs 5))) (w_ei ws (v_ad (n_v vs 2))) (w_ei ws (v_ad (n_v vs 3))) (w_ei ws (v_ad (n_v vs 4))) k0 k1 k12 f2 f3
  refine ⟨(fun _ h => (by cases h)), [], trivial, ?_, (fun _ h => (by cases h))⟩
  rw [List.append_nil]
  exact List.forall_mem_cons.mpr ⟨⟨show (20 : Nat) < 100 from by decide, nf0⟩, List.forall_mem_cons.mpr ⟨⟨show (20 : Nat) < 100 from by decide, nf1⟩, List.forall_mem_cons.mpr ⟨⟨show (20 : Nat) < 100 from by decide, nf2⟩, (fun _ h => (by cases h))⟩⟩⟩
set_option maxHeartbeats 4000000 in
theorem vc_Fa_blocksOf_at_Netail_Nehead_Nenear_Emblock_2_0 (x12 : Int) (x13 : Int) (a5_1 : Int → Int) (a5_0 : Int → Int) (k12 : 0 ≤ x12 ∧ x12 ≤ 71) (k13 : 1 ≤ x13 ∧ x13 ≤ 72) (f0 : x13 = x12 + 1) (f9 : BL0 (a5_1) (x12)) (hE_5_999_1 : ∀ j : Int, 0 ≤ j → (j = x12 → a5_0 j = x12) ∧ (j ≠ x12 → a5_0 j = a5_1 j)) : BL0 (a5_0) (x13) := by
  first
    | exact bl0_step ‹BL0 _ _› (by assumption) (by omega) (by omega) (by omega)
def o_Fa_blocksOf_at_Netail_Nehead_Nenear_Emblock_2 : or_T := (3, 14, [(5, (2, 0, 0, [26])), (12, (0, 0, 71, [])), (13, (0, 1, 72, []))], [(6, [13, 12], [1]), (24, [5, 11], []), (100, [11, 12, 12], []), (20, [11, 12], [61, 1, 565])], [], [], [(20, [11, 13], [61, 1, 565])], [], [(13, 12, 1, 1), (12, 7, -4294967296, -1), (12, 1, -4294967296, 0), (12, 7, -4294967296, 0)])
theorem oo_Fa_blocksOf_at_Netail_Nehead_Nenear_Emblock_2 {kA : Nat → ClassId} : or_ok PRD kA GG o_Fa_blocksOf_at_Netail_Nehead_Nenear_Emblock_2 := by
  refine or_mk fun A ta ws vs hD hth hl => ?_
  intro t5 r5 t12 k12 t13 k13 d0 d4 d9 d10 f0 f6 ta1 w1 le1 s1 f9
  replace f0 := shm_4 f0
  replace f6 := shm_5 f6
  have s1 : (∀ b j, w_el ws b j = if b = v_ad (n_v vs 11) ∧ j = (v_iv (n_v vs 12)).toNat then v_iv (n_v vs 12) else w_el w1 b j) ∧ ∀ b k, w_fd ws b k = w_fd w1 b k := s1.2
  replace f9 := shm_1600 f9
  have q11 : n_v vs 11 = n_v vs 5 := f6.symm
  rw [q11] at s1
  simp only [q11] at f9
  have ad_5 : v_ad (n_v vs 5) = v_ad (n_v vs 5) := rfl
  have hE_5_999_1 : ∀ j : Int, 0 ≤ j → (j = v_iv (n_v vs 12) → w_ei ws (v_ad (n_v vs 5)) j = v_iv (n_v vs 12)) ∧ (j ≠ v_iv (n_v vs 12) → w_ei ws (v_ad (n_v vs 5)) j = w_ei w1 (v_ad (n_v vs 5)) j) := fun j hj => ⟨fun h => by unfold w_ei; rw [s1.1, if_pos ⟨ad_5.symm, by rw [h]⟩], fun h => by unfold w_ei; rw [s1.1, if_neg (fun e => h (by have := e.2; omega))]⟩
  have nf0 : fc_1 PRD (20, [11, 13], [61, 1, 565]) ws (vs) := by
    refine ⟨nf_in hl rfl, sgq_1600 ?_⟩
    · show BL0 (w_ei ws (v_ad (n_v vs 11))) (v_iv (n_v vs 13))
      rw [q11]
      exact vc_Fa_blocksOf_at_Netail_Nehead_Nenear_Emblock_2_0 (v_iv (n_v vs 12)) (v_iv (n_v vs 13)) (w_ei w1 (v_ad (n_v vs 5))) (w_ei ws (v_ad (n_v vs 5))) k12 k13 f0 f9 hE_5_999_1
  refine ⟨(fun _ h => (by cases h)), [], trivial, ?_, (fun _ h => (by cases h))⟩
  rw [List.append_nil]
  exact List.forall_mem_cons.mpr ⟨⟨show (20 : Nat) < 100 from by decide, nf0⟩, (fun _ h => (by cases h))⟩
set_option maxHeartbeats 4000000 in
theorem vc_Fa_blocksOf_at_Netail_Nehead_Nenear_Emblock_3_0 (x1 : Int) (x14 : Int) (x15 : Int) (a5_0 : Int → Int) (k1 : 0 ≤ x1 ∧ x1 ≤ 72) (k14 : 0 ≤ x14 ∧ x14 ≤ 0) (k15 : 0 ≤ x15 ∧ x15 ≤ 0) (f1 : BLQ (a5_0) (x1)) : LBI (a5_0) (x1) (x15) (x14) := by
  first
    | exact lbi_start ‹BLQ _ _› (by omega) (by omega)
set_option maxHeartbeats 4000000 in
theorem vc_Fa_blocksOf_at_Netail_Nehead_Nenear_Emblock_3_1 (x1 : Int) (x14 : Int) (x15 : Int) (a5_0 : Int → Int) (a2_0 : Int → Int) (a3_0 : Int → Int) (k1 : 0 ≤ x1 ∧ x1 ≤ 72) (k14 : 0 ≤ x14 ∧ x14 ≤ 0) (k15 : 0 ≤ x15 ∧ x15 ≤ 0) (f2 : BLZ (a5_0) (a2_0) (a3_0) (x1)) : LBJ (a5_0) (a2_0) (a3_0) (x1) (x15) (x14) := by
  first
    | exact lbj_start ‹BLZ _ _ _ _› (by omega)
set_option maxHeartbeats 4000000 in
theorem vc_Fa_blocksOf_at_Netail_Nehead_Nenear_Emblock_3_2 (x0 : Int) (x1 : Int) (x14 : Int) (x15 : Int) (a5_0 : Int → Int) (a2_0 : Int → Int) (a3_0 : Int → Int) (a4_0 : Int → Int) (k0 : 0 ≤ x0 ∧ x0 ≤ 24) (k1 : 0 ≤ x1 ∧ x1 ≤ 72) (k14 : 0 ≤ x14 ∧ x14 ≤ 0) (k15 : 0 ≤ x15 ∧ x15 ≤ 0) (f2 : BLZ (a5_0) (a2_0) (a3_0) (x1)) (f3 : BCU (a5_0) (a2_0) (a3_0) (a4_0) (x0) (x1)) : LKJ (a5_0) (a2_0) (a3_0) (a4_0) (x0) (x1) (x15) (x14) := by
  first
    | exact lkj_start ‹BLZ _ _ _ _› ‹BCU _ _ _ _ _ _› (by omega)
set_option maxHeartbeats 4000000 in
theorem vc_Fa_blocksOf_at_Netail_Nehead_Nenear_Emblock_3_3 (x1 : Int) (x7 : Int) (x14 : Int) (x15 : Int) (k1 : 0 ≤ x1 ∧ x1 ≤ 72) (k7 : 0 ≤ x7 ∧ x7 ≤ 72) (k15 : 0 ≤ x15 ∧ x15 ≤ 0) (d2 : x7 + (-4294967296) ≤ x1 ∧ x1 ≤ x7 + 0) (d4 : x1 + (-4294967296) ≤ x7 ∧ x7 ≤ x1 + 0) : x15 ≤ x1 := by
  first
    | omega
    | (have q3 := (‹LBI _ _ _ _›).2.2.1; omega)
    | (have q := (‹LBI _ _ _ _›).2.2.2.2.1 x14 (by omega) (by omega); omega)
    | (have q := (‹LBI _ _ _ _›).2.2.2.2.1 x14 (by omega) (by omega); have q2 := (‹LBI _ _ _ _›).2.2.2.1 x16 (by omega) (by omega); have q3 := (‹LBI _ _ _ _›).2.2.1; omega)
def o_Fa_blocksOf_at_Netail_Nehead_Nenear_Emblock_3 : or_T := (124, 16, [(0, (0, 0, 24, [])), (1, (0, 0, 72, [])), (7, (0, 0, 72, [])), (14, (0, 0, 0, [])), (15, (0, 0, 0, []))], [(20, [11, 7], [61, 1, 566]), (20, [11, 8, 9, 7], [61, 3, 580]), (20, [11, 8, 9, 10, 6, 7], [61, 4, 587]), (24, [0, 6], []), (24, [1, 7], []), (24, [2, 8], []), (24, [3, 9], []), (24, [4, 10], []), (24, [5, 11], [])], [], [], [(20, [11, 7, 15, 14], [61, 1, 567]), (20, [11, 8, 9, 7, 15, 14], [61, 3, 585]), (20, [11, 8, 9, 10, 6, 7, 15, 14], [61, 4, 593]), (20, [15, 7], [50, 0, 0, 0, 2, 1, 0, 1, 1])], [], [(1, 7, -4294967296, 0), (7, 1, -4294967296, 0)])
theorem oo_Fa_blocksOf_at_Netail_Nehead_Nenear_Emblock_3 {kA : Nat → ClassId} : or_ok PRD kA GG o_Fa_blocksOf_at_Netail_Nehead_Nenear_Emblock_3 := by
  refine or_mk fun A ta ws vs hD hth hl => ?_
  intro t0 k0 t1 k1 t7 k7 t14 k14 t15 k15 d2 d4 f1 f2 f3 f4 f5 f6 f7 f8 f9
  replace f1 := shm_365 f1
  replace f2 := shm_1190 f2
  replace f3 := shm_1191 f3
  replace f4 := shm_5 f4
  replace f5 := shm_5 f5
  replace f6 := shm_5 f6
  replace f7 := shm_5 f7
  replace f8 := shm_5 f8
  replace f9 := shm_5 f9
  have q6 : n_v vs 6 = n_v vs 0 := f4.symm
  have q7 : n_v vs 7 = n_v vs 1 := f5.symm
  have q8 : n_v vs 8 = n_v vs 2 := f6.symm
  have q9 : n_v vs 9 = n_v vs 3 := f7.symm
  have q10 : n_v vs 10 = n_v vs 4 := f8.symm
  have q11 : n_v vs 11 = n_v vs 5 := f9.symm
  simp only [q6, q7, q11, q8, q9, q10] at f1 f2 f3
  have nf0 : fc_1 PRD (20, [11, 7, 15, 14], [61, 1, 567]) ws (vs) := by
    refine ⟨nf_in hl rfl, sgq_1601 ?_⟩
    · show LBI (w_ei ws (v_ad (n_v vs 11))) (v_iv (n_v vs 7)) (v_iv (n_v vs 15)) (v_iv (n_v vs 14))
      simp only [q7, q11]
      exact vc_Fa_blocksOf_at_Netail_Nehead_Nenear_Emblock_3_0 (v_iv (n_v vs 1)) (v_iv (n_v vs 14)) (v_iv (n_v vs 15)) (w_ei ws (v_ad (n_v vs 5))) k1 k14 k15 f1
  have nf1 : fc_1 PRD (20, [11, 8, 9, 7, 15, 14], [61, 3, 585]) ws (vs) := by
    refine ⟨nf_in hl rfl, sgq_1602 ?_⟩
    · show LBJ (w_ei ws (v_ad (n_v vs 11))) (w_ei ws (v_ad (n_v vs 8))) (w_ei ws (v_ad (n_v vs 9))) (v_iv (n_v vs 7)) (v_iv (n_v vs 15)) (v_iv (n_v vs 14))
      simp only [q7, q8, q9, q11]
      exact vc_Fa_blocksOf_at_Netail_Nehead_Nenear_Emblock_3_1 (v_iv (n_v vs 1)) (v_iv (n_v vs 14)) (v_iv (n_v vs 15)) (w_ei ws (v_ad (n_v vs 5))) (w_ei ws (v_ad (n_v vs 2))) (w_ei ws (v_ad (n_v vs 3))) k1 k14 k15 f2
  have nf2 : fc_1 PRD (20, [11, 8, 9, 10, 6, 7, 15, 14], [61, 4, 593]) ws (vs) := by
    refine ⟨nf_in hl rfl, sgq_1603 ?_⟩
    · show LKJ (w_ei ws (v_ad (n_v vs 11))) (w_ei ws (v_ad (n_v vs 8))) (w_ei ws (v_ad (n_v vs 9))) (w_ei ws (v_ad (n_v vs 10))) (v_iv (n_v vs 6)) (v_iv (n_v vs 7)) (v_iv (n_v vs 15)) (v_iv (n_v vs 14))
      simp only [q6, q7, q8, q9, q10, q11]
      exact vc_Fa_blocksOf_at_Netail_Nehead_Nenear_Emblock_3_2 (v_iv (n_v vs 0)) (v_iv (n_v vs 1)) (v_iv (n_v vs 14)) (v_iv (n_v vs 15)) (w_ei ws (v_ad (n_v vs 5))) (w_ei ws (v_ad (n_v vs 2))) (w_ei ws (v_ad (n_v vs 3))) (w_ei ws (v_ad (n_v vs 4))) k0 k1 k14 k15 f2 f3
  have nf3 : fc_1 PRD (20, [15, 7], [50, 0, 0, 0, 2, 1, 0, 1, 1]) ws (vs) := by
    refine ⟨nf_in hl rfl, sgq_360 ?_⟩
    · show v_iv (n_v vs 15) ≤ v_iv (n_v vs 7)
      rw [q7]
      exact vc_Fa_blocksOf_at_Netail_Nehead_Nenear_Emblock_3_3 (v_iv (n_v vs 1)) (v_iv (n_v vs 7)) (v_iv (n_v vs 14)) (v_iv (n_v vs 15)) k1 k7 k15 d2 d4
  refine ⟨(fun _ h => (by cases h)), [], trivial, ?_, (fun _ h => (by cases h))⟩
  rw [List.append_nil]
  exact List.forall_mem_cons.mpr ⟨⟨show (20 : Nat) < 100 from by decide, nf0⟩, List.forall_mem_cons.mpr ⟨⟨show (20 : Nat) < 100 from by decide, nf1⟩, List.forall_mem_cons.mpr ⟨⟨show (20 : Nat) < 100 from by decide, nf2⟩, List.forall_mem_cons.mpr ⟨⟨show (20 : Nat) < 100 from by decide, nf3⟩, (fun _ h => (by cases h))⟩⟩⟩⟩
set_option maxHeartbeats 4000000 in
theorem vc_Fa_blocksOf_at_Netail_Nehead_Nenear_Emblock_4_1 (x0 : Int) (x6 : Int) (x14 : Int) (x16 : Int) (gy : Int) (k0 : 1 ≤ x0 ∧ x0 ≤ 24) (k6 : 1 ≤ x6 ∧ x6 ≤ 24) (d1 : x6 + (-4294967296) ≤ x0 ∧ x0 ≤ x6 + 0) (d3 : x0 + (-4294967296) ≤ x6 ∧ x6 ≤ x0 + 0) (ey2 : gy = x0) : 1 * gy + ((-1) * x0 + 0) ≤ 0 := by
  first
    | omega
    | (have q3 := (‹LBI _ _ _ _›).2.2.1; omega)
    | (have q := (‹LBI _ _ _ _›).2.2.2.2.1 x14 (by omega) (by omega); omega)
    | (have q := (‹LBI _ _ _ _›).2.2.2.2.1 x14 (by omega) (by omega); have q2 := (‹LBI _ _ _ _›).2.2.2.1 x16 (by omega) (by omega); have q3 := (‹LBI _ _ _ _›).2.2.1; omega)
set_option maxHeartbeats 4000000 in
theorem vc_Fa_blocksOf_at_Netail_Nehead_Nenear_Emblock_4_2 (x0 : Int) (x6 : Int) (x14 : Int) (x16 : Int) (gy : Int) (k0 : 1 ≤ x0 ∧ x0 ≤ 24) (k6 : 1 ≤ x6 ∧ x6 ≤ 24) (d1 : x6 + (-4294967296) ≤ x0 ∧ x0 ≤ x6 + 0) (d3 : x0 + (-4294967296) ≤ x6 ∧ x6 ≤ x0 + 0) (ey2 : gy = x0) : (-1) * gy + (1 * x0 + 0) ≤ 0 := by
  first
    | omega
    | (have q3 := (‹LBI _ _ _ _›).2.2.1; omega)
    | (have q := (‹LBI _ _ _ _›).2.2.2.2.1 x14 (by omega) (by omega); omega)
    | (have q := (‹LBI _ _ _ _›).2.2.2.2.1 x14 (by omega) (by omega); have q2 := (‹LBI _ _ _ _›).2.2.2.1 x16 (by omega) (by omega); have q3 := (‹LBI _ _ _ _›).2.2.1; omega)
set_option maxHeartbeats 4000000 in
theorem vc_Fa_blocksOf_at_Netail_Nehead_Nenear_Emblock_4_3 (x1 : Int) (a5_0 : Int → Int) (k1 : 0 ≤ x1 ∧ x1 ≤ 72) (f12 : BLQ (a5_0) (x1)) : BLQ (a5_0) (x1) := by
  first
    | assumption
set_option maxHeartbeats 4000000 in
theorem vc_Fa_blocksOf_at_Netail_Nehead_Nenear_Emblock_4_4 (x1 : Int) (a5_0 : Int → Int) (a2_0 : Int → Int) (a3_0 : Int → Int) (k1 : 0 ≤ x1 ∧ x1 ≤ 72) (f13 : BLZ (a5_0) (a2_0) (a3_0) (x1)) : BLZ (a5_0) (a2_0) (a3_0) (x1) := by
  first
    | assumption
set_option maxHeartbeats 4000000 in
theorem vc_Fa_blocksOf_at_Netail_Nehead_Nenear_Emblock_4_5 (x0 : Int) (x1 : Int) (a4_0 : Int → Int) (a5_0 : Int → Int) (a2_0 : Int → Int) (a3_0 : Int → Int) (gy : Int) (k0 : 1 ≤ x0 ∧ x0 ≤ 24) (k1 : 0 ≤ x1 ∧ x1 ≤ 72) (f14 : BCU (a5_0) (a2_0) (a3_0) (a4_0) (x0) (x1)) (ey2 : gy = x0) : BCU (a5_0) (a2_0) (a3_0) (a4_0) (gy) (x1) := by
  first
    | assumption
    | (rw [show gy = x0 by omega]; assumption)
    | (rw [show x0 = x31 by omega]; assumption)
set_option maxHeartbeats 4000000 in
theorem vc_Fa_blocksOf_at_Netail_Nehead_Nenear_Emblock_4_6 (x0 : Int) (x1 : Int) (x12 : Int) (x13 : Int) (x15 : Int) (x19 : Int) (x20 : Int) (x21 : Int) (x22 : Int) (x23 : Int) (x24 : Int) (x25 : Int) (x26 : Int) (a4_0 : Int → Int) (a2_0 : Int → Int) (a3_0 : Int → Int) (gy : Int) (k0 : 1 ≤ x0 ∧ x0 ≤ 24) (k1 : 0 ≤ x1 ∧ x1 ≤ 72) (k12 : 0 ≤ x12 ∧ x12 ≤ 16777215) (k13 : 0 ≤ x13 ∧ x13 ≤ 23) (k15 : 0 ≤ x15 ∧ x15 ≤ 23) (k19 : 1 ≤ x19 ∧ x19 ≤ 1) (k20 : 1 ≤ x20 ∧ x20 ≤ 8388608) (k21 : 1 ≤ x21 ∧ x21 ≤ 1) (k22 : 1 ≤ x22 ∧ x22 ≤ 8388608) (k23 : (-1) ≤ x23 ∧ x23 ≤ (-1)) (k24 : (-2147483648) ≤ x24 ∧ x24 ≤ 2147483647) (k25 : 0 ≤ x25 ∧ x25 ≤ 16777215) (k26 : 0 ≤ x26 ∧ x26 ≤ 16777215) (f2 : SPZ (a4_0) (x0) (x20) (x25) (x26)) (f3 : bvp (x25) = bvp (x12) &&& bvp (x24)) (f4 : bvp (x24) = bvp (x22) ^^^ bvp (x23)) (f5 : bvp (x22) = bvp (x21) <<< (x13).toNat) (f6 : bvp (x20) = bvp (x19) <<< (x15).toNat) (ey2 : gy = x0) : USD (a2_0) (a3_0) (a4_0) (gy) (x1) (x13) (x26) := by
  first
    | (rw [show gy = x0 by omega]
       exact usd_of (q := x20) (al := x25) (w := x15) ‹SPZ _ _ _ _ _› (by rw [show (1 : Int) = x19 by omega]; assumption) (by omega) (by omega) (fun x a b z e => ((bit_xor (by assumption : bvp x24 = _) (by omega) a b).mp ((bit_and (by assumption : bvp x25 = _) x).mp z).2) ((bit_shl (by assumption : bvp x22 = _) (by omega) (by omega) a b).mpr e)))
  
set_option maxHeartbeats 4000000 in
theorem vc_Fa_blocksOf_at_Netail_Nehead_Nenear_Emblock_4_7 (x0 : Int) (x14 : Int) (x16 : Int) (gy : Int) (k0 : 1 ≤ x0 ∧ x0 ≤ 24) (ey2 : gy = x0) : gy = x0 := by
  first
    | omega
    | (have q3 := (‹LBI _ _ _ _›).2.2.1; omega)
    | (have q := (‹LBI _ _ _ _›).2.2.2.2.1 x14 (by omega) (by omega); omega)
    | (have q := (‹LBI _ _ _ _›).2.2.2.2.1 x14 (by omega) (by omega); have q2 := (‹LBI _ _ _ _›).2.2.2.1 x16 (by omega) (by omega); have q3 := (‹LBI _ _ _ _›).2.2.1; omega)
def o_Fa_blocksOf_at_Netail_Nehead_Nenear_Emblock_4 : or_T := (103, 30, [(0, (0, 1, 24, [])), (1, (0, 0, 72, [])), (4, (2, 0, 0, [82])), (6, (0, 1, 24, [])), (12, (0, 0, 16777215, [])), (13, (0, 0, 23, [])), (15, (0, 0, 23, [])), (19, (0, 1, 1, [])), (20, (0, 1, 8388608, [])), (21, (0, 1, 1, [])), (22, (0, 1, 8388608, [])), (23, (0, -1, -1, [])), (24, (0, -2147483648, 2147483647, [])), (25, (0, 0, 16777215, [])), (26, (0, 0, 16777215, []))], [(20, [10, 6, 20, 25, 26], [61, 1, 579]), (16, [25, 12, 24], [0]), (16, [24, 22, 23], [2]), (16, [22, 21, 13], [3]), (16, [20, 19, 15], [3]), (20, [11, 7], [61, 1, 566]), (20, [11, 8, 9, 7], [61, 3, 580]), (20, [11, 8, 9, 10, 6, 7], [61, 4, 587]), (24, [0, 6], []), (24, [1, 7], []), (24, [2, 8], []), (24, [3, 9], []), (24, [4, 10], []), (24, [5, 11], [])], [], [(2, 0, 0, [82]), (0, 0, 25, [])], [(24, [4, 30], []), (23, [31, 6], [0, 1, -1]), (23, [31, 6], [0, -1, 1]), (20, [11, 7], [61, 1, 566]), (20, [11, 8, 9, 7], [61, 3, 580]), (20, [11, 8, 9, 30, 31, 7], [61, 4, 587]), (20, [8, 9, 30, 31, 7, 13, 26], [61, 3, 588]), (20, [31, 6], [50, 0, 0, 1, 2, 1, 0, 1, 1])], [], [(0, 6, -4294967296, 0), (6, 0, -4294967296, 0), (13, 0, -4294967296, -1), (15, 0, -4294967296, 0)])
theorem oo_Fa_blocksOf_at_Netail_Nehead_Nenear_Emblock_4 {kA : Nat → ClassId} : or_ok PRD kA GG o_Fa_blocksOf_at_Netail_Nehead_Nenear_Emblock_4 := by
  refine or_mk fun A ta ws vs hD hth hl => ?_
  intro t0 k0 t1 k1 t4 r4 t6 k6 t12 k12 t13 k13 t15 k15 t19 k19 t20 k20 t21 k21 t22 k22 t23 k23 t24 k24 t25 k25 t26 k26 d1 d3 d5 d7 f2 f3 f4 f5 f6 f12 f13 f14 f15 f16 f17 f18 f19 f20
  replace f2 := shm_822 f2
  replace f3 := shm_11 f3
  replace f4 := shm_33 f4
  replace f5 := shm_349 f5
  replace f6 := shm_349 f6
  replace f12 := shm_365 f12
  replace f13 := shm_1190 f13
  replace f14 := shm_1191 f14
  replace f15 := shm_5 f15
  replace f16 := shm_5 f16
  replace f17 := shm_5 f17
  replace f18 := shm_5 f18
  replace f19 := shm_5 f19
  replace f20 := shm_5 f20
  have q6 : n_v vs 6 = n_v vs 0 := f15.symm
  have q7 : n_v vs 7 = n_v vs 1 := f16.symm
  have q8 : n_v vs 8 = n_v vs 2 := f17.symm
  have q9 : n_v vs 9 = n_v vs 3 := f18.symm
  have q10 : n_v vs 10 = n_v vs 4 := f19.symm
  have q11 : n_v vs 11 = n_v vs 5 := f20.symm
  simp only [q6, q10, q7, q11, q8, q9] at f2 f12 f13 f14
  obtain ⟨y, ey, hy⟩ := iv_ex (ta := ta) (lo := 0) (hi := 25) (z := v_iv (n_v vs 0)) (by omega) (by omega) (by omega) (by omega)
  have ey2 : v_iv (Value.int y) = v_iv (n_v vs 0) := ey
  have ey3 : 0 ≤ v_iv (Value.int y) ∧ v_iv (Value.int y) ≤ 25 := tv_rng hy
  have e_4 : n_v (vs ++ [n_v vs 4, Value.int y]) 4 = n_v vs 4 := n_v_old (by rw [hl]; decide)
  have e_6 : n_v (vs ++ [n_v vs 4, Value.int y]) 6 = n_v vs 6 := n_v_old (by rw [hl]; decide)
  have e_7 : n_v (vs ++ [n_v vs 4, Value.int y]) 7 = n_v vs 7 := n_v_old (by rw [hl]; decide)
  have e_8 : n_v (vs ++ [n_v vs 4, Value.int y]) 8 = n_v vs 8 := n_v_old (by rw [hl]; decide)
  have e_9 : n_v (vs ++ [n_v vs 4, Value.int y]) 9 = n_v vs 9 := n_v_old (by rw [hl]; decide)
  have e_11 : n_v (vs ++ [n_v vs 4, Value.int y]) 11 = n_v vs 11 := n_v_old (by rw [hl]; decide)
  have e_13 : n_v (vs ++ [n_v vs 4, Value.int y]) 13 = n_v vs 13 := n_v_old (by rw [hl]; decide)
  have e_26 : n_v (vs ++ [n_v vs 4, Value.int y]) 26 = n_v vs 26 := n_v_old (by rw [hl]; decide)
  have e_30 : n_v (vs ++ [n_v vs 4, Value.int y]) 30 = n_v vs 4 := n_v_new0 hl
  have e_31 : n_v (vs ++ [n_v vs 4, Value.int y]) 31 = Value.int y := n_v_new1 hl
  have nf0 : fc_1 PRD (24, [4, 30], []) ws (vs ++ [n_v vs 4, Value.int y]) := by
    refine ⟨nf_inA hl rfl, sgq_5 ?_⟩
    · show n_v (vs ++ [n_v vs 4, Value.int y]) 4 = n_v (vs ++ [n_v vs 4, Value.int y]) 30
      first | rfl | simp only [e_4, e_30, q6, q7, q8, q9, q10, q11]
  have nf1 : fc_1 PRD (23, [31, 6], [0, 1, -1]) ws (vs ++ [n_v vs 4, Value.int y]) := by
    refine ⟨nf_inA hl rfl, sgq_7 ?_⟩
    · show 1 * v_iv (n_v (vs ++ [n_v vs 4, Value.int y]) 31) + ((-1) * v_iv (n_v (vs ++ [n_v vs 4, Value.int y]) 6) + 0) ≤ 0
      simp only [e_6, e_31, q6]
      exact vc_Fa_blocksOf_at_Netail_Nehead_Nenear_Emblock_4_1 (v_iv (n_v vs 0)) (v_iv (n_v vs 6)) (v_iv (n_v vs 14)) (v_iv (n_v vs 16)) (v_iv (Value.int y)) k0 k6 d1 d3 ey2
  have nf2 : fc_1 PRD (23, [31, 6], [0, -1, 1]) ws (vs ++ [n_v vs 4, Value.int y]) := by
    refine ⟨nf_inA hl rfl, sgq_22 ?_⟩
    · show (-1) * v_iv (n_v (vs ++ [n_v vs 4, Value.int y]) 31) + (1 * v_iv (n_v (vs ++ [n_v vs 4, Value.int y]) 6) + 0) ≤ 0
      simp only [e_6, e_31, q6]
      exact vc_Fa_blocksOf_at_Netail_Nehead_Nenear_Emblock_4_2 (v_iv (n_v vs 0)) (v_iv (n_v vs 6)) (v_iv (n_v vs 14)) (v_iv (n_v vs 16)) (v_iv (Value.int y)) k0 k6 d1 d3 ey2
  have nf3 : fc_1 PRD (20, [11, 7], [61, 1, 566]) ws (vs ++ [n_v vs 4, Value.int y]) := by
    refine ⟨nf_inA hl rfl, sgq_365 ?_⟩
    · show BLQ (w_ei ws (v_ad (n_v (vs ++ [n_v vs 4, Value.int y]) 11))) (v_iv (n_v (vs ++ [n_v vs 4, Value.int y]) 7))
      simp only [e_7, e_11, q7, q11]
      exact vc_Fa_blocksOf_at_Netail_Nehead_Nenear_Emblock_4_3 (v_iv (n_v vs 1)) (w_ei ws (v_ad (n_v vs 5))) k1 f12
  have nf4 : fc_1 PRD (20, [11, 8, 9, 7], [61, 3, 580]) ws (vs ++ [n_v vs 4, Value.int y]) := by
    refine ⟨nf_inA hl rfl, sgq_1190 ?_⟩
    · show BLZ (w_ei ws (v_ad (n_v (vs ++ [n_v vs 4, Value.int y]) 11))) (w_ei ws (v_ad (n_v (vs ++ [n_v vs 4, Value.int y]) 8))) (w_ei ws (v_ad (n_v (vs ++ [n_v vs 4, Value.int y]) 9))) (v_iv (n_v (vs ++ [n_v vs 4, Value.int y]) 7))
      simp only [e_7, e_8, e_9, e_11, q7, q8, q9, q11]
      exact vc_Fa_blocksOf_at_Netail_Nehead_Nenear_Emblock_4_4 (v_iv (n_v vs 1)) (w_ei ws (v_ad (n_v vs 5))) (w_ei ws (v_ad (n_v vs 2))) (w_ei ws (v_ad (n_v vs 3))) k1 f13
  have nf5 : fc_1 PRD (20, [11, 8, 9, 30, 31, 7], [61, 4, 587]) ws (vs ++ [n_v vs 4, Value.int y]) := by
    refine ⟨nf_inA hl rfl, sgq_1191 ?_⟩
    · show BCU (w_ei ws (v_ad (n_v (vs ++ [n_v vs 4, Value.int y]) 11))) (w_ei ws (v_ad (n_v (vs ++ [n_v vs 4, Value.int y]) 8))) (w_ei ws (v_ad (n_v (vs ++ [n_v vs 4, Value.int y]) 9))) (w_ei ws (v_ad (n_v (vs ++ [n_v vs 4, Value.int y]) 30))) (v_iv (n_v (vs ++ [n_v vs 4, Value.int y]) 31)) (v_iv (n_v (vs ++ [n_v vs 4, Value.int y]) 7))
      simp only [e_7, e_8, e_9, e_11, e_30, e_31, q7, q8, q9, q11]
      exact vc_Fa_blocksOf_at_Netail_Nehead_Nenear_Emblock_4_5 (v_iv (n_v vs 0)) (v_iv (n_v vs 1)) (w_ei ws (v_ad (n_v vs 4))) (w_ei ws (v_ad (n_v vs 5))) (w_ei ws (v_ad (n_v vs 2))) (w_ei ws (v_ad (n_v vs 3))) (v_iv (Value.int y)) k0 k1 f14 ey2
  have nf6 : fc_1 PRD (20, [8, 9, 30, 31, 7, 13, 26], [61, 3, 588]) ws (vs ++ [n_v vs 4, Value.int y]) := by
    refine ⟨nf_inA hl rfl, sgq_1192 ?_⟩
    · show USD (w_ei ws (v_ad (n_v (vs ++ [n_v vs 4, Value.int y]) 8))) (w_ei ws (v_ad (n_v (vs ++ [n_v vs 4, Value.int y]) 9))) (w_ei ws (v_ad (n_v (vs ++ [n_v vs 4, Value.int y]) 30))) (v_iv (n_v (vs ++ [n_v vs 4, Value.int y]) 31)) (v_iv (n_v (vs ++ [n_v vs 4, Value.int y]) 7)) (v_iv (n_v (vs ++ [n_v vs 4, Value.int y]) 13)) (v_iv (n_v (vs ++ [n_v vs 4, Value.int y]) 26))
      simp only [e_7, e_8, e_9, e_13, e_26, e_30, e_31, q7, q8, q9]
      exact vc_Fa_blocksOf_at_Netail_Nehead_Nenear_Emblock_4_6 (v_iv (n_v vs 0)) (v_iv (n_v vs 1)) (v_iv (n_v vs 12)) (v_iv (n_v vs 13)) (v_iv (n_v vs 15)) (v_iv (n_v vs 19)) (v_iv (n_v vs 20)) (v_iv (n_v vs 21)) (v_iv (n_v vs 22)) (v_iv (n_v vs 23)) (v_iv (n_v vs 24)) (v_iv (n_v vs 25)) (v_iv (n_v vs 26)) (w_ei ws (v_ad (n_v vs 4))) (w_ei ws (v_ad (n_v vs 2))) (w_ei ws (v_ad (n_v vs 3))) (v_iv (Value.int y)) k0 k1 k12 k13 k15 k19 k20 k21 k22 k23 k24 k25 k26 f2 f3 f4 f5 f6 ey2
  have nf7 : fc_1 PRD (20, [31, 6], [50, 0, 0, 1, 2, 1, 0, 1, 1]) ws (vs ++ [n_v vs 4, Value.int y]) := by
    refine ⟨nf_inA hl rfl, sgq_48 ?_⟩
    · show v_iv (n_v (vs ++ [n_v vs 4, Value.int y]) 31) = v_iv (n_v (vs ++ [n_v vs 4, Value.int y]) 6)
      simp only [e_6, e_31, q6]
      exact vc_Fa_blocksOf_at_Netail_Nehead_Nenear_Emblock_4_7 (v_iv (n_v vs 0)) (v_iv (n_v vs 14)) (v_iv (n_v vs 16)) (v_iv (Value.int y)) k0 ey2
  exact ⟨(fun _ h => (by cases h)), [n_v vs 4, Value.int y], ag_two t4 hy, List.forall_mem_cons.mpr ⟨⟨show (24 : Nat) < 100 from by decide, nf0⟩, List.forall_mem_cons.mpr ⟨⟨show (23 : Nat) < 100 from by decide, nf1⟩, List.forall_mem_cons.mpr ⟨⟨show (23 : Nat) < 100 from by decide, nf2⟩, List.forall_mem_cons.mpr ⟨⟨show (20 : Nat) < 100 from by decide, nf3⟩, List.forall_mem_cons.mpr ⟨⟨show (20 : Nat) < 100 from by decide, nf4⟩, List.forall_mem_cons.mpr ⟨⟨show (20 : Nat) < 100 from by decide, nf5⟩, List.forall_mem_cons.mpr ⟨⟨show (20 : Nat) < 100 from by decide, nf6⟩, List.forall_mem_cons.mpr ⟨⟨show (20 : Nat) < 100 from by decide, nf7⟩, (fun _ h => (by cases h))⟩⟩⟩⟩⟩⟩⟩⟩, (fun _ h => (by cases h))⟩
set_option maxHeartbeats 4000000 in
theorem vc_Fa_blocksOf_at_Netail_Nehead_Nenear_Emblock_5_0 (x0 : Int) (x1 : Int) (x6 : Int) (x31 : Int) (a2_0 : Int → Int) (a3_0 : Int → Int) (a4_0 : Int → Int) (a5_0 : Int → Int) (k0 : 1 ≤ x0 ∧ x0 ≤ 24) (k1 : 0 ≤ x1 ∧ x1 ≤ 72) (k6 : 1 ≤ x6 ∧ x6 ≤ 24) (k31 : 0 ≤ x31 ∧ x31 ≤ 25) (d5 : x6 + (-4294967296) ≤ x0 ∧ x0 ≤ x6 + 0) (d7 : x0 + (-4294967296) ≤ x6 ∧ x6 ≤ x0 + 0) (f2 : 1 * x31 + ((-1) * x0 + 0) ≤ 0) (f3 : (-1) * x31 + (1 * x0 + 0) ≤ 0) (f15 : BCU (a5_0) (a2_0) (a3_0) (a4_0) (x31) (x1)) : BCU (a5_0) (a2_0) (a3_0) (a4_0) (x0) (x1) := by
  first
    | assumption
    | (rw [show gy = x0 by omega]; assumption)
    | (rw [show x0 = x31 by omega]; assumption)
def o_Fa_blocksOf_at_Netail_Nehead_Nenear_Emblock_5 : or_T := (48, 33, [(0, (0, 1, 24, [])), (1, (0, 0, 72, [])), (6, (0, 1, 24, [])), (31, (0, 0, 25, []))], [(24, [4, 30], []), (23, [31, 6], [0, 1, -1]), (23, [31, 6], [0, -1, 1]), (24, [0, 6], []), (24, [1, 7], []), (24, [2, 8], []), (24, [3, 9], []), (24, [4, 10], []), (24, [5, 11], []), (20, [11, 8, 9, 30, 31, 7], [61, 4, 587])], [], [], [(20, [11, 8, 9, 10, 6, 7], [61, 4, 587])], [], [(0, 6, -4294967296, 0), (6, 0, -4294967296, 0)])
theorem oo_Fa_blocksOf_at_Netail_Nehead_Nenear_Emblock_5 {kA : Nat → ClassId} : or_ok PRD kA GG o_Fa_blocksOf_at_Netail_Nehead_Nenear_Emblock_5 := by
  refine or_mk fun A ta ws vs hD hth hl => ?_
  intro t0 k0 t1 k1 t6 k6 t31 k31 d5 d7 f1 f2 f3 f7 f8 f9 f10 f11 f12 f15
  replace f1 := shm_5 f1
  replace f2 := shm_7 f2
  replace f3 := shm_22 f3
  replace f7 := shm_5 f7
  replace f8 := shm_5 f8
  replace f9 := shm_5 f9
  replace f10 := shm_5 f10
  replace f11 := shm_5 f11
  replace f12 := shm_5 f12
  replace f15 := shm_1191 f15
  have q30 : n_v vs 30 = n_v vs 4 := f1.symm
  have q6 : n_v vs 6 = n_v vs 0 := f7.symm
  have q7 : n_v vs 7 = n_v vs 1 := f8.symm
  have q8 : n_v vs 8 = n_v vs 2 := f9.symm
  have q9 : n_v vs 9 = n_v vs 3 := f10.symm
  have q10 : n_v vs 10 = n_v vs 4 := f11.symm
  have q11 : n_v vs 11 = n_v vs 5 := f12.symm
  simp only [q6, q30, q7, q8, q9, q11] at f2 f3 f15
  have nf0 : fc_1 PRD (20, [11, 8, 9, 10, 6, 7], [61, 4, 587]) ws (vs) := by
    refine ⟨nf_in hl rfl, sgq_1191 ?_⟩
    · show BCU (w_ei ws (v_ad (n_v vs 11))) (w_ei ws (v_ad (n_v vs 8))) (w_ei ws (v_ad (n_v vs 9))) (w_ei ws (v_ad (n_v vs 10))) (v_iv (n_v vs 6)) (v_iv (n_v vs 7))
      simp only [q6, q7, q8, q9, q10, q11]
      exact vc_Fa_blocksOf_at_Netail_Nehead_Nenear_Emblock_5_0 (v_iv (n_v vs 0)) (v_iv (n_v vs 1)) (v_iv (n_v vs 6)) (v_iv (n_v vs 31)) (w_ei ws (v_ad (n_v vs 2))) (w_ei ws (v_ad (n_v vs 3))) (w_ei ws (v_ad (n_v vs 4))) (w_ei ws (v_ad (n_v vs 5))) k0 k1 k6 k31 d5 d7 f2 f3 f15
  refine ⟨(fun _ h => (by cases h)), [], trivial, ?_, (fun _ h => (by cases h))⟩
  rw [List.append_nil]
  exact List.forall_mem_cons.mpr ⟨⟨show (20 : Nat) < 100 from by decide, nf0⟩, (fun _ h => (by cases h))⟩
set_option maxHeartbeats 4000000 in
theorem vc_Fa_blocksOf_at_Netail_Nehead_Nenear_Emblock_6_0 (x1 : Int) (x7 : Int) (x13 : Int) (x14 : Int) (a5_0 : Int → Int) (k1 : 0 ≤ x1 ∧ x1 ≤ 72) (k7 : 0 ≤ x7 ∧ x7 ≤ 72) (k13 : 0 ≤ x13 ∧ x13 ≤ 72) (k14 : 0 ≤ x14 ∧ x14 ≤ 72) (d0 : x7 + 0 ≤ x14 ∧ x14 ≤ x7 + 4294967296) (d2 : x7 + (-4294967296) ≤ x1 ∧ x1 ≤ x7 + 0) (d4 : x1 + (-4294967296) ≤ x7 ∧ x7 ≤ x1 + 0) (d8 : x1 + (-4294967296) ≤ x14 ∧ x14 ≤ x1 + 0) (f0 : x1 ≤ x14) (f1 : LBI (a5_0) (x1) (x14) (x13)) (f4 : x14 ≤ x1) : LBL (a5_0) (x1) (x13) := by
  first
    | exact lbl_of ‹LBI _ _ _ _› (by omega) (by omega) (by omega) (by omega)
  
set_option maxHeartbeats 4000000 in
theorem vc_Fa_blocksOf_at_Netail_Nehead_Nenear_Emblock_6_1 (x1 : Int) (x13 : Int) (x14 : Int) (a5_0 : Int → Int) (a2_0 : Int → Int) (a3_0 : Int → Int) (k1 : 0 ≤ x1 ∧ x1 ≤ 72) (k13 : 0 ≤ x13 ∧ x13 ≤ 72) (k14 : 0 ≤ x14 ∧ x14 ≤ 72) (f0 : x1 ≤ x14) (f2 : LBJ (a5_0) (a2_0) (a3_0) (x1) (x14) (x13)) : CNL (a5_0) (a2_0) (a3_0) (x1) := by
  first
    | exact cnl_of ‹LBJ _ _ _ _ _ _› (by omega)
  
set_option maxHeartbeats 4000000 in
theorem vc_Fa_blocksOf_at_Netail_Nehead_Nenear_Emblock_6_2 (x0 : Int) (x1 : Int) (x13 : Int) (x14 : Int) (a5_0 : Int → Int) (a2_0 : Int → Int) (a3_0 : Int → Int) (a4_0 : Int → Int) (k0 : 0 ≤ x0 ∧ x0 ≤ 24) (k1 : 0 ≤ x1 ∧ x1 ≤ 72) (k13 : 0 ≤ x13 ∧ x13 ≤ 72) (k14 : 0 ≤ x14 ∧ x14 ≤ 72) (f0 : x1 ≤ x14) (f1 : LBI (a5_0) (x1) (x14) (x13)) (f3 : LKJ (a5_0) (a2_0) (a3_0) (a4_0) (x0) (x1) (x14) (x13)) (f4 : x14 ≤ x1) : BKL (a2_0) (a3_0) (a4_0) (x0) (x1) (x13) := by
  first
    | exact bkl_of ‹LKJ _ _ _ _ _ _ _ _› ‹LBI _ _ _ _› (by omega) (by omega)
  
def o_Fa_blocksOf_at_Netail_Nehead_Nenear_Emblock_6 : or_T := (174, 15, [(0, (0, 0, 24, [])), (1, (0, 0, 72, [])), (7, (0, 0, 72, [])), (13, (0, 0, 72, [])), (14, (0, 0, 72, []))], [(7, [14, 7], [3]), (20, [11, 7, 14, 13], [61, 1, 567]), (20, [11, 8, 9, 7, 14, 13], [61, 3, 585]), (20, [11, 8, 9, 10, 6, 7, 14, 13], [61, 4, 593]), (20, [14, 7], [50, 0, 0, 0, 2, 1, 0, 1, 1]), (24, [0, 6], []), (24, [1, 7], []), (24, [2, 8], []), (24, [3, 9], []), (24, [4, 10], []), (24, [5, 11], [])], [], [], [(20, [5, 1, 13], [61, 1, 568]), (20, [5, 2, 3, 1], [61, 3, 586]), (20, [2, 3, 4, 0, 1, 13], [61, 3, 594])], [], [(14, 7, 0, 4294967296), (1, 7, -4294967296, 0), (7, 1, -4294967296, 0), (14, 1, -4294967296, 0)])
theorem oo_Fa_blocksOf_at_Netail_Nehead_Nenear_Emblock_6 {kA : Nat → ClassId} : or_ok PRD kA GG o_Fa_blocksOf_at_Netail_Nehead_Nenear_Emblock_6 := by
  refine or_mk fun A ta ws vs hD hth hl => ?_
  intro t0 k0 t1 k1 t7 k7 t13 k13 t14 k14 d0 d2 d4 d8 f0 f1 f2 f3 f4 f5 f6 f7 f8 f9 f10
  replace f0 := shm_2 f0
  replace f1 := shm_1601 f1
  replace f2 := shm_1602 f2
  replace f3 := shm_1603 f3
  replace f4 := shm_360 f4
  replace f5 := shm_5 f5
  replace f6 := shm_5 f6
  replace f7 := shm_5 f7
  replace f8 := shm_5 f8
  replace f9 := shm_5 f9
  replace f10 := shm_5 f10
  have q6 : n_v vs 6 = n_v vs 0 := f5.symm
  have q7 : n_v vs 7 = n_v vs 1 := f6.symm
  have q8 : n_v vs 8 = n_v vs 2 := f7.symm
  have q9 : n_v vs 9 = n_v vs 3 := f8.symm
  have q10 : n_v vs 10 = n_v vs 4 := f9.symm
  have q11 : n_v vs 11 = n_v vs 5 := f10.symm
  simp only [q7, q11, q8, q9, q6, q10] at f0 f1 f2 f3 f4
  have nf0 : fc_1 PRD (20, [5, 1, 13], [61, 1, 568]) ws (vs) := ⟨nf_in hl rfl, sgq_1604 (vc_Fa_blocksOf_at_Netail_Nehead_Nenear_Emblock_6_0 (v_iv (n_v vs 1)) (v_iv (n_v vs 7)) (v_iv (n_v vs 13)) (v_iv (n_v vs 14)) (w_ei ws (v_ad (n_v vs 5))) k1 k7 k13 k14 d0 d2 d4 d8 f0 f1 f4)⟩
  have nf1 : fc_1 PRD (20, [5, 2, 3, 1], [61, 3, 586]) ws (vs) := ⟨nf_in hl rfl, sgq_1605 (vc_Fa_blocksOf_at_Netail_Nehead_Nenear_Emblock_6_1 (v_iv (n_v vs 1)) (v_iv (n_v vs 13)) (v_iv (n_v vs 14)) (w_ei ws (v_ad (n_v vs 5))) (w_ei ws (v_ad (n_v vs 2))) (w_ei ws (v_ad (n_v vs 3))) k1 k13 k14 f0 f2)⟩
  have nf2 : fc_1 PRD (20, [2, 3, 4, 0, 1, 13], [61, 3, 594]) ws (vs) := ⟨nf_in hl rfl, sgq_1606 (vc_Fa_blocksOf_at_Netail_Nehead_Nenear_Emblock_6_2 (v_iv (n_v vs 0)) (v_iv (n_v vs 1)) (v_iv (n_v vs 13)) (v_iv (n_v vs 14)) (w_ei ws (v_ad (n_v vs 5))) (w_ei ws (v_ad (n_v vs 2))) (w_ei ws (v_ad (n_v vs 3))) (w_ei ws (v_ad (n_v vs 4))) k0 k1 k13 k14 f0 f1 f3 f4)⟩
  refine ⟨(fun _ h => (by cases h)), [], trivial, ?_, (fun _ h => (by cases h))⟩
  rw [List.append_nil]
  exact List.forall_mem_cons.mpr ⟨⟨show (20 : Nat) < 100 from by decide, nf0⟩, List.forall_mem_cons.mpr ⟨⟨show (20 : Nat) < 100 from by decide, nf1⟩, List.forall_mem_cons.mpr ⟨⟨show (20 : Nat) < 100 from by decide, nf2⟩, (fun _ h => (by cases h))⟩⟩⟩
set_option maxHeartbeats 4000000 in
theorem vc_Fa_blocksOf_at_Netail_Nehead_Nenear_Emblock_7_r0 (x1 : Int) (x13 : Int) (x14 : Int) (x15 : Int) (x16 : Int) (a5_0 : Int → Int) (k1 : 1 ≤ x1 ∧ x1 ≤ 72) (k13 : 0 ≤ x13 ∧ x13 ≤ 71) (k14 : 0 ≤ x14 ∧ x14 ≤ 71) (k15 : (-1) ≤ x15 ∧ x15 ≤ 71) (k16 : (-1) ≤ x16 ∧ x16 ≤ 71) (h0 : x16 = a5_0 (x14)) (h2 : x15 = a5_0 (x14)) (f3 : x14 < x1) (f4 : LBI (a5_0) (x1) (x14) (x13)) : 0 ≤ x16 ∧ x16 ≤ 71 := by
  first
    | omega
    | (have q3 := (‹LBI _ _ _ _›).2.2.1; omega)
    | (have q := (‹LBI _ _ _ _›).2.2.2.2.1 x14 (by omega) (by omega); omega)
    | (have q := (‹LBI _ _ _ _›).2.2.2.2.1 x14 (by omega) (by omega); have q2 := (‹LBI _ _ _ _›).2.2.2.1 x16 (by omega) (by omega); have q3 := (‹LBI _ _ _ _›).2.2.1; omega)
def o_Fa_blocksOf_at_Netail_Nehead_Nenear_Emblock_7 : or_T := (164, 17, [(0, (0, 0, 24, [])), (1, (0, 1, 72, [])), (2, (2, 0, 0, [80])), (3, (2, 0, 0, [81])), (4, (2, 0, 0, [82])), (5, (2, 0, 0, [26])), (6, (0, 0, 24, [])), (7, (0, 1, 72, [])), (8, (2, 0, 0, [80])), (9, (2, 0, 0, [81])), (10, (2, 0, 0, [82])), (11, (2, 0, 0, [26])), (13, (0, 0, 71, [])), (14, (0, 0, 71, [])), (15, (0, -1, 71, [])), (16, (0, -1, 71, []))], [(10, [16, 11, 14], []), (7, [15, 14], [1]), (10, [15, 11, 14], []), (7, [14, 7], [2]), (20, [11, 7, 14, 13], [61, 1, 567]), (20, [11, 8, 9, 7, 14, 13], [61, 3, 585]), (20, [11, 8, 9, 10, 6, 7, 14, 13], [61, 4, 593]), (20, [14, 7], [50, 0, 0, 0, 2, 1, 0, 1, 1]), (24, [0, 6], []), (24, [1, 7], []), (24, [2, 8], []), (24, [3, 9], []), (24, [4, 10], []), (24, [5, 11], [])], [(16, (0, 0, 71, []))], [], [], [], [(14, 7, -4294967296, -1), (0, 6, -4294967296, 0), (1, 7, -4294967296, 0), (6, 0, -4294967296, 0), (7, 1, -4294967296, 0), (13, 1, -4294967296, 1), (13, 7, -4294967296, 0), (13, 14, -4294967296, 0), (14, 1, -4294967296, 0), (14, 7, -4294967296, 0)])
theorem oo_Fa_blocksOf_at_Netail_Nehead_Nenear_Emblock_7 {kA : Nat → ClassId} : or_ok PRD kA GG o_Fa_blocksOf_at_Netail_Nehead_Nenear_Emblock_7 := by
  refine or_mk fun A ta ws vs hD hth hl => ?_
  intro t0 k0 t1 k1 t2 r2 t3 r3 t4 r4 t5 r5 t6 k6 t7 k7 t8 r8 t9 r9 t10 r10 t11 r11 t13 k13 t14 k14 t15 k15 t16 k16 d0 d1 d2 d3 d4 d5 d6 d7 d8 d9 f0 f1 f2 f3 f4 f5 f6 f7 f8 f9 f10 f11 f12 f13
  replace f0 := shm_107 f0
  replace f2 := shm_107 f2
  replace f3 := shm_6 f3
  replace f4 := shm_1601 f4
  replace f9 := shm_5 f9
  replace f13 := shm_5 f13
  have q7 : n_v vs 7 = n_v vs 1 := f9.symm
  have q11 : n_v vs 11 = n_v vs 5 := f13.symm
  simp only [q11, q7] at f0 f2 f3 f4
  have h0 : v_iv (n_v vs 16) = w_ei ws (v_ad (n_v vs 5)) (v_iv (n_v vs 14)) := f0
  have h2 : v_iv (n_v vs 15) = w_ei ws (v_ad (n_v vs 5)) (v_iv (n_v vs 14)) := f2
  have hrf0 : 0 ≤ v_iv (n_v vs 16) ∧ v_iv (n_v vs 16) ≤ 71 := vc_Fa_blocksOf_at_Netail_Nehead_Nenear_Emblock_7_r0 (v_iv (n_v vs 1)) (v_iv (n_v vs 13)) (v_iv (n_v vs 14)) (v_iv (n_v vs 15)) (v_iv (n_v vs 16)) (w_ei ws (v_ad (n_v vs 5))) k1 k13 k14 k15 k16 h0 h2 f3 f4
  have rf16 : tv_ok ta (0, 0, 71, []) (n_v vs 16) := tv_in t16 (by first | omega | grind) (by first | omega | grind)
  refine ⟨List.forall_mem_cons.mpr ⟨rf16, (fun _ h => (by cases h))⟩, [], trivial, ?_, (fun _ h => (by cases h))⟩
  rw [List.append_nil]
  exact (fun _ h => (by cases h))
set_option maxHeartbeats 4000000 in
theorem vc_Fa_blocksOf_at_Netail_Nehead_Nenear_Emblock_8_r0 (x1 : Int) (x13 : Int) (x14 : Int) (x15 : Int) (x16 : Int) (x17 : Int) (a5_0 : Int → Int) (k1 : 1 ≤ x1 ∧ x1 ≤ 72) (k13 : 0 ≤ x13 ∧ x13 ≤ 71) (k14 : 0 ≤ x14 ∧ x14 ≤ 71) (k15 : (-1) ≤ x15 ∧ x15 ≤ 71) (k16 : 0 ≤ x16 ∧ x16 ≤ 71) (k17 : (-1) ≤ x17 ∧ x17 ≤ 71) (h0 : x17 = a5_0 (x16)) (h1 : x16 = a5_0 (x14)) (f2 : x15 ≠ x14) (h3 : x15 = a5_0 (x14)) (f4 : x14 < x1) (f5 : LBI (a5_0) (x1) (x14) (x13)) : 0 ≤ x17 ∧ x17 ≤ 71 := by
  first
    | omega
    | (have q3 := (‹LBI _ _ _ _›).2.2.1; omega)
    | (have q := (‹LBI _ _ _ _›).2.2.2.2.1 x14 (by omega) (by omega); omega)
    | (have q := (‹LBI _ _ _ _›).2.2.2.2.1 x14 (by omega) (by omega); have q2 := (‹LBI _ _ _ _›).2.2.2.1 x16 (by omega) (by omega); have q3 := (‹LBI _ _ _ _›).2.2.1; omega)
def o_Fa_blocksOf_at_Netail_Nehead_Nenear_Emblock_8 : or_T := (165, 18, [(0, (0, 0, 24, [])), (1, (0, 1, 72, [])), (2, (2, 0, 0, [80])), (3, (2, 0, 0, [81])), (4, (2, 0, 0, [82])), (5, (2, 0, 0, [26])), (6, (0, 0, 24, [])), (7, (0, 1, 72, [])), (8, (2, 0, 0, [80])), (9, (2, 0, 0, [81])), (10, (2, 0, 0, [82])), (11, (2, 0, 0, [26])), (13, (0, 0, 71, [])), (14, (0, 0, 71, [])), (15, (0, -1, 71, [])), (16, (0, 0, 71, [])), (17, (0, -1, 71, []))], [(10, [17, 11, 16], []), (10, [16, 11, 14], []), (7, [15, 14], [1]), (10, [15, 11, 14], []), (7, [14, 7], [2]), (20, [11, 7, 14, 13], [61, 1, 567]), (20, [11, 8, 9, 7, 14, 13], [61, 3, 585]), (20, [11, 8, 9, 10, 6, 7, 14, 13], [61, 4, 593]), (20, [14, 7], [50, 0, 0, 0, 2, 1, 0, 1, 1]), (24, [0, 6], []), (24, [1, 7], []), (24, [2, 8], []), (24, [3, 9], []), (24, [4, 10], []), (24, [5, 11], [])], [(17, (0, 0, 71, []))], [], [], [], [(14, 7, -4294967296, -1), (0, 6, -4294967296, 0), (1, 7, -4294967296, 0), (6, 0, -4294967296, 0), (7, 1, -4294967296, 0), (13, 1, -4294967296, 1), (13, 7, -4294967296, 0), (13, 14, -4294967296, 0), (14, 1, -4294967296, 0), (14, 7, -4294967296, 0)])
theorem oo_Fa_blocksOf_at_Netail_Nehead_Nenear_Emblock_8 {kA : Nat → ClassId} : or_ok PRD kA GG o_Fa_blocksOf_at_Netail_Nehead_Nenear_Emblock_8 := by
  refine or_mk fun A ta ws vs hD hth hl => ?_
  intro t0 k0 t1 k1 t2 r2 t3 r3 t4 r4 t5 r5 t6 k6 t7 k7 t8 r8 t9 r9 t10 r10 t11 r11 t13 k13 t14 k14 t15 k15 t16 k16 t17 k17 d0 d1 d2 d3 d4 d5 d6 d7 d8 d9 f0 f1 f2 f3 f4 f5 f6 f7 f8 f9 f10 f11 f12 f13 f14
  replace f0 := shm_107 f0
  replace f1 := shm_107 f1
  replace f3 := shm_107 f3
  replace f4 := shm_6 f4
  replace f5 := shm_1601 f5
  replace f10 := shm_5 f10
  replace f14 := shm_5 f14
  have q7 : n_v vs 7 = n_v vs 1 := f10.symm
  have q11 : n_v vs 11 = n_v vs 5 := f14.symm
  simp only [q11, q7] at f0 f1 f3 f4 f5
  have h0 : v_iv (n_v vs 17) = w_ei ws (v_ad (n_v vs 5)) (v_iv (n_v vs 16)) := f0
  have h1 : v_iv (n_v vs 16) = w_ei ws (v_ad (n_v vs 5)) (v_iv (n_v vs 14)) := f1
  have h3 : v_iv (n_v vs 15) = w_ei ws (v_ad (n_v vs 5)) (v_iv (n_v vs 14)) := f3
  have hrf0 : 0 ≤ v_iv (n_v vs 17) ∧ v_iv (n_v vs 17) ≤ 71 := vc_Fa_blocksOf_at_Netail_Nehead_Nenear_Emblock_8_r0 (v_iv (n_v vs 1)) (v_iv (n_v vs 13)) (v_iv (n_v vs 14)) (v_iv (n_v vs 15)) (v_iv (n_v vs 16)) (v_iv (n_v vs 17)) (w_ei ws (v_ad (n_v vs 5))) k1 k13 k14 k15 k16 k17 h0 h1 (shm_40 f2) h3 f4 f5
  have rf17 : tv_ok ta (0, 0, 71, []) (n_v vs 17) := tv_in t17 (by first | omega | grind) (by first | omega | grind)
  refine ⟨List.forall_mem_cons.mpr ⟨rf17, (fun _ h => (by cases h))⟩, [], trivial, ?_, (fun _ h => (by cases h))⟩
  rw [List.append_nil]
  exact (fun _ h => (by cases h))
set_option maxHeartbeats 4000000 in
theorem vc_Fa_blocksOf_at_Netail_Nehead_Nenear_Emblock_9_0 (x1 : Int) (x13 : Int) (x14 : Int) (x15 : Int) (x16 : Int) (x17 : Int) (x18 : Int) (a5_1 : Int → Int) (a2_1 : Int → Int) (a3_1 : Int → Int) (a4_1 : Int → Int) (a2_0 : Int → Int) (a3_0 : Int → Int) (a4_0 : Int → Int) (a5_0 : Int → Int) (k1 : 1 ≤ x1 ∧ x1 ≤ 72) (k13 : 0 ≤ x13 ∧ x13 ≤ 71) (k14 : 0 ≤ x14 ∧ x14 ≤ 71) (k15 : (-1) ≤ x15 ∧ x15 ≤ 71) (k16 : 0 ≤ x16 ∧ x16 ≤ 71) (k17 : 0 ≤ x17 ∧ x17 ≤ 71) (k18 : 1 ≤ x18 ∧ x18 ≤ 72) (d0 : x14 + 1 ≤ x18 ∧ x18 ≤ x14 + 1) (f0 : x18 = x14 + 1) (h9 : x17 = a5_1 (x16)) (h10 : x16 = a5_1 (x14)) (f11 : x15 ≠ x14) (h12 : x15 = a5_1 (x14)) (f13 : x14 < x1) (f14 : LBI (a5_1) (x1) (x14) (x13)) (hE_2_999_1 : ∀ j : Int, a2_0 j = a2_1 j) (hE_3_999_1 : ∀ j : Int, a3_0 j = a3_1 j) (hE_4_999_1 : ∀ j : Int, a4_0 j = a4_1 j) (hE_5_999_1 : ∀ j : Int, 0 ≤ j → (j = x14 → a5_0 j = x17) ∧ (j ≠ x14 → a5_0 j = a5_1 j)) : LBI (a5_0) (x1) (x18) (x13) := by
  have e_hE_2_999_1 := funext hE_2_999_1; subst e_hE_2_999_1
  have e_hE_3_999_1 := funext hE_3_999_1; subst e_hE_3_999_1
  have e_hE_4_999_1 := funext hE_4_999_1; subst e_hE_4_999_1
  first
    | exact lbi_old (r := x16) ‹LBI _ _ _ _› (by omega) (by assumption) (by omega) (by assumption) (by assumption) (by omega) (by omega)
set_option maxHeartbeats 4000000 in
theorem vc_Fa_blocksOf_at_Netail_Nehead_Nenear_Emblock_9_1 (x1 : Int) (x13 : Int) (x14 : Int) (x15 : Int) (x16 : Int) (x17 : Int) (x18 : Int) (a5_1 : Int → Int) (a2_1 : Int → Int) (a3_1 : Int → Int) (a4_1 : Int → Int) (a2_0 : Int → Int) (a3_0 : Int → Int) (a4_0 : Int → Int) (a5_0 : Int → Int) (k1 : 1 ≤ x1 ∧ x1 ≤ 72) (k13 : 0 ≤ x13 ∧ x13 ≤ 71) (k14 : 0 ≤ x14 ∧ x14 ≤ 71) (k15 : (-1) ≤ x15 ∧ x15 ≤ 71) (k16 : 0 ≤ x16 ∧ x16 ≤ 71) (k17 : 0 ≤ x17 ∧ x17 ≤ 71) (k18 : 1 ≤ x18 ∧ x18 ≤ 72) (f0 : x18 = x14 + 1) (h9 : x17 = a5_1 (x16)) (h10 : x16 = a5_1 (x14)) (f11 : x15 ≠ x14) (h12 : x15 = a5_1 (x14)) (f13 : x14 < x1) (f15 : LBJ (a5_1) (a2_1) (a3_1) (x1) (x14) (x13)) (hE_2_999_1 : ∀ j : Int, a2_0 j = a2_1 j) (hE_3_999_1 : ∀ j : Int, a3_0 j = a3_1 j) (hE_4_999_1 : ∀ j : Int, a4_0 j = a4_1 j) (hE_5_999_1 : ∀ j : Int, 0 ≤ j → (j = x14 → a5_0 j = x17) ∧ (j ≠ x14 → a5_0 j = a5_1 j)) : LBJ (a5_0) (a2_0) (a3_0) (x1) (x18) (x13) := by
  have e_hE_2_999_1 := funext hE_2_999_1; subst e_hE_2_999_1
  have e_hE_3_999_1 := funext hE_3_999_1; subst e_hE_3_999_1
  have e_hE_4_999_1 := funext hE_4_999_1; subst e_hE_4_999_1
  first
    | exact lbj_old (r := x16) (y := x15) ‹LBJ _ _ _ _ _ _› (by omega) (by assumption) (by omega) (by assumption) (by assumption) (by assumption) (by omega) (by omega)
set_option maxHeartbeats 4000000 in
theorem vc_Fa_blocksOf_at_Netail_Nehead_Nenear_Emblock_9_2 (x0 : Int) (x1 : Int) (x13 : Int) (x14 : Int) (x15 : Int) (x16 : Int) (x17 : Int) (x18 : Int) (a5_1 : Int → Int) (a2_1 : Int → Int) (a3_1 : Int → Int) (a4_1 : Int → Int) (a2_0 : Int → Int) (a3_0 : Int → Int) (a4_0 : Int → Int) (a5_0 : Int → Int) (k0 : 0 ≤ x0 ∧ x0 ≤ 24) (k1 : 1 ≤ x1 ∧ x1 ≤ 72) (k13 : 0 ≤ x13 ∧ x13 ≤ 71) (k14 : 0 ≤ x14 ∧ x14 ≤ 71) (k15 : (-1) ≤ x15 ∧ x15 ≤ 71) (k16 : 0 ≤ x16 ∧ x16 ≤ 71) (k17 : 0 ≤ x17 ∧ x17 ≤ 71) (k18 : 1 ≤ x18 ∧ x18 ≤ 72) (f0 : x18 = x14 + 1) (h9 : x17 = a5_1 (x16)) (h10 : x16 = a5_1 (x14)) (f11 : x15 ≠ x14) (h12 : x15 = a5_1 (x14)) (f13 : x14 < x1) (f16 : LKJ (a5_1) (a2_1) (a3_1) (a4_1) (x0) (x1) (x14) (x13)) (hE_2_999_1 : ∀ j : Int, a2_0 j = a2_1 j) (hE_3_999_1 : ∀ j : Int, a3_0 j = a3_1 j) (hE_4_999_1 : ∀ j : Int, a4_0 j = a4_1 j) (hE_5_999_1 : ∀ j : Int, 0 ≤ j → (j = x14 → a5_0 j = x17) ∧ (j ≠ x14 → a5_0 j = a5_1 j)) : LKJ (a5_0) (a2_0) (a3_0) (a4_0) (x0) (x1) (x18) (x13) := by
  have e_hE_2_999_1 := funext hE_2_999_1; subst e_hE_2_999_1
  have e_hE_3_999_1 := funext hE_3_999_1; subst e_hE_3_999_1
  have e_hE_4_999_1 := funext hE_4_999_1; subst e_hE_4_999_1
  first
    | exact lkj_old (r := x16) (y := x15) ‹LKJ _ _ _ _ _ _ _ _› (by omega) (by assumption) (by omega) (by assumption) (by assumption) (by assumption) (by omega) (by omega)
set_option maxHeartbeats 4000000 in
theorem vc_Fa_blocksOf_at_Netail_Nehead_Nenear_Emblock_9_3 (x1 : Int) (x7 : Int) (x14 : Int) (x16 : Int) (x18 : Int) (a2_1 : Int → Int) (a3_1 : Int → Int) (a4_1 : Int → Int) (a2_0 : Int → Int) (a3_0 : Int → Int) (a4_0 : Int → Int) (k1 : 1 ≤ x1 ∧ x1 ≤ 72) (k7 : 1 ≤ x7 ∧ x7 ≤ 72) (k14 : 0 ≤ x14 ∧ x14 ≤ 71) (k18 : 1 ≤ x18 ∧ x18 ≤ 72) (d0 : x14 + 1 ≤ x18 ∧ x18 ≤ x14 + 1) (d1 : x7 + (-4294967296) ≤ x18 ∧ x18 ≤ x7 + 0) (d4 : x7 + (-4294967296) ≤ x14 ∧ x14 ≤ x7 + (-1)) (d6 : x7 + (-4294967296) ≤ x1 ∧ x1 ≤ x7 + 0) (d8 : x1 + (-4294967296) ≤ x7 ∧ x7 ≤ x1 + 0) (hE_2_999_1 : ∀ j : Int, a2_0 j = a2_1 j) (hE_3_999_1 : ∀ j : Int, a3_0 j = a3_1 j) (hE_4_999_1 : ∀ j : Int, a4_0 j = a4_1 j) : x18 ≤ x1 := by
  have e_hE_2_999_1 := funext hE_2_999_1; subst e_hE_2_999_1
  have e_hE_3_999_1 := funext hE_3_999_1; subst e_hE_3_999_1
  have e_hE_4_999_1 := funext hE_4_999_1; subst e_hE_4_999_1
  first
    | omega
    | (have q3 := (‹LBI _ _ _ _›).2.2.1; omega)
    | (have q := (‹LBI _ _ _ _›).2.2.2.2.1 x14 (by omega) (by omega); omega)
    | (have q := (‹LBI _ _ _ _›).2.2.2.2.1 x14 (by omega) (by omega); have q2 := (‹LBI _ _ _ _›).2.2.2.1 x16 (by omega) (by omega); have q3 := (‹LBI _ _ _ _›).2.2.1; omega)
def o_Fa_blocksOf_at_Netail_Nehead_Nenear_Emblock_9 : or_T := (124, 19, [(0, (0, 0, 24, [])), (1, (0, 1, 72, [])), (2, (2, 0, 0, [80])), (3, (2, 0, 0, [81])), (4, (2, 0, 0, [82])), (5, (2, 0, 0, [26])), (7, (0, 1, 72, [])), (13, (0, 0, 71, [])), (14, (0, 0, 71, [])), (15, (0, -1, 71, [])), (16, (0, 0, 71, [])), (17, (0, 0, 71, [])), (18, (0, 1, 72, []))], [(6, [18, 14], [1]), (24, [0, 6], []), (24, [1, 7], []), (24, [2, 8], []), (24, [3, 9], []), (24, [4, 10], []), (24, [5, 11], []), (100, [11, 14, 17], []), (10, [17, 11, 16], []), (10, [16, 11, 14], []), (7, [15, 14], [1]), (10, [15, 11, 14], []), (7, [14, 7], [2]), (20, [11, 7, 14, 13], [61, 1, 567]), (20, [11, 8, 9, 7, 14, 13], [61, 3, 585]), (20, [11, 8, 9, 10, 6, 7, 14, 13], [61, 4, 593])], [], [], [(20, [11, 7, 18, 13], [61, 1, 567]), (20, [11, 8, 9, 7, 18, 13], [61, 3, 585]), (20, [11, 8, 9, 10, 6, 7, 18, 13], [61, 4, 593]), (20, [18, 7], [50, 0, 0, 0, 2, 1, 0, 1, 1])], [], [(18, 14, 1, 1), (18, 7, -4294967296, 0), (14, 7, -4294967296, -1), (1, 7, -4294967296, 0), (7, 1, -4294967296, 0), (13, 14, -4294967296, 0), (14, 1, -4294967296, 0), (14, 7, -4294967296, 0)])
theorem oo_Fa_blocksOf_at_Netail_Nehead_Nenear_Emblock_9 {kA : Nat → ClassId} : or_ok PRD kA GG o_Fa_blocksOf_at_Netail_Nehead_Nenear_Emblock_9 := by
  refine or_mk fun A ta ws vs hD hth hl => ?_
  intro t0 k0 t1 k1 t2 r2 t3 r3 t4 r4 t5 r5 t7 k7 t13 k13 t14 k14 t15 k15 t16 k16 t17 k17 t18 k18 d0 d1 d4 d6 d8 d11 d12 d13 f0 f2 f3 f4 f5 f6 f7 ta1 w1 le1 s1 f9 f10 f11 f12 f13 f14 f15 f16
  replace f0 := shm_4 f0
  replace f2 := shm_5 f2
  replace f3 := shm_5 f3
  replace f4 := shm_5 f4
  replace f5 := shm_5 f5
  replace f6 := shm_5 f6
  replace f7 := shm_5 f7
  have s1 : (∀ b j, w_el ws b j = if b = v_ad (n_v vs 11) ∧ j = (v_iv (n_v vs 14)).toNat then v_iv (n_v vs 17) else w_el w1 b j) ∧ ∀ b k, w_fd ws b k = w_fd w1 b k := s1.2
  replace f9 := shm_107 f9
  replace f10 := shm_107 f10
  replace f11 := shm_40 f11
  replace f12 := shm_107 f12
  replace f13 := shm_6 f13
  replace f14 := shm_1601 f14
  replace f15 := shm_1602 f15
  replace f16 := shm_1603 f16
  have q6 : n_v vs 6 = n_v vs 0 := f2.symm
  have q7 : n_v vs 7 = n_v vs 1 := f3.symm
  have q8 : n_v vs 8 = n_v vs 2 := f4.symm
  have q9 : n_v vs 9 = n_v vs 3 := f5.symm
  have q10 : n_v vs 10 = n_v vs 4 := f6.symm
  have q11 : n_v vs 11 = n_v vs 5 := f7.symm
  rw [q11] at s1
  simp only [q11, q7, q8, q9, q6, q10] at f9 f10 f12 f13 f14 f15 f16
  have cr_2_999 : ta (v_ad (n_v vs 2)) = some 80 := r2
  have cr_3_999 : ta (v_ad (n_v vs 3)) = some 81 := r3
  have cr_4_999 : ta (v_ad (n_v vs 4)) = some 82 := r4
  have ad_5 : v_ad (n_v vs 5) = v_ad (n_v vs 5) := rfl
  have h9 : v_iv (n_v vs 17) = w_ei w1 (v_ad (n_v vs 5)) (v_iv (n_v vs 16)) := f9
  have h10 : v_iv (n_v vs 16) = w_ei w1 (v_ad (n_v vs 5)) (v_iv (n_v vs 14)) := f10
  have h12 : v_iv (n_v vs 15) = w_ei w1 (v_ad (n_v vs 5)) (v_iv (n_v vs 14)) := f12
  have hE_2_999_1 : ∀ j : Int, w_ei ws (v_ad (n_v vs 2)) j = w_ei w1 (v_ad (n_v vs 2)) j := el_kp s1.1 r5 cr_2_999 (by decide)
  have hE_3_999_1 : ∀ j : Int, w_ei ws (v_ad (n_v vs 3)) j = w_ei w1 (v_ad (n_v vs 3)) j := el_kp s1.1 r5 cr_3_999 (by decide)
  have hE_4_999_1 : ∀ j : Int, w_ei ws (v_ad (n_v vs 4)) j = w_ei w1 (v_ad (n_v vs 4)) j := el_kp s1.1 r5 cr_4_999 (by decide)
  have hE_5_999_1 : ∀ j : Int, 0 ≤ j → (j = v_iv (n_v vs 14) → w_ei ws (v_ad (n_v vs 5)) j = v_iv (n_v vs 17)) ∧ (j ≠ v_iv (n_v vs 14) → w_ei ws (v_ad (n_v vs 5)) j = w_ei w1 (v_ad (n_v vs 5)) j) := fun j hj => ⟨fun h => by unfold w_ei; rw [s1.1, if_pos ⟨ad_5.symm, by rw [h]⟩], fun h => by unfold w_ei; rw [s1.1, if_neg (fun e => h (by have := e.2; omega))]⟩
  have nf0 : fc_1 PRD (20, [11, 7, 18, 13], [61, 1, 567]) ws (vs) := by
    refine ⟨nf_in hl rfl, sgq_1601 ?_⟩
    · show LBI (w_ei ws (v_ad (n_v vs 11))) (v_iv (n_v vs 7)) (v_iv (n_v vs 18)) (v_iv (n_v vs 13))
      simp only [q7, q11]
      exact vc_Fa_blocksOf_at_Netail_Nehead_Nenear_Emblock_9_0 (v_iv (n_v vs 1)) (v_iv (n_v vs 13)) (v_iv (n_v vs 14)) (v_iv (n_v vs 15)) (v_iv (n_v vs 16)) (v_iv (n_v vs 17)) (v_iv (n_v vs 18)) (w_ei w1 (v_ad (n_v vs 5))) (w_ei w1 (v_ad (n_v vs 2))) (w_ei w1 (v_ad (n_v vs 3))) (w_ei w1 (v_ad (n_v vs 4))) (w_ei ws (v_ad (n_v vs 2))) (w_ei ws (v_ad (n_v vs 3))) (w_ei ws (v_ad (n_v vs 4))) (w_ei ws (v_ad (n_v vs 5))) k1 k13 k14 k15 k16 k17 k18 d0 f0 h9 h10 f11 h12 f13 f14 hE_2_999_1 hE_3_999_1 hE_4_999_1 hE_5_999_1
  have nf1 : fc_1 PRD (20, [11, 8, 9, 7, 18, 13], [61, 3, 585]) ws (vs) := by
    refine ⟨nf_in hl rfl, sgq_1602 ?_⟩
    · show LBJ (w_ei ws (v_ad (n_v vs 11))) (w_ei ws (v_ad (n_v vs 8))) (w_ei ws (v_ad (n_v vs 9))) (v_iv (n_v vs 7)) (v_iv (n_v vs 18)) (v_iv (n_v vs 13))
      simp only [q7, q8, q9, q11]
      exact vc_Fa_blocksOf_at_Netail_Nehead_Nenear_Emblock_9_1 (v_iv (n_v vs 1)) (v_iv (n_v vs 13)) (v_iv (n_v vs 14)) (v_iv (n_v vs 15)) (v_iv (n_v vs 16)) (v_iv (n_v vs 17)) (v_iv (n_v vs 18)) (w_ei w1 (v_ad (n_v vs 5))) (w_ei w1 (v_ad (n_v vs 2))) (w_ei w1 (v_ad (n_v vs 3))) (w_ei w1 (v_ad (n_v vs 4))) (w_ei ws (v_ad (n_v vs 2))) (w_ei ws (v_ad (n_v vs 3))) (w_ei ws (v_ad (n_v vs 4))) (w_ei ws (v_ad (n_v vs 5))) k1 k13 k14 k15 k16 k17 k18 f0 h9 h10 f11 h12 f13 f15 hE_2_999_1 hE_3_999_1 hE_4_999_1 hE_5_999_1
  have nf2 : fc_1 PRD (20, [11, 8, 9, 10, 6, 7, 18, 13], [61, 4, 593]) ws (vs) := by
    refine ⟨nf_in hl rfl, sgq_1603 ?_⟩
    · show LKJ (w_ei ws (v_ad (n_v vs 11))) (w_ei ws (v_ad (n_v vs 8))) (w_ei ws (v_ad (n_v vs 9))) (w_ei ws (v_ad (n_v vs 10))) (v_iv (n_v vs 6)) (v_iv (n_v vs 7)) (v_iv (n_v vs 18)) (v_iv (n_v vs 13))
      simp only [q6, q7, q8, q9, q10, q11]
      exact vc_Fa_blocksOf_at_Netail_Nehead_Nenear_Emblock_9_2 (v_iv (n_v vs 0)) (v_iv (n_v vs 1)) (v_iv (n_v vs 13)) (v_iv (n_v vs 14)) (v_iv (n_v vs 15)) (v_iv (n_v vs 16)) (v_iv (n_v vs 17)) (v_iv (n_v vs 18)) (w_ei w1 (v_ad (n_v vs 5))) (w_ei w1 (v_ad (n_v vs 2))) (w_ei w1 (v_ad (n_v vs 3))) (w_ei w1 (v_ad (n_v vs 4))) (w_ei ws (v_ad (n_v vs 2))) (w_ei ws (v_ad (n_v vs 3))) (w_ei ws (v_ad (n_v vs 4))) (w_ei ws (v_ad (n_v vs 5))) k0 k1 k13 k14 k15 k16 k17 k18 f0 h9 h10 f11 h12 f13 f16 hE_2_999_1 hE_3_999_1 hE_4_999_1 hE_5_999_1
  have nf3 : fc_1 PRD (20, [18, 7], [50, 0, 0, 0, 2, 1, 0, 1, 1]) ws (vs) := by
    refine ⟨nf_in hl rfl, sgq_360 ?_⟩
    · show v_iv (n_v vs 18) ≤ v_iv (n_v vs 7)
      rw [q7]
      exact vc_Fa_blocksOf_at_Netail_Nehead_Nenear_Emblock_9_3 (v_iv (n_v vs 1)) (v_iv (n_v vs 7)) (v_iv (n_v vs 14)) (v_iv (n_v vs 16)) (v_iv (n_v vs 18)) (w_ei w1 (v_ad (n_v vs 2))) (w_ei w1 (v_ad (n_v vs 3))) (w_ei w1 (v_ad (n_v vs 4))) (w_ei ws (v_ad (n_v vs 2))) (w_ei ws (v_ad (n_v vs 3))) (w_ei ws (v_ad (n_v vs 4))) k1 k7 k14 k18 d0 d1 d4 d6 d8 hE_2_999_1 hE_3_999_1 hE_4_999_1
  refine ⟨(fun _ h => (by cases h)), [], trivial, ?_, (fun _ h => (by cases h))⟩
  rw [List.append_nil]
  exact List.forall_mem_cons.mpr ⟨⟨show (20 : Nat) < 100 from by decide, nf0⟩, List.forall_mem_cons.mpr ⟨⟨show (20 : Nat) < 100 from by decide, nf1⟩, List.forall_mem_cons.mpr ⟨⟨show (20 : Nat) < 100 from by decide, nf2⟩, List.forall_mem_cons.mpr ⟨⟨show (20 : Nat) < 100 from by decide, nf3⟩, (fun _ h => (by cases h))⟩⟩⟩⟩
set_option maxHeartbeats 4000000 in
theorem vc_Fa_blocksOf_at_Netail_Nehead_Nenear_Emblock_10_0 (x1 : Int) (x13 : Int) (x14 : Int) (x16 : Int) (x17 : Int) (a5_1 : Int → Int) (a2_1 : Int → Int) (a3_1 : Int → Int) (a4_1 : Int → Int) (a2_0 : Int → Int) (a3_0 : Int → Int) (a4_0 : Int → Int) (a5_0 : Int → Int) (k1 : 1 ≤ x1 ∧ x1 ≤ 72) (k13 : 0 ≤ x13 ∧ x13 ≤ 71) (k14 : 0 ≤ x14 ∧ x14 ≤ 71) (k16 : 1 ≤ x16 ∧ x16 ≤ 72) (k17 : 1 ≤ x17 ∧ x17 ≤ 72) (f0 : x17 = x14 + 1) (f1 : x16 = x13 + 1) (f13 : LBI (a5_1) (x1) (x14) (x13)) (hE_2_999_1 : ∀ j : Int, a2_0 j = a2_1 j) (hE_3_999_1 : ∀ j : Int, a3_0 j = a3_1 j) (hE_4_999_1 : ∀ j : Int, a4_0 j = a4_1 j) (hE_5_999_1 : ∀ j : Int, 0 ≤ j → (j = x14 → a5_0 j = x13) ∧ (j ≠ x14 → a5_0 j = a5_1 j)) : LBI (a5_0) (x1) (x17) (x16) := by
  have e_hE_2_999_1 := funext hE_2_999_1; subst e_hE_2_999_1
  have e_hE_3_999_1 := funext hE_3_999_1; subst e_hE_3_999_1
  have e_hE_4_999_1 := funext hE_4_999_1; subst e_hE_4_999_1
  first
    | exact lbi_new ‹LBI _ _ _ _› (by assumption) (by omega) (by omega) (by omega) (by omega)
set_option maxHeartbeats 4000000 in
theorem vc_Fa_blocksOf_at_Netail_Nehead_Nenear_Emblock_10_1 (x1 : Int) (x13 : Int) (x14 : Int) (x15 : Int) (x16 : Int) (x17 : Int) (a5_1 : Int → Int) (a2_1 : Int → Int) (a3_1 : Int → Int) (a4_1 : Int → Int) (a2_0 : Int → Int) (a3_0 : Int → Int) (a4_0 : Int → Int) (a5_0 : Int → Int) (k1 : 1 ≤ x1 ∧ x1 ≤ 72) (k13 : 0 ≤ x13 ∧ x13 ≤ 71) (k14 : 0 ≤ x14 ∧ x14 ≤ 71) (k15 : 0 ≤ x15 ∧ x15 ≤ 71) (k16 : 1 ≤ x16 ∧ x16 ≤ 72) (k17 : 1 ≤ x17 ∧ x17 ≤ 72) (f0 : x17 = x14 + 1) (f1 : x16 = x13 + 1) (f10 : x15 = x14) (h11 : x15 = a5_1 (x14)) (f12 : x14 < x1) (f14 : LBJ (a5_1) (a2_1) (a3_1) (x1) (x14) (x13)) (hE_2_999_1 : ∀ j : Int, a2_0 j = a2_1 j) (hE_3_999_1 : ∀ j : Int, a3_0 j = a3_1 j) (hE_4_999_1 : ∀ j : Int, a4_0 j = a4_1 j) (hE_5_999_1 : ∀ j : Int, 0 ≤ j → (j = x14 → a5_0 j = x13) ∧ (j ≠ x14 → a5_0 j = a5_1 j)) : LBJ (a5_0) (a2_0) (a3_0) (x1) (x17) (x16) := by
  have e_hE_2_999_1 := funext hE_2_999_1; subst e_hE_2_999_1
  have e_hE_3_999_1 := funext hE_3_999_1; subst e_hE_3_999_1
  have e_hE_4_999_1 := funext hE_4_999_1; subst e_hE_4_999_1
  first
    | exact lbj_new ‹LBJ _ _ _ _ _ _› (by omega) (by assumption) (by omega) (by assumption) (by omega) (by omega) (by omega) (by omega)
set_option maxHeartbeats 4000000 in
theorem vc_Fa_blocksOf_at_Netail_Nehead_Nenear_Emblock_10_2 (x0 : Int) (x1 : Int) (x13 : Int) (x14 : Int) (x15 : Int) (x16 : Int) (x17 : Int) (a5_1 : Int → Int) (a2_1 : Int → Int) (a3_1 : Int → Int) (a4_1 : Int → Int) (a2_0 : Int → Int) (a3_0 : Int → Int) (a4_0 : Int → Int) (a5_0 : Int → Int) (k0 : 0 ≤ x0 ∧ x0 ≤ 24) (k1 : 1 ≤ x1 ∧ x1 ≤ 72) (k13 : 0 ≤ x13 ∧ x13 ≤ 71) (k14 : 0 ≤ x14 ∧ x14 ≤ 71) (k15 : 0 ≤ x15 ∧ x15 ≤ 71) (k16 : 1 ≤ x16 ∧ x16 ≤ 72) (k17 : 1 ≤ x17 ∧ x17 ≤ 72) (f0 : x17 = x14 + 1) (f1 : x16 = x13 + 1) (f10 : x15 = x14) (h11 : x15 = a5_1 (x14)) (f12 : x14 < x1) (f15 : LKJ (a5_1) (a2_1) (a3_1) (a4_1) (x0) (x1) (x14) (x13)) (hE_2_999_1 : ∀ j : Int, a2_0 j = a2_1 j) (hE_3_999_1 : ∀ j : Int, a3_0 j = a3_1 j) (hE_4_999_1 : ∀ j : Int, a4_0 j = a4_1 j) (hE_5_999_1 : ∀ j : Int, 0 ≤ j → (j = x14 → a5_0 j = x13) ∧ (j ≠ x14 → a5_0 j = a5_1 j)) : LKJ (a5_0) (a2_0) (a3_0) (a4_0) (x0) (x1) (x17) (x16) := by
  have e_hE_2_999_1 := funext hE_2_999_1; subst e_hE_2_999_1
  have e_hE_3_999_1 := funext hE_3_999_1; subst e_hE_3_999_1
  have e_hE_4_999_1 := funext hE_4_999_1; subst e_hE_4_999_1
  first
    | exact lkj_new ‹LKJ _ _ _ _ _ _ _ _› (by omega) (by assumption) (by omega) (by assumption) (by omega) (by omega) (by omega) (by omega)
set_option maxHeartbeats 4000000 in
theorem vc_Fa_blocksOf_at_Netail_Nehead_Nenear_Emblock_10_3 (x1 : Int) (x7 : Int) (x14 : Int) (x15 : Int) (x16 : Int) (x17 : Int) (a5_1 : Int → Int) (a2_1 : Int → Int) (a3_1 : Int → Int) (a4_1 : Int → Int) (a2_0 : Int → Int) (a3_0 : Int → Int) (a4_0 : Int → Int) (k1 : 1 ≤ x1 ∧ x1 ≤ 72) (k7 : 1 ≤ x7 ∧ x7 ≤ 72) (k14 : 0 ≤ x14 ∧ x14 ≤ 71) (k15 : 0 ≤ x15 ∧ x15 ≤ 71) (k17 : 1 ≤ x17 ∧ x17 ≤ 72) (d0 : x14 + 1 ≤ x17 ∧ x17 ≤ x14 + 1) (d1 : x7 + (-4294967296) ≤ x17 ∧ x17 ≤ x7 + 0) (d8 : x14 + 0 ≤ x15 ∧ x15 ≤ x14 + 0) (d9 : x7 + (-4294967296) ≤ x14 ∧ x14 ≤ x7 + (-1)) (d11 : x7 + (-4294967296) ≤ x1 ∧ x1 ≤ x7 + 0) (d13 : x1 + (-4294967296) ≤ x7 ∧ x7 ≤ x1 + 0) (h11 : x15 = a5_1 (x14)) (hE_2_999_1 : ∀ j : Int, a2_0 j = a2_1 j) (hE_3_999_1 : ∀ j : Int, a3_0 j = a3_1 j) (hE_4_999_1 : ∀ j : Int, a4_0 j = a4_1 j) : x17 ≤ x1 := by
  have e_hE_2_999_1 := funext hE_2_999_1; subst e_hE_2_999_1
  have e_hE_3_999_1 := funext hE_3_999_1; subst e_hE_3_999_1
  have e_hE_4_999_1 := funext hE_4_999_1; subst e_hE_4_999_1
  first
    | omega
    | (have q3 := (‹LBI _ _ _ _›).2.2.1; omega)
    | (have q := (‹LBI _ _ _ _›).2.2.2.2.1 x14 (by omega) (by omega); omega)
    | (have q := (‹LBI _ _ _ _›).2.2.2.2.1 x14 (by omega) (by omega); have q2 := (‹LBI _ _ _ _›).2.2.2.1 x16 (by omega) (by omega); have q3 := (‹LBI _ _ _ _›).2.2.1; omega)
def o_Fa_blocksOf_at_Netail_Nehead_Nenear_Emblock_10 : or_T := (124, 18, [(0, (0, 0, 24, [])), (1, (0, 1, 72, [])), (2, (2, 0, 0, [80])), (3, (2, 0, 0, [81])), (4, (2, 0, 0, [82])), (5, (2, 0, 0, [26])), (7, (0, 1, 72, [])), (13, (0, 0, 71, [])), (14, (0, 0, 71, [])), (15, (0, 0, 71, [])), (16, (0, 1, 72, [])), (17, (0, 1, 72, []))], [(6, [17, 14], [1]), (6, [16, 13], [1]), (24, [0, 6], []), (24, [1, 7], []), (24, [2, 8], []), (24, [3, 9], []), (24, [4, 10], []), (24, [5, 11], []), (100, [11, 14, 13], []), (7, [15, 14], [0]), (10, [15, 11, 14], []), (7, [14, 7], [2]), (20, [11, 7, 14, 13], [61, 1, 567]), (20, [11, 8, 9, 7, 14, 13], [61, 3, 585]), (20, [11, 8, 9, 10, 6, 7, 14, 13], [61, 4, 593])], [], [], [(20, [11, 7, 17, 16], [61, 1, 567]), (20, [11, 8, 9, 7, 17, 16], [61, 3, 585]), (20, [11, 8, 9, 10, 6, 7, 17, 16], [61, 4, 593]), (20, [17, 7], [50, 0, 0, 0, 2, 1, 0, 1, 1])], [], [(17, 14, 1, 1), (17, 7, -4294967296, 0), (16, 13, 1, 1), (16, 14, -4294967296, 1), (15, 14, 0, 0), (14, 7, -4294967296, -1), (1, 7, -4294967296, 0), (7, 1, -4294967296, 0), (13, 1, -4294967296, 1), (13, 7, -4294967296, 0), (13, 14, -4294967296, 0), (14, 1, -4294967296, 0), (14, 7, -4294967296, 0)])
theorem oo_Fa_blocksOf_at_Netail_Nehead_Nenear_Emblock_10 {kA : Nat → ClassId} : or_ok PRD kA GG o_Fa_blocksOf_at_Netail_Nehead_Nenear_Emblock_10 := by
  refine or_mk fun A ta ws vs hD hth hl => ?_
  intro t0 k0 t1 k1 t2 r2 t3 r3 t4 r4 t5 r5 t7 k7 t13 k13 t14 k14 t15 k15 t16 k16 t17 k17 d0 d1 d4 d7 d8 d9 d11 d13 d14 d15 d16 d17 d18 f0 f1 f3 f4 f5 f6 f7 f8 ta1 w1 le1 s1 f10 f11 f12 f13 f14 f15
  replace f0 := shm_4 f0
  replace f1 := shm_4 f1
  replace f3 := shm_5 f3
  replace f4 := shm_5 f4
  replace f5 := shm_5 f5
  replace f6 := shm_5 f6
  replace f7 := shm_5 f7
  replace f8 := shm_5 f8
  have s1 : (∀ b j, w_el ws b j = if b = v_ad (n_v vs 11) ∧ j = (v_iv (n_v vs 14)).toNat then v_iv (n_v vs 13) else w_el w1 b j) ∧ ∀ b k, w_fd ws b k = w_fd w1 b k := s1.2
  replace f10 := shm_37 f10
  replace f11 := shm_107 f11
  replace f12 := shm_6 f12
  replace f13 := shm_1601 f13
  replace f14 := shm_1602 f14
  replace f15 := shm_1603 f15
  have q6 : n_v vs 6 = n_v vs 0 := f3.symm
  have q7 : n_v vs 7 = n_v vs 1 := f4.symm
  have q8 : n_v vs 8 = n_v vs 2 := f5.symm
  have q9 : n_v vs 9 = n_v vs 3 := f6.symm
  have q10 : n_v vs 10 = n_v vs 4 := f7.symm
  have q11 : n_v vs 11 = n_v vs 5 := f8.symm
  rw [q11] at s1
  simp only [q11, q7, q8, q9, q6, q10] at f11 f12 f13 f14 f15
  have cr_2_999 : ta (v_ad (n_v vs 2)) = some 80 := r2
  have cr_3_999 : ta (v_ad (n_v vs 3)) = some 81 := r3
  have cr_4_999 : ta (v_ad (n_v vs 4)) = some 82 := r4
  have ad_5 : v_ad (n_v vs 5) = v_ad (n_v vs 5) := rfl
  have h11 : v_iv (n_v vs 15) = w_ei w1 (v_ad (n_v vs 5)) (v_iv (n_v vs 14)) := f11
  have hE_2_999_1 : ∀ j : Int, w_ei ws (v_ad (n_v vs 2)) j = w_ei w1 (v_ad (n_v vs 2)) j := el_kp s1.1 r5 cr_2_999 (by decide)
  have hE_3_999_1 : ∀ j : Int, w_ei ws (v_ad (n_v vs 3)) j = w_ei w1 (v_ad (n_v vs 3)) j := el_kp s1.1 r5 cr_3_999 (by decide)
  have hE_4_999_1 : ∀ j : Int, w_ei ws (v_ad (n_v vs 4)) j = w_ei w1 (v_ad (n_v vs 4)) j := el_kp s1.1 r5 cr_4_999 (by decide)
  have hE_5_999_1 : ∀ j : Int, 0 ≤ j → (j = v_iv (n_v vs 14) → w_ei ws (v_ad (n_v vs 5)) j = v_iv (n_v vs 13)) ∧ (j ≠ v_iv (n_v vs 14) → w_ei ws (v_ad (n_v vs 5)) j = w_ei w1 (v_ad (n_v vs 5)) j) := fun j hj => ⟨fun h => by unfold w_ei; rw [s1.1, if_pos ⟨ad_5.symm, by rw [h]⟩], fun h => by unfold w_ei; rw [s1.1, if_neg (fun e => h (by have := e.2; omega))]⟩
  have nf0 : fc_1 PRD (20, [11, 7, 17, 16], [61, 1, 567]) ws (vs) := by
    refine ⟨nf_in hl rfl, sgq_1601 ?_⟩
    · show LBI (w_ei ws (v_ad (n_v vs 11))) (v_iv (n_v vs 7)) (v_iv (n_v vs 17)) (v_iv (n_v vs 16))
      simp only [q7, q11]
      exact vc_Fa_blocksOf_at_Netail_Nehead_Nenear_Emblock_10_0 (v_iv (n_v vs 1)) (v_iv (n_v vs 13)) (v_iv (n_v vs 14)) (v_iv (n_v vs 16)) (v_iv (n_v vs 17)) (w_ei w1 (v_ad (n_v vs 5))) (w_ei w1 (v_ad (n_v vs 2))) (w_ei w1 (v_ad (n_v vs 3))) (w_ei w1 (v_ad (n_v vs 4))) (w_ei ws (v_ad (n_v vs 2))) (w_ei ws (v_ad (n_v vs 3))) (w_ei ws (v_ad (n_v vs 4))) (w_ei ws (v_ad (n_v vs 5))) k1 k13 k14 k16 k17 f0 f1 f13 hE_2_999_1 hE_3_999_1 hE_4_999_1 hE_5_999_1
  have nf1 : fc_1 PRD (20, [11, 8, 9, 7, 17, 16], [61, 3, 585]) ws (vs) := by
    refine ⟨nf_in hl rfl, sgq_1602 ?_⟩
    · show LBJ (w_ei ws (v_ad (n_v vs 11))) (w_ei ws (v_ad (n_v vs 8))) (w_ei ws (v_ad (n_v vs 9))) (v_iv (n_v vs 7)) (v_iv (n_v vs 17)) (v_iv (n_v vs 16))
      simp only [q7, q8, q9, q11]
      exact vc_Fa_blocksOf_at_Netail_Nehead_Nenear_Emblock_10_1 (v_iv (n_v vs 1)) (v_iv (n_v vs 13)) (v_iv (n_v vs 14)) (v_iv (n_v vs 15)) (v_iv (n_v vs 16)) (v_iv (n_v vs 17)) (w_ei w1 (v_ad (n_v vs 5))) (w_ei w1 (v_ad (n_v vs 2))) (w_ei w1 (v_ad (n_v vs 3))) (w_ei w1 (v_ad (n_v vs 4))) (w_ei ws (v_ad (n_v vs 2))) (w_ei ws (v_ad (n_v vs 3))) (w_ei ws (v_ad (n_v vs 4))) (w_ei ws (v_ad (n_v vs 5))) k1 k13 k14 k15 k16 k17 f0 f1 f10 h11 f12 f14 hE_2_999_1 hE_3_999_1 hE_4_999_1 hE_5_999_1
  have nf2 : fc_1 PRD (20, [11, 8, 9, 10, 6, 7, 17, 16], [61, 4, 593]) ws (vs) := by
    refine ⟨nf_in hl rfl, sgq_1603 ?_⟩
    · show LKJ (w_ei ws (v_ad (n_v vs 11))) (w_ei ws (v_ad (n_v vs 8))) (w_ei ws (v_ad (n_v vs 9))) (w_ei ws (v_ad (n_v vs 10))) (v_iv (n_v vs 6)) (v_iv (n_v vs 7)) (v_iv (n_v vs 17)) (v_iv (n_v vs 16))
      simp only [q6, q7, q8, q9, q10, q11]
      exact vc_Fa_blocksOf_at_Netail_Nehead_Nenear_Emblock_10_2 (v_iv (n_v vs 0)) (v_iv (n_v vs 1)) (v_iv (n_v vs 13)) (v_iv (n_v vs 14)) (v_iv (n_v vs 15)) (v_iv (n_v vs 16)) (v_iv (n_v vs 17)) (w_ei w1 (v_ad (n_v vs 5))) (w_ei w1 (v_ad (n_v vs 2))) (w_ei w1 (v_ad (n_v vs 3))) (w_ei w1 (v_ad (n_v vs 4))) (w_ei ws (v_ad (n_v vs 2))) (w_ei ws (v_ad (n_v vs 3))) (w_ei ws (v_ad (n_v vs 4))) (w_ei ws (v_ad (n_v vs 5))) k0 k1 k13 k14 k15 k16 k17 f0 f1 f10 h11 f12 f15 hE_2_999_1 hE_3_999_1 hE_4_999_1 hE_5_999_1
  have nf3 : fc_1 PRD (20, [17, 7], [50, 0, 0, 0, 2, 1, 0, 1, 1]) ws (vs) := by
    refine ⟨nf_in hl rfl, sgq_360 ?_⟩
    · show v_iv (n_v vs 17) ≤ v_iv (n_v vs 7)
      rw [q7]
      exact vc_Fa_blocksOf_at_Netail_Nehead_Nenear_Emblock_10_3 (v_iv (n_v vs 1)) (v_iv (n_v vs 7)) (v_iv (n_v vs 14)) (v_iv (n_v vs 15)) (v_iv (n_v vs 16)) (v_iv (n_v vs 17)) (w_ei w1 (v_ad (n_v vs 5))) (w_ei w1 (v_ad (n_v vs 2))) (w_ei w1 (v_ad (n_v vs 3))) (w_ei w1 (v_ad (n_v vs 4))) (w_ei ws (v_ad (n_v vs 2))) (w_ei ws (v_ad (n_v vs 3))) (w_ei ws (v_ad (n_v vs 4))) k1 k7 k14 k15 k17 d0 d1 d8 d9 d11 d13 h11 hE_2_999_1 hE_3_999_1 hE_4_999_1
  refine ⟨(fun _ h => (by cases h)), [], trivial, ?_, (fun _ h => (by cases h))⟩
  rw [List.append_nil]
  exact List.forall_mem_cons.mpr ⟨⟨show (20 : Nat) < 100 from by decide, nf0⟩, List.forall_mem_cons.mpr ⟨⟨show (20 : Nat) < 100 from by decide, nf1⟩, List.forall_mem_cons.mpr ⟨⟨show (20 : Nat) < 100 from by decide, nf2⟩, List.forall_mem_cons.mpr ⟨⟨show (20 : Nat) < 100 from by decide, nf3⟩, (fun _ h => (by cases h))⟩⟩⟩⟩
def n_Fa_blocksOf_at_Netail_Nehead_Nenear_Emblock_an : List an_T := [(3, [(0, (0, 0, 24, [])), (1, (0, 0, 72, [])), (2, (2, 0, 0, [80])), (3, (2, 0, 0, [81])), (4, (2, 0, 0, [82])), (5, (2, 0, 0, [26])), (6, (0, 0, 72, []))], [], (0, 0), [(0, 0, 99997), (1, 12, 72), (0, 0, 100000), (0, 0, 0), (0, 0, 0)], [(0, 6, (Int.negSucc 999999999999), 0), (1, 7, (Int.negSucc 999999999999), 0), (6, 0, (Int.negSucc 999999999999), 0), (7, 1, (Int.negSucc 999999999999), 0), (12, 1, (Int.negSucc 999999999999), 0), (12, 7, (Int.negSucc 999999999999), 0)], [], [(0, 0, 24, []), (0, 0, 72, []), (2, 0, 0, [80]), (2, 0, 0, [81]), (2, 0, 0, [82]), (2, 0, 0, [26])], 0, [], [(20, [11, 12], [61, 1, 565]), (24, [0, 6], []), (24, [1, 7], []), (24, [2, 8], []), (24, [3, 9], []), (24, [4, 10], []), (24, [5, 11], [])]), (32, [(0, (0, 0, 24, [])), (1, (0, 0, 72, [])), (2, (2, 0, 0, [80])), (3, (2, 0, 0, [81])), (4, (2, 0, 0, [82])), (5, (2, 0, 0, [26])), (6, (0, 0, 16777215, [])), (7, (0, 0, 24, []))], [], (0, 0), [(0, 0, 99968), (1, 13, 24), (0, 0, 100000), (0, 0, 0), (0, 0, 0)], [(0, 6, (Int.negSucc 999999999999), 0), (1, 7, (Int.negSucc 999999999999), 0), (6, 0, (Int.negSucc 999999999999), 0), (7, 1, (Int.negSucc 999999999999), 0), (13, 0, (Int.negSucc 999999999999), 0), (13, 6, (Int.negSucc 999999999999), 0)], [], [(0, 0, 24, []), (0, 0, 72, []), (2, 0, 0, [80]), (2, 0, 0, [81]), (2, 0, 0, [82]), (2, 0, 0, [26])], 0, [], [(20, [11, 7], [61, 1, 566]), (20, [11, 8, 9, 7], [61, 3, 580]), (20, [11, 8, 9, 10, 6, 7], [61, 4, 587]), (24, [0, 6], []), (24, [1, 7], []), (24, [2, 8], []), (24, [3, 9], []), (24, [4, 10], []), (24, [5, 11], [])]), (48, [(0, (0, 1, 24, [])), (1, (0, 0, 72, [])), (2, (2, 0, 0, [80])), (3, (2, 0, 0, [81])), (4, (2, 0, 0, [82])), (5, (2, 0, 0, [26])), (6, (0, 0, 16777215, [])), (7, (0, 0, 23, [])), (8, (0, 0, 16777215, [])), (9, (0, 0, 24, []))], [], (0, 0), [(0, 0, 99968), (1, 13, 24), (0, 0, 99952), (1, 15, 24), (0, 0, 100000)], [(0, 6, (Int.negSucc 999999999999), 0), (1, 7, (Int.negSucc 999999999999), 0), (6, 0, (Int.negSucc 999999999999), 0), (7, 1, (Int.negSucc 999999999999), 0), (13, 0, (Int.negSucc 999999999999), (Int.negSucc 0)), (13, 6, (Int.negSucc 999999999999), (Int.negSucc 0)), (15, 0, (Int.negSucc 999999999999), 0), (15, 6, (Int.negSucc 999999999999), 0)], [], [(0, 0, 24, []), (0, 0, 72, []), (2, 0, 0, [80]), (2, 0, 0, [81]), (2, 0, 0, [82]), (2, 0, 0, [26])], 0, [], [(20, [11, 7], [61, 1, 566]), (20, [11, 8, 9, 7], [61, 3, 580]), (20, [11, 8, 9, 10, 6, 7], [61, 4, 587]), (24, [0, 6], []), (24, [1, 7], []), (24, [2, 8], []), (24, [3, 9], []), (24, [4, 10], []), (24, [5, 11], [])]), (124, [(0, (0, 0, 24, [])), (1, (0, 0, 72, [])), (2, (2, 0, 0, [80])), (3, (2, 0, 0, [81])), (4, (2, 0, 0, [82])), (5, (2, 0, 0, [26])), (6, (0, 0, 16777215, [])), (7, (0, 0, 72, [])), (8, (0, 0, 72, []))], [], (0, 0), [(0, 0, 99876), (1, 14, 72), (0, 0, 100000), (0, 0, 0), (0, 0, 0)], [(0, 6, (Int.negSucc 999999999999), 0), (1, 7, (Int.negSucc 999999999999), 0), (6, 0, (Int.negSucc 999999999999), 0), (7, 1, (Int.negSucc 999999999999), 0), (13, 1, (Int.negSucc 999999999999), 1), (13, 7, (Int.negSucc 999999999999), 0), (13, 14, (Int.negSucc 999999999999), 0), (14, 1, (Int.negSucc 999999999999), 0), (14, 7, (Int.negSucc 999999999999), 0)], [], [(0, 0, 24, []), (0, 0, 72, []), (2, 0, 0, [80]), (2, 0, 0, [81]), (2, 0, 0, [82]), (2, 0, 0, [26])], 0, [], [(20, [11, 7, 14, 13], [61, 1, 567]), (20, [11, 8, 9, 7, 14, 13], [61, 3, 585]), (20, [11, 8, 9, 10, 6, 7, 14, 13], [61, 4, 593]), (20, [14, 7], [50, 0, 0, 0, 2, 1, 0, 1, 1]), (24, [0, 6], []), (24, [1, 7], []), (24, [2, 8], []), (24, [3, 9], []), (24, [4, 10], []), (24, [5, 11], [])])]
def t_Fa_blocksOf_at_Netail_Nehead_Nenear_Emblock_ct : ct_L := [(243, 110, e_Fa_spread_at_Nenear), (312, 114, e_Fa_uniteAt_at_Netail_Nehead_Emblock)]
set_option maxRecDepth 100000 in
theorem c_Fa_blocksOf_at_Netail_Nehead_Nenear_Emblock {l : Launch} {D : va_G} {kA : Nat → ClassId} (h_Fa_spread_at_Nenear : ct_ok PRD l D kA GG y_Fa_spread_at_Nenear z_Fa_spread_at_Nenear e_Fa_spread_at_Nenear) (h_Fa_uniteAt_at_Netail_Nehead_Emblock : ct_ok PRD l D kA GG y_Fa_uniteAt_at_Netail_Nehead_Emblock z_Fa_uniteAt_at_Netail_Nehead_Emblock e_Fa_uniteAt_at_Netail_Nehead_Emblock) : ct_ok PRD l D kA GG y_Fa_blocksOf_at_Netail_Nehead_Nenear_Emblock z_Fa_blocksOf_at_Netail_Nehead_Nenear_Emblock e_Fa_blocksOf_at_Netail_Nehead_Nenear_Emblock := chk_all_ok (FT := []) (PT := []) (CT := t_Fa_blocksOf_at_Netail_Nehead_Nenear_Emblock_ct) (KT := []) (NT := []) (AN := n_Fa_blocksOf_at_Netail_Nehead_Nenear_Emblock_an) (OT := [o_Fa_blocksOf_at_Netail_Nehead_Nenear_Emblock_0, o_Fa_blocksOf_at_Netail_Nehead_Nenear_Emblock_1, o_Fa_blocksOf_at_Netail_Nehead_Nenear_Emblock_2, o_Fa_blocksOf_at_Netail_Nehead_Nenear_Emblock_3, o_Fa_blocksOf_at_Netail_Nehead_Nenear_Emblock_4, o_Fa_blocksOf_at_Netail_Nehead_Nenear_Emblock_5, o_Fa_blocksOf_at_Netail_Nehead_Nenear_Emblock_6, o_Fa_blocksOf_at_Netail_Nehead_Nenear_Emblock_7, o_Fa_blocksOf_at_Netail_Nehead_Nenear_Emblock_8, o_Fa_blocksOf_at_Netail_Nehead_Nenear_Emblock_9, o_Fa_blocksOf_at_Netail_Nehead_Nenear_Emblock_10]) 5 408 (List.forall_mem_cons.mpr ⟨oo_Fa_blocksOf_at_Netail_Nehead_Nenear_Emblock_0, List.forall_mem_cons.mpr ⟨oo_Fa_blocksOf_at_Netail_Nehead_Nenear_Emblock_1, List.forall_mem_cons.mpr ⟨oo_Fa_blocksOf_at_Netail_Nehead_Nenear_Emblock_2, List.forall_mem_cons.mpr ⟨oo_Fa_blocksOf_at_Netail_Nehead_Nenear_Emblock_3, List.forall_mem_cons.mpr ⟨oo_Fa_blocksOf_at_Netail_Nehead_Nenear_Emblock_4, List.forall_mem_cons.mpr ⟨oo_Fa_blocksOf_at_Netail_Nehead_Nenear_Emblock_5, List.forall_mem_cons.mpr ⟨oo_Fa_blocksOf_at_Netail_Nehead_Nenear_Emblock_6, List.forall_mem_cons.mpr ⟨oo_Fa_blocksOf_at_Netail_Nehead_Nenear_Emblock_7, List.forall_mem_cons.mpr ⟨oo_Fa_blocksOf_at_Netail_Nehead_Nenear_Emblock_8, List.forall_mem_cons.mpr ⟨oo_Fa_blocksOf_at_Netail_Nehead_Nenear_Emblock_9, List.forall_mem_cons.mpr ⟨oo_Fa_blocksOf_at_Netail_Nehead_Nenear_Emblock_10, List.forall_mem_nil _⟩⟩⟩⟩⟩⟩⟩⟩⟩⟩⟩) (by decide +kernel) ⟨List.forall_mem_nil _, List.forall_mem_nil _, List.forall_mem_cons.mpr ⟨cl_static (y := y_Fa_spread_at_Nenear) h_Fa_spread_at_Nenear wm_821 wm_7 wm_819 wm_820 ⟨by decide, by decide, by decide +kernel⟩ (by decide), List.forall_mem_cons.mpr ⟨cl_static (y := y_Fa_uniteAt_at_Netail_Nehead_Emblock) h_Fa_uniteAt_at_Netail_Nehead_Emblock wm_833 wm_7 wm_831 wm_832 ⟨by decide, by decide, by decide +kernel⟩ (by decide), List.forall_mem_nil _⟩⟩, List.forall_mem_nil _, List.forall_mem_nil _, GG_pl⟩ (by decide +kernel)

set_option maxHeartbeats 4000000 in
theorem vc_Fa_blocksOf_at_Nptail_Nphead_Npnear_Emblock_0_0 (x6 : Int) (a5_0 : Int → Int) (k6 : 0 ≤ x6 ∧ x6 ≤ 0) : BL0 (a5_0) (x6) := by
  first
    | exact bl0_start (by omega)
def o_Fa_blocksOf_at_Nptail_Nphead_Npnear_Emblock_0 : or_T := (3, 7, [(6, (0, 0, 0, []))], [], [], [], [(20, [5, 6], [61, 1, 565]), (24, [0, 0], []), (24, [1, 1], []), (24, [2, 2], []), (24, [3, 3], []), (24, [4, 4], []), (24, [5, 5], [])], [], [])
theorem oo_Fa_blocksOf_at_Nptail_Nphead_Npnear_Emblock_0 {kA : Nat → ClassId} : or_ok PRD kA GG o_Fa_blocksOf_at_Nptail_Nphead_Npnear_Emblock_0 := by
  refine or_mk fun A ta ws vs hD hth hl => ?_
  intro t6 k6
  have nf0 : fc_1 PRD (20, [5, 6], [61, 1, 565]) ws (vs) := ⟨nf_in hl rfl, sgq_1600 (vc_Fa_blocksOf_at_Nptail_Nphead_Npnear_Emblock_0_0 (v_iv (n_v vs 6)) (w_ei ws (v_ad (n_v vs 5))) k6)⟩
  have nf1 : fc_1 PRD (24, [0, 0], []) ws (vs) := by
    refine ⟨nf_in hl rfl, sgq_1 ?_⟩
    · show n_v vs 0 = n_v vs 0
      first | rfl | simp only [true_and]
  have nf2 : fc_1 PRD (24, [1, 1], []) ws (vs) := by
    refine ⟨nf_in hl rfl, sgq_1 ?_⟩
    · show n_v vs 1 = n_v vs 1
      first | rfl | simp only [true_and]
  have nf3 : fc_1 PRD (24, [2, 2], []) ws (vs) := by
    refine ⟨nf_in hl rfl, sgq_1 ?_⟩
    · show n_v vs 2 = n_v vs 2
      first | rfl | simp only [true_and]
  have nf4 : fc_1 PRD (24, [3, 3], []) ws (vs) := by
    refine ⟨nf_in hl rfl, sgq_1 ?_⟩
    · show n_v vs 3 = n_v vs 3
      first | rfl | simp only [true_and]
  have nf5 : fc_1 PRD (24, [4, 4], []) ws (vs) := by
    refine ⟨nf_in hl rfl, sgq_1 ?_⟩
    · show n_v vs 4 = n_v vs 4
      first | rfl | simp only [true_and]
  have nf6 : fc_1 PRD (24, [5, 5], []) ws (vs) := by
    refine ⟨nf_in hl rfl, sgq_1 ?_⟩
    · show n_v vs 5 = n_v vs 5
      first | rfl | simp only [true_and]
  refine ⟨(fun _ h => (by cases h)), [], trivial, ?_, (fun _ h => (by cases h))⟩
  rw [List.append_nil]
  exact List.forall_mem_cons.mpr ⟨⟨show (20 : Nat) < 100 from by decide, nf0⟩, List.forall_mem_cons.mpr ⟨⟨show (24 : Nat) < 100 from by decide, nf1⟩, List.forall_mem_cons.mpr ⟨⟨show (24 : Nat) < 100 from by decide, nf2⟩, List.forall_mem_cons.mpr ⟨⟨show (24 : Nat) < 100 from by decide, nf3⟩, List.forall_mem_cons.mpr ⟨⟨show (24 : Nat) < 100 from by decide, nf4⟩, List.forall_mem_cons.mpr ⟨⟨show (24 : Nat) < 100 from by decide, nf5⟩, List.forall_mem_cons.mpr ⟨⟨show (24 : Nat) < 100 from by decide, nf6⟩, (fun _ h => (by cases h))⟩⟩⟩⟩⟩⟩⟩
set_option maxHeartbeats 4000000 in
theorem vc_Fa_blocksOf_at_Nptail_Nphead_Npnear_Emblock_1_0 (x1 : Int) (x12 : Int) (a5_0 : Int → Int) (k1 : 0 ≤ x1 ∧ x1 ≤ 72) (k12 : 0 ≤ x12 ∧ x12 ≤ 72) (f2 : x1 ≤ x12) (f3 : BL0 (a5_0) (x12)) : BLQ (a5_0) (x1) := by
  first
    | exact blq_start ‹BL0 _ _› (by omega)
set_option maxHeartbeats 4000000 in
theorem vc_Fa_blocksOf_at_Nptail_Nphead_Npnear_Emblock_1_1 (x1 : Int) (x12 : Int) (a5_0 : Int → Int) (a2_0 : Int → Int) (a3_0 : Int → Int) (k1 : 0 ≤ x1 ∧ x1 ≤ 72) (k12 : 0 ≤ x12 ∧ x12 ≤ 72) (f2 : x1 ≤ x12) (f3 : BL0 (a5_0) (x12)) : BLZ (a5_0) (a2_0) (a3_0) (x1) := by
  first
    | exact blz_start ‹BL0 _ _› (by omega)
set_option maxHeartbeats 4000000 in
theorem vc_Fa_blocksOf_at_Nptail_Nphead_Npnear_Emblock_1_2 (x0 : Int) (x1 : Int) (x12 : Int) (a5_0 : Int → Int) (a2_0 : Int → Int) (a3_0 : Int → Int) (a4_0 : Int → Int) (k0 : 0 ≤ x0 ∧ x0 ≤ 25) (k1 : 0 ≤ x1 ∧ x1 ≤ 72) (k12 : 0 ≤ x12 ∧ x12 ≤ 72) (f2 : x1 ≤ x12) (f3 : BL0 (a5_0) (x12)) : BCU (a5_0) (a2_0) (a3_0) (a4_0) (x0) (x1) := by
  first
    | exact bcu_start ‹BL0 _ _› (by omega)
def o_Fa_blocksOf_at_Nptail_Nphead_Npnear_Emblock_1 : or_T := (32, 18, [(0, (0, 0, 25, [])), (1, (0, 0, 72, [])), (12, (0, 0, 72, []))], [(7, [12, 7], [3]), (20, [11, 12], [61, 1, 565]), (24, [0, 6], []), (24, [1, 7], []), (24, [2, 8], []), (24, [3, 9], []), (24, [4, 10], []), (24, [5, 11], [])], [], [], [(20, [11, 7], [61, 1, 566]), (20, [11, 8, 9, 7], [61, 3, 580]), (20, [11, 8, 9, 10, 6, 7], [61, 4, 587])], [], [])
theorem oo_Fa_blocksOf_at_Nptail_Nphead_Npnear_Emblock_1 {kA : Nat → ClassId} : or_ok PRD kA GG o_Fa_blocksOf_at_Nptail_Nphead_Npnear_Emblock_1 := by
  refine or_mk fun A ta ws vs hD hth hl => ?_
  intro t0 k0 t1 k1 t12 k12 f2 f3 f4 f5 f6 f7 f8 f9
  replace f2 := shm_2 f2
  replace f3 := shm_1600 f3
  replace f4 := shm_5 f4
  replace f5 := shm_5 f5
  replace f6 := shm_5 f6
  replace f7 := shm_5 f7
  replace f8 := shm_5 f8
  replace f9 := shm_5 f9
  have q6 : n_v vs 6 = n_v vs 0 := f4.symm
  have q7 : n_v vs 7 = n_v vs 1 := f5.symm
  have q8 : n_v vs 8 = n_v vs 2 := f6.symm
  have q9 : n_v vs 9 = n_v vs 3 := f7.symm
  have q10 : n_v vs 10 = n_v vs 4 := f8.symm
  have q11 : n_v vs 11 = n_v vs 5 := f9.symm
  simp only [q7, q11] at f2 f3
  have nf0 : fc_1 PRD (20, [11, 7], [61, 1, 566]) ws (vs) := by
    refine ⟨nf_in hl rfl, sgq_365 ?_⟩
    · show BLQ (w_ei ws (v_ad (n_v vs 11))) (v_iv (n_v vs 7))
      simp only [q7, q11]
      exact vc_Fa_blocksOf_at_Nptail_Nphead_Npnear_Emblock_1_0 (v_iv (n_v vs 1)) (v_iv (n_v vs 12)) (w_ei ws (v_ad (n_v vs 5))) k1 k12 f2 f3
  have nf1 : fc_1 PRD (20, [11, 8, 9, 7], [61, 3, 580]) ws (vs) := by
    refine ⟨nf_in hl rfl, sgq_1190 ?_⟩
    · show BLZ (w_ei ws (v_ad (n_v vs 11))) (w_ei ws (v_ad (n_v vs 8))) (w_ei ws (v_ad (n_v vs 9))) (v_iv (n_v vs 7))
      simp only [q7, q8, q9, q11]
      exact vc_Fa_blocksOf_at_Nptail_Nphead_Npnear_Emblock_1_1 (v_iv (n_v vs 1)) (v_iv (n_v vs 12)) (w_ei ws (v_ad (n_v vs 5))) (w_ei ws (v_ad (n_v vs 2))) (w_ei ws (v_ad (n_v vs 3))) k1 k12 f2 f3
  have nf2 : fc_1 PRD (20, [11, 8, 9, 10, 6, 7], [61, 4, 587]) ws (vs) := by
    refine ⟨nf_in hl rfl, sgq_1191 ?_⟩
    · show BCU (w_ei ws (v_ad (n_v vs 11))) (w_ei ws (v_ad (n_v vs 8))) (w_ei ws (v_ad (n_v vs 9))) (w_ei ws (v_ad (n_v vs 10))) (v_iv (n_v vs 6)) (v_iv (n_v vs 7))
      simp only [q6, q7, q8, q9, q10, q11]
      exact vc_Fa_blocksOf_at_Nptail_Nphead_Npnear_Emblock_1_2 (v_iv (n_v vs 0)) (v_iv (n_v vs 1)) (v_iv (n_v vs 12)) (w_ei ws (v_ad (n_v vs 5))) (w_ei ws (v_ad (n_v vs 2))) (w_ei ws (v_ad (n_v vs 3))) (w_ei ws (v_ad (n_v vs 4))) k0 k1 k12 f2 f3
  refine ⟨(fun _ h => (by cases h)), [], trivial, ?_, (fun _ h => (by cases h))⟩
  rw [List.append_nil]
  exact List.forall_mem_cons.mpr ⟨⟨show (20 : Nat) < 100 from by decide, nf0⟩, List.forall_mem_cons.mpr ⟨⟨show (20 : Nat) < 100 from by decide, nf1⟩, List.forall_mem_cons.mpr ⟨⟨show (20 : Nat) < 100 from by decide, nf2⟩, (fun _ h => (by cases h))⟩⟩⟩
set_option maxHeartbeats 4000000 in
theorem vc_Fa_blocksOf_at_Nptail_Nphead_Npnear_Emblock_2_0 (x12 : Int) (x13 : Int) (a5_1 : Int → Int) (a5_0 : Int → Int) (k12 : 0 ≤ x12 ∧ x12 ≤ 71) (k13 : 1 ≤ x13 ∧ x13 ≤ 72) (f0 : x13 = x12 + 1) (f9 : BL0 (a5_1) (x12)) (hE_5_999_1 : ∀ j : Int, 0 ≤ j → (j = x12 → a5_0 j = x12) ∧ (j ≠ x12 → a5_0 j = a5_1 j)) : BL0 (a5_0) (x13) := by
  first
    | exact bl0_step ‹BL0 _ _› (by assumption) (by omega) (by omega) (by omega)
def o_Fa_blocksOf_at_Nptail_Nphead_Npnear_Emblock_2 : or_T := (3, 14, [(5, (2, 0, 0, [26])), (12, (0, 0, 71, [])), (13, (0, 1, 72, []))], [(6, [13, 12], [1]), (24, [5, 11], []), (100, [11, 12, 12], []), (20, [11, 12], [61, 1, 565])], [], [], [(20, [11, 13], [61, 1, 565])], [], [(13, 12, 1, 1), (12, 7, -4294967296, -1), (12, 1, -4294967296, 0), (12, 7, -4294967296, 0)])
theorem oo_Fa_blocksOf_at_Nptail_Nphead_Npnear_Emblock_2 {kA : Nat → ClassId} : or_ok PRD kA GG o_Fa_blocksOf_at_Nptail_Nphead_Npnear_Emblock_2 := by
  refine or_mk fun A ta ws vs hD hth hl => ?_
  intro t5 r5 t12 k12 t13 k13 d0 d4 d9 d10 f0 f6 ta1 w1 le1 s1 f9
  replace f0 := shm_4 f0
  replace f6 := shm_5 f6
  have s1 : (∀ b j, w_el ws b j = if b = v_ad (n_v vs 11) ∧ j = (v_iv (n_v vs 12)).toNat then v_iv (n_v vs 12) else w_el w1 b j) ∧ ∀ b k, w_fd ws b k = w_fd w1 b k := s1.2
  replace f9 := shm_1600 f9
  have q11 : n_v vs 11 = n_v vs 5 := f6.symm
  rw [q11] at s1
  simp only [q11] at f9
  have ad_5 : v_ad (n_v vs 5) = v_ad (n_v vs 5) := rfl
  have hE_5_999_1 : ∀ j : Int, 0 ≤ j → (j = v_iv (n_v vs 12) → w_ei ws (v_ad (n_v vs 5)) j = v_iv (n_v vs 12)) ∧ (j ≠ v_iv (n_v vs 12) → w_ei ws (v_ad (n_v vs 5)) j = w_ei w1 (v_ad (n_v vs 5)) j) := fun j hj => ⟨fun h => by unfold w_ei; rw [s1.1, if_pos ⟨ad_5.symm, by rw [h]⟩], fun h => by unfold w_ei; rw [s1.1, if_neg (fun e => h (by have := e.2; omega))]⟩
  have nf0 : fc_1 PRD (20, [11, 13], [61, 1, 565]) ws (vs) := by
    refine ⟨nf_in hl rfl, sgq_1600 ?_⟩
    · show BL0 (w_ei ws (v_ad (n_v vs 11))) (v_iv (n_v vs 13))
      rw [q11]
      exact vc_Fa_blocksOf_at_Nptail_Nphead_Npnear_Emblock_2_0 (v_iv (n_v vs 12)) (v_iv (n_v vs 13)) (w_ei w1 (v_ad (n_v vs 5))) (w_ei ws (v_ad (n_v vs 5))) k12 k13 f0 f9 hE_5_999_1
  refine ⟨(fun _ h => (by cases h)), [], trivial, ?_, (fun _ h => (by cases h))⟩
  rw [List.append_nil]
  exact List.forall_mem_cons.mpr ⟨⟨show (20 : Nat) < 100 from by decide, nf0⟩, (fun _ h => (by cases h))⟩
set_option maxHeartbeats 4000000 in
theorem vc_Fa_blocksOf_at_Nptail_Nphead_Npnear_Emblock_3_0 (x1 : Int) (x14 : Int) (x15 : Int) (a5_0 : Int → Int) (k1 : 0 ≤ x1 ∧ x1 ≤ 72) (k14 : 0 ≤ x14 ∧ x14 ≤ 0) (k15 : 0 ≤ x15 ∧ x15 ≤ 0) (f1 : BLQ (a5_0) (x1)) : LBI (a5_0) (x1) (x15) (x14) := by
  first
    | exact lbi_start ‹BLQ _ _› (by omega) (by omega)
set_option maxHeartbeats 4000000 in
theorem vc_Fa_blocksOf_at_Nptail_Nphead_Npnear_Emblock_3_1 (x1 : Int) (x14 : Int) (x15 : Int) (a5_0 : Int → Int) (a2_0 : Int → Int) (a3_0 : Int → Int) (k1 : 0 ≤ x1 ∧ x1 ≤ 72) (k14 : 0 ≤ x14 ∧ x14 ≤ 0) (k15 : 0 ≤ x15 ∧ x15 ≤ 0) (f2 : BLZ (a5_0) (a2_0) (a3_0) (x1)) : LBJ (a5_0) (a2_0) (a3_0) (x1) (x15) (x14) := by
  first
    | exact lbj_start ‹BLZ _ _ _ _› (by omega)
set_option maxHeartbeats 4000000 in
theorem vc_Fa_blocksOf_at_Nptail_Nphead_Npnear_Emblock_3_2 (x0 : Int) (x1 : Int) (x14 : Int) (x15 : Int) (a5_0 : Int → Int) (a2_0 : Int → Int) (a3_0 : Int → Int) (a4_0 : Int → Int) (k0 : 0 ≤ x0 ∧ x0 ≤ 25) (k1 : 0 ≤ x1 ∧ x1 ≤ 72) (k14 : 0 ≤ x14 ∧ x14 ≤ 0) (k15 : 0 ≤ x15 ∧ x15 ≤ 0) (f2 : BLZ (a5_0) (a2_0) (a3_0) (x1)) (f3 : BCU (a5_0) (a2_0) (a3_0) (a4_0) (x0) (x1)) : LKJ (a5_0) (a2_0) (a3_0) (a4_0) (x0) (x1) (x15) (x14) := by
  first
    | exact lkj_start ‹BLZ _ _ _ _› ‹BCU _ _ _ _ _ _› (by omega)
set_option maxHeartbeats 4000000 in
theorem vc_Fa_blocksOf_at_Nptail_Nphead_Npnear_Emblock_3_3 (x1 : Int) (x7 : Int) (x14 : Int) (x15 : Int) (k1 : 0 ≤ x1 ∧ x1 ≤ 72) (k7 : 0 ≤ x7 ∧ x7 ≤ 72) (k15 : 0 ≤ x15 ∧ x15 ≤ 0) (d2 : x7 + (-4294967296) ≤ x1 ∧ x1 ≤ x7 + 0) (d4 : x1 + (-4294967296) ≤ x7 ∧ x7 ≤ x1 + 0) : x15 ≤ x1 := by
  first
    | omega
    | (have q3 := (‹LBI _ _ _ _›).2.2.1; omega)
    | (have q := (‹LBI _ _ _ _›).2.2.2.2.1 x14 (by omega) (by omega); omega)
    | (have q := (‹LBI _ _ _ _›).2.2.2.2.1 x14 (by omega) (by omega); have q2 := (‹LBI _ _ _ _›).2.2.2.1 x16 (by omega) (by omega); have q3 := (‹LBI _ _ _ _›).2.2.1; omega)
def o_Fa_blocksOf_at_Nptail_Nphead_Npnear_Emblock_3 : or_T := (124, 16, [(0, (0, 0, 25, [])), (1, (0, 0, 72, [])), (7, (0, 0, 72, [])), (14, (0, 0, 0, [])), (15, (0, 0, 0, []))], [(20, [11, 7], [61, 1, 566]), (20, [11, 8, 9, 7], [61, 3, 580]), (20, [11, 8, 9, 10, 6, 7], [61, 4, 587]), (24, [0, 6], []), (24, [1, 7], []), (24, [2, 8], []), (24, [3, 9], []), (24, [4, 10], []), (24, [5, 11], [])], [], [], [(20, [11, 7, 15, 14], [61, 1, 567]), (20, [11, 8, 9, 7, 15, 14], [61, 3, 585]), (20, [11, 8, 9, 10, 6, 7, 15, 14], [61, 4, 593]), (20, [15, 7], [50, 0, 0, 0, 2, 1, 0, 1, 1])], [], [(1, 7, -4294967296, 0), (7, 1, -4294967296, 0)])
theorem oo_Fa_blocksOf_at_Nptail_Nphead_Npnear_Emblock_3 {kA : Nat → ClassId} : or_ok PRD kA GG o_Fa_blocksOf_at_Nptail_Nphead_Npnear_Emblock_3 := by
  refine or_mk fun A ta ws vs hD hth hl => ?_
  intro t0 k0 t1 k1 t7 k7 t14 k14 t15 k15 d2 d4 f1 f2 f3 f4 f5 f6 f7 f8 f9
  replace f1 := shm_365 f1
  replace f2 := shm_1190 f2
  replace f3 := shm_1191 f3
  replace f4 := shm_5 f4
  replace f5 := shm_5 f5
  replace f6 := shm_5 f6
  replace f7 := shm_5 f7
  replace f8 := shm_5 f8
  replace f9 := shm_5 f9
  have q6 : n_v vs 6 = n_v vs 0 := f4.symm
  have q7 : n_v vs 7 = n_v vs 1 := f5.symm
  have q8 : n_v vs 8 = n_v vs 2 := f6.symm
  have q9 : n_v vs 9 = n_v vs 3 := f7.symm
  have q10 : n_v vs 10 = n_v vs 4 := f8.symm
  have q11 : n_v vs 11 = n_v vs 5 := f9.symm
  simp only [q6, q7, q11, q8, q9, q10] at f1 f2 f3
  have nf0 : fc_1 PRD (20, [11, 7, 15, 14], [61, 1, 567]) ws (vs) := by
    refine ⟨nf_in hl rfl, sgq_1601 ?_⟩
    · show LBI (w_ei ws (v_ad (n_v vs 11))) (v_iv (n_v vs 7)) (v_iv (n_v vs 15)) (v_iv (n_v vs 14))
      simp only [q7, q11]
      exact vc_Fa_blocksOf_at_Nptail_Nphead_Npnear_Emblock_3_0 (v_iv (n_v vs 1)) (v_iv (n_v vs 14)) (v_iv (n_v vs 15)) (w_ei ws (v_ad (n_v vs 5))) k1 k14 k15 f1
  have nf1 : fc_1 PRD (20, [11, 8, 9, 7, 15, 14], [61, 3, 585]) ws (vs) := by
    refine ⟨nf_in hl rfl, sgq_1602 ?_⟩
    · show LBJ (w_ei ws (v_ad (n_v vs 11))) (w_ei ws (v_ad (n_v vs 8))) (w_ei ws (v_ad (n_v vs 9))) (v_iv (n_v vs 7)) (v_iv (n_v vs 15)) (v_iv (n_v vs 14))
      simp only [q7, q8, q9, q11]
      exact vc_Fa_blocksOf_at_Nptail_Nphead_Npnear_Emblock_3_1 (v_iv (n_v vs 1)) (v_iv (n_v vs 14)) (v_iv (n_v vs 15)) (w_ei ws (v_ad (n_v vs 5))) (w_ei ws (v_ad (n_v vs 2))) (w_ei ws (v_ad (n_v vs 3))) k1 k14 k15 f2
  have nf2 : fc_1 PRD (20, [11, 8, 9, 10, 6, 7, 15, 14], [61, 4, 593]) ws (vs) := by
    refine ⟨nf_in hl rfl, sgq_1603 ?_⟩
    · show LKJ (w_ei ws (v_ad (n_v vs 11))) (w_ei ws (v_ad (n_v vs 8))) (w_ei ws (v_ad (n_v vs 9))) (w_ei ws (v_ad (n_v vs 10))) (v_iv (n_v vs 6)) (v_iv (n_v vs 7)) (v_iv (n_v vs 15)) (v_iv (n_v vs 14))
      simp only [q6, q7, q8, q9, q10, q11]
      exact vc_Fa_blocksOf_at_Nptail_Nphead_Npnear_Emblock_3_2 (v_iv (n_v vs 0)) (v_iv (n_v vs 1)) (v_iv (n_v vs 14)) (v_iv (n_v vs 15)) (w_ei ws (v_ad (n_v vs 5))) (w_ei ws (v_ad (n_v vs 2))) (w_ei ws (v_ad (n_v vs 3))) (w_ei ws (v_ad (n_v vs 4))) k0 k1 k14 k15 f2 f3
  have nf3 : fc_1 PRD (20, [15, 7], [50, 0, 0, 0, 2, 1, 0, 1, 1]) ws (vs) := by
    refine ⟨nf_in hl rfl, sgq_360 ?_⟩
    · show v_iv (n_v vs 15) ≤ v_iv (n_v vs 7)
      rw [q7]
      exact vc_Fa_blocksOf_at_Nptail_Nphead_Npnear_Emblock_3_3 (v_iv (n_v vs 1)) (v_iv (n_v vs 7)) (v_iv (n_v vs 14)) (v_iv (n_v vs 15)) k1 k7 k15 d2 d4
  refine ⟨(fun _ h => (by cases h)), [], trivial, ?_, (fun _ h => (by cases h))⟩
  rw [List.append_nil]
  exact List.forall_mem_cons.mpr ⟨⟨show (20 : Nat) < 100 from by decide, nf0⟩, List.forall_mem_cons.mpr ⟨⟨show (20 : Nat) < 100 from by decide, nf1⟩, List.forall_mem_cons.mpr ⟨⟨show (20 : Nat) < 100 from by decide, nf2⟩, List.forall_mem_cons.mpr ⟨⟨show (20 : Nat) < 100 from by decide, nf3⟩, (fun _ h => (by cases h))⟩⟩⟩⟩
set_option maxHeartbeats 4000000 in
theorem vc_Fa_blocksOf_at_Nptail_Nphead_Npnear_Emblock_4_1 (x0 : Int) (x6 : Int) (x14 : Int) (x16 : Int) (gy : Int) (k0 : 1 ≤ x0 ∧ x0 ≤ 25) (k6 : 1 ≤ x6 ∧ x6 ≤ 25) (d1 : x6 + (-4294967296) ≤ x0 ∧ x0 ≤ x6 + 0) (d3 : x0 + (-4294967296) ≤ x6 ∧ x6 ≤ x0 + 0) (ey2 : gy = x0) : 1 * gy + ((-1) * x0 + 0) ≤ 0 := by
  first
    | omega
    | (have q3 := (‹LBI _ _ _ _›).2.2.1; omega)
    | (have q := (‹LBI _ _ _ _›).2.2.2.2.1 x14 (by omega) (by omega); omega)
    | (have q := (‹LBI _ _ _ _›).2.2.2.2.1 x14 (by omega) (by omega); have q2 := (‹LBI _ _ _ _›).2.2.2.1 x16 (by omega) (by omega); have q3 := (‹LBI _ _ _ _›).2.2.1; omega)
set_option maxHeartbeats 4000000 in
theorem vc_Fa_blocksOf_at_Nptail_Nphead_Npnear_Emblock_4_2 (x0 : Int) (x6 : Int) (x14 : Int) (x16 : Int) (gy : Int) (k0 : 1 ≤ x0 ∧ x0 ≤ 25) (k6 : 1 ≤ x6 ∧ x6 ≤ 25) (d1 : x6 + (-4294967296) ≤ x0 ∧ x0 ≤ x6 + 0) (d3 : x0 + (-4294967296) ≤ x6 ∧ x6 ≤ x0 + 0) (ey2 : gy = x0) : (-1) * gy + (1 * x0 + 0) ≤ 0 := by
  first
    | omega
    | (have q3 := (‹LBI _ _ _ _›).2.2.1; omega)
    | (have q := (‹LBI _ _ _ _›).2.2.2.2.1 x14 (by omega) (by omega); omega)
    | (have q := (‹LBI _ _ _ _›).2.2.2.2.1 x14 (by omega) (by omega); have q2 := (‹LBI _ _ _ _›).2.2.2.1 x16 (by omega) (by omega); have q3 := (‹LBI _ _ _ _›).2.2.1; omega)
set_option maxHeartbeats 4000000 in
theorem vc_Fa_blocksOf_at_Nptail_Nphead_Npnear_Emblock_4_3 (x1 : Int) (a5_0 : Int → Int) (k1 : 0 ≤ x1 ∧ x1 ≤ 72) (f12 : BLQ (a5_0) (x1)) : BLQ (a5_0) (x1) := by
  first
    | assumption
set_option maxHeartbeats 4000000 in
theorem vc_Fa_blocksOf_at_Nptail_Nphead_Npnear_Emblock_4_4 (x1 : Int) (a5_0 : Int → Int) (a2_0 : Int → Int) (a3_0 : Int → Int) (k1 : 0 ≤ x1 ∧ x1 ≤ 72) (f13 : BLZ (a5_0) (a2_0) (a3_0) (x1)) : BLZ (a5_0) (a2_0) (a3_0) (x1) := by
  first
    | assumption
set_option maxHeartbeats 4000000 in
theorem vc_Fa_blocksOf_at_Nptail_Nphead_Npnear_Emblock_4_5 (x0 : Int) (x1 : Int) (a4_0 : Int → Int) (a5_0 : Int → Int) (a2_0 : Int → Int) (a3_0 : Int → Int) (gy : Int) (k0 : 1 ≤ x0 ∧ x0 ≤ 25) (k1 : 0 ≤ x1 ∧ x1 ≤ 72) (f14 : BCU (a5_0) (a2_0) (a3_0) (a4_0) (x0) (x1)) (ey2 : gy = x0) : BCU (a5_0) (a2_0) (a3_0) (a4_0) (gy) (x1) := by
  first
    | assumption
    | (rw [show gy = x0 by omega]; assumption)
    | (rw [show x0 = x31 by omega]; assumption)
set_option maxHeartbeats 4000000 in
theorem vc_Fa_blocksOf_at_Nptail_Nphead_Npnear_Emblock_4_6 (x0 : Int) (x1 : Int) (x12 : Int) (x13 : Int) (x15 : Int) (x19 : Int) (x20 : Int) (x21 : Int) (x22 : Int) (x23 : Int) (x24 : Int) (x25 : Int) (x26 : Int) (a4_0 : Int → Int) (a2_0 : Int → Int) (a3_0 : Int → Int) (gy : Int) (k0 : 1 ≤ x0 ∧ x0 ≤ 25) (k1 : 0 ≤ x1 ∧ x1 ≤ 72) (k12 : 0 ≤ x12 ∧ x12 ≤ 33554431) (k13 : 0 ≤ x13 ∧ x13 ≤ 24) (k15 : 0 ≤ x15 ∧ x15 ≤ 24) (k19 : 1 ≤ x19 ∧ x19 ≤ 1) (k20 : 1 ≤ x20 ∧ x20 ≤ 16777216) (k21 : 1 ≤ x21 ∧ x21 ≤ 1) (k22 : 1 ≤ x22 ∧ x22 ≤ 16777216) (k23 : (-1) ≤ x23 ∧ x23 ≤ (-1)) (k24 : (-2147483648) ≤ x24 ∧ x24 ≤ 2147483647) (k25 : 0 ≤ x25 ∧ x25 ≤ 33554431) (k26 : 0 ≤ x26 ∧ x26 ≤ 33554431) (f2 : SPZ (a4_0) (x0) (x20) (x25) (x26)) (f3 : bvp (x25) = bvp (x12) &&& bvp (x24)) (f4 : bvp (x24) = bvp (x22) ^^^ bvp (x23)) (f5 : bvp (x22) = bvp (x21) <<< (x13).toNat) (f6 : bvp (x20) = bvp (x19) <<< (x15).toNat) (ey2 : gy = x0) : USD (a2_0) (a3_0) (a4_0) (gy) (x1) (x13) (x26) := by
  first
    | (rw [show gy = x0 by omega]
       exact usd_of (q := x20) (al := x25) (w := x15) ‹SPZ _ _ _ _ _› (by rw [show (1 : Int) = x19 by omega]; assumption) (by omega) (by omega) (fun x a b z e => ((bit_xor (by assumption : bvp x24 = _) (by omega) a b).mp ((bit_and (by assumption : bvp x25 = _) x).mp z).2) ((bit_shl (by assumption : bvp x22 = _) (by omega) (by omega) a b).mpr e)))
  
set_option maxHeartbeats 4000000 in
theorem vc_Fa_blocksOf_at_Nptail_Nphead_Npnear_Emblock_4_7 (x0 : Int) (x14 : Int) (x16 : Int) (gy : Int) (k0 : 1 ≤ x0 ∧ x0 ≤ 25) (ey2 : gy = x0) : gy = x0 := by
  first
    | omega
    | (have q3 := (‹LBI _ _ _ _›).2.2.1; omega)
    | (have q := (‹LBI _ _ _ _›).2.2.2.2.1 x14 (by omega) (by omega); omega)
    | (have q := (‹LBI _ _ _ _›).2.2.2.2.1 x14 (by omega) (by omega); have q2 := (‹LBI _ _ _ _›).2.2.2.1 x16 (by omega) (by omega); have q3 := (‹LBI _ _ _ _›).2.2.1; omega)
def o_Fa_blocksOf_at_Nptail_Nphead_Npnear_Emblock_4 : or_T := (103, 30, [(0, (0, 1, 25, [])), (1, (0, 0, 72, [])), (4, (2, 0, 0, [142])), (6, (0, 1, 25, [])), (12, (0, 0, 33554431, [])), (13, (0, 0, 24, [])), (15, (0, 0, 24, [])), (19, (0, 1, 1, [])), (20, (0, 1, 16777216, [])), (21, (0, 1, 1, [])), (22, (0, 1, 16777216, [])), (23, (0, -1, -1, [])), (24, (0, -2147483648, 2147483647, [])), (25, (0, 0, 33554431, [])), (26, (0, 0, 33554431, []))], [(20, [10, 6, 20, 25, 26], [61, 1, 579]), (16, [25, 12, 24], [0]), (16, [24, 22, 23], [2]), (16, [22, 21, 13], [3]), (16, [20, 19, 15], [3]), (20, [11, 7], [61, 1, 566]), (20, [11, 8, 9, 7], [61, 3, 580]), (20, [11, 8, 9, 10, 6, 7], [61, 4, 587]), (24, [0, 6], []), (24, [1, 7], []), (24, [2, 8], []), (24, [3, 9], []), (24, [4, 10], []), (24, [5, 11], [])], [], [(2, 0, 0, [142]), (0, 0, 25, [])], [(24, [4, 30], []), (23, [31, 6], [0, 1, -1]), (23, [31, 6], [0, -1, 1]), (20, [11, 7], [61, 1, 566]), (20, [11, 8, 9, 7], [61, 3, 580]), (20, [11, 8, 9, 30, 31, 7], [61, 4, 587]), (20, [8, 9, 30, 31, 7, 13, 26], [61, 3, 588]), (20, [31, 6], [50, 0, 0, 1, 2, 1, 0, 1, 1])], [], [(0, 6, -4294967296, 0), (6, 0, -4294967296, 0), (13, 0, -4294967296, -1), (15, 0, -4294967296, 0)])
theorem oo_Fa_blocksOf_at_Nptail_Nphead_Npnear_Emblock_4 {kA : Nat → ClassId} : or_ok PRD kA GG o_Fa_blocksOf_at_Nptail_Nphead_Npnear_Emblock_4 := by
  refine or_mk fun A ta ws vs hD hth hl => ?_
  intro t0 k0 t1 k1 t4 r4 t6 k6 t12 k12 t13 k13 t15 k15 t19 k19 t20 k20 t21 k21 t22 k22 t23 k23 t24 k24 t25 k25 t26 k26 d1 d3 d5 d7 f2 f3 f4 f5 f6 f12 f13 f14 f15 f16 f17 f18 f19 f20
  replace f2 := shm_822 f2
  replace f3 := shm_11 f3
  replace f4 := shm_33 f4
  replace f5 := shm_349 f5
  replace f6 := shm_349 f6
  replace f12 := shm_365 f12
  replace f13 := shm_1190 f13
  replace f14 := shm_1191 f14
  replace f15 := shm_5 f15
  replace f16 := shm_5 f16
  replace f17 := shm_5 f17
  replace f18 := shm_5 f18
  replace f19 := shm_5 f19
  replace f20 := shm_5 f20
  have q6 : n_v vs 6 = n_v vs 0 := f15.symm
  have q7 : n_v vs 7 = n_v vs 1 := f16.symm
  have q8 : n_v vs 8 = n_v vs 2 := f17.symm
  have q9 : n_v vs 9 = n_v vs 3 := f18.symm
  have q10 : n_v vs 10 = n_v vs 4 := f19.symm
  have q11 : n_v vs 11 = n_v vs 5 := f20.symm
  simp only [q6, q10, q7, q11, q8, q9] at f2 f12 f13 f14
  obtain ⟨y, ey, hy⟩ := iv_ex (ta := ta) (lo := 0) (hi := 25) (z := v_iv (n_v vs 0)) (by omega) (by omega) (by omega) (by omega)
  have ey2 : v_iv (Value.int y) = v_iv (n_v vs 0) := ey
  have ey3 : 0 ≤ v_iv (Value.int y) ∧ v_iv (Value.int y) ≤ 25 := tv_rng hy
  have e_4 : n_v (vs ++ [n_v vs 4, Value.int y]) 4 = n_v vs 4 := n_v_old (by rw [hl]; decide)
  have e_6 : n_v (vs ++ [n_v vs 4, Value.int y]) 6 = n_v vs 6 := n_v_old (by rw [hl]; decide)
  have e_7 : n_v (vs ++ [n_v vs 4, Value.int y]) 7 = n_v vs 7 := n_v_old (by rw [hl]; decide)
  have e_8 : n_v (vs ++ [n_v vs 4, Value.int y]) 8 = n_v vs 8 := n_v_old (by rw [hl]; decide)
  have e_9 : n_v (vs ++ [n_v vs 4, Value.int y]) 9 = n_v vs 9 := n_v_old (by rw [hl]; decide)
  have e_11 : n_v (vs ++ [n_v vs 4, Value.int y]) 11 = n_v vs 11 := n_v_old (by rw [hl]; decide)
  have e_13 : n_v (vs ++ [n_v vs 4, Value.int y]) 13 = n_v vs 13 := n_v_old (by rw [hl]; decide)
  have e_26 : n_v (vs ++ [n_v vs 4, Value.int y]) 26 = n_v vs 26 := n_v_old (by rw [hl]; decide)
  have e_30 : n_v (vs ++ [n_v vs 4, Value.int y]) 30 = n_v vs 4 := n_v_new0 hl
  have e_31 : n_v (vs ++ [n_v vs 4, Value.int y]) 31 = Value.int y := n_v_new1 hl
  have nf0 : fc_1 PRD (24, [4, 30], []) ws (vs ++ [n_v vs 4, Value.int y]) := by
    refine ⟨nf_inA hl rfl, sgq_5 ?_⟩
    · show n_v (vs ++ [n_v vs 4, Value.int y]) 4 = n_v (vs ++ [n_v vs 4, Value.int y]) 30
      first | rfl | simp only [e_4, e_30, q6, q7, q8, q9, q10, q11]
  have nf1 : fc_1 PRD (23, [31, 6], [0, 1, -1]) ws (vs ++ [n_v vs 4, Value.int y]) := by
    refine ⟨nf_inA hl rfl, sgq_7 ?_⟩
    · show 1 * v_iv (n_v (vs ++ [n_v vs 4, Value.int y]) 31) + ((-1) * v_iv (n_v (vs ++ [n_v vs 4, Value.int y]) 6) + 0) ≤ 0
      simp only [e_6, e_31, q6]
      exact vc_Fa_blocksOf_at_Nptail_Nphead_Npnear_Emblock_4_1 (v_iv (n_v vs 0)) (v_iv (n_v vs 6)) (v_iv (n_v vs 14)) (v_iv (n_v vs 16)) (v_iv (Value.int y)) k0 k6 d1 d3 ey2
  have nf2 : fc_1 PRD (23, [31, 6], [0, -1, 1]) ws (vs ++ [n_v vs 4, Value.int y]) := by
    refine ⟨nf_inA hl rfl, sgq_22 ?_⟩
    · show (-1) * v_iv (n_v (vs ++ [n_v vs 4, Value.int y]) 31) + (1 * v_iv (n_v (vs ++ [n_v vs 4, Value.int y]) 6) + 0) ≤ 0
      simp only [e_6, e_31, q6]
      exact vc_Fa_blocksOf_at_Nptail_Nphead_Npnear_Emblock_4_2 (v_iv (n_v vs 0)) (v_iv (n_v vs 6)) (v_iv (n_v vs 14)) (v_iv (n_v vs 16)) (v_iv (Value.int y)) k0 k6 d1 d3 ey2
  have nf3 : fc_1 PRD (20, [11, 7], [61, 1, 566]) ws (vs ++ [n_v vs 4, Value.int y]) := by
    refine ⟨nf_inA hl rfl, sgq_365 ?_⟩
    · show BLQ (w_ei ws (v_ad (n_v (vs ++ [n_v vs 4, Value.int y]) 11))) (v_iv (n_v (vs ++ [n_v vs 4, Value.int y]) 7))
      simp only [e_7, e_11, q7, q11]
      exact vc_Fa_blocksOf_at_Nptail_Nphead_Npnear_Emblock_4_3 (v_iv (n_v vs 1)) (w_ei ws (v_ad (n_v vs 5))) k1 f12
  have nf4 : fc_1 PRD (20, [11, 8, 9, 7], [61, 3, 580]) ws (vs ++ [n_v vs 4, Value.int y]) := by
    refine ⟨nf_inA hl rfl, sgq_1190 ?_⟩
    · show BLZ (w_ei ws (v_ad (n_v (vs ++ [n_v vs 4, Value.int y]) 11))) (w_ei ws (v_ad (n_v (vs ++ [n_v vs 4, Value.int y]) 8))) (w_ei ws (v_ad (n_v (vs ++ [n_v vs 4, Value.int y]) 9))) (v_iv (n_v (vs ++ [n_v vs 4, Value.int y]) 7))
      simp only [e_7, e_8, e_9, e_11, q7, q8, q9, q11]
      exact vc_Fa_blocksOf_at_Nptail_Nphead_Npnear_Emblock_4_4 (v_iv (n_v vs 1)) (w_ei ws (v_ad (n_v vs 5))) (w_ei ws (v_ad (n_v vs 2))) (w_ei ws (v_ad (n_v vs 3))) k1 f13
  have nf5 : fc_1 PRD (20, [11, 8, 9, 30, 31, 7], [61, 4, 587]) ws (vs ++ [n_v vs 4, Value.int y]) := by
    refine ⟨nf_inA hl rfl, sgq_1191 ?_⟩
    · show BCU (w_ei ws (v_ad (n_v (vs ++ [n_v vs 4, Value.int y]) 11))) (w_ei ws (v_ad (n_v (vs ++ [n_v vs 4, Value.int y]) 8))) (w_ei ws (v_ad (n_v (vs ++ [n_v vs 4, Value.int y]) 9))) (w_ei ws (v_ad (n_v (vs ++ [n_v vs 4, Value.int y]) 30))) (v_iv (n_v (vs ++ [n_v vs 4, Value.int y]) 31)) (v_iv (n_v (vs ++ [n_v vs 4, Value.int y]) 7))
      simp only [e_7, e_8, e_9, e_11, e_30, e_31, q7, q8, q9, q11]
      exact vc_Fa_blocksOf_at_Nptail_Nphead_Npnear_Emblock_4_5 (v_iv (n_v vs 0)) (v_iv (n_v vs 1)) (w_ei ws (v_ad (n_v vs 4))) (w_ei ws (v_ad (n_v vs 5))) (w_ei ws (v_ad (n_v vs 2))) (w_ei ws (v_ad (n_v vs 3))) (v_iv (Value.int y)) k0 k1 f14 ey2
  have nf6 : fc_1 PRD (20, [8, 9, 30, 31, 7, 13, 26], [61, 3, 588]) ws (vs ++ [n_v vs 4, Value.int y]) := by
    refine ⟨nf_inA hl rfl, sgq_1192 ?_⟩
    · show USD (w_ei ws (v_ad (n_v (vs ++ [n_v vs 4, Value.int y]) 8))) (w_ei ws (v_ad (n_v (vs ++ [n_v vs 4, Value.int y]) 9))) (w_ei ws (v_ad (n_v (vs ++ [n_v vs 4, Value.int y]) 30))) (v_iv (n_v (vs ++ [n_v vs 4, Value.int y]) 31)) (v_iv (n_v (vs ++ [n_v vs 4, Value.int y]) 7)) (v_iv (n_v (vs ++ [n_v vs 4, Value.int y]) 13)) (v_iv (n_v (vs ++ [n_v vs 4, Value.int y]) 26))
      simp only [e_7, e_8, e_9, e_13, e_26, e_30, e_31, q7, q8, q9]
      exact vc_Fa_blocksOf_at_Nptail_Nphead_Npnear_Emblock_4_6 (v_iv (n_v vs 0)) (v_iv (n_v vs 1)) (v_iv (n_v vs 12)) (v_iv (n_v vs 13)) (v_iv (n_v vs 15)) (v_iv (n_v vs 19)) (v_iv (n_v vs 20)) (v_iv (n_v vs 21)) (v_iv (n_v vs 22)) (v_iv (n_v vs 23)) (v_iv (n_v vs 24)) (v_iv (n_v vs 25)) (v_iv (n_v vs 26)) (w_ei ws (v_ad (n_v vs 4))) (w_ei ws (v_ad (n_v vs 2))) (w_ei ws (v_ad (n_v vs 3))) (v_iv (Value.int y)) k0 k1 k12 k13 k15 k19 k20 k21 k22 k23 k24 k25 k26 f2 f3 f4 f5 f6 ey2
  have nf7 : fc_1 PRD (20, [31, 6], [50, 0, 0, 1, 2, 1, 0, 1, 1]) ws (vs ++ [n_v vs 4, Value.int y]) := by
    refine ⟨nf_inA hl rfl, sgq_48 ?_⟩
    · show v_iv (n_v (vs ++ [n_v vs 4, Value.int y]) 31) = v_iv (n_v (vs ++ [n_v vs 4, Value.int y]) 6)
      simp only [e_6, e_31, q6]
      exact vc_Fa_blocksOf_at_Nptail_Nphead_Npnear_Emblock_4_7 (v_iv (n_v vs 0)) (v_iv (n_v vs 14)) (v_iv (n_v vs 16)) (v_iv (Value.int y)) k0 ey2
  exact ⟨(fun _ h => (by cases h)), [n_v vs 4, Value.int y], ag_two t4 hy, List.forall_mem_cons.mpr ⟨⟨show (24 : Nat) < 100 from by decide, nf0⟩, List.forall_mem_cons.mpr ⟨⟨show (23 : Nat) < 100 from by decide, nf1⟩, List.forall_mem_cons.mpr ⟨⟨show (23 : Nat) < 100 from by decide, nf2⟩, List.forall_mem_cons.mpr ⟨⟨show (20 : Nat) < 100 from by decide, nf3⟩, List.forall_mem_cons.mpr ⟨⟨show (20 : Nat) < 100 from by decide, nf4⟩, List.forall_mem_cons.mpr ⟨⟨show (20 : Nat) < 100 from by decide, nf5⟩, List.forall_mem_cons.mpr ⟨⟨show (20 : Nat) < 100 from by decide, nf6⟩, List.forall_mem_cons.mpr ⟨⟨show (20 : Nat) < 100 from by decide, nf7⟩, (fun _ h => (by cases h))⟩⟩⟩⟩⟩⟩⟩⟩, (fun _ h => (by cases h))⟩
set_option maxHeartbeats 4000000 in
theorem vc_Fa_blocksOf_at_Nptail_Nphead_Npnear_Emblock_5_0 (x0 : Int) (x1 : Int) (x6 : Int) (x31 : Int) (a2_0 : Int → Int) (a3_0 : Int → Int) (a4_0 : Int → Int) (a5_0 : Int → Int) (k0 : 1 ≤ x0 ∧ x0 ≤ 25) (k1 : 0 ≤ x1 ∧ x1 ≤ 72) (k6 : 1 ≤ x6 ∧ x6 ≤ 25) (k31 : 0 ≤ x31 ∧ x31 ≤ 25) (d5 : x6 + (-4294967296) ≤ x0 ∧ x0 ≤ x6 + 0) (d7 : x0 + (-4294967296) ≤ x6 ∧ x6 ≤ x0 + 0) (f2 : 1 * x31 + ((-1) * x0 + 0) ≤ 0) (f3 : (-1) * x31 + (1 * x0 + 0) ≤ 0) (f15 : BCU (a5_0) (a2_0) (a3_0) (a4_0) (x31) (x1)) : BCU (a5_0) (a2_0) (a3_0) (a4_0) (x0) (x1) := by
  first
    | assumption
    | (rw [show gy = x0 by omega]; assumption)
    | (rw [show x0 = x31 by omega]; assumption)
def o_Fa_blocksOf_at_Nptail_Nphead_Npnear_Emblock_5 : or_T := (48, 33, [(0, (0, 1, 25, [])), (1, (0, 0, 72, [])), (6, (0, 1, 25, [])), (31, (0, 0, 25, []))], [(24, [4, 30], []), (23, [31, 6], [0, 1, -1]), (23, [31, 6], [0, -1, 1]), (24, [0, 6], []), (24, [1, 7], []), (24, [2, 8], []), (24, [3, 9], []), (24, [4, 10], []), (24, [5, 11], []), (20, [11, 8, 9, 30, 31, 7], [61, 4, 587])], [], [], [(20, [11, 8, 9, 10, 6, 7], [61, 4, 587])], [], [(0, 6, -4294967296, 0), (6, 0, -4294967296, 0)])
theorem oo_Fa_blocksOf_at_Nptail_Nphead_Npnear_Emblock_5 {kA : Nat → ClassId} : or_ok PRD kA GG o_Fa_blocksOf_at_Nptail_Nphead_Npnear_Emblock_5 := by
  refine or_mk fun A ta ws vs hD hth hl => ?_
  intro t0 k0 t1 k1 t6 k6 t31 k31 d5 d7 f1 f2 f3 f7 f8 f9 f10 f11 f12 f15
  replace f1 := shm_5 f1
  replace f2 := shm_7 f2
  replace f3 := shm_22 f3
  replace f7 := shm_5 f7
  replace f8 := shm_5 f8
  replace f9 := shm_5 f9
  replace f10 := shm_5 f10
  replace f11 := shm_5 f11
  replace f12 := shm_5 f12
  replace f15 := shm_1191 f15
  have q30 : n_v vs 30 = n_v vs 4 := f1.symm
  have q6 : n_v vs 6 = n_v vs 0 := f7.symm
  have q7 : n_v vs 7 = n_v vs 1 := f8.symm
  have q8 : n_v vs 8 = n_v vs 2 := f9.symm
  have q9 : n_v vs 9 = n_v vs 3 := f10.symm
  have q10 : n_v vs 10 = n_v vs 4 := f11.symm
  have q11 : n_v vs 11 = n_v vs 5 := f12.symm
  simp only [q6, q30, q7, q8, q9, q11] at f2 f3 f15
  have nf0 : fc_1 PRD (20, [11, 8, 9, 10, 6, 7], [61, 4, 587]) ws (vs) := by
    refine ⟨nf_in hl rfl, sgq_1191 ?_⟩
    · show BCU (w_ei ws (v_ad (n_v vs 11))) (w_ei ws (v_ad (n_v vs 8))) (w_ei ws (v_ad (n_v vs 9))) (w_ei ws (v_ad (n_v vs 10))) (v_iv (n_v vs 6)) (v_iv (n_v vs 7))
      simp only [q6, q7, q8, q9, q10, q11]
      exact vc_Fa_blocksOf_at_Nptail_Nphead_Npnear_Emblock_5_0 (v_iv (n_v vs 0)) (v_iv (n_v vs 1)) (v_iv (n_v vs 6)) (v_iv (n_v vs 31)) (w_ei ws (v_ad (n_v vs 2))) (w_ei ws (v_ad (n_v vs 3))) (w_ei ws (v_ad (n_v vs 4))) (w_ei ws (v_ad (n_v vs 5))) k0 k1 k6 k31 d5 d7 f2 f3 f15
  refine ⟨(fun _ h => (by cases h)), [], trivial, ?_, (fun _ h => (by cases h))⟩
  rw [List.append_nil]
  exact List.forall_mem_cons.mpr ⟨⟨show (20 : Nat) < 100 from by decide, nf0⟩, (fun _ h => (by cases h))⟩
set_option maxHeartbeats 4000000 in
theorem vc_Fa_blocksOf_at_Nptail_Nphead_Npnear_Emblock_6_0 (x1 : Int) (x7 : Int) (x13 : Int) (x14 : Int) (a5_0 : Int → Int) (k1 : 0 ≤ x1 ∧ x1 ≤ 72) (k7 : 0 ≤ x7 ∧ x7 ≤ 72) (k13 : 0 ≤ x13 ∧ x13 ≤ 72) (k14 : 0 ≤ x14 ∧ x14 ≤ 72) (d0 : x7 + 0 ≤ x14 ∧ x14 ≤ x7 + 4294967296) (d2 : x7 + (-4294967296) ≤ x1 ∧ x1 ≤ x7 + 0) (d4 : x1 + (-4294967296) ≤ x7 ∧ x7 ≤ x1 + 0) (d8 : x1 + (-4294967296) ≤ x14 ∧ x14 ≤ x1 + 0) (f0 : x1 ≤ x14) (f1 : LBI (a5_0) (x1) (x14) (x13)) (f4 : x14 ≤ x1) : LBL (a5_0) (x1) (x13) := by
  first
    | exact lbl_of ‹LBI _ _ _ _› (by omega) (by omega) (by omega) (by omega)
  
set_option maxHeartbeats 4000000 in
theorem vc_Fa_blocksOf_at_Nptail_Nphead_Npnear_Emblock_6_1 (x1 : Int) (x13 : Int) (x14 : Int) (a5_0 : Int → Int) (a2_0 : Int → Int) (a3_0 : Int → Int) (k1 : 0 ≤ x1 ∧ x1 ≤ 72) (k13 : 0 ≤ x13 ∧ x13 ≤ 72) (k14 : 0 ≤ x14 ∧ x14 ≤ 72) (f0 : x1 ≤ x14) (f2 : LBJ (a5_0) (a2_0) (a3_0) (x1) (x14) (x13)) : CNL (a5_0) (a2_0) (a3_0) (x1) := by
  first
    | exact cnl_of ‹LBJ _ _ _ _ _ _› (by omega)
  
set_option maxHeartbeats 4000000 in
theorem vc_Fa_blocksOf_at_Nptail_Nphead_Npnear_Emblock_6_2 (x0 : Int) (x1 : Int) (x13 : Int) (x14 : Int) (a5_0 : Int → Int) (a2_0 : Int → Int) (a3_0 : Int → Int) (a4_0 : Int → Int) (k0 : 0 ≤ x0 ∧ x0 ≤ 25) (k1 : 0 ≤ x1 ∧ x1 ≤ 72) (k13 : 0 ≤ x13 ∧ x13 ≤ 72) (k14 : 0 ≤ x14 ∧ x14 ≤ 72) (f0 : x1 ≤ x14) (f1 : LBI (a5_0) (x1) (x14) (x13)) (f3 : LKJ (a5_0) (a2_0) (a3_0) (a4_0) (x0) (x1) (x14) (x13)) (f4 : x14 ≤ x1) : BKL (a2_0) (a3_0) (a4_0) (x0) (x1) (x13) := by
  first
    | exact bkl_of ‹LKJ _ _ _ _ _ _ _ _› ‹LBI _ _ _ _› (by omega) (by omega)
  
def o_Fa_blocksOf_at_Nptail_Nphead_Npnear_Emblock_6 : or_T := (174, 15, [(0, (0, 0, 25, [])), (1, (0, 0, 72, [])), (7, (0, 0, 72, [])), (13, (0, 0, 72, [])), (14, (0, 0, 72, []))], [(7, [14, 7], [3]), (20, [11, 7, 14, 13], [61, 1, 567]), (20, [11, 8, 9, 7, 14, 13], [61, 3, 585]), (20, [11, 8, 9, 10, 6, 7, 14, 13], [61, 4, 593]), (20, [14, 7], [50, 0, 0, 0, 2, 1, 0, 1, 1]), (24, [0, 6], []), (24, [1, 7], []), (24, [2, 8], []), (24, [3, 9], []), (24, [4, 10], []), (24, [5, 11], [])], [], [], [(20, [5, 1, 13], [61, 1, 568]), (20, [5, 2, 3, 1], [61, 3, 586]), (20, [2, 3, 4, 0, 1, 13], [61, 3, 594])], [], [(14, 7, 0, 4294967296), (1, 7, -4294967296, 0), (7, 1, -4294967296, 0), (14, 1, -4294967296, 0)])
theorem oo_Fa_blocksOf_at_Nptail_Nphead_Npnear_Emblock_6 {kA : Nat → ClassId} : or_ok PRD kA GG o_Fa_blocksOf_at_Nptail_Nphead_Npnear_Emblock_6 := by
  refine or_mk fun A ta ws vs hD hth hl => ?_
  intro t0 k0 t1 k1 t7 k7 t13 k13 t14 k14 d0 d2 d4 d8 f0 f1 f2 f3 f4 f5 f6 f7 f8 f9 f10
  replace f0 := shm_2 f0
  replace f1 := shm_1601 f1
  replace f2 := shm_1602 f2
  replace f3 := shm_1603 f3
  replace f4 := shm_360 f4
  replace f5 := shm_5 f5
  replace f6 := shm_5 f6
  replace f7 := shm_5 f7
  replace f8 := shm_5 f8
  replace f9 := shm_5 f9
  replace f10 := shm_5 f10
  have q6 : n_v vs 6 = n_v vs 0 := f5.symm
  have q7 : n_v vs 7 = n_v vs 1 := f6.symm
  have q8 : n_v vs 8 = n_v vs 2 := f7.symm
  have q9 : n_v vs 9 = n_v vs 3 := f8.symm
  have q10 : n_v vs 10 = n_v vs 4 := f9.symm
  have q11 : n_v vs 11 = n_v vs 5 := f10.symm
  simp only [q7, q11, q8, q9, q6, q10] at f0 f1 f2 f3 f4
  have nf0 : fc_1 PRD (20, [5, 1, 13], [61, 1, 568]) ws (vs) := ⟨nf_in hl rfl, sgq_1604 (vc_Fa_blocksOf_at_Nptail_Nphead_Npnear_Emblock_6_0 (v_iv (n_v vs 1)) (v_iv (n_v vs 7)) (v_iv (n_v vs 13)) (v_iv (n_v vs 14)) (w_ei ws (v_ad (n_v vs 5))) k1 k7 k13 k14 d0 d2 d4 d8 f0 f1 f4)⟩
  have nf1 : fc_1 PRD (20, [5, 2, 3, 1], [61, 3, 586]) ws (vs) := ⟨nf_in hl rfl, sgq_1605 (vc_Fa_blocksOf_at_Nptail_Nphead_Npnear_Emblock_6_1 (v_iv (n_v vs 1)) (v_iv (n_v vs 13)) (v_iv (n_v vs 14)) (w_ei ws (v_ad (n_v vs 5))) (w_ei ws (v_ad (n_v vs 2))) (w_ei ws (v_ad (n_v vs 3))) k1 k13 k14 f0 f2)⟩
  have nf2 : fc_1 PRD (20, [2, 3, 4, 0, 1, 13], [61, 3, 594]) ws (vs) := ⟨nf_in hl rfl, sgq_1606 (vc_Fa_blocksOf_at_Nptail_Nphead_Npnear_Emblock_6_2 (v_iv (n_v vs 0)) (v_iv (n_v vs 1)) (v_iv (n_v vs 13)) (v_iv (n_v vs 14)) (w_ei ws (v_ad (n_v vs 5))) (w_ei ws (v_ad (n_v vs 2))) (w_ei ws (v_ad (n_v vs 3))) (w_ei ws (v_ad (n_v vs 4))) k0 k1 k13 k14 f0 f1 f3 f4)⟩
  refine ⟨(fun _ h => (by cases h)), [], trivial, ?_, (fun _ h => (by cases h))⟩
  rw [List.append_nil]
  exact List.forall_mem_cons.mpr ⟨⟨show (20 : Nat) < 100 from by decide, nf0⟩, List.forall_mem_cons.mpr ⟨⟨show (20 : Nat) < 100 from by decide, nf1⟩, List.forall_mem_cons.mpr ⟨⟨show (20 : Nat) < 100 from by decide, nf2⟩, (fun _ h => (by cases h))⟩⟩⟩
set_option maxHeartbeats 4000000 in
theorem vc_Fa_blocksOf_at_Nptail_Nphead_Npnear_Emblock_7_r0 (x1 : Int) (x13 : Int) (x14 : Int) (x15 : Int) (x16 : Int) (a5_0 : Int → Int) (k1 : 1 ≤ x1 ∧ x1 ≤ 72) (k13 : 0 ≤ x13 ∧ x13 ≤ 71) (k14 : 0 ≤ x14 ∧ x14 ≤ 71) (k15 : (-1) ≤ x15 ∧ x15 ≤ 71) (k16 : (-1) ≤ x16 ∧ x16 ≤ 71) (h0 : x16 = a5_0 (x14)) (h2 : x15 = a5_0 (x14)) (f3 : x14 < x1) (f4 : LBI (a5_0) (x1) (x14) (x13)) : 0 ≤ x16 ∧ x16 ≤ 71 := by
  first
    | omega
    | (have q3 := (‹LBI _ _ _ _›).2.2.1; omega)
    | (have q := (‹LBI _ _ _ _›).2.2.2.2.1 x14 (by omega) (by omega); omega)
    | (have q := (‹LBI _ _ _ _›).2.2.2.2.1 x14 (by omega) (by omega); have q2 := (‹LBI _ _ _ _›).2.2.2.1 x16 (by omega) (by omega); have q3 := (‹LBI _ _ _ _›).2.2.1; omega)
def o_Fa_blocksOf_at_Nptail_Nphead_Npnear_Emblock_7 : or_T := (164, 17, [(0, (0, 0, 25, [])), (1, (0, 1, 72, [])), (2, (2, 0, 0, [140])), (3, (2, 0, 0, [141])), (4, (2, 0, 0, [142])), (5, (2, 0, 0, [26])), (6, (0, 0, 25, [])), (7, (0, 1, 72, [])), (8, (2, 0, 0, [140])), (9, (2, 0, 0, [141])), (10, (2, 0, 0, [142])), (11, (2, 0, 0, [26])), (13, (0, 0, 71, [])), (14, (0, 0, 71, [])), (15, (0, -1, 71, [])), (16, (0, -1, 71, []))], [(10, [16, 11, 14], []), (7, [15, 14], [1]), (10, [15, 11, 14], []), (7, [14, 7], [2]), (20, [11, 7, 14, 13], [61, 1, 567]), (20, [11, 8, 9, 7, 14, 13], [61, 3, 585]), (20, [11, 8, 9, 10, 6, 7, 14, 13], [61, 4, 593]), (20, [14, 7], [50, 0, 0, 0, 2, 1, 0, 1, 1]), (24, [0, 6], []), (24, [1, 7], []), (24, [2, 8], []), (24, [3, 9], []), (24, [4, 10], []), (24, [5, 11], [])], [(16, (0, 0, 71, []))], [], [], [], [(14, 7, -4294967296, -1), (0, 6, -4294967296, 0), (1, 7, -4294967296, 0), (6, 0, -4294967296, 0), (7, 1, -4294967296, 0), (13, 1, -4294967296, 1), (13, 7, -4294967296, 0), (13, 14, -4294967296, 0), (14, 1, -4294967296, 0), (14, 7, -4294967296, 0)])
theorem oo_Fa_blocksOf_at_Nptail_Nphead_Npnear_Emblock_7 {kA : Nat → ClassId} : or_ok PRD kA GG o_Fa_blocksOf_at_Nptail_Nphead_Npnear_Emblock_7 := by
  refine or_mk fun A ta ws vs hD hth hl => ?_
  intro t0 k0 t1 k1 t2 r2 t3 r3 t4 r4 t5 r5 t6 k6 t7 k7 t8 r8 t9 r9 t10 r10 t11 r11 t13 k13 t14 k14 t15 k15 t16 k16 d0 d1 d2 d3 d4 d5 d6 d7 d8 d9 f0 f1 f2 f3 f4 f5 f6 f7 f8 f9 f10 f11 f12 f13
  replace f0 := shm_107 f0
  replace f2 := shm_107 f2
  replace f3 := shm_6 f3
  replace f4 := shm_1601 f4
  replace f9 := shm_5 f9
  replace f13 := shm_5 f13
  have q7 : n_v vs 7 = n_v vs 1 := f9.symm
  have q11 : n_v vs 11 = n_v vs 5 := f13.symm
  simp only [q11, q7] at f0 f2 f3 f4
  have h0 : v_iv (n_v vs 16) = w_ei ws (v_ad (n_v vs 5)) (v_iv (n_v vs 14)) := f0
  have h2 : v_iv (n_v vs 15) = w_ei ws (v_ad (n_v vs 5)) (v_iv (n_v vs 14)) := f2
  have hrf0 : 0 ≤ v_iv (n_v vs 16) ∧ v_iv (n_v vs 16) ≤ 71 := vc_Fa_blocksOf_at_Nptail_Nphead_Npnear_Emblock_7_r0 (v_iv (n_v vs 1)) (v_iv (n_v vs 13)) (v_iv (n_v vs 14)) (v_iv (n_v vs 15)) (v_iv (n_v vs 16)) (w_ei ws (v_ad (n_v vs 5))) k1 k13 k14 k15 k16 h0 h2 f3 f4
  have rf16 : tv_ok ta (0, 0, 71, []) (n_v vs 16) := tv_in t16 (by first | omega | grind) (by first | omega | grind)
  refine ⟨List.forall_mem_cons.mpr ⟨rf16, (fun _ h => (by cases h))⟩, [], trivial, ?_, (fun _ h => (by cases h))⟩
  rw [List.append_nil]
  exact (fun _ h => (by cases h))
set_option maxHeartbeats 4000000 in
theorem vc_Fa_blocksOf_at_Nptail_Nphead_Npnear_Emblock_8_r0 (x1 : Int) (x13 : Int) (x14 : Int) (x15 : Int) (x16 : Int) (x17 : Int) (a5_0 : Int → Int) (k1 : 1 ≤ x1 ∧ x1 ≤ 72) (k13 : 0 ≤ x13 ∧ x13 ≤ 71) (k14 : 0 ≤ x14 ∧ x14 ≤ 71) (k15 : (-1) ≤ x15 ∧ x15 ≤ 71) (k16 : 0 ≤ x16 ∧ x16 ≤ 71) (k17 : (-1) ≤ x17 ∧ x17 ≤ 71) (h0 : x17 = a5_0 (x16)) (h1 : x16 = a5_0 (x14)) (f2 : x15 ≠ x14) (h3 : x15 = a5_0 (x14)) (f4 : x14 < x1) (f5 : LBI (a5_0) (x1) (x14) (x13)) : 0 ≤ x17 ∧ x17 ≤ 71 := by
  first
    | omega
    | (have q3 := (‹LBI _ _ _ _›).2.2.1; omega)
    | (have q := (‹LBI _ _ _ _›).2.2.2.2.1 x14 (by omega) (by omega); omega)
    | (have q := (‹LBI _ _ _ _›).2.2.2.2.1 x14 (by omega) (by omega); have q2 := (‹LBI _ _ _ _›).2.2.2.1 x16 (by omega) (by omega); have q3 := (‹LBI _ _ _ _›).2.2.1; omega)
def o_Fa_blocksOf_at_Nptail_Nphead_Npnear_Emblock_8 : or_T := (165, 18, [(0, (0, 0, 25, [])), (1, (0, 1, 72, [])), (2, (2, 0, 0, [140])), (3, (2, 0, 0, [141])), (4, (2, 0, 0, [142])), (5, (2, 0, 0, [26])), (6, (0, 0, 25, [])), (7, (0, 1, 72, [])), (8, (2, 0, 0, [140])), (9, (2, 0, 0, [141])), (10, (2, 0, 0, [142])), (11, (2, 0, 0, [26])), (13, (0, 0, 71, [])), (14, (0, 0, 71, [])), (15, (0, -1, 71, [])), (16, (0, 0, 71, [])), (17, (0, -1, 71, []))], [(10, [17, 11, 16], []), (10, [16, 11, 14], []), (7, [15, 14], [1]), (10, [15, 11, 14], []), (7, [14, 7], [2]), (20, [11, 7, 14, 13], [61, 1, 567]), (20, [11, 8, 9, 7, 14, 13], [61, 3, 585]), (20, [11, 8, 9, 10, 6, 7, 14, 13], [61, 4, 593]), (20, [14, 7], [50, 0, 0, 0, 2, 1, 0, 1, 1]), (24, [0, 6], []), (24, [1, 7], []), (24, [2, 8], []), (24, [3, 9], []), (24, [4, 10], []), (24, [5, 11], [])], [(17, (0, 0, 71, []))], [], [], [], [(14, 7, -4294967296, -1), (0, 6, -4294967296, 0), (1, 7, -4294967296, 0), (6, 0, -4294967296, 0), (7, 1, -4294967296, 0), (13, 1, -4294967296, 1), (13, 7, -4294967296, 0), (13, 14, -4294967296, 0), (14, 1, -4294967296, 0), (14, 7, -4294967296, 0)])
theorem oo_Fa_blocksOf_at_Nptail_Nphead_Npnear_Emblock_8 {kA : Nat → ClassId} : or_ok PRD kA GG o_Fa_blocksOf_at_Nptail_Nphead_Npnear_Emblock_8 := by
  refine or_mk fun A ta ws vs hD hth hl => ?_
  intro t0 k0 t1 k1 t2 r2 t3 r3 t4 r4 t5 r5 t6 k6 t7 k7 t8 r8 t9 r9 t10 r10 t11 r11 t13 k13 t14 k14 t15 k15 t16 k16 t17 k17 d0 d1 d2 d3 d4 d5 d6 d7 d8 d9 f0 f1 f2 f3 f4 f5 f6 f7 f8 f9 f10 f11 f12 f13 f14
  replace f0 := shm_107 f0
  replace f1 := shm_107 f1
  replace f3 := shm_107 f3
  replace f4 := shm_6 f4
  replace f5 := shm_1601 f5
  replace f10 := shm_5 f10
  replace f14 := shm_5 f14
  have q7 : n_v vs 7 = n_v vs 1 := f10.symm
  have q11 : n_v vs 11 = n_v vs 5 := f14.symm
  simp only [q11, q7] at f0 f1 f3 f4 f5
  have h0 : v_iv (n_v vs 17) = w_ei ws (v_ad (n_v vs 5)) (v_iv (n_v vs 16)) := f0
  have h1 : v_iv (n_v vs 16) = w_ei ws (v_ad (n_v vs 5)) (v_iv (n_v vs 14)) := f1
  have h3 : v_iv (n_v vs 15) = w_ei ws (v_ad (n_v vs 5)) (v_iv (n_v vs 14)) := f3
  have hrf0 : 0 ≤ v_iv (n_v vs 17) ∧ v_iv (n_v vs 17) ≤ 71 := vc_Fa_blocksOf_at_Nptail_Nphead_Npnear_Emblock_8_r0 (v_iv (n_v vs 1)) (v_iv (n_v vs 13)) (v_iv (n_v vs 14)) (v_iv (n_v vs 15)) (v_iv (n_v vs 16)) (v_iv (n_v vs 17)) (w_ei ws (v_ad (n_v vs 5))) k1 k13 k14 k15 k16 k17 h0 h1 (shm_40 f2) h3 f4 f5
  have rf17 : tv_ok ta (0, 0, 71, []) (n_v vs 17) := tv_in t17 (by first | omega | grind) (by first | omega | grind)
  refine ⟨List.forall_mem_cons.mpr ⟨rf17, (fun _ h => (by cases h))⟩, [], trivial, ?_, (fun _ h => (by cases h))⟩
  rw [List.append_nil]
  exact (fun _ h => (by cases h))
set_option maxHeartbeats 4000000 in
theorem vc_Fa_blocksOf_at_Nptail_Nphead_Npnear_Emblock_9_0 (x1 : Int) (x13 : Int) (x14 : Int) (x15 : Int) (x16 : Int) (x17 : Int) (x18 : Int) (a5_1 : Int → Int) (a2_1 : Int → Int) (a3_1 : Int → Int) (a4_1 : Int → Int) (a2_0 : Int → Int) (a3_0 : Int → Int) (a4_0 : Int → Int) (a5_0 : Int → Int) (k1 : 1 ≤ x1 ∧ x1 ≤ 72) (k13 : 0 ≤ x13 ∧ x13 ≤ 71) (k14 : 0 ≤ x14 ∧ x14 ≤ 71) (k15 : (-1) ≤ x15 ∧ x15 ≤ 71) (k16 : 0 ≤ x16 ∧ x16 ≤ 71) (k17 : 0 ≤ x17 ∧ x17 ≤ 71) (k18 : 1 ≤ x18 ∧ x18 ≤ 72) (d0 : x14 + 1 ≤ x18 ∧ x18 ≤ x14 + 1) (f0 : x18 = x14 + 1) (h9 : x17 = a5_1 (x16)) (h10 : x16 = a5_1 (x14)) (f11 : x15 ≠ x14) (h12 : x15 = a5_1 (x14)) (f13 : x14 < x1) (f14 : LBI (a5_1) (x1) (x14) (x13)) (hE_2_999_1 : ∀ j : Int, a2_0 j = a2_1 j) (hE_3_999_1 : ∀ j : Int, a3_0 j = a3_1 j) (hE_4_999_1 : ∀ j : Int, a4_0 j = a4_1 j) (hE_5_999_1 : ∀ j : Int, 0 ≤ j → (j = x14 → a5_0 j = x17) ∧ (j ≠ x14 → a5_0 j = a5_1 j)) : LBI (a5_0) (x1) (x18) (x13) := by
  have e_hE_2_999_1 := funext hE_2_999_1; subst e_hE_2_999_1
  have e_hE_3_999_1 := funext hE_3_999_1; subst e_hE_3_999_1
  have e_hE_4_999_1 := funext hE_4_999_1; subst e_hE_4_999_1
  first
    | exact lbi_old (r := x16) ‹LBI _ _ _ _› (by omega) (by assumption) (by omega) (by assumption) (by assumption) (by omega) (by omega)
set_option maxHeartbeats 4000000 in
theorem vc_Fa_blocksOf_at_Nptail_Nphead_Npnear_Emblock_9_1 (x1 : Int) (x13 : Int) (x14 : Int) (x15 : Int) (x16 : Int) (x17 : Int) (x18 : Int) (a5_1 : Int → Int) (a2_1 : Int → Int) (a3_1 : Int → Int) (a4_1 : Int → Int) (a2_0 : Int → Int) (a3_0 : Int → Int) (a4_0 : Int → Int) (a5_0 : Int → Int) (k1 : 1 ≤ x1 ∧ x1 ≤ 72) (k13 : 0 ≤ x13 ∧ x13 ≤ 71) (k14 : 0 ≤ x14 ∧ x14 ≤ 71) (k15 : (-1) ≤ x15 ∧ x15 ≤ 71) (k16 : 0 ≤ x16 ∧ x16 ≤ 71) (k17 : 0 ≤ x17 ∧ x17 ≤ 71) (k18 : 1 ≤ x18 ∧ x18 ≤ 72) (f0 : x18 = x14 + 1) (h9 : x17 = a5_1 (x16)) (h10 : x16 = a5_1 (x14)) (f11 : x15 ≠ x14) (h12 : x15 = a5_1 (x14)) (f13 : x14 < x1) (f15 : LBJ (a5_1) (a2_1) (a3_1) (x1) (x14) (x13)) (hE_2_999_1 : ∀ j : Int, a2_0 j = a2_1 j) (hE_3_999_1 : ∀ j : Int, a3_0 j = a3_1 j) (hE_4_999_1 : ∀ j : Int, a4_0 j = a4_1 j) (hE_5_999_1 : ∀ j : Int, 0 ≤ j → (j = x14 → a5_0 j = x17) ∧ (j ≠ x14 → a5_0 j = a5_1 j)) : LBJ (a5_0) (a2_0) (a3_0) (x1) (x18) (x13) := by
  have e_hE_2_999_1 := funext hE_2_999_1; subst e_hE_2_999_1
  have e_hE_3_999_1 := funext hE_3_999_1; subst e_hE_3_999_1
  have e_hE_4_999_1 := funext hE_4_999_1; subst e_hE_4_999_1
  first
    | exact lbj_old (r := x16) (y := x15) ‹LBJ _ _ _ _ _ _› (by omega) (by assumption) (by omega) (by assumption) (by assumption) (by assumption) (by omega) (by omega)
set_option maxHeartbeats 4000000 in
theorem vc_Fa_blocksOf_at_Nptail_Nphead_Npnear_Emblock_9_2 (x0 : Int) (x1 : Int) (x13 : Int) (x14 : Int) (x15 : Int) (x16 : Int) (x17 : Int) (x18 : Int) (a5_1 : Int → Int) (a2_1 : Int → Int) (a3_1 : Int → Int) (a4_1 : Int → Int) (a2_0 : Int → Int) (a3_0 : Int → Int) (a4_0 : Int → Int) (a5_0 : Int → Int) (k0 : 0 ≤ x0 ∧ x0 ≤ 25) (k1 : 1 ≤ x1 ∧ x1 ≤ 72) (k13 : 0 ≤ x13 ∧ x13 ≤ 71) (k14 : 0 ≤ x14 ∧ x14 ≤ 71) (k15 : (-1) ≤ x15 ∧ x15 ≤ 71) (k16 : 0 ≤ x16 ∧ x16 ≤ 71) (k17 : 0 ≤ x17 ∧ x17 ≤ 71) (k18 : 1 ≤ x18 ∧ x18 ≤ 72) (f0 : x18 = x14 + 1) (h9 : x17 = a5_1 (x16)) (h10 : x16 = a5_1 (x14)) (f11 : x15 ≠ x14) (h12 : x15 = a5_1 (x14)) (f13 : x14 < x1) (f16 : LKJ (a5_1) (a2_1) (a3_1) (a4_1) (x0) (x1) (x14) (x13)) (hE_2_999_1 : ∀ j : Int, a2_0 j = a2_1 j) (hE_3_999_1 : ∀ j : Int, a3_0 j = a3_1 j) (hE_4_999_1 : ∀ j : Int, a4_0 j = a4_1 j) (hE_5_999_1 : ∀ j : Int, 0 ≤ j → (j = x14 → a5_0 j = x17) ∧ (j ≠ x14 → a5_0 j = a5_1 j)) : LKJ (a5_0) (a2_0) (a3_0) (a4_0) (x0) (x1) (x18) (x13) := by
  have e_hE_2_999_1 := funext hE_2_999_1; subst e_hE_2_999_1
  have e_hE_3_999_1 := funext hE_3_999_1; subst e_hE_3_999_1
  have e_hE_4_999_1 := funext hE_4_999_1; subst e_hE_4_999_1
  first
    | exact lkj_old (r := x16) (y := x15) ‹LKJ _ _ _ _ _ _ _ _› (by omega) (by assumption) (by omega) (by assumption) (by assumption) (by assumption) (by omega) (by omega)
set_option maxHeartbeats 4000000 in
theorem vc_Fa_blocksOf_at_Nptail_Nphead_Npnear_Emblock_9_3 (x1 : Int) (x7 : Int) (x14 : Int) (x16 : Int) (x18 : Int) (a2_1 : Int → Int) (a3_1 : Int → Int) (a4_1 : Int → Int) (a2_0 : Int → Int) (a3_0 : Int → Int) (a4_0 : Int → Int) (k1 : 1 ≤ x1 ∧ x1 ≤ 72) (k7 : 1 ≤ x7 ∧ x7 ≤ 72) (k14 : 0 ≤ x14 ∧ x14 ≤ 71) (k18 : 1 ≤ x18 ∧ x18 ≤ 72) (d0 : x14 + 1 ≤ x18 ∧ x18 ≤ x14 + 1) (d1 : x7 + (-4294967296) ≤ x18 ∧ x18 ≤ x7 + 0) (d4 : x7 + (-4294967296) ≤ x14 ∧ x14 ≤ x7 + (-1)) (d6 : x7 + (-4294967296) ≤ x1 ∧ x1 ≤ x7 + 0) (d8 : x1 + (-4294967296) ≤ x7 ∧ x7 ≤ x1 + 0) (hE_2_999_1 : ∀ j : Int, a2_0 j = a2_1 j) (hE_3_999_1 : ∀ j : Int, a3_0 j = a3_1 j) (hE_4_999_1 : ∀ j : Int, a4_0 j = a4_1 j) : x18 ≤ x1 := by
  have e_hE_2_999_1 := funext hE_2_999_1; subst e_hE_2_999_1
  have e_hE_3_999_1 := funext hE_3_999_1; subst e_hE_3_999_1
  have e_hE_4_999_1 := funext hE_4_999_1; subst e_hE_4_999_1
  first
    | omega
    | (have q3 := (‹LBI _ _ _ _›).2.2.1; omega)
    | (have q := (‹LBI _ _ _ _›).2.2.2.2.1 x14 (by omega) (by omega); omega)
    | (have q := (‹LBI _ _ _ _›).2.2.2.2.1 x14 (by omega) (by omega); have q2 := (‹LBI _ _ _ _›).2.2.2.1 x16 (by omega) (by omega); have q3 := (‹LBI _ _ _ _›).2.2.1; omega)
def o_Fa_blocksOf_at_Nptail_Nphead_Npnear_Emblock_9 : or_T := (124, 19, [(0, (0, 0, 25, [])), (1, (0, 1, 72, [])), (2, (2, 0, 0, [140])), (3, (2, 0, 0, [141])), (4, (2, 0, 0, [142])), (5, (2, 0, 0, [26])), (7, (0, 1, 72, [])), (13, (0, 0, 71, [])), (14, (0, 0, 71, [])), (15, (0, -1, 71, [])), (16, (0, 0, 71, [])), (17, (0, 0, 71, [])), (18, (0, 1, 72, []))], [(6, [18, 14], [1]), (24, [0, 6], []), (24, [1, 7], []), (24, [2, 8], []), (24, [3, 9], []), (24, [4, 10], []), (24, [5, 11], []), (100, [11, 14, 17], []), (10, [17, 11, 16], []), (10, [16, 11, 14], []), (7, [15, 14], [1]), (10, [15, 11, 14], []), (7, [14, 7], [2]), (20, [11, 7, 14, 13], [61, 1, 567]), (20, [11, 8, 9, 7, 14, 13], [61, 3, 585]), (20, [11, 8, 9, 10, 6, 7, 14, 13], [61, 4, 593])], [], [], [(20, [11, 7, 18, 13], [61, 1, 567]), (20, [11, 8, 9, 7, 18, 13], [61, 3, 585]), (20, [11, 8, 9, 10, 6, 7, 18, 13], [61, 4, 593]), (20, [18, 7], [50, 0, 0, 0, 2, 1, 0, 1, 1])], [], [(18, 14, 1, 1), (18, 7, -4294967296, 0), (14, 7, -4294967296, -1), (1, 7, -4294967296, 0), (7, 1, -4294967296, 0), (13, 14, -4294967296, 0), (14, 1, -4294967296, 0), (14, 7, -4294967296, 0)])
theorem oo_Fa_blocksOf_at_Nptail_Nphead_Npnear_Emblock_9 {kA : Nat → ClassId} : or_ok PRD kA GG o_Fa_blocksOf_at_Nptail_Nphead_Npnear_Emblock_9 := by
  refine or_mk fun A ta ws vs hD hth hl => ?_
  intro t0 k0 t1 k1 t2 r2 t3 r3 t4 r4 t5 r5 t7 k7 t13 k13 t14 k14 t15 k15 t16 k16 t17 k17 t18 k18 d0 d1 d4 d6 d8 d11 d12 d13 f0 f2 f3 f4 f5 f6 f7 ta1 w1 le1 s1 f9 f10 f11 f12 f13 f14 f15 f16
  replace f0 := shm_4 f0
  replace f2 := shm_5 f2
  replace f3 := shm_5 f3
  replace f4 := shm_5 f4
  replace f5 := shm_5 f5
  replace f6 := shm_5 f6
  replace f7 := shm_5 f7
  have s1 : (∀ b j, w_el ws b j = if b = v_ad (n_v vs 11) ∧ j = (v_iv (n_v vs 14)).toNat then v_iv (n_v vs 17) else w_el w1 b j) ∧ ∀ b k, w_fd ws b k = w_fd w1 b k := s1.2
  replace f9 := shm_107 f9
  replace f10 := shm_107 f10
  replace f11 := shm_40 f11
  replace f12 := shm_107 f12
  replace f13 := shm_6 f13
  replace f14 := shm_1601 f14
  replace f15 := shm_1602 f15
  replace f16 := shm_1603 f16
  have q6 : n_v vs 6 = n_v vs 0 := f2.symm
  have q7 : n_v vs 7 = n_v vs 1 := f3.symm
  have q8 : n_v vs 8 = n_v vs 2 := f4.symm
  have q9 : n_v vs 9 = n_v vs 3 := f5.symm
  have q10 : n_v vs 10 = n_v vs 4 := f6.symm
  have q11 : n_v vs 11 = n_v vs 5 := f7.symm
  rw [q11] at s1
  simp only [q11, q7, q8, q9, q6, q10] at f9 f10 f12 f13 f14 f15 f16
  have cr_2_999 : ta (v_ad (n_v vs 2)) = some 140 := r2
  have cr_3_999 : ta (v_ad (n_v vs 3)) = some 141 := r3
  have cr_4_999 : ta (v_ad (n_v vs 4)) = some 142 := r4
  have ad_5 : v_ad (n_v vs 5) = v_ad (n_v vs 5) := rfl
  have h9 : v_iv (n_v vs 17) = w_ei w1 (v_ad (n_v vs 5)) (v_iv (n_v vs 16)) := f9
  have h10 : v_iv (n_v vs 16) = w_ei w1 (v_ad (n_v vs 5)) (v_iv (n_v vs 14)) := f10
  have h12 : v_iv (n_v vs 15) = w_ei w1 (v_ad (n_v vs 5)) (v_iv (n_v vs 14)) := f12
  have hE_2_999_1 : ∀ j : Int, w_ei ws (v_ad (n_v vs 2)) j = w_ei w1 (v_ad (n_v vs 2)) j := el_kp s1.1 r5 cr_2_999 (by decide)
  have hE_3_999_1 : ∀ j : Int, w_ei ws (v_ad (n_v vs 3)) j = w_ei w1 (v_ad (n_v vs 3)) j := el_kp s1.1 r5 cr_3_999 (by decide)
  have hE_4_999_1 : ∀ j : Int, w_ei ws (v_ad (n_v vs 4)) j = w_ei w1 (v_ad (n_v vs 4)) j := el_kp s1.1 r5 cr_4_999 (by decide)
  have hE_5_999_1 : ∀ j : Int, 0 ≤ j → (j = v_iv (n_v vs 14) → w_ei ws (v_ad (n_v vs 5)) j = v_iv (n_v vs 17)) ∧ (j ≠ v_iv (n_v vs 14) → w_ei ws (v_ad (n_v vs 5)) j = w_ei w1 (v_ad (n_v vs 5)) j) := fun j hj => ⟨fun h => by unfold w_ei; rw [s1.1, if_pos ⟨ad_5.symm, by rw [h]⟩], fun h => by unfold w_ei; rw [s1.1, if_neg (fun e => h (by have := e.2; omega))]⟩
  have nf0 : fc_1 PRD (20, [11, 7, 18, 13], [61, 1, 567]) ws (vs) := by
    refine ⟨nf_in hl rfl, sgq_1601 ?_⟩
    · show LBI (w_ei ws (v_ad (n_v vs 11))) (v_iv (n_v vs 7)) (v_iv (n_v vs 18)) (v_iv (n_v vs 13))
      simp only [q7, q11]
      exact vc_Fa_blocksOf_at_Nptail_Nphead_Npnear_Emblock_9_0 (v_iv (n_v vs 1)) (v_iv (n_v vs 13)) (v_iv (n_v vs 14)) (v_iv (n_v vs 15)) (v_iv (n_v vs 16)) (v_iv (n_v vs 17)) (v_iv (n_v vs 18)) (w_ei w1 (v_ad (n_v vs 5))) (w_ei w1 (v_ad (n_v vs 2))) (w_ei w1 (v_ad (n_v vs 3))) (w_ei w1 (v_ad (n_v vs 4))) (w_ei ws (v_ad (n_v vs 2))) (w_ei ws (v_ad (n_v vs 3))) (w_ei ws (v_ad (n_v vs 4))) (w_ei ws (v_ad (n_v vs 5))) k1 k13 k14 k15 k16 k17 k18 d0 f0 h9 h10 f11 h12 f13 f14 hE_2_999_1 hE_3_999_1 hE_4_999_1 hE_5_999_1
  have nf1 : fc_1 PRD (20, [11, 8, 9, 7, 18, 13], [61, 3, 585]) ws (vs) := by
    refine ⟨nf_in hl rfl, sgq_1602 ?_⟩
    · show LBJ (w_ei ws (v_ad (n_v vs 11))) (w_ei ws (v_ad (n_v vs 8))) (w_ei ws (v_ad (n_v vs 9))) (v_iv (n_v vs 7)) (v_iv (n_v vs 18)) (v_iv (n_v vs 13))
      simp only [q7, q8, q9, q11]
      exact vc_Fa_blocksOf_at_Nptail_Nphead_Npnear_Emblock_9_1 (v_iv (n_v vs 1)) (v_iv (n_v vs 13)) (v_iv (n_v vs 14)) (v_iv (n_v vs 15)) (v_iv (n_v vs 16)) (v_iv (n_v vs 17)) (v_iv (n_v vs 18)) (w_ei w1 (v_ad (n_v vs 5))) (w_ei w1 (v_ad (n_v vs 2))) (w_ei w1 (v_ad (n_v vs 3))) (w_ei w1 (v_ad (n_v vs 4))) (w_ei ws (v_ad (n_v vs 2))) (w_ei ws (v_ad (n_v vs 3))) (w_ei ws (v_ad (n_v vs 4))) (w_ei ws (v_ad (n_v vs 5))) k1 k13 k14 k15 k16 k17 k18 f0 h9 h10 f11 h12 f13 f15 hE_2_999_1 hE_3_999_1 hE_4_999_1 hE_5_999_1
  have nf2 : fc_1 PRD (20, [11, 8, 9, 10, 6, 7, 18, 13], [61, 4, 593]) ws (vs) := by
    refine ⟨nf_in hl rfl, sgq_1603 ?_⟩
    · show LKJ (w_ei ws (v_ad (n_v vs 11))) (w_ei ws (v_ad (n_v vs 8))) (w_ei ws (v_ad (n_v vs 9))) (w_ei ws (v_ad (n_v vs 10))) (v_iv (n_v vs 6)) (v_iv (n_v vs 7)) (v_iv (n_v vs 18)) (v_iv (n_v vs 13))
      simp only [q6, q7, q8, q9, q10, q11]
      exact vc_Fa_blocksOf_at_Nptail_Nphead_Npnear_Emblock_9_2 (v_iv (n_v vs 0)) (v_iv (n_v vs 1)) (v_iv (n_v vs 13)) (v_iv (n_v vs 14)) (v_iv (n_v vs 15)) (v_iv (n_v vs 16)) (v_iv (n_v vs 17)) (v_iv (n_v vs 18)) (w_ei w1 (v_ad (n_v vs 5))) (w_ei w1 (v_ad (n_v vs 2))) (w_ei w1 (v_ad (n_v vs 3))) (w_ei w1 (v_ad (n_v vs 4))) (w_ei ws (v_ad (n_v vs 2))) (w_ei ws (v_ad (n_v vs 3))) (w_ei ws (v_ad (n_v vs 4))) (w_ei ws (v_ad (n_v vs 5))) k0 k1 k13 k14 k15 k16 k17 k18 f0 h9 h10 f11 h12 f13 f16 hE_2_999_1 hE_3_999_1 hE_4_999_1 hE_5_999_1
  have nf3 : fc_1 PRD (20, [18, 7], [50, 0, 0, 0, 2, 1, 0, 1, 1]) ws (vs) := by
    refine ⟨nf_in hl rfl, sgq_360 ?_⟩
    · show v_iv (n_v vs 18) ≤ v_iv (n_v vs 7)
      rw [q7]
      exact vc_Fa_blocksOf_at_Nptail_Nphead_Npnear_Emblock_9_3 (v_iv (n_v vs 1)) (v_iv (n_v vs 7)) (v_iv (n_v vs 14)) (v_iv (n_v vs 16)) (v_iv (n_v vs 18)) (w_ei w1 (v_ad (n_v vs 2))) (w_ei w1 (v_ad (n_v vs 3))) (w_ei w1 (v_ad (n_v vs 4))) (w_ei ws (v_ad (n_v vs 2))) (w_ei ws (v_ad (n_v vs 3))) (w_ei ws (v_ad (n_v vs 4))) k1 k7 k14 k18 d0 d1 d4 d6 d8 hE_2_999_1 hE_3_999_1 hE_4_999_1
  refine ⟨(fun _ h => (by cases h)), [], trivial, ?_, (fun _ h => (by cases h))⟩
  rw [List.append_nil]
  exact List.forall_mem_cons.mpr ⟨⟨show (20 : Nat) < 100 from by decide, nf0⟩, List.forall_mem_cons.mpr ⟨⟨show (20 : Nat) < 100 from by decide, nf1⟩, List.forall_mem_cons.mpr ⟨⟨show (20 : Nat) < 100 from by decide, nf2⟩, List.forall_mem_cons.mpr ⟨⟨show (20 : Nat) < 100 from by decide, nf3⟩, (fun _ h => (by cases h))⟩⟩⟩⟩
set_option maxHeartbeats 4000000 in
theorem vc_Fa_blocksOf_at_Nptail_Nphead_Npnear_Emblock_10_0 (x1 : Int) (x13 : Int) (x14 : Int) (x16 : Int) (x17 : Int) (a5_1 : Int → Int) (a2_1 : Int → Int) (a3_1 : Int → Int) (a4_1 : Int → Int) (a2_0 : Int → Int) (a3_0 : Int → Int) (a4_0 : Int → Int) (a5_0 : Int → Int) (k1 : 1 ≤ x1 ∧ x1 ≤ 72) (k13 : 0 ≤ x13 ∧ x13 ≤ 71) (k14 : 0 ≤ x14 ∧ x14 ≤ 71) (k16 : 1 ≤ x16 ∧ x16 ≤ 72) (k17 : 1 ≤ x17 ∧ x17 ≤ 72) (f0 : x17 = x14 + 1) (f1 : x16 = x13 + 1) (f13 : LBI (a5_1) (x1) (x14) (x13)) (hE_2_999_1 : ∀ j : Int, a2_0 j = a2_1 j) (hE_3_999_1 : ∀ j : Int, a3_0 j = a3_1 j) (hE_4_999_1 : ∀ j : Int, a4_0 j = a4_1 j) (hE_5_999_1 : ∀ j : Int, 0 ≤ j → (j = x14 → a5_0 j = x13) ∧ (j ≠ x14 → a5_0 j = a5_1 j)) : LBI (a5_0) (x1) (x17) (x16) := by
  have e_hE_2_999_1 := funext hE_2_999_1; subst e_hE_2_999_1
  have e_hE_3_999_1 := funext hE_3_999_1; subst e_hE_3_999_1
  have e_hE_4_999_1 := funext hE_4_999_1; subst e_hE_4_999_1
  first
    | exact lbi_new ‹LBI _ _ _ _› (by assumption) (by omega) (by omega) (by omega) (by omega)
set_option maxHeartbeats 4000000 in
theorem vc_Fa_blocksOf_at_Nptail_Nphead_Npnear_Emblock_10_1 (x1 : Int) (x13 : Int) (x14 : Int) (x15 : Int) (x16 : Int) (x17 : Int) (a5_1 : Int → Int) (a2_1 : Int → Int) (a3_1 : Int → Int) (a4_1 : Int → Int) (a2_0 : Int → Int) (a3_0 : Int → Int) (a4_0 : Int → Int) (a5_0 : Int → Int) (k1 : 1 ≤ x1 ∧ x1 ≤ 72) (k13 : 0 ≤ x13 ∧ x13 ≤ 71) (k14 : 0 ≤ x14 ∧ x14 ≤ 71) (k15 : 0 ≤ x15 ∧ x15 ≤ 71) (k16 : 1 ≤ x16 ∧ x16 ≤ 72) (k17 : 1 ≤ x17 ∧ x17 ≤ 72) (f0 : x17 = x14 + 1) (f1 : x16 = x13 + 1) (f10 : x15 = x14) (h11 : x15 = a5_1 (x14)) (f12 : x14 < x1) (f14 : LBJ (a5_1) (a2_1) (a3_1) (x1) (x14) (x13)) (hE_2_999_1 : ∀ j : Int, a2_0 j = a2_1 j) (hE_3_999_1 : ∀ j : Int, a3_0 j = a3_1 j) (hE_4_999_1 : ∀ j : Int, a4_0 j = a4_1 j) (hE_5_999_1 : ∀ j : Int, 0 ≤ j → (j = x14 → a5_0 j = x13) ∧ (j ≠ x14 → a5_0 j = a5_1 j)) : LBJ (a5_0) (a2_0) (a3_0) (x1) (x17) (x16) := by
  have e_hE_2_999_1 := funext hE_2_999_1; subst e_hE_2_999_1
  have e_hE_3_999_1 := funext hE_3_999_1; subst e_hE_3_999_1
  have e_hE_4_999_1 := funext hE_4_999_1; subst e_hE_4_999_1
  first
    | exact lbj_new ‹LBJ _ _ _ _ _ _› (by omega) (by assumption) (by omega) (by assumption) (by omega) (by omega) (by omega) (by omega)
set_option maxHeartbeats 4000000 in
theorem vc_Fa_blocksOf_at_Nptail_Nphead_Npnear_Emblock_10_2 (x0 : Int) (x1 : Int) (x13 : Int) (x14 : Int) (x15 : Int) (x16 : Int) (x17 : Int) (a5_1 : Int → Int) (a2_1 : Int → Int) (a3_1 : Int → Int) (a4_1 : Int → Int) (a2_0 : Int → Int) (a3_0 : Int → Int) (a4_0 : Int → Int) (a5_0 : Int → Int) (k0 : 0 ≤ x0 ∧ x0 ≤ 25) (k1 : 1 ≤ x1 ∧ x1 ≤ 72) (k13 : 0 ≤ x13 ∧ x13 ≤ 71) (k14 : 0 ≤ x14 ∧ x14 ≤ 71) (k15 : 0 ≤ x15 ∧ x15 ≤ 71) (k16 : 1 ≤ x16 ∧ x16 ≤ 72) (k17 : 1 ≤ x17 ∧ x17 ≤ 72) (f0 : x17 = x14 + 1) (f1 : x16 = x13 + 1) (f10 : x15 = x14) (h11 : x15 = a5_1 (x14)) (f12 : x14 < x1) (f15 : LKJ (a5_1) (a2_1) (a3_1) (a4_1) (x0) (x1) (x14) (x13)) (hE_2_999_1 : ∀ j : Int, a2_0 j = a2_1 j) (hE_3_999_1 : ∀ j : Int, a3_0 j = a3_1 j) (hE_4_999_1 : ∀ j : Int, a4_0 j = a4_1 j) (hE_5_999_1 : ∀ j : Int, 0 ≤ j → (j = x14 → a5_0 j = x13) ∧ (j ≠ x14 → a5_0 j = a5_1 j)) : LKJ (a5_0) (a2_0) (a3_0) (a4_0) (x0) (x1) (x17) (x16) := by
  have e_hE_2_999_1 := funext hE_2_999_1; subst e_hE_2_999_1
  have e_hE_3_999_1 := funext hE_3_999_1; subst e_hE_3_999_1
  have e_hE_4_999_1 := funext hE_4_999_1; subst e_hE_4_999_1
  first
    | exact lkj_new ‹LKJ _ _ _ _ _ _ _ _› (by omega) (by assumption) (by omega) (by assumption) (by omega) (by omega) (by omega) (by omega)
set_option maxHeartbeats 4000000 in
theorem vc_Fa_blocksOf_at_Nptail_Nphead_Npnear_Emblock_10_3 (x1 : Int) (x7 : Int) (x14 : Int) (x15 : Int) (x16 : Int) (x17 : Int) (a5_1 : Int → Int) (a2_1 : Int → Int) (a3_1 : Int → Int) (a4_1 : Int → Int) (a2_0 : Int → Int) (a3_0 : Int → Int) (a4_0 : Int → Int) (k1 : 1 ≤ x1 ∧ x1 ≤ 72) (k7 : 1 ≤ x7 ∧ x7 ≤ 72) (k14 : 0 ≤ x14 ∧ x14 ≤ 71) (k15 : 0 ≤ x15 ∧ x15 ≤ 71) (k17 : 1 ≤ x17 ∧ x17 ≤ 72) (d0 : x14 + 1 ≤ x17 ∧ x17 ≤ x14 + 1) (d1 : x7 + (-4294967296) ≤ x17 ∧ x17 ≤ x7 + 0) (d8 : x14 + 0 ≤ x15 ∧ x15 ≤ x14 + 0) (d9 : x7 + (-4294967296) ≤ x14 ∧ x14 ≤ x7 + (-1)) (d11 : x7 + (-4294967296) ≤ x1 ∧ x1 ≤ x7 + 0) (d13 : x1 + (-4294967296) ≤ x7 ∧ x7 ≤ x1 + 0) (h11 : x15 = a5_1 (x14)) (hE_2_999_1 : ∀ j : Int, a2_0 j = a2_1 j) (hE_3_999_1 : ∀ j : Int, a3_0 j = a3_1 j) (hE_4_999_1 : ∀ j : Int, a4_0 j = a4_1 j) : x17 ≤ x1 := by
  have e_hE_2_999_1 := funext hE_2_999_1; subst e_hE_2_999_1
  have e_hE_3_999_1 := funext hE_3_999_1; subst e_hE_3_999_1
  have e_hE_4_999_1 := funext hE_4_999_1; subst e_hE_4_999_1
  first
    | omega
    | (have q3 := (‹LBI _ _ _ _›).2.2.1; omega)
    | (have q := (‹LBI _ _ _ _›).2.2.2.2.1 x14 (by omega) (by omega); omega)
    | (have q := (‹LBI _ _ _ _›).2.2.2.2.1 x14 (by omega) (by omega); have q2 := (‹LBI _ _ _ _›).2.2.2.1 x16 (by omega) (by omega); have q3 := (‹LBI _ _ _ _›).2.2.1; omega)
def o_Fa_blocksOf_at_Nptail_Nphead_Npnear_Emblock_10 : or_T := (124, 18, [(0, (0, 0, 25, [])), (1, (0, 1, 72, [])), (2, (2, 0, 0, [140])), (3, (2, 0, 0, [141])), (4, (2, 0, 0, [142])), (5, (2, 0, 0, [26])), (7, (0, 1, 72, [])), (13, (0, 0, 71, [])), (14, (0, 0, 71, [])), (15, (0, 0, 71, [])), (16, (0, 1, 72, [])), (17, (0, 1, 72, []))], [(6, [17, 14], [1]), (6, [16, 13], [1]), (24, [0, 6], []), (24, [1, 7], []), (24, [2, 8], []), (24, [3, 9], []), (24, [4, 10], []), (24, [5, 11], []), (100, [11, 14, 13], []), (7, [15, 14], [0]), (10, [15, 11, 14], []), (7, [14, 7], [2]), (20, [11, 7, 14, 13], [61, 1, 567]), (20, [11, 8, 9, 7, 14, 13], [61, 3, 585]), (20, [11, 8, 9, 10, 6, 7, 14, 13], [61, 4, 593])], [], [], [(20, [11, 7, 17, 16], [61, 1, 567]), (20, [11, 8, 9, 7, 17, 16], [61, 3, 585]), (20, [11, 8, 9, 10, 6, 7, 17, 16], [61, 4, 593]), (20, [17, 7], [50, 0, 0, 0, 2, 1, 0, 1, 1])], [], [(17, 14, 1, 1), (17, 7, -4294967296, 0), (16, 13, 1, 1), (16, 14, -4294967296, 1), (15, 14, 0, 0), (14, 7, -4294967296, -1), (1, 7, -4294967296, 0), (7, 1, -4294967296, 0), (13, 1, -4294967296, 1), (13, 7, -4294967296, 0), (13, 14, -4294967296, 0), (14, 1, -4294967296, 0), (14, 7, -4294967296, 0)])
theorem oo_Fa_blocksOf_at_Nptail_Nphead_Npnear_Emblock_10 {kA : Nat → ClassId} : or_ok PRD kA GG o_Fa_blocksOf_at_Nptail_Nphead_Npnear_Emblock_10 := by
  refine or_mk fun A ta ws vs hD hth hl => ?_
  intro t0 k0 t1 k1 t2 r2 t3 r3 t4 r4 t5 r5 t7 k7 t13 k13 t14 k14 t15 k15 t16 k16 t17 k17 d0 d1 d4 d7 d8 d9 d11 d13 d14 d15 d16 d17 d18 f0 f1 f3 f4 f5 f6 f7 f8 ta1 w1 le1 s1 f10 f11 f12 f13 f14 f15
  replace f0 := shm_4 f0
  replace f1 := shm_4 f1
  replace f3 := shm_5 f3
  replace f4 := shm_5 f4
  replace f5 := shm_5 f5
  replace f6 := shm_5 f6
  replace f7 := shm_5 f7
  replace f8 := shm_5 f8
  have s1 : (∀ b j, w_el ws b j = if b = v_ad (n_v vs 11) ∧ j = (v_iv (n_v vs 14)).toNat then v_iv (n_v vs 13) else w_el w1 b j) ∧ ∀ b k, w_fd ws b k = w_fd w1 b k := s1.2
  replace f10 := shm_37 f10
  replace f11 := shm_107 f11
  replace f12 := shm_6 f12
  replace f13 := shm_1601 f13
  replace f14 := shm_1602 f14
  replace f15 := shm_1603 f15
  have q6 : n_v vs 6 = n_v vs 0 := f3.symm
  have q7 : n_v vs 7 = n_v vs 1 := f4.symm
  have q8 : n_v vs 8 = n_v vs 2 := f5.symm
  have q9 : n_v vs 9 = n_v vs 3 := f6.symm
  have q10 : n_v vs 10 = n_v vs 4 := f7.symm
  have q11 : n_v vs 11 = n_v vs 5 := f8.symm
  rw [q11] at s1
  simp only [q11, q7, q8, q9, q6, q10] at f11 f12 f13 f14 f15
  have cr_2_999 : ta (v_ad (n_v vs 2)) = some 140 := r2
  have cr_3_999 : ta (v_ad (n_v vs 3)) = some 141 := r3
  have cr_4_999 : ta (v_ad (n_v vs 4)) = some 142 := r4
  have ad_5 : v_ad (n_v vs 5) = v_ad (n_v vs 5) := rfl
  have h11 : v_iv (n_v vs 15) = w_ei w1 (v_ad (n_v vs 5)) (v_iv (n_v vs 14)) := f11
  have hE_2_999_1 : ∀ j : Int, w_ei ws (v_ad (n_v vs 2)) j = w_ei w1 (v_ad (n_v vs 2)) j := el_kp s1.1 r5 cr_2_999 (by decide)
  have hE_3_999_1 : ∀ j : Int, w_ei ws (v_ad (n_v vs 3)) j = w_ei w1 (v_ad (n_v vs 3)) j := el_kp s1.1 r5 cr_3_999 (by decide)
  have hE_4_999_1 : ∀ j : Int, w_ei ws (v_ad (n_v vs 4)) j = w_ei w1 (v_ad (n_v vs 4)) j := el_kp s1.1 r5 cr_4_999 (by decide)
  have hE_5_999_1 : ∀ j : Int, 0 ≤ j → (j = v_iv (n_v vs 14) → w_ei ws (v_ad (n_v vs 5)) j = v_iv (n_v vs 13)) ∧ (j ≠ v_iv (n_v vs 14) → w_ei ws (v_ad (n_v vs 5)) j = w_ei w1 (v_ad (n_v vs 5)) j) := fun j hj => ⟨fun h => by unfold w_ei; rw [s1.1, if_pos ⟨ad_5.symm, by rw [h]⟩], fun h => by unfold w_ei; rw [s1.1, if_neg (fun e => h (by have := e.2; omega))]⟩
  have nf0 : fc_1 PRD (20, [11, 7, 17, 16], [61, 1, 567]) ws (vs) := by
    refine ⟨nf_in hl rfl, sgq_1601 ?_⟩
    · show LBI (w_ei ws (v_ad (n_v vs 11))) (v_iv (n_v vs 7)) (v_iv (n_v vs 17)) (v_iv (n_v vs 16))
      simp only [q7, q11]
      exact vc_Fa_blocksOf_at_Nptail_Nphead_Npnear_Emblock_10_0 (v_iv (n_v vs 1)) (v_iv (n_v vs 13)) (v_iv (n_v vs 14)) (v_iv (n_v vs 16)) (v_iv (n_v vs 17)) (w_ei w1 (v_ad (n_v vs 5))) (w_ei w1 (v_ad (n_v vs 2))) (w_ei w1 (v_ad (n_v vs 3))) (w_ei w1 (v_ad (n_v vs 4))) (w_ei ws (v_ad (n_v vs 2))) (w_ei ws (v_ad (n_v vs 3))) (w_ei ws (v_ad (n_v vs 4))) (w_ei ws (v_ad (n_v vs 5))) k1 k13 k14 k16 k17 f0 f1 f13 hE_2_999_1 hE_3_999_1 hE_4_999_1 hE_5_999_1
  have nf1 : fc_1 PRD (20, [11, 8, 9, 7, 17, 16], [61, 3, 585]) ws (vs) := by
    refine ⟨nf_in hl rfl, sgq_1602 ?_⟩
    · show LBJ (w_ei ws (v_ad (n_v vs 11))) (w_ei ws (v_ad (n_v vs 8))) (w_ei ws (v_ad (n_v vs 9))) (v_iv (n_v vs 7)) (v_iv (n_v vs 17)) (v_iv (n_v vs 16))
      simp only [q7, q8, q9, q11]
      exact vc_Fa_blocksOf_at_Nptail_Nphead_Npnear_Emblock_10_1 (v_iv (n_v vs 1)) (v_iv (n_v vs 13)) (v_iv (n_v vs 14)) (v_iv (n_v vs 15)) (v_iv (n_v vs 16)) (v_iv (n_v vs 17)) (w_ei w1 (v_ad (n_v vs 5))) (w_ei w1 (v_ad (n_v vs 2))) (w_ei w1 (v_ad (n_v vs 3))) (w_ei w1 (v_ad (n_v vs 4))) (w_ei ws (v_ad (n_v vs 2))) (w_ei ws (v_ad (n_v vs 3))) (w_ei ws (v_ad (n_v vs 4))) (w_ei ws (v_ad (n_v vs 5))) k1 k13 k14 k15 k16 k17 f0 f1 f10 h11 f12 f14 hE_2_999_1 hE_3_999_1 hE_4_999_1 hE_5_999_1
  have nf2 : fc_1 PRD (20, [11, 8, 9, 10, 6, 7, 17, 16], [61, 4, 593]) ws (vs) := by
    refine ⟨nf_in hl rfl, sgq_1603 ?_⟩
    · show LKJ (w_ei ws (v_ad (n_v vs 11))) (w_ei ws (v_ad (n_v vs 8))) (w_ei ws (v_ad (n_v vs 9))) (w_ei ws (v_ad (n_v vs 10))) (v_iv (n_v vs 6)) (v_iv (n_v vs 7)) (v_iv (n_v vs 17)) (v_iv (n_v vs 16))
      simp only [q6, q7, q8, q9, q10, q11]
      exact vc_Fa_blocksOf_at_Nptail_Nphead_Npnear_Emblock_10_2 (v_iv (n_v vs 0)) (v_iv (n_v vs 1)) (v_iv (n_v vs 13)) (v_iv (n_v vs 14)) (v_iv (n_v vs 15)) (v_iv (n_v vs 16)) (v_iv (n_v vs 17)) (w_ei w1 (v_ad (n_v vs 5))) (w_ei w1 (v_ad (n_v vs 2))) (w_ei w1 (v_ad (n_v vs 3))) (w_ei w1 (v_ad (n_v vs 4))) (w_ei ws (v_ad (n_v vs 2))) (w_ei ws (v_ad (n_v vs 3))) (w_ei ws (v_ad (n_v vs 4))) (w_ei ws (v_ad (n_v vs 5))) k0 k1 k13 k14 k15 k16 k17 f0 f1 f10 h11 f12 f15 hE_2_999_1 hE_3_999_1 hE_4_999_1 hE_5_999_1
  have nf3 : fc_1 PRD (20, [17, 7], [50, 0, 0, 0, 2, 1, 0, 1, 1]) ws (vs) := by
    refine ⟨nf_in hl rfl, sgq_360 ?_⟩
    · show v_iv (n_v vs 17) ≤ v_iv (n_v vs 7)
      rw [q7]
      exact vc_Fa_blocksOf_at_Nptail_Nphead_Npnear_Emblock_10_3 (v_iv (n_v vs 1)) (v_iv (n_v vs 7)) (v_iv (n_v vs 14)) (v_iv (n_v vs 15)) (v_iv (n_v vs 16)) (v_iv (n_v vs 17)) (w_ei w1 (v_ad (n_v vs 5))) (w_ei w1 (v_ad (n_v vs 2))) (w_ei w1 (v_ad (n_v vs 3))) (w_ei w1 (v_ad (n_v vs 4))) (w_ei ws (v_ad (n_v vs 2))) (w_ei ws (v_ad (n_v vs 3))) (w_ei ws (v_ad (n_v vs 4))) k1 k7 k14 k15 k17 d0 d1 d8 d9 d11 d13 h11 hE_2_999_1 hE_3_999_1 hE_4_999_1
  refine ⟨(fun _ h => (by cases h)), [], trivial, ?_, (fun _ h => (by cases h))⟩
  rw [List.append_nil]
  exact List.forall_mem_cons.mpr ⟨⟨show (20 : Nat) < 100 from by decide, nf0⟩, List.forall_mem_cons.mpr ⟨⟨show (20 : Nat) < 100 from by decide, nf1⟩, List.forall_mem_cons.mpr ⟨⟨show (20 : Nat) < 100 from by decide, nf2⟩, List.forall_mem_cons.mpr ⟨⟨show (20 : Nat) < 100 from by decide, nf3⟩, (fun _ h => (by cases h))⟩⟩⟩⟩
def n_Fa_blocksOf_at_Nptail_Nphead_Npnear_Emblock_an : List an_T := [(3, [(0, (0, 0, 25, [])), (1, (0, 0, 72, [])), (2, (2, 0, 0, [140])), (3, (2, 0, 0, [141])), (4, (2, 0, 0, [142])), (5, (2, 0, 0, [26])), (6, (0, 0, 72, []))], [], (0, 0), [(0, 0, 99997), (1, 12, 72), (0, 0, 100000), (0, 0, 0), (0, 0, 0)], [(0, 6, (Int.negSucc 999999999999), 0), (1, 7, (Int.negSucc 999999999999), 0), (6, 0, (Int.negSucc 999999999999), 0), (7, 1, (Int.negSucc 999999999999), 0), (12, 1, (Int.negSucc 999999999999), 0), (12, 7, (Int.negSucc 999999999999), 0)], [], [(0, 0, 25, []), (0, 0, 72, []), (2, 0, 0, [140]), (2, 0, 0, [141]), (2, 0, 0, [142]), (2, 0, 0, [26])], 0, [], [(20, [11, 12], [61, 1, 565]), (24, [0, 6], []), (24, [1, 7], []), (24, [2, 8], []), (24, [3, 9], []), (24, [4, 10], []), (24, [5, 11], [])]), (32, [(0, (0, 0, 25, [])), (1, (0, 0, 72, [])), (2, (2, 0, 0, [140])), (3, (2, 0, 0, [141])), (4, (2, 0, 0, [142])), (5, (2, 0, 0, [26])), (6, (0, 0, 33554431, [])), (7, (0, 0, 25, []))], [], (0, 0), [(0, 0, 99968), (1, 13, 25), (0, 0, 100000), (0, 0, 0), (0, 0, 0)], [(0, 6, (Int.negSucc 999999999999), 0), (1, 7, (Int.negSucc 999999999999), 0), (6, 0, (Int.negSucc 999999999999), 0), (7, 1, (Int.negSucc 999999999999), 0), (13, 0, (Int.negSucc 999999999999), 0), (13, 6, (Int.negSucc 999999999999), 0)], [], [(0, 0, 25, []), (0, 0, 72, []), (2, 0, 0, [140]), (2, 0, 0, [141]), (2, 0, 0, [142]), (2, 0, 0, [26])], 0, [], [(20, [11, 7], [61, 1, 566]), (20, [11, 8, 9, 7], [61, 3, 580]), (20, [11, 8, 9, 10, 6, 7], [61, 4, 587]), (24, [0, 6], []), (24, [1, 7], []), (24, [2, 8], []), (24, [3, 9], []), (24, [4, 10], []), (24, [5, 11], [])]), (48, [(0, (0, 1, 25, [])), (1, (0, 0, 72, [])), (2, (2, 0, 0, [140])), (3, (2, 0, 0, [141])), (4, (2, 0, 0, [142])), (5, (2, 0, 0, [26])), (6, (0, 0, 33554431, [])), (7, (0, 0, 24, [])), (8, (0, 0, 33554431, [])), (9, (0, 0, 25, []))], [], (0, 0), [(0, 0, 99968), (1, 13, 25), (0, 0, 99952), (1, 15, 25), (0, 0, 100000)], [(0, 6, (Int.negSucc 999999999999), 0), (1, 7, (Int.negSucc 999999999999), 0), (6, 0, (Int.negSucc 999999999999), 0), (7, 1, (Int.negSucc 999999999999), 0), (13, 0, (Int.negSucc 999999999999), (Int.negSucc 0)), (13, 6, (Int.negSucc 999999999999), (Int.negSucc 0)), (15, 0, (Int.negSucc 999999999999), 0), (15, 6, (Int.negSucc 999999999999), 0)], [], [(0, 0, 25, []), (0, 0, 72, []), (2, 0, 0, [140]), (2, 0, 0, [141]), (2, 0, 0, [142]), (2, 0, 0, [26])], 0, [], [(20, [11, 7], [61, 1, 566]), (20, [11, 8, 9, 7], [61, 3, 580]), (20, [11, 8, 9, 10, 6, 7], [61, 4, 587]), (24, [0, 6], []), (24, [1, 7], []), (24, [2, 8], []), (24, [3, 9], []), (24, [4, 10], []), (24, [5, 11], [])]), (124, [(0, (0, 0, 25, [])), (1, (0, 0, 72, [])), (2, (2, 0, 0, [140])), (3, (2, 0, 0, [141])), (4, (2, 0, 0, [142])), (5, (2, 0, 0, [26])), (6, (0, 0, 33554431, [])), (7, (0, 0, 72, [])), (8, (0, 0, 72, []))], [], (0, 0), [(0, 0, 99876), (1, 14, 72), (0, 0, 100000), (0, 0, 0), (0, 0, 0)], [(0, 6, (Int.negSucc 999999999999), 0), (1, 7, (Int.negSucc 999999999999), 0), (6, 0, (Int.negSucc 999999999999), 0), (7, 1, (Int.negSucc 999999999999), 0), (13, 1, (Int.negSucc 999999999999), 1), (13, 7, (Int.negSucc 999999999999), 0), (13, 14, (Int.negSucc 999999999999), 0), (14, 1, (Int.negSucc 999999999999), 0), (14, 7, (Int.negSucc 999999999999), 0)], [], [(0, 0, 25, []), (0, 0, 72, []), (2, 0, 0, [140]), (2, 0, 0, [141]), (2, 0, 0, [142]), (2, 0, 0, [26])], 0, [], [(20, [11, 7, 14, 13], [61, 1, 567]), (20, [11, 8, 9, 7, 14, 13], [61, 3, 585]), (20, [11, 8, 9, 10, 6, 7, 14, 13], [61, 4, 593]), (20, [14, 7], [50, 0, 0, 0, 2, 1, 0, 1, 1]), (24, [0, 6], []), (24, [1, 7], []), (24, [2, 8], []), (24, [3, 9], []), (24, [4, 10], []), (24, [5, 11], [])])]
def t_Fa_blocksOf_at_Nptail_Nphead_Npnear_Emblock_ct : ct_L := [(243, 110, e_Fa_spread_at_Npnear), (312, 114, e_Fa_uniteAt_at_Nptail_Nphead_Emblock)]
set_option maxRecDepth 100000 in
theorem c_Fa_blocksOf_at_Nptail_Nphead_Npnear_Emblock {l : Launch} {D : va_G} {kA : Nat → ClassId} (h_Fa_spread_at_Npnear : ct_ok PRD l D kA GG y_Fa_spread_at_Npnear z_Fa_spread_at_Npnear e_Fa_spread_at_Npnear) (h_Fa_uniteAt_at_Nptail_Nphead_Emblock : ct_ok PRD l D kA GG y_Fa_uniteAt_at_Nptail_Nphead_Emblock z_Fa_uniteAt_at_Nptail_Nphead_Emblock e_Fa_uniteAt_at_Nptail_Nphead_Emblock) : ct_ok PRD l D kA GG y_Fa_blocksOf_at_Nptail_Nphead_Npnear_Emblock z_Fa_blocksOf_at_Nptail_Nphead_Npnear_Emblock e_Fa_blocksOf_at_Nptail_Nphead_Npnear_Emblock := chk_all_ok (FT := []) (PT := []) (CT := t_Fa_blocksOf_at_Nptail_Nphead_Npnear_Emblock_ct) (KT := []) (NT := []) (AN := n_Fa_blocksOf_at_Nptail_Nphead_Npnear_Emblock_an) (OT := [o_Fa_blocksOf_at_Nptail_Nphead_Npnear_Emblock_0, o_Fa_blocksOf_at_Nptail_Nphead_Npnear_Emblock_1, o_Fa_blocksOf_at_Nptail_Nphead_Npnear_Emblock_2, o_Fa_blocksOf_at_Nptail_Nphead_Npnear_Emblock_3, o_Fa_blocksOf_at_Nptail_Nphead_Npnear_Emblock_4, o_Fa_blocksOf_at_Nptail_Nphead_Npnear_Emblock_5, o_Fa_blocksOf_at_Nptail_Nphead_Npnear_Emblock_6, o_Fa_blocksOf_at_Nptail_Nphead_Npnear_Emblock_7, o_Fa_blocksOf_at_Nptail_Nphead_Npnear_Emblock_8, o_Fa_blocksOf_at_Nptail_Nphead_Npnear_Emblock_9, o_Fa_blocksOf_at_Nptail_Nphead_Npnear_Emblock_10]) 5 408 (List.forall_mem_cons.mpr ⟨oo_Fa_blocksOf_at_Nptail_Nphead_Npnear_Emblock_0, List.forall_mem_cons.mpr ⟨oo_Fa_blocksOf_at_Nptail_Nphead_Npnear_Emblock_1, List.forall_mem_cons.mpr ⟨oo_Fa_blocksOf_at_Nptail_Nphead_Npnear_Emblock_2, List.forall_mem_cons.mpr ⟨oo_Fa_blocksOf_at_Nptail_Nphead_Npnear_Emblock_3, List.forall_mem_cons.mpr ⟨oo_Fa_blocksOf_at_Nptail_Nphead_Npnear_Emblock_4, List.forall_mem_cons.mpr ⟨oo_Fa_blocksOf_at_Nptail_Nphead_Npnear_Emblock_5, List.forall_mem_cons.mpr ⟨oo_Fa_blocksOf_at_Nptail_Nphead_Npnear_Emblock_6, List.forall_mem_cons.mpr ⟨oo_Fa_blocksOf_at_Nptail_Nphead_Npnear_Emblock_7, List.forall_mem_cons.mpr ⟨oo_Fa_blocksOf_at_Nptail_Nphead_Npnear_Emblock_8, List.forall_mem_cons.mpr ⟨oo_Fa_blocksOf_at_Nptail_Nphead_Npnear_Emblock_9, List.forall_mem_cons.mpr ⟨oo_Fa_blocksOf_at_Nptail_Nphead_Npnear_Emblock_10, List.forall_mem_nil _⟩⟩⟩⟩⟩⟩⟩⟩⟩⟩⟩) (by decide +kernel) ⟨List.forall_mem_nil _, List.forall_mem_nil _, List.forall_mem_cons.mpr ⟨cl_static (y := y_Fa_spread_at_Npnear) h_Fa_spread_at_Npnear wm_821 wm_7 wm_819 wm_820 ⟨by decide, by decide, by decide +kernel⟩ (by decide), List.forall_mem_cons.mpr ⟨cl_static (y := y_Fa_uniteAt_at_Nptail_Nphead_Emblock) h_Fa_uniteAt_at_Nptail_Nphead_Emblock wm_833 wm_7 wm_831 wm_832 ⟨by decide, by decide, by decide +kernel⟩ (by decide), List.forall_mem_nil _⟩⟩, List.forall_mem_nil _, List.forall_mem_nil _, GG_pl⟩ (by decide +kernel)
set_option maxHeartbeats 4000000 in
theorem vc_La_init_0_0 (x49 : Int) (x57 : Int) (x58 : Int) (orders_0 : Int → Int) (k49 : 873 ≤ x49 ∧ x49 ≤ 873) (k57 : 0 ≤ x57 ∧ x57 ≤ 0) (k58 : 1 ≤ x58 ∧ x58 ≤ 1) (hT2 : ∀ j : Int, 0 ≤ j → j < x49 + 0 → 0 ≤ orders_0 j ∧ orders_0 j ≤ 0) : LOA (orders_0) (x58) (x57) := by
  first
    | exact loa_zero (fun j j0 j1 => by have q := hT1 j (by omega) (by omega); omega) (by omega) (by omega)
    | exact loa_zero (fun j j0 j1 => by have q := hT2 j (by omega) (by omega); omega) (by omega) (by omega)
def o_La_init_0 : or_T := (182, 60, [(0, (2, 0, 0, [299])), (49, (0, 873, 873, [])), (57, (0, 0, 0, [])), (58, (0, 1, 1, []))], [(9, [50, 0], [17]), (20, [50, 49], [8, 0, 0, 0])], [], [], [(20, [50, 58, 57], [61, 1, 731])], [], [])
theorem oo_La_init_0 {kA : Nat → ClassId} : or_ok PRD kA GG o_La_init_0 := by
  refine or_mk fun A ta ws vs hD hth hl => ?_
  intro t0 r0 t49 k49 t57 k57 t58 k58 f0 f2
  replace f0 := shm_795 f0
  replace f2 := shm_0 f2
  have ad_50 : v_ad (n_v vs 50) = w_ar ws (n_v vs 0) 17 := congrArg v_ad f0
  have hT2 : ∀ j : Int, 0 ≤ j → j < v_iv (n_v vs 49) + 0 → 0 ≤ w_ei ws (w_ar ws (n_v vs 0) 17) j ∧ w_ei ws (w_ar ws (n_v vs 0) 17) j ≤ 0 := fun j h0 h1 => by have h2 := f2 j.toNat (by omega); rw [ad_50] at h2; exact h2
  have nf0 : fc_1 PRD (20, [50, 58, 57], [61, 1, 731]) ws (vs) := by
    refine ⟨nf_in hl rfl, sgq_1195 ?_⟩
    · show LOA (w_ei ws (v_ad (n_v vs 50))) (v_iv (n_v vs 58)) (v_iv (n_v vs 57))
      rw [ad_50]
      exact vc_La_init_0_0 (v_iv (n_v vs 49)) (v_iv (n_v vs 57)) (v_iv (n_v vs 58)) (w_ei ws (w_ar ws (n_v vs 0) 17)) k49 k57 k58 hT2
  refine ⟨(fun _ h => (by cases h)), [], trivial, ?_, (fun _ h => (by cases h))⟩
  rw [List.append_nil]
  exact List.forall_mem_cons.mpr ⟨⟨show (20 : Nat) < 100 from by decide, nf0⟩, (fun _ h => (by cases h))⟩
set_option maxHeartbeats 4000000 in
theorem vc_La_init_1_0 (x58 : Int) (x60 : Int) (x61 : Int) (a50_0 : Int → Int) (k58 : 1 ≤ x58 ∧ x58 ≤ 1) (k60 : 1 ≤ x60 ∧ x60 ≤ 873) (k61 : 2 ≤ x61 ∧ x61 ≤ 2) (f1 : x61 = x58 + 1) (f2 : LOP (a50_0) (x58) (x60)) : LOA (a50_0) (x61) (x60) := by
  first
    | exact lop_loa ‹LOP _ _ _› (by omega)
def o_La_init_1 : or_T := (182, 63, [(58, (0, 1, 1, [])), (60, (0, 1, 873, [])), (61, (0, 2, 2, []))], [(6, [61, 58], [1]), (20, [50, 58, 60], [61, 1, 732])], [], [], [(20, [50, 61, 60], [61, 1, 731])], [], [])
theorem oo_La_init_1 {kA : Nat → ClassId} : or_ok PRD kA GG o_La_init_1 := by
  refine or_mk fun A ta ws vs hD hth hl => ?_
  intro t58 k58 t60 k60 t61 k61 f1 f2
  have nf0 : fc_1 PRD (20, [50, 61, 60], [61, 1, 731]) ws (vs) := ⟨nf_in hl rfl, sgq_1195 (vc_La_init_1_0 (v_iv (n_v vs 58)) (v_iv (n_v vs 60)) (v_iv (n_v vs 61)) (w_ei ws (v_ad (n_v vs 50))) k58 k60 k61 (shm_4 f1) (shm_1201 f2))⟩
  refine ⟨(fun _ h => (by cases h)), [], trivial, ?_, (fun _ h => (by cases h))⟩
  rw [List.append_nil]
  exact List.forall_mem_cons.mpr ⟨⟨show (20 : Nat) < 100 from by decide, nf0⟩, (fun _ h => (by cases h))⟩
set_option maxHeartbeats 4000000 in
theorem vc_La_init_2_0 (x61 : Int) (x63 : Int) (x64 : Int) (a50_0 : Int → Int) (k61 : 2 ≤ x61 ∧ x61 ≤ 2) (k63 : 1 ≤ x63 ∧ x63 ≤ 873) (k64 : 3 ≤ x64 ∧ x64 ≤ 3) (f1 : x64 = x61 + 1) (f2 : LOP (a50_0) (x61) (x63)) : LOA (a50_0) (x64) (x63) := by
  first
    | exact lop_loa ‹LOP _ _ _› (by omega)
def o_La_init_2 : or_T := (182, 66, [(61, (0, 2, 2, [])), (63, (0, 1, 873, [])), (64, (0, 3, 3, []))], [(6, [64, 61], [1]), (20, [50, 61, 63], [61, 1, 732])], [], [], [(20, [50, 64, 63], [61, 1, 731])], [], [])
theorem oo_La_init_2 {kA : Nat → ClassId} : or_ok PRD kA GG o_La_init_2 := by
  refine or_mk fun A ta ws vs hD hth hl => ?_
  intro t61 k61 t63 k63 t64 k64 f1 f2
  have nf0 : fc_1 PRD (20, [50, 64, 63], [61, 1, 731]) ws (vs) := ⟨nf_in hl rfl, sgq_1195 (vc_La_init_2_0 (v_iv (n_v vs 61)) (v_iv (n_v vs 63)) (v_iv (n_v vs 64)) (w_ei ws (v_ad (n_v vs 50))) k61 k63 k64 (shm_4 f1) (shm_1201 f2))⟩
  refine ⟨(fun _ h => (by cases h)), [], trivial, ?_, (fun _ h => (by cases h))⟩
  rw [List.append_nil]
  exact List.forall_mem_cons.mpr ⟨⟨show (20 : Nat) < 100 from by decide, nf0⟩, (fun _ h => (by cases h))⟩
set_option maxHeartbeats 4000000 in
theorem vc_La_init_3_0 (x64 : Int) (x66 : Int) (x67 : Int) (a50_0 : Int → Int) (k64 : 3 ≤ x64 ∧ x64 ≤ 3) (k66 : 1 ≤ x66 ∧ x66 ≤ 873) (k67 : 4 ≤ x67 ∧ x67 ≤ 4) (f1 : x67 = x64 + 1) (f2 : LOP (a50_0) (x64) (x66)) : LOA (a50_0) (x67) (x66) := by
  first
    | exact lop_loa ‹LOP _ _ _› (by omega)
def o_La_init_3 : or_T := (182, 69, [(64, (0, 3, 3, [])), (66, (0, 1, 873, [])), (67, (0, 4, 4, []))], [(6, [67, 64], [1]), (20, [50, 64, 66], [61, 1, 732])], [], [], [(20, [50, 67, 66], [61, 1, 731])], [], [])
theorem oo_La_init_3 {kA : Nat → ClassId} : or_ok PRD kA GG o_La_init_3 := by
  refine or_mk fun A ta ws vs hD hth hl => ?_
  intro t64 k64 t66 k66 t67 k67 f1 f2
  have nf0 : fc_1 PRD (20, [50, 67, 66], [61, 1, 731]) ws (vs) := ⟨nf_in hl rfl, sgq_1195 (vc_La_init_3_0 (v_iv (n_v vs 64)) (v_iv (n_v vs 66)) (v_iv (n_v vs 67)) (w_ei ws (v_ad (n_v vs 50))) k64 k66 k67 (shm_4 f1) (shm_1201 f2))⟩
  refine ⟨(fun _ h => (by cases h)), [], trivial, ?_, (fun _ h => (by cases h))⟩
  rw [List.append_nil]
  exact List.forall_mem_cons.mpr ⟨⟨show (20 : Nat) < 100 from by decide, nf0⟩, (fun _ h => (by cases h))⟩
set_option maxHeartbeats 4000000 in
theorem vc_La_init_4_0 (x67 : Int) (x69 : Int) (x70 : Int) (a50_0 : Int → Int) (k67 : 4 ≤ x67 ∧ x67 ≤ 4) (k69 : 1 ≤ x69 ∧ x69 ≤ 873) (k70 : 5 ≤ x70 ∧ x70 ≤ 5) (f1 : x70 = x67 + 1) (f2 : LOP (a50_0) (x67) (x69)) : LOA (a50_0) (x70) (x69) := by
  first
    | exact lop_loa ‹LOP _ _ _› (by omega)
def o_La_init_4 : or_T := (182, 72, [(67, (0, 4, 4, [])), (69, (0, 1, 873, [])), (70, (0, 5, 5, []))], [(6, [70, 67], [1]), (20, [50, 67, 69], [61, 1, 732])], [], [], [(20, [50, 70, 69], [61, 1, 731])], [], [])
theorem oo_La_init_4 {kA : Nat → ClassId} : or_ok PRD kA GG o_La_init_4 := by
  refine or_mk fun A ta ws vs hD hth hl => ?_
  intro t67 k67 t69 k69 t70 k70 f1 f2
  have nf0 : fc_1 PRD (20, [50, 70, 69], [61, 1, 731]) ws (vs) := ⟨nf_in hl rfl, sgq_1195 (vc_La_init_4_0 (v_iv (n_v vs 67)) (v_iv (n_v vs 69)) (v_iv (n_v vs 70)) (w_ei ws (v_ad (n_v vs 50))) k67 k69 k70 (shm_4 f1) (shm_1201 f2))⟩
  refine ⟨(fun _ h => (by cases h)), [], trivial, ?_, (fun _ h => (by cases h))⟩
  rw [List.append_nil]
  exact List.forall_mem_cons.mpr ⟨⟨show (20 : Nat) < 100 from by decide, nf0⟩, (fun _ h => (by cases h))⟩
set_option maxHeartbeats 4000000 in
theorem vc_La_init_5_0 (x70 : Int) (x72 : Int) (x73 : Int) (a50_0 : Int → Int) (k70 : 5 ≤ x70 ∧ x70 ≤ 5) (k72 : 1 ≤ x72 ∧ x72 ≤ 873) (k73 : 6 ≤ x73 ∧ x73 ≤ 6) (f1 : x73 = x70 + 1) (f2 : LOP (a50_0) (x70) (x72)) : LOA (a50_0) (x73) (x72) := by
  first
    | exact lop_loa ‹LOP _ _ _› (by omega)
def o_La_init_5 : or_T := (182, 75, [(70, (0, 5, 5, [])), (72, (0, 1, 873, [])), (73, (0, 6, 6, []))], [(6, [73, 70], [1]), (20, [50, 70, 72], [61, 1, 732])], [], [], [(20, [50, 73, 72], [61, 1, 731])], [], [])
theorem oo_La_init_5 {kA : Nat → ClassId} : or_ok PRD kA GG o_La_init_5 := by
  refine or_mk fun A ta ws vs hD hth hl => ?_
  intro t70 k70 t72 k72 t73 k73 f1 f2
  have nf0 : fc_1 PRD (20, [50, 73, 72], [61, 1, 731]) ws (vs) := ⟨nf_in hl rfl, sgq_1195 (vc_La_init_5_0 (v_iv (n_v vs 70)) (v_iv (n_v vs 72)) (v_iv (n_v vs 73)) (w_ei ws (v_ad (n_v vs 50))) k70 k72 k73 (shm_4 f1) (shm_1201 f2))⟩
  refine ⟨(fun _ h => (by cases h)), [], trivial, ?_, (fun _ h => (by cases h))⟩
  rw [List.append_nil]
  exact List.forall_mem_cons.mpr ⟨⟨show (20 : Nat) < 100 from by decide, nf0⟩, (fun _ h => (by cases h))⟩
set_option maxHeartbeats 4000000 in
theorem vc_La_init_6_0 (x73 : Int) (x75 : Int) (orders_0 : Int → Int) (k73 : 6 ≤ x73 ∧ x73 ≤ 6) (k75 : 1 ≤ x75 ∧ x75 ≤ 873) (f1 : LOP (orders_0) (x73) (x75)) : ORD (orders_0) := by
  first
    | exact loa_ord (lop_loa ‹LOP _ _ _› rfl) (by omega)
def o_La_init_6 : or_T := (192, 78, [(73, (0, 6, 6, [])), (75, (0, 1, 873, []))], [(9, [50, 0], [17]), (20, [50, 73, 75], [61, 1, 732])], [], [], [(20, [0], [60, 0, 1, 648, 17])], [], [])
theorem oo_La_init_6 {kA : Nat → ClassId} : or_ok PRD kA GG o_La_init_6 := by
  refine or_mk fun A ta ws vs hD hth hl => ?_
  intro t73 k73 t75 k75 f0 f1
  replace f0 := shm_795 f0
  replace f1 := shm_1201 f1
  have ad_50 : v_ad (n_v vs 50) = w_ar ws (n_v vs 0) 17 := congrArg v_ad f0
  simp only [ad_50] at f1
  have nf0 : fc_1 PRD (20, [0], [60, 0, 1, 648, 17]) ws (vs) := ⟨nf_in hl rfl, sgq_1096 (vc_La_init_6_0 (v_iv (n_v vs 73)) (v_iv (n_v vs 75)) (w_ei ws (w_ar ws (n_v vs 0) 17)) k73 k75 f1)⟩
  refine ⟨(fun _ h => (by cases h)), [], trivial, ?_, (fun _ h => (by cases h))⟩
  rw [List.append_nil]
  exact List.forall_mem_cons.mpr ⟨⟨show (20 : Nat) < 100 from by decide, nf0⟩, (fun _ h => (by cases h))⟩
def n_La_init_an : List an_T := []
def t_La_init_ct : ct_L := [(1, 81, e_La_listOrders), (8, 3, e_acp_81), (2000005, 0, e_St_init_nw)]
set_option maxRecDepth 100000 in
theorem c_La_init {l : Launch} {D : va_G} {kA : Nat → ClassId} (h_La_listOrders : ct_ok PRD l D kA GG y_La_listOrders z_La_listOrders e_La_listOrders) (h_St_init : ct_ok PRD l D kA GG y_St_init z_St_init e_St_init) : ct_ok PRD l D kA GG y_La_init z_La_init e_La_init := chk_all_ok (FT := []) (PT := [(12, 4, 0, .object "DrawingHouse$Stretch"), (18, 4, 1, .object "DrawingHouse$Graph"), (22, 4, 2, .int), (26, 4, 3, .int), (29, 4, 4, .array .int), (33, 4, 5, .array .int), (36, 4, 6, .array .int), (39, 4, 7, .array .int), (42, 4, 8, .array .int), (45, 4, 9, .array .int), (48, 4, 10, .array .int), (51, 4, 11, .array .int), (54, 4, 12, .array .int), (57, 4, 13, .array .int), (60, 4, 14, .array .int), (63, 4, 15, .array .int), (66, 4, 16, .array .int), (69, 4, 17, .array .int), (72, 4, 18, .array .int), (75, 4, 19, .array .int), (78, 4, 20, .array .int)]) (CT := t_La_init_ct) (KT := []) (NT := [(33, 62, .int), (41, 63, .int), (49, 64, .int), (57, 65, .int), (65, 66, .int), (73, 67, .int), (81, 68, .int), (89, 69, .int), (97, 70, .int), (105, 71, .int), (113, 72, .int), (121, 73, .int), (129, 74, .int), (138, 75, .int), (147, 76, .int), (156, 77, .int), (164, 78, .int)]) (AN := n_La_init_an) (OT := [o_La_init_0, o_La_init_1, o_La_init_2, o_La_init_3, o_La_init_4, o_La_init_5, o_La_init_6]) 0 600 (List.forall_mem_cons.mpr ⟨oo_La_init_0, List.forall_mem_cons.mpr ⟨oo_La_init_1, List.forall_mem_cons.mpr ⟨oo_La_init_2, List.forall_mem_cons.mpr ⟨oo_La_init_3, List.forall_mem_cons.mpr ⟨oo_La_init_4, List.forall_mem_cons.mpr ⟨oo_La_init_5, List.forall_mem_cons.mpr ⟨oo_La_init_6, List.forall_mem_nil _⟩⟩⟩⟩⟩⟩⟩) (by decide +kernel) ⟨List.forall_mem_nil _, List.forall_mem_cons.mpr ⟨pf_La_12, List.forall_mem_cons.mpr ⟨pf_La_18, List.forall_mem_cons.mpr ⟨pf_La_22, List.forall_mem_cons.mpr ⟨pf_La_26, List.forall_mem_cons.mpr ⟨pf_La_29, List.forall_mem_cons.mpr ⟨pf_La_33, List.forall_mem_cons.mpr ⟨pf_La_36, List.forall_mem_cons.mpr ⟨pf_La_39, List.forall_mem_cons.mpr ⟨pf_La_42, List.forall_mem_cons.mpr ⟨pf_La_45, List.forall_mem_cons.mpr ⟨pf_La_48, List.forall_mem_cons.mpr ⟨pf_La_51, List.forall_mem_cons.mpr ⟨pf_La_54, List.forall_mem_cons.mpr ⟨pf_La_57, List.forall_mem_cons.mpr ⟨pf_La_60, List.forall_mem_cons.mpr ⟨pf_La_63, List.forall_mem_cons.mpr ⟨pf_La_66, List.forall_mem_cons.mpr ⟨pf_La_69, List.forall_mem_cons.mpr ⟨pf_La_72, List.forall_mem_cons.mpr ⟨pf_La_75, List.forall_mem_cons.mpr ⟨pf_La_78, List.forall_mem_nil _⟩⟩⟩⟩⟩⟩⟩⟩⟩⟩⟩⟩⟩⟩⟩⟩⟩⟩⟩⟩⟩, List.forall_mem_cons.mpr ⟨cl_virtual (y := y_La_listOrders) (ci := 4) rfl rfl ⟨_, _, rfl⟩ (by decide +kernel) h_La_listOrders wm_1230 wm_18 wm_1227 wm_1229 wv_4_7 ⟨by decide, by decide, by decide +kernel⟩ (by decide), List.forall_mem_cons.mpr ⟨cl_obj rfl wm_1191 wm_31 wm_32, List.forall_mem_cons.mpr ⟨cq_new (PQ := PRD) (pc := 5) (idx := 9) (index := 11) (rr := 300) (r := 10) h_St_init rfl rfl (by decide +kernel) (by decide +kernel) rfl rfl rfl (ro_none (G := GG) (by decide +kernel)) rfl rfl rfl rfl (by decide +kernel) (by decide +kernel) (by decide +kernel) i_St t_St t_St_ok wm_1192 wm_1193 wm_19 rfl f0St_ok wm_1196 wm_19 (Or.inr ⟨_, wn_1194⟩) wm_1195 rfl ⟨by decide, by decide, by decide +kernel⟩ (by decide) (by decide +kernel) (by decide +kernel) (by decide +kernel), List.forall_mem_nil _⟩⟩⟩, List.forall_mem_nil _, List.forall_mem_cons.mpr ⟨wm_193, List.forall_mem_cons.mpr ⟨wm_193, List.forall_mem_cons.mpr ⟨wm_193, List.forall_mem_cons.mpr ⟨wm_193, List.forall_mem_cons.mpr ⟨wm_193, List.forall_mem_cons.mpr ⟨wm_193, List.forall_mem_cons.mpr ⟨wm_193, List.forall_mem_cons.mpr ⟨wm_193, List.forall_mem_cons.mpr ⟨wm_193, List.forall_mem_cons.mpr ⟨wm_193, List.forall_mem_cons.mpr ⟨wm_193, List.forall_mem_cons.mpr ⟨wm_193, List.forall_mem_cons.mpr ⟨wm_193, List.forall_mem_cons.mpr ⟨wm_193, List.forall_mem_cons.mpr ⟨wm_193, List.forall_mem_cons.mpr ⟨wm_193, List.forall_mem_cons.mpr ⟨wm_193, List.forall_mem_nil _⟩⟩⟩⟩⟩⟩⟩⟩⟩⟩⟩⟩⟩⟩⟩⟩⟩, GG_pl⟩ (by decide +kernel)

def o_La_write_0 : or_T := (19, 10, [], [], [], [], [(24, [0, 0], [])], [], [])
theorem oo_La_write_0 {kA : Nat → ClassId} : or_ok PRD kA GG o_La_write_0 := by
  refine or_mk fun A ta ws vs hD hth hl => ?_
  have nf0 : fc_1 PRD (24, [0, 0], []) ws (vs) := by
    refine ⟨nf_in hl rfl, sgq_1 ?_⟩
    · show n_v vs 0 = n_v vs 0
      first | rfl | simp only [true_and]
  refine ⟨(fun _ h => (by cases h)), [], trivial, ?_, (fun _ h => (by cases h))⟩
  rw [List.append_nil]
  exact List.forall_mem_cons.mpr ⟨⟨show (24 : Nat) < 100 from by decide, nf0⟩, (fun _ h => (by cases h))⟩
set_option maxHeartbeats 4000000 in
theorem vc_La_write_1_0 (x14 : Int) (bends_0o9 : Int → Int) (k14 : 0 ≤ x14 ∧ x14 ≤ 0) (f3 : BN0 (bends_0o9)) : BNY (bends_0o9) (x14) := by
  first
    | exact bny_0 ‹BN0 _›
def o_La_write_1 : or_T := (79, 15, [(14, (0, 0, 0, []))], [(20, [9], [60, 0, 1, 641, 4])], [], [], [(20, [9, 14], [60, 0, 1, 642, 4])], [], [])
theorem oo_La_write_1 {kA : Nat → ClassId} : or_ok PRD kA GG o_La_write_1 := by
  refine or_mk fun A ta ws vs hD hth hl => ?_
  intro t14 k14 f3
  have nf0 : fc_1 PRD (20, [9, 14], [60, 0, 1, 642, 4]) ws (vs) := ⟨nf_in hl rfl, sgq_1608 (vc_La_write_1_0 (v_iv (n_v vs 14)) (w_ei ws (w_ar ws (n_v vs 9) 4)) k14 (shm_794 f3))⟩
  refine ⟨(fun _ h => (by cases h)), [], trivial, ?_, (fun _ h => (by cases h))⟩
  rw [List.append_nil]
  exact List.forall_mem_cons.mpr ⟨⟨show (20 : Nat) < 100 from by decide, nf0⟩, (fun _ h => (by cases h))⟩
set_option maxHeartbeats 4000000 in
theorem vc_La_write_2_r0 (x10 : Int) (x16 : Int) (place_0o11 : Int → Int) (k10 : 0 ≤ x10 ∧ x10 ≤ 23) (k16 : (-2147483648) ≤ x16 ∧ x16 ≤ 2147483647) (h0 : x16 = place_0o11 (x10)) (f6 : PBZ (place_0o11)) : 0 ≤ x16 ∧ x16 ≤ 568320 := by
  have q := ‹PBZ _› x10 (by omega) (by omega)
  omega
def o_La_write_2 : or_T := (44, 17, [(0, (2, 0, 0, [4])), (7, (2, 0, 0, [4])), (8, (2, 0, 0, [2])), (9, (2, 0, 0, [0])), (10, (0, 0, 23, [])), (11, (2, 0, 0, [10])), (12, (2, 0, 0, [3])), (13, (0, 1, 24, [])), (15, (2, 0, 0, [122])), (16, (0, -2147483648, 2147483647, []))], [(10, [16, 15, 10], []), (9, [15, 11], [6]), (7, [10, 13], [2]), (9, [13, 12], [0]), (20, [7, 12, 8], [60, 4, 5, 664, 3, 2, 1000, 1001, 4, 5, 1007, 1008, 2009]), (20, [9], [60, 0, 1, 641, 4]), (20, [11], [60, 0, 1, 543, 6]), (24, [0, 7], [])], [(16, (0, 0, 568320, []))], [], [], [], [(10, 13, -4294967296, -1)])
theorem oo_La_write_2 {kA : Nat → ClassId} : or_ok PRD kA GG o_La_write_2 := by
  refine or_mk fun A ta ws vs hD hth hl => ?_
  intro t0 r0 t7 r7 t8 r8 t9 r9 t10 k10 t11 r11 t12 r12 t13 k13 t15 r15 t16 k16 d0 f0 f1 f2 f3 f4 f5 f6 f7
  replace f0 := shm_107 f0
  replace f1 := shm_111 f1
  have ad_15 : v_ad (n_v vs 15) = w_ar ws (n_v vs 11) 6 := congrArg v_ad f1
  simp only [ad_15] at f0
  have h0 : v_iv (n_v vs 16) = w_ei ws (w_ar ws (n_v vs 11) 6) (v_iv (n_v vs 10)) := f0
  have hrf0 : 0 ≤ v_iv (n_v vs 16) ∧ v_iv (n_v vs 16) ≤ 568320 := vc_La_write_2_r0 (v_iv (n_v vs 10)) (v_iv (n_v vs 16)) (w_ei ws (w_ar ws (n_v vs 11) 6)) k10 k16 h0 (shm_1607 f6)
  have rf16 : tv_ok ta (0, 0, 568320, []) (n_v vs 16) := tv_in t16 (by first | omega | grind) (by first | omega | grind)
  refine ⟨List.forall_mem_cons.mpr ⟨rf16, (fun _ h => (by cases h))⟩, [], trivial, ?_, (fun _ h => (by cases h))⟩
  rw [List.append_nil]
  exact (fun _ h => (by cases h))
def o_La_write_3 : or_T := (59, 22, [(5, (2, 0, 0, [12])), (6, (0, 0, 3072, [])), (10, (0, 0, 23, [])), (17, (2, 0, 0, [15])), (21, (0, 0, 115, []))], [(100, [17, 10, 21], []), (20, [5, 6], [62, 2000000])], [], [], [(20, [5, 6], [62, 2000000])], [], [])
theorem oo_La_write_3 {kA : Nat → ClassId} : or_ok PRD kA GG o_La_write_3 := by
  refine or_mk fun A ta ws vs hD hth hl => ?_
  intro t5 r5 t6 k6 t10 k10 t17 r17 t21 k21 ta1 w1 le1 s1 f1
  have s1 : (∀ b j, w_el ws b j = if b = v_ad (n_v vs 17) ∧ j = (v_iv (n_v vs 10)).toNat then v_iv (n_v vs 21) else w_el w1 b j) ∧ ∀ b k, w_fd ws b k = w_fd w1 b k := s1.2
  replace f1 := shm_161 f1
  have nf0 : fc_1 PRD (20, [5, 6], [62, 2000000]) ws (vs) := by
    refine ⟨nf_in hl rfl, sgq_161 ?_⟩
    · show HY ws (n_v vs 5) (v_iv (n_v vs 6) + (((2000000 : Nat) : Int) - 2000000))
      have hn := hy_ne (k := 3) (g := GG_12) hD hth r5 rfl (by decide) rfl rfl r17 (by decide) s1.2
      have hn0 := hy_ne (k := 0) (g := GG_12) hD hth r5 rfl (by decide) rfl rfl r17 (by decide) s1.2
      exact hy_st (hy_le f1 (by omega)) s1 hn hn0 (by omega) (by omega)
  refine ⟨(fun _ h => (by cases h)), [], trivial, ?_, (fun _ h => (by cases h))⟩
  rw [List.append_nil]
  exact List.forall_mem_cons.mpr ⟨⟨show (20 : Nat) < 100 from by decide, nf0⟩, (fun _ h => (by cases h))⟩
set_option maxHeartbeats 4000000 in
theorem vc_La_write_4_0 (x10 : Int) (edges_0o12 : Int) (tail_0o12 : Int → Int) (head_0o12 : Int → Int) (turned_0o8 : Int → Int) (layerOf_0 : Int → Int) (firstJoint_0 : Int → Int) (items_0 : Int) (layerCount_0 : Int) (nodes_0o12 : Int) (bends_0o9 : Int → Int) (place_0o11 : Int → Int) (layerOf_1 : Int → Int) (tail_1o12 : Int → Int) (head_1o12 : Int → Int) (turned_1o8 : Int → Int) (firstJoint_1 : Int → Int) (items_1 : Int) (layerCount_1 : Int) (nodes_1o12 : Int) (edges_1o12 : Int) (bends_1o9 : Int → Int) (place_1o11 : Int → Int) (turned_2o8 : Int → Int) (layerOf_2 : Int → Int) (firstJoint_2 : Int → Int) (tail_2o12 : Int → Int) (head_2o12 : Int → Int) (items_2 : Int) (layerCount_2 : Int) (nodes_2o12 : Int) (edges_2o12 : Int) (bends_2o9 : Int → Int) (place_2o11 : Int → Int) (turned_0o9 : Int → Int) (turned_1o9 : Int → Int) (k10 : 0 ≤ x10 ∧ x10 ≤ 47) (f23 : BNY (bends_2o9) (x10)) (fe_0_2_1 : layerCount_0 = layerCount_1) (fe_0_3_1 : items_0 = items_1) (fe_12_0_1 : nodes_0o12 = nodes_1o12) (fe_12_1_1 : edges_0o12 = edges_1o12) (fe_0_2_2 : layerCount_1 = layerCount_2) (fe_0_3_2 : items_1 = items_2) (fe_12_0_2 : nodes_1o12 = nodes_2o12) (fe_12_1_2 : edges_1o12 = edges_2o12) (hE_0_4_1 : ∀ j : Int, layerOf_0 j = layerOf_1 j) (hE_0_4_2 : ∀ j : Int, layerOf_1 j = layerOf_2 j) (hE_0_5_1 : ∀ j : Int, firstJoint_0 j = firstJoint_1 j) (hE_0_5_2 : ∀ j : Int, firstJoint_1 j = firstJoint_2 j) (hE_8_9_1 : ∀ j : Int, turned_0o8 j = turned_1o8 j) (hE_8_9_2 : ∀ j : Int, turned_1o8 j = turned_2o8 j) (hE_9_4_1 : ∀ j : Int, bends_0o9 j = bends_1o9 j) (hE_9_4_2 : ∀ j : Int, bends_1o9 j = bends_2o9 j) (hE_9_11_1 : ∀ j : Int, turned_0o9 j = turned_1o9 j) (hE_11_6_1 : ∀ j : Int, place_0o11 j = place_1o11 j) (hE_11_6_2 : ∀ j : Int, place_1o11 j = place_2o11 j) (hE_12_7_1 : ∀ j : Int, tail_0o12 j = tail_1o12 j) (hE_12_7_2 : ∀ j : Int, tail_1o12 j = tail_2o12 j) (hE_12_8_1 : ∀ j : Int, head_0o12 j = head_1o12 j) (hE_12_8_2 : ∀ j : Int, head_1o12 j = head_2o12 j) (kz_0_2 : 0 ≤ layerCount_0 ∧ layerCount_0 ≤ 24) (kz_0_3 : 0 ≤ items_0 ∧ items_0 ≤ 72) (kz_12_0 : 0 ≤ nodes_0o12 ∧ nodes_0o12 ≤ 24) (kz_12_1 : 0 ≤ edges_0o12 ∧ edges_0o12 ≤ 48) : BNZ (bends_0o9) (x10) := by
  subst fe_0_2_1
  subst fe_0_3_1
  subst fe_12_0_1
  subst fe_12_1_1
  subst fe_0_2_2
  subst fe_0_3_2
  subst fe_12_0_2
  subst fe_12_1_2
  have e_hE_0_4_1 := funext hE_0_4_1; subst e_hE_0_4_1
  have e_hE_0_4_2 := funext hE_0_4_2; subst e_hE_0_4_2
  have e_hE_0_5_1 := funext hE_0_5_1; subst e_hE_0_5_1
  have e_hE_0_5_2 := funext hE_0_5_2; subst e_hE_0_5_2
  have e_hE_8_9_1 := funext hE_8_9_1; subst e_hE_8_9_1
  have e_hE_8_9_2 := funext hE_8_9_2; subst e_hE_8_9_2
  have e_hE_9_4_1 := funext hE_9_4_1; subst e_hE_9_4_1
  have e_hE_9_4_2 := funext hE_9_4_2; subst e_hE_9_4_2
  have e_hE_9_11_1 := funext hE_9_11_1; subst e_hE_9_11_1
  have e_hE_11_6_1 := funext hE_11_6_1; subst e_hE_11_6_1
  have e_hE_11_6_2 := funext hE_11_6_2; subst e_hE_11_6_2
  have e_hE_12_7_1 := funext hE_12_7_1; subst e_hE_12_7_1
  have e_hE_12_7_2 := funext hE_12_7_2; subst e_hE_12_7_2
  have e_hE_12_8_1 := funext hE_12_8_1; subst e_hE_12_8_1
  have e_hE_12_8_2 := funext hE_12_8_2; subst e_hE_12_8_2
  first
    | exact bny_z ‹BNY _ _›
set_option maxHeartbeats 4000000 in
theorem vc_La_write_4_1 (x10 : Int) (x20 : Int) (x28 : Int) (edges_0o12 : Int) (tail_0o12 : Int → Int) (head_0o12 : Int → Int) (turned_0o8 : Int → Int) (layerOf_0 : Int → Int) (firstJoint_0 : Int → Int) (items_0 : Int) (layerCount_0 : Int) (nodes_0o12 : Int) (bends_0o9 : Int → Int) (place_0o11 : Int → Int) (layerOf_1 : Int → Int) (tail_1o12 : Int → Int) (head_1o12 : Int → Int) (turned_1o8 : Int → Int) (firstJoint_1 : Int → Int) (items_1 : Int) (layerCount_1 : Int) (nodes_1o12 : Int) (edges_1o12 : Int) (bends_1o9 : Int → Int) (place_1o11 : Int → Int) (turned_2o8 : Int → Int) (layerOf_2 : Int → Int) (firstJoint_2 : Int → Int) (tail_2o12 : Int → Int) (head_2o12 : Int → Int) (items_2 : Int) (layerCount_2 : Int) (nodes_2o12 : Int) (edges_2o12 : Int) (bends_2o9 : Int → Int) (place_2o11 : Int → Int) (turned_0o9 : Int → Int) (turned_1o9 : Int → Int) (k10 : 0 ≤ x10 ∧ x10 ≤ 47) (k28 : 0 ≤ x28 ∧ x28 ≤ 0) (f23 : BNY (bends_2o9) (x10)) (fe_0_2_1 : layerCount_0 = layerCount_1) (fe_0_3_1 : items_0 = items_1) (fe_12_0_1 : nodes_0o12 = nodes_1o12) (fe_12_1_1 : edges_0o12 = edges_1o12) (fe_0_2_2 : layerCount_1 = layerCount_2) (fe_0_3_2 : items_1 = items_2) (fe_12_0_2 : nodes_1o12 = nodes_2o12) (fe_12_1_2 : edges_1o12 = edges_2o12) (hE_0_4_1 : ∀ j : Int, layerOf_0 j = layerOf_1 j) (hE_0_4_2 : ∀ j : Int, layerOf_1 j = layerOf_2 j) (hE_0_5_1 : ∀ j : Int, firstJoint_0 j = firstJoint_1 j) (hE_0_5_2 : ∀ j : Int, firstJoint_1 j = firstJoint_2 j) (hE_8_9_1 : ∀ j : Int, turned_0o8 j = turned_1o8 j) (hE_8_9_2 : ∀ j : Int, turned_1o8 j = turned_2o8 j) (hE_9_4_1 : ∀ j : Int, bends_0o9 j = bends_1o9 j) (hE_9_4_2 : ∀ j : Int, bends_1o9 j = bends_2o9 j) (hE_9_11_1 : ∀ j : Int, turned_0o9 j = turned_1o9 j) (hE_11_6_1 : ∀ j : Int, place_0o11 j = place_1o11 j) (hE_11_6_2 : ∀ j : Int, place_1o11 j = place_2o11 j) (hE_12_7_1 : ∀ j : Int, tail_0o12 j = tail_1o12 j) (hE_12_7_2 : ∀ j : Int, tail_1o12 j = tail_2o12 j) (hE_12_8_1 : ∀ j : Int, head_0o12 j = head_1o12 j) (hE_12_8_2 : ∀ j : Int, head_1o12 j = head_2o12 j) (kz_0_2 : 0 ≤ layerCount_0 ∧ layerCount_0 ≤ 24) (kz_0_3 : 0 ≤ items_0 ∧ items_0 ≤ 72) (kz_12_0 : 0 ≤ nodes_0o12 ∧ nodes_0o12 ≤ 24) (kz_12_1 : 0 ≤ edges_0o12 ∧ edges_0o12 ≤ 48) : bends_0o9 (x10) ≤ x28 := by
  subst fe_0_2_1
  subst fe_0_3_1
  subst fe_12_0_1
  subst fe_12_1_1
  subst fe_0_2_2
  subst fe_0_3_2
  subst fe_12_0_2
  subst fe_12_1_2
  have e_hE_0_4_1 := funext hE_0_4_1; subst e_hE_0_4_1
  have e_hE_0_4_2 := funext hE_0_4_2; subst e_hE_0_4_2
  have e_hE_0_5_1 := funext hE_0_5_1; subst e_hE_0_5_1
  have e_hE_0_5_2 := funext hE_0_5_2; subst e_hE_0_5_2
  have e_hE_8_9_1 := funext hE_8_9_1; subst e_hE_8_9_1
  have e_hE_8_9_2 := funext hE_8_9_2; subst e_hE_8_9_2
  have e_hE_9_4_1 := funext hE_9_4_1; subst e_hE_9_4_1
  have e_hE_9_4_2 := funext hE_9_4_2; subst e_hE_9_4_2
  have e_hE_9_11_1 := funext hE_9_11_1; subst e_hE_9_11_1
  have e_hE_11_6_1 := funext hE_11_6_1; subst e_hE_11_6_1
  have e_hE_11_6_2 := funext hE_11_6_2; subst e_hE_11_6_2
  have e_hE_12_7_1 := funext hE_12_7_1; subst e_hE_12_7_1
  have e_hE_12_7_2 := funext hE_12_7_2; subst e_hE_12_7_2
  have e_hE_12_8_1 := funext hE_12_8_1; subst e_hE_12_8_1
  have e_hE_12_8_2 := funext hE_12_8_2; subst e_hE_12_8_2
  first
    | (have q := bny_at ‹BNY _ _› (by omega) (by omega); omega)
set_option maxHeartbeats 4000000 in
theorem vc_La_write_4_2 (x10 : Int) (x18 : Int) (x19 : Int) (x20 : Int) (x21 : Int) (x22 : Int) (edges_0o12 : Int) (tail_0o12 : Int → Int) (head_0o12 : Int → Int) (turned_0o8 : Int → Int) (layerOf_0 : Int → Int) (firstJoint_0 : Int → Int) (items_0 : Int) (layerCount_0 : Int) (nodes_0o12 : Int) (bends_0o9 : Int → Int) (place_0o11 : Int → Int) (layerOf_1 : Int → Int) (tail_1o12 : Int → Int) (head_1o12 : Int → Int) (turned_1o8 : Int → Int) (firstJoint_1 : Int → Int) (items_1 : Int) (layerCount_1 : Int) (nodes_1o12 : Int) (edges_1o12 : Int) (bends_1o9 : Int → Int) (place_1o11 : Int → Int) (turned_2o8 : Int → Int) (layerOf_2 : Int → Int) (firstJoint_2 : Int → Int) (tail_2o12 : Int → Int) (head_2o12 : Int → Int) (items_2 : Int) (layerCount_2 : Int) (nodes_2o12 : Int) (edges_2o12 : Int) (bends_2o9 : Int → Int) (place_2o11 : Int → Int) (turned_0o9 : Int → Int) (turned_1o9 : Int → Int) (k10 : 0 ≤ x10 ∧ x10 ≤ 47) (k18 : 0 ≤ x18 ∧ x18 ≤ 23) (k19 : 0 ≤ x19 ∧ x19 ≤ 23) (k20 : 0 ≤ x20 ∧ x20 ≤ 23) (k21 : 0 ≤ x21 ∧ x21 ≤ 23) (k22 : (-23) ≤ x22 ∧ x22 ≤ 23) (f11 : x22 = x19 - x21) (h12 : x21 = layerOf_1 (x20)) (f13 : UPX (tail_1o12) (head_1o12) (turned_1o8) (x10) (x20)) (h14 : x19 = layerOf_1 (x18)) (f15 : LOX (tail_1o12) (head_1o12) (turned_1o8) (x10) (x18)) (fe_0_2_1 : layerCount_0 = layerCount_1) (fe_0_3_1 : items_0 = items_1) (fe_12_0_1 : nodes_0o12 = nodes_1o12) (fe_12_1_1 : edges_0o12 = edges_1o12) (fe_0_2_2 : layerCount_1 = layerCount_2) (fe_0_3_2 : items_1 = items_2) (fe_12_0_2 : nodes_1o12 = nodes_2o12) (fe_12_1_2 : edges_1o12 = edges_2o12) (hE_0_4_1 : ∀ j : Int, layerOf_0 j = layerOf_1 j) (hE_0_4_2 : ∀ j : Int, layerOf_1 j = layerOf_2 j) (hE_0_5_1 : ∀ j : Int, firstJoint_0 j = firstJoint_1 j) (hE_0_5_2 : ∀ j : Int, firstJoint_1 j = firstJoint_2 j) (hE_8_9_1 : ∀ j : Int, turned_0o8 j = turned_1o8 j) (hE_8_9_2 : ∀ j : Int, turned_1o8 j = turned_2o8 j) (hE_9_4_1 : ∀ j : Int, bends_0o9 j = bends_1o9 j) (hE_9_4_2 : ∀ j : Int, bends_1o9 j = bends_2o9 j) (hE_9_11_1 : ∀ j : Int, turned_0o9 j = turned_1o9 j) (hE_11_6_1 : ∀ j : Int, place_0o11 j = place_1o11 j) (hE_11_6_2 : ∀ j : Int, place_1o11 j = place_2o11 j) (hE_12_7_1 : ∀ j : Int, tail_0o12 j = tail_1o12 j) (hE_12_7_2 : ∀ j : Int, tail_1o12 j = tail_2o12 j) (hE_12_8_1 : ∀ j : Int, head_0o12 j = head_1o12 j) (hE_12_8_2 : ∀ j : Int, head_1o12 j = head_2o12 j) (kz_0_2 : 0 ≤ layerCount_0 ∧ layerCount_0 ≤ 24) (kz_0_3 : 0 ≤ items_0 ∧ items_0 ≤ 72) (kz_12_0 : 0 ≤ nodes_0o12 ∧ nodes_0o12 ≤ 24) (kz_12_1 : 0 ≤ edges_0o12 ∧ edges_0o12 ≤ 48) : WRS (layerOf_0) (tail_0o12) (head_0o12) (turned_0o8) (x10) (x22) := by
  subst fe_0_2_1
  subst fe_0_3_1
  subst fe_12_0_1
  subst fe_12_1_1
  subst fe_0_2_2
  subst fe_0_3_2
  subst fe_12_0_2
  subst fe_12_1_2
  have e_hE_0_4_1 := funext hE_0_4_1; subst e_hE_0_4_1
  have e_hE_0_4_2 := funext hE_0_4_2; subst e_hE_0_4_2
  have e_hE_0_5_1 := funext hE_0_5_1; subst e_hE_0_5_1
  have e_hE_0_5_2 := funext hE_0_5_2; subst e_hE_0_5_2
  have e_hE_8_9_1 := funext hE_8_9_1; subst e_hE_8_9_1
  have e_hE_8_9_2 := funext hE_8_9_2; subst e_hE_8_9_2
  have e_hE_9_4_1 := funext hE_9_4_1; subst e_hE_9_4_1
  have e_hE_9_4_2 := funext hE_9_4_2; subst e_hE_9_4_2
  have e_hE_9_11_1 := funext hE_9_11_1; subst e_hE_9_11_1
  have e_hE_11_6_1 := funext hE_11_6_1; subst e_hE_11_6_1
  have e_hE_11_6_2 := funext hE_11_6_2; subst e_hE_11_6_2
  have e_hE_12_7_1 := funext hE_12_7_1; subst e_hE_12_7_1
  have e_hE_12_7_2 := funext hE_12_7_2; subst e_hE_12_7_2
  have e_hE_12_8_1 := funext hE_12_8_1; subst e_hE_12_8_1
  have e_hE_12_8_2 := funext hE_12_8_2; subst e_hE_12_8_2
  first
    | exact wrs_of (a := x20) (b := x18) (x := x21) (y := x19) (by assumption) (by assumption) (by assumption) (by assumption) (by omega)
set_option maxHeartbeats 4000000 in
theorem vc_La_write_4_3 (x10 : Int) (x13 : Int) (x20 : Int) (edges_0o12 : Int) (tail_0o12 : Int → Int) (head_0o12 : Int → Int) (turned_0o8 : Int → Int) (layerOf_0 : Int → Int) (firstJoint_0 : Int → Int) (items_0 : Int) (layerCount_0 : Int) (nodes_0o12 : Int) (bends_0o9 : Int → Int) (place_0o11 : Int → Int) (layerOf_1 : Int → Int) (tail_1o12 : Int → Int) (head_1o12 : Int → Int) (turned_1o8 : Int → Int) (firstJoint_1 : Int → Int) (items_1 : Int) (layerCount_1 : Int) (nodes_1o12 : Int) (edges_1o12 : Int) (bends_1o9 : Int → Int) (place_1o11 : Int → Int) (turned_2o8 : Int → Int) (layerOf_2 : Int → Int) (firstJoint_2 : Int → Int) (tail_2o12 : Int → Int) (head_2o12 : Int → Int) (items_2 : Int) (layerCount_2 : Int) (nodes_2o12 : Int) (edges_2o12 : Int) (bends_2o9 : Int → Int) (place_2o11 : Int → Int) (turned_0o9 : Int → Int) (turned_1o9 : Int → Int) (k10 : 0 ≤ x10 ∧ x10 ≤ 47) (k13 : 1 ≤ x13 ∧ x13 ≤ 48) (d1 : x13 + (-4294967296) ≤ x10 ∧ x10 ≤ x13 + (-1)) (g3 : x13 = edges_0o12) (fe_0_2_1 : layerCount_0 = layerCount_1) (fe_0_3_1 : items_0 = items_1) (fe_12_0_1 : nodes_0o12 = nodes_1o12) (fe_12_1_1 : edges_0o12 = edges_1o12) (fe_0_2_2 : layerCount_1 = layerCount_2) (fe_0_3_2 : items_1 = items_2) (fe_12_0_2 : nodes_1o12 = nodes_2o12) (fe_12_1_2 : edges_1o12 = edges_2o12) (hE_0_4_1 : ∀ j : Int, layerOf_0 j = layerOf_1 j) (hE_0_4_2 : ∀ j : Int, layerOf_1 j = layerOf_2 j) (hE_0_5_1 : ∀ j : Int, firstJoint_0 j = firstJoint_1 j) (hE_0_5_2 : ∀ j : Int, firstJoint_1 j = firstJoint_2 j) (hE_8_9_1 : ∀ j : Int, turned_0o8 j = turned_1o8 j) (hE_8_9_2 : ∀ j : Int, turned_1o8 j = turned_2o8 j) (hE_9_4_1 : ∀ j : Int, bends_0o9 j = bends_1o9 j) (hE_9_4_2 : ∀ j : Int, bends_1o9 j = bends_2o9 j) (hE_9_11_1 : ∀ j : Int, turned_0o9 j = turned_1o9 j) (hE_11_6_1 : ∀ j : Int, place_0o11 j = place_1o11 j) (hE_11_6_2 : ∀ j : Int, place_1o11 j = place_2o11 j) (hE_12_7_1 : ∀ j : Int, tail_0o12 j = tail_1o12 j) (hE_12_7_2 : ∀ j : Int, tail_1o12 j = tail_2o12 j) (hE_12_8_1 : ∀ j : Int, head_0o12 j = head_1o12 j) (hE_12_8_2 : ∀ j : Int, head_1o12 j = head_2o12 j) (kz_0_2 : 0 ≤ layerCount_0 ∧ layerCount_0 ≤ 24) (kz_0_3 : 0 ≤ items_0 ∧ items_0 ≤ 72) (kz_12_0 : 0 ≤ nodes_0o12 ∧ nodes_0o12 ≤ 24) (kz_12_1 : 0 ≤ edges_0o12 ∧ edges_0o12 ≤ 48) : (0 ≤ x10) ∧ ((x10 + 1) ≤ edges_0o12) := by
  subst fe_0_2_1
  subst fe_0_3_1
  subst fe_12_0_1
  subst fe_12_1_1
  subst fe_0_2_2
  subst fe_0_3_2
  subst fe_12_0_2
  subst fe_12_1_2
  have e_hE_0_4_1 := funext hE_0_4_1; subst e_hE_0_4_1
  have e_hE_0_4_2 := funext hE_0_4_2; subst e_hE_0_4_2
  have e_hE_0_5_1 := funext hE_0_5_1; subst e_hE_0_5_1
  have e_hE_0_5_2 := funext hE_0_5_2; subst e_hE_0_5_2
  have e_hE_8_9_1 := funext hE_8_9_1; subst e_hE_8_9_1
  have e_hE_8_9_2 := funext hE_8_9_2; subst e_hE_8_9_2
  have e_hE_9_4_1 := funext hE_9_4_1; subst e_hE_9_4_1
  have e_hE_9_4_2 := funext hE_9_4_2; subst e_hE_9_4_2
  have e_hE_9_11_1 := funext hE_9_11_1; subst e_hE_9_11_1
  have e_hE_11_6_1 := funext hE_11_6_1; subst e_hE_11_6_1
  have e_hE_11_6_2 := funext hE_11_6_2; subst e_hE_11_6_2
  have e_hE_12_7_1 := funext hE_12_7_1; subst e_hE_12_7_1
  have e_hE_12_7_2 := funext hE_12_7_2; subst e_hE_12_7_2
  have e_hE_12_8_1 := funext hE_12_8_1; subst e_hE_12_8_1
  have e_hE_12_8_2 := funext hE_12_8_2; subst e_hE_12_8_2
  first
    | omega
def o_La_write_4 : or_T := (151, 29, [(0, (2, 0, 0, [4])), (8, (2, 0, 0, [2])), (9, (2, 0, 0, [0])), (10, (0, 0, 47, [])), (11, (2, 0, 0, [10])), (12, (2, 0, 0, [3])), (13, (0, 1, 48, [])), (14, (2, 0, 0, [20])), (18, (0, 0, 23, [])), (19, (0, 0, 23, [])), (20, (0, 0, 23, [])), (21, (0, 0, 23, [])), (22, (0, -23, 23, [])), (28, (0, 0, 0, []))], [(9, [17, 7], [4]), (9, [15, 8], [9]), (9, [13, 12], [1]), (24, [0, 7], []), (101, [9, 27], [8]), (2, [22, 19, 21], []), (10, [21, 17, 20], []), (20, [12, 8, 10, 20], [60, 0, 3, 649, 7, 8, 1009]), (10, [19, 17, 18], []), (20, [12, 8, 10, 18], [60, 0, 3, 650, 7, 8, 1009]), (100, [14, 10, 16], []), (20, [9, 10], [60, 0, 1, 642, 4])], [], [], [(20, [9, 10], [60, 0, 1, 643, 4]), (20, [9, 10, 28], [50, 0, 1, 4, 0, 5, 3, 0, 4, 1, 1, 1, 2]), (20, [7, 12, 8, 10, 22], [60, 0, 4, 669, 4, 1007, 1008, 2009]), (20, [10, 12], [50, 1, 0, 1001, 2, 6, 0, 2, 0, 0, 1, 0, 0, 6, 4, 2, 1, 0, 0, 1, 2, 1, 1])], [], [(10, 13, -4294967296, -1)])
theorem oo_La_write_4 {kA : Nat → ClassId} : or_ok PRD kA GG o_La_write_4 := by
  refine or_mk fun A ta ws vs hD hth hl => ?_
  intro t0 r0 t8 r8 t9 r9 t10 k10 t11 r11 t12 r12 t13 k13 t14 r14 t18 k18 t19 k19 t20 k20 t21 k21 t22 k22 t28 k28 d1 f0 f1 f3 f9 ta1 w1 le1 s1 f11 f12 f13 f14 f15 ta2 w2 le2 s2 f23
  replace f0 := shm_108 f0
  replace f1 := shm_119 f1
  replace f3 := shm_215 f3
  replace f9 := shm_5 f9
  have s1 : (∀ b j, w_el ws b j = w_el w1 b j) ∧ ∀ b j, w_fd ws b j = if b = v_ad (n_v vs 9) ∧ j = 8 then n_v vs 27 else w_fd w1 b j := s1.2
  replace f11 := shm_14 f11
  replace f12 := shm_107 f12
  replace f13 := shm_402 f13
  replace f14 := shm_107 f14
  replace f15 := shm_392 f15
  have s2 : (∀ b j, w_el w1 b j = if b = v_ad (n_v vs 14) ∧ j = (v_iv (n_v vs 10)).toNat then v_iv (n_v vs 16) else w_el w2 b j) ∧ ∀ b k, w_fd w1 b k = w_fd w2 b k := s2.2
  replace f23 := shm_1608 f23
  have q7 : n_v vs 7 = n_v vs 0 := f9.symm
  simp only [q7] at f0
  have ar_0_4_1 : w_ar w1 (n_v vs 0) 4 = w_ar ws (n_v vs 0) 4 := by show v_ad (w_fd w1 _ _) = v_ad (w_fd ws _ _); rw [s1.2, if_neg (fun e => absurd e.2 (by decide))]
  have ar_0_4_2 : w_ar w2 (n_v vs 0) 4 = w_ar ws (n_v vs 0) 4 := by rw [← ar_0_4_1]; show v_ad (w_fd w2 _ _) = v_ad (w_fd w1 _ _); rw [s2.2]
  have cr_0_4 := fdq_219 hD hth r0
  have ar_0_5_1 : w_ar w1 (n_v vs 0) 5 = w_ar ws (n_v vs 0) 5 := by show v_ad (w_fd w1 _ _) = v_ad (w_fd ws _ _); rw [s1.2, if_neg (fun e => absurd e.2 (by decide))]
  have ar_0_5_2 : w_ar w2 (n_v vs 0) 5 = w_ar ws (n_v vs 0) 5 := by rw [← ar_0_5_1]; show v_ad (w_fd w2 _ _) = v_ad (w_fd w1 _ _); rw [s2.2]
  have cr_0_5 := fdq_248 hD hth r0
  have ar_8_9_1 : w_ar w1 (n_v vs 8) 9 = w_ar ws (n_v vs 8) 9 := by show v_ad (w_fd w1 _ _) = v_ad (w_fd ws _ _); rw [s1.2, if_neg (fun e => absurd e.2 (by decide))]
  have ar_8_9_2 : w_ar w2 (n_v vs 8) 9 = w_ar ws (n_v vs 8) 9 := by rw [← ar_8_9_1]; show v_ad (w_fd w2 _ _) = v_ad (w_fd w1 _ _); rw [s2.2]
  have cr_8_9 := fdq_76 hD hth r8
  have ar_9_4_1 : w_ar w1 (n_v vs 9) 4 = w_ar ws (n_v vs 9) 4 := by show v_ad (w_fd w1 _ _) = v_ad (w_fd ws _ _); rw [s1.2, if_neg (fun e => absurd e.2 (by decide))]
  have ar_9_4_2 : w_ar w2 (n_v vs 9) 4 = w_ar ws (n_v vs 9) 4 := by rw [← ar_9_4_1]; show v_ad (w_fd w2 _ _) = v_ad (w_fd w1 _ _); rw [s2.2]
  have cr_9_4 := fdq_1 hD hth r9
  have ar_11_6_1 : w_ar w1 (n_v vs 11) 6 = w_ar ws (n_v vs 11) 6 := by show v_ad (w_fd w1 _ _) = v_ad (w_fd ws _ _); rw [s1.2, if_neg (fun e => absurd e.2 (by decide))]
  have ar_11_6_2 : w_ar w2 (n_v vs 11) 6 = w_ar ws (n_v vs 11) 6 := by rw [← ar_11_6_1]; show v_ad (w_fd w2 _ _) = v_ad (w_fd w1 _ _); rw [s2.2]
  have cr_11_6 := fdq_115 hD hth r11
  have ar_12_7_1 : w_ar w1 (n_v vs 12) 7 = w_ar ws (n_v vs 12) 7 := by show v_ad (w_fd w1 _ _) = v_ad (w_fd ws _ _); rw [s1.2, if_neg (fun e => absurd e.2 (by decide))]
  have ar_12_7_2 : w_ar w2 (n_v vs 12) 7 = w_ar ws (n_v vs 12) 7 := by rw [← ar_12_7_1]; show v_ad (w_fd w2 _ _) = v_ad (w_fd w1 _ _); rw [s2.2]
  have cr_12_7 := fdq_46 hD hth r12
  have ar_12_8_1 : w_ar w1 (n_v vs 12) 8 = w_ar ws (n_v vs 12) 8 := by show v_ad (w_fd w1 _ _) = v_ad (w_fd ws _ _); rw [s1.2, if_neg (fun e => by have e1 := e.1; have e2 := r12; rw [e1, r9] at e2; exact absurd (Option.some.inj e2) (by decide))]
  have ar_12_8_2 : w_ar w2 (n_v vs 12) 8 = w_ar ws (n_v vs 12) 8 := by rw [← ar_12_8_1]; show v_ad (w_fd w2 _ _) = v_ad (w_fd w1 _ _); rw [s2.2]
  have cr_12_8 := fdq_47 hD hth r12
  have ad_17 : v_ad (n_v vs 17) = w_ar ws (n_v vs 0) 4 := congrArg v_ad f0
  have ad_15 : v_ad (n_v vs 15) = w_ar ws (n_v vs 8) 9 := congrArg v_ad f1
  have g3 : v_iv (n_v vs 13) = w_fi ws (n_v vs 12) 1 := congrArg v_iv f3
  simp only [ad_17] at f12
  have h12 : v_iv (n_v vs 21) = w_ei w1 (w_ar ws (n_v vs 0) 4) (v_iv (n_v vs 20)) := f12
  simp only [ar_8_9_1, ar_12_7_1, ar_12_8_1, ad_17] at f13 f14
  have h14 : v_iv (n_v vs 19) = w_ei w1 (w_ar ws (n_v vs 0) 4) (v_iv (n_v vs 18)) := f14
  simp only [ar_8_9_1, ar_12_7_1, ar_12_8_1, ar_0_4_1, ar_0_5_1, ar_9_4_1, ar_11_6_1, ad_15] at f15
  simp only [ar_0_4_2, ar_0_5_2, ar_8_9_2, ar_12_7_2, ar_12_8_2, ar_9_4_2, ar_11_6_2] at f23
  have fe_0_2_1 : w_fi ws (n_v vs 0) 2 = w_fi w1 (n_v vs 0) 2 := by show v_iv (w_fd _ _ _) = v_iv (w_fd _ _ _); rw [s1.2, if_neg (fun e => absurd e.2 (by decide))]
  have fe_0_3_1 : w_fi ws (n_v vs 0) 3 = w_fi w1 (n_v vs 0) 3 := by show v_iv (w_fd _ _ _) = v_iv (w_fd _ _ _); rw [s1.2, if_neg (fun e => absurd e.2 (by decide))]
  have fe_12_0_1 : w_fi ws (n_v vs 12) 0 = w_fi w1 (n_v vs 12) 0 := by show v_iv (w_fd _ _ _) = v_iv (w_fd _ _ _); rw [s1.2, if_neg (fun e => absurd e.2 (by decide))]
  have fe_12_1_1 : w_fi ws (n_v vs 12) 1 = w_fi w1 (n_v vs 12) 1 := by show v_iv (w_fd _ _ _) = v_iv (w_fd _ _ _); rw [s1.2, if_neg (fun e => absurd e.2 (by decide))]
  have fe_0_2_2 : w_fi w1 (n_v vs 0) 2 = w_fi w2 (n_v vs 0) 2 := congrArg v_iv (s2.2 _ _)
  have fe_0_3_2 : w_fi w1 (n_v vs 0) 3 = w_fi w2 (n_v vs 0) 3 := congrArg v_iv (s2.2 _ _)
  have fe_12_0_2 : w_fi w1 (n_v vs 12) 0 = w_fi w2 (n_v vs 12) 0 := congrArg v_iv (s2.2 _ _)
  have fe_12_1_2 : w_fi w1 (n_v vs 12) 1 = w_fi w2 (n_v vs 12) 1 := congrArg v_iv (s2.2 _ _)
  have hE_0_4_1 : ∀ j : Int, w_ei ws (w_ar ws (n_v vs 0) 4) j = w_ei w1 (w_ar ws (n_v vs 0) 4) j := fun j => s1.1 _ _
  have hE_0_4_2 : ∀ j : Int, w_ei w1 (w_ar ws (n_v vs 0) 4) j = w_ei w2 (w_ar ws (n_v vs 0) 4) j := el_kp s2.1 r14 cr_0_4 (by decide)
  have hE_0_5_1 : ∀ j : Int, w_ei ws (w_ar ws (n_v vs 0) 5) j = w_ei w1 (w_ar ws (n_v vs 0) 5) j := fun j => s1.1 _ _
  have hE_0_5_2 : ∀ j : Int, w_ei w1 (w_ar ws (n_v vs 0) 5) j = w_ei w2 (w_ar ws (n_v vs 0) 5) j := el_kp s2.1 r14 cr_0_5 (by decide)
  have hE_8_9_1 : ∀ j : Int, w_ei ws (w_ar ws (n_v vs 8) 9) j = w_ei w1 (w_ar ws (n_v vs 8) 9) j := fun j => s1.1 _ _
  have hE_8_9_2 : ∀ j : Int, w_ei w1 (w_ar ws (n_v vs 8) 9) j = w_ei w2 (w_ar ws (n_v vs 8) 9) j := el_kp s2.1 r14 cr_8_9 (by decide)
  have hE_9_4_1 : ∀ j : Int, w_ei ws (w_ar ws (n_v vs 9) 4) j = w_ei w1 (w_ar ws (n_v vs 9) 4) j := fun j => s1.1 _ _
  have hE_9_4_2 : ∀ j : Int, w_ei w1 (w_ar ws (n_v vs 9) 4) j = w_ei w2 (w_ar ws (n_v vs 9) 4) j := el_kp s2.1 r14 cr_9_4 (by decide)
  have hE_9_11_1 : ∀ j : Int, w_ei ws (w_ar ws (n_v vs 9) 11) j = w_ei w1 (w_ar ws (n_v vs 9) 11) j := fun j => s1.1 _ _
  have hE_11_6_1 : ∀ j : Int, w_ei ws (w_ar ws (n_v vs 11) 6) j = w_ei w1 (w_ar ws (n_v vs 11) 6) j := fun j => s1.1 _ _
  have hE_11_6_2 : ∀ j : Int, w_ei w1 (w_ar ws (n_v vs 11) 6) j = w_ei w2 (w_ar ws (n_v vs 11) 6) j := el_kp s2.1 r14 cr_11_6 (by decide)
  have hE_12_7_1 : ∀ j : Int, w_ei ws (w_ar ws (n_v vs 12) 7) j = w_ei w1 (w_ar ws (n_v vs 12) 7) j := fun j => s1.1 _ _
  have hE_12_7_2 : ∀ j : Int, w_ei w1 (w_ar ws (n_v vs 12) 7) j = w_ei w2 (w_ar ws (n_v vs 12) 7) j := el_kp s2.1 r14 cr_12_7 (by decide)
  have hE_12_8_1 : ∀ j : Int, w_ei ws (w_ar ws (n_v vs 12) 8) j = w_ei w1 (w_ar ws (n_v vs 12) 8) j := fun j => s1.1 _ _
  have hE_12_8_2 : ∀ j : Int, w_ei w1 (w_ar ws (n_v vs 12) 8) j = w_ei w2 (w_ar ws (n_v vs 12) 8) j := el_kp s2.1 r14 cr_12_8 (by decide)
  have kz_0_2 := fdq_77 hD hth r0
  have kz_0_3 := fdq_218 hD hth r0
  have kz_12_0 := fdq_21 hD hth r12
  have kz_12_1 := fdq_30 hD hth r12
  have nf0 : fc_1 PRD (20, [9, 10], [60, 0, 1, 643, 4]) ws (vs) := ⟨nf_in hl rfl, sgq_342 (vc_La_write_4_0 (v_iv (n_v vs 10)) (w_fi ws (n_v vs 12) 1) (w_ei ws (w_ar ws (n_v vs 12) 7)) (w_ei ws (w_ar ws (n_v vs 12) 8)) (w_ei ws (w_ar ws (n_v vs 8) 9)) (w_ei ws (w_ar ws (n_v vs 0) 4)) (w_ei ws (w_ar ws (n_v vs 0) 5)) (w_fi ws (n_v vs 0) 3) (w_fi ws (n_v vs 0) 2) (w_fi ws (n_v vs 12) 0) (w_ei ws (w_ar ws (n_v vs 9) 4)) (w_ei ws (w_ar ws (n_v vs 11) 6)) (w_ei w1 (w_ar ws (n_v vs 0) 4)) (w_ei w1 (w_ar ws (n_v vs 12) 7)) (w_ei w1 (w_ar ws (n_v vs 12) 8)) (w_ei w1 (w_ar ws (n_v vs 8) 9)) (w_ei w1 (w_ar ws (n_v vs 0) 5)) (w_fi w1 (n_v vs 0) 3) (w_fi w1 (n_v vs 0) 2) (w_fi w1 (n_v vs 12) 0) (w_fi w1 (n_v vs 12) 1) (w_ei w1 (w_ar ws (n_v vs 9) 4)) (w_ei w1 (w_ar ws (n_v vs 11) 6)) (w_ei w2 (w_ar ws (n_v vs 8) 9)) (w_ei w2 (w_ar ws (n_v vs 0) 4)) (w_ei w2 (w_ar ws (n_v vs 0) 5)) (w_ei w2 (w_ar ws (n_v vs 12) 7)) (w_ei w2 (w_ar ws (n_v vs 12) 8)) (w_fi w2 (n_v vs 0) 3) (w_fi w2 (n_v vs 0) 2) (w_fi w2 (n_v vs 12) 0) (w_fi w2 (n_v vs 12) 1) (w_ei w2 (w_ar ws (n_v vs 9) 4)) (w_ei w2 (w_ar ws (n_v vs 11) 6)) (w_ei ws (w_ar ws (n_v vs 9) 11)) (w_ei w1 (w_ar ws (n_v vs 9) 11)) k10 f23 fe_0_2_1 fe_0_3_1 fe_12_0_1 fe_12_1_1 fe_0_2_2 fe_0_3_2 fe_12_0_2 fe_12_1_2 hE_0_4_1 hE_0_4_2 hE_0_5_1 hE_0_5_2 hE_8_9_1 hE_8_9_2 hE_9_4_1 hE_9_4_2 hE_9_11_1 hE_11_6_1 hE_11_6_2 hE_12_7_1 hE_12_7_2 hE_12_8_1 hE_12_8_2 kz_0_2 kz_0_3 kz_12_0 kz_12_1)⟩
  have nf1 : fc_1 PRD (20, [9, 10, 28], [50, 0, 1, 4, 0, 5, 3, 0, 4, 1, 1, 1, 2]) ws (vs) := ⟨nf_in hl rfl, sgq_1609 (vc_La_write_4_1 (v_iv (n_v vs 10)) (v_iv (n_v vs 20)) (v_iv (n_v vs 28)) (w_fi ws (n_v vs 12) 1) (w_ei ws (w_ar ws (n_v vs 12) 7)) (w_ei ws (w_ar ws (n_v vs 12) 8)) (w_ei ws (w_ar ws (n_v vs 8) 9)) (w_ei ws (w_ar ws (n_v vs 0) 4)) (w_ei ws (w_ar ws (n_v vs 0) 5)) (w_fi ws (n_v vs 0) 3) (w_fi ws (n_v vs 0) 2) (w_fi ws (n_v vs 12) 0) (w_ei ws (w_ar ws (n_v vs 9) 4)) (w_ei ws (w_ar ws (n_v vs 11) 6)) (w_ei w1 (w_ar ws (n_v vs 0) 4)) (w_ei w1 (w_ar ws (n_v vs 12) 7)) (w_ei w1 (w_ar ws (n_v vs 12) 8)) (w_ei w1 (w_ar ws (n_v vs 8) 9)) (w_ei w1 (w_ar ws (n_v vs 0) 5)) (w_fi w1 (n_v vs 0) 3) (w_fi w1 (n_v vs 0) 2) (w_fi w1 (n_v vs 12) 0) (w_fi w1 (n_v vs 12) 1) (w_ei w1 (w_ar ws (n_v vs 9) 4)) (w_ei w1 (w_ar ws (n_v vs 11) 6)) (w_ei w2 (w_ar ws (n_v vs 8) 9)) (w_ei w2 (w_ar ws (n_v vs 0) 4)) (w_ei w2 (w_ar ws (n_v vs 0) 5)) (w_ei w2 (w_ar ws (n_v vs 12) 7)) (w_ei w2 (w_ar ws (n_v vs 12) 8)) (w_fi w2 (n_v vs 0) 3) (w_fi w2 (n_v vs 0) 2) (w_fi w2 (n_v vs 12) 0) (w_fi w2 (n_v vs 12) 1) (w_ei w2 (w_ar ws (n_v vs 9) 4)) (w_ei w2 (w_ar ws (n_v vs 11) 6)) (w_ei ws (w_ar ws (n_v vs 9) 11)) (w_ei w1 (w_ar ws (n_v vs 9) 11)) k10 k28 f23 fe_0_2_1 fe_0_3_1 fe_12_0_1 fe_12_1_1 fe_0_2_2 fe_0_3_2 fe_12_0_2 fe_12_1_2 hE_0_4_1 hE_0_4_2 hE_0_5_1 hE_0_5_2 hE_8_9_1 hE_8_9_2 hE_9_4_1 hE_9_4_2 hE_9_11_1 hE_11_6_1 hE_11_6_2 hE_12_7_1 hE_12_7_2 hE_12_8_1 hE_12_8_2 kz_0_2 kz_0_3 kz_12_0 kz_12_1)⟩
  have nf2 : fc_1 PRD (20, [7, 12, 8, 10, 22], [60, 0, 4, 669, 4, 1007, 1008, 2009]) ws (vs) := by
    refine ⟨nf_in hl rfl, sgq_1610 ?_⟩
    · show WRS (w_ei ws (w_ar ws (n_v vs 7) 4)) (w_ei ws (w_ar ws (n_v vs 12) 7)) (w_ei ws (w_ar ws (n_v vs 12) 8)) (w_ei ws (w_ar ws (n_v vs 8) 9)) (v_iv (n_v vs 10)) (v_iv (n_v vs 22))
      rw [q7]
      exact vc_La_write_4_2 (v_iv (n_v vs 10)) (v_iv (n_v vs 18)) (v_iv (n_v vs 19)) (v_iv (n_v vs 20)) (v_iv (n_v vs 21)) (v_iv (n_v vs 22)) (w_fi ws (n_v vs 12) 1) (w_ei ws (w_ar ws (n_v vs 12) 7)) (w_ei ws (w_ar ws (n_v vs 12) 8)) (w_ei ws (w_ar ws (n_v vs 8) 9)) (w_ei ws (w_ar ws (n_v vs 0) 4)) (w_ei ws (w_ar ws (n_v vs 0) 5)) (w_fi ws (n_v vs 0) 3) (w_fi ws (n_v vs 0) 2) (w_fi ws (n_v vs 12) 0) (w_ei ws (w_ar ws (n_v vs 9) 4)) (w_ei ws (w_ar ws (n_v vs 11) 6)) (w_ei w1 (w_ar ws (n_v vs 0) 4)) (w_ei w1 (w_ar ws (n_v vs 12) 7)) (w_ei w1 (w_ar ws (n_v vs 12) 8)) (w_ei w1 (w_ar ws (n_v vs 8) 9)) (w_ei w1 (w_ar ws (n_v vs 0) 5)) (w_fi w1 (n_v vs 0) 3) (w_fi w1 (n_v vs 0) 2) (w_fi w1 (n_v vs 12) 0) (w_fi w1 (n_v vs 12) 1) (w_ei w1 (w_ar ws (n_v vs 9) 4)) (w_ei w1 (w_ar ws (n_v vs 11) 6)) (w_ei w2 (w_ar ws (n_v vs 8) 9)) (w_ei w2 (w_ar ws (n_v vs 0) 4)) (w_ei w2 (w_ar ws (n_v vs 0) 5)) (w_ei w2 (w_ar ws (n_v vs 12) 7)) (w_ei w2 (w_ar ws (n_v vs 12) 8)) (w_fi w2 (n_v vs 0) 3) (w_fi w2 (n_v vs 0) 2) (w_fi w2 (n_v vs 12) 0) (w_fi w2 (n_v vs 12) 1) (w_ei w2 (w_ar ws (n_v vs 9) 4)) (w_ei w2 (w_ar ws (n_v vs 11) 6)) (w_ei ws (w_ar ws (n_v vs 9) 11)) (w_ei w1 (w_ar ws (n_v vs 9) 11)) k10 k18 k19 k20 k21 k22 f11 h12 f13 h14 f15 fe_0_2_1 fe_0_3_1 fe_12_0_1 fe_12_1_1 fe_0_2_2 fe_0_3_2 fe_12_0_2 fe_12_1_2 hE_0_4_1 hE_0_4_2 hE_0_5_1 hE_0_5_2 hE_8_9_1 hE_8_9_2 hE_9_4_1 hE_9_4_2 hE_9_11_1 hE_11_6_1 hE_11_6_2 hE_12_7_1 hE_12_7_2 hE_12_8_1 hE_12_8_2 kz_0_2 kz_0_3 kz_12_0 kz_12_1
  have nf3 : fc_1 PRD (20, [10, 12], [50, 1, 0, 1001, 2, 6, 0, 2, 0, 0, 1, 0, 0, 6, 4, 2, 1, 0, 0, 1, 2, 1, 1]) ws (vs) := ⟨nf_in hl rfl, sgq_387 (vc_La_write_4_3 (v_iv (n_v vs 10)) (v_iv (n_v vs 13)) (v_iv (n_v vs 20)) (w_fi ws (n_v vs 12) 1) (w_ei ws (w_ar ws (n_v vs 12) 7)) (w_ei ws (w_ar ws (n_v vs 12) 8)) (w_ei ws (w_ar ws (n_v vs 8) 9)) (w_ei ws (w_ar ws (n_v vs 0) 4)) (w_ei ws (w_ar ws (n_v vs 0) 5)) (w_fi ws (n_v vs 0) 3) (w_fi ws (n_v vs 0) 2) (w_fi ws (n_v vs 12) 0) (w_ei ws (w_ar ws (n_v vs 9) 4)) (w_ei ws (w_ar ws (n_v vs 11) 6)) (w_ei w1 (w_ar ws (n_v vs 0) 4)) (w_ei w1 (w_ar ws (n_v vs 12) 7)) (w_ei w1 (w_ar ws (n_v vs 12) 8)) (w_ei w1 (w_ar ws (n_v vs 8) 9)) (w_ei w1 (w_ar ws (n_v vs 0) 5)) (w_fi w1 (n_v vs 0) 3) (w_fi w1 (n_v vs 0) 2) (w_fi w1 (n_v vs 12) 0) (w_fi w1 (n_v vs 12) 1) (w_ei w1 (w_ar ws (n_v vs 9) 4)) (w_ei w1 (w_ar ws (n_v vs 11) 6)) (w_ei w2 (w_ar ws (n_v vs 8) 9)) (w_ei w2 (w_ar ws (n_v vs 0) 4)) (w_ei w2 (w_ar ws (n_v vs 0) 5)) (w_ei w2 (w_ar ws (n_v vs 12) 7)) (w_ei w2 (w_ar ws (n_v vs 12) 8)) (w_fi w2 (n_v vs 0) 3) (w_fi w2 (n_v vs 0) 2) (w_fi w2 (n_v vs 12) 0) (w_fi w2 (n_v vs 12) 1) (w_ei w2 (w_ar ws (n_v vs 9) 4)) (w_ei w2 (w_ar ws (n_v vs 11) 6)) (w_ei ws (w_ar ws (n_v vs 9) 11)) (w_ei w1 (w_ar ws (n_v vs 9) 11)) k10 k13 d1 g3 fe_0_2_1 fe_0_3_1 fe_12_0_1 fe_12_1_1 fe_0_2_2 fe_0_3_2 fe_12_0_2 fe_12_1_2 hE_0_4_1 hE_0_4_2 hE_0_5_1 hE_0_5_2 hE_8_9_1 hE_8_9_2 hE_9_4_1 hE_9_4_2 hE_9_11_1 hE_11_6_1 hE_11_6_2 hE_12_7_1 hE_12_7_2 hE_12_8_1 hE_12_8_2 kz_0_2 kz_0_3 kz_12_0 kz_12_1)⟩
  refine ⟨(fun _ h => (by cases h)), [], trivial, ?_, (fun _ h => (by cases h))⟩
  rw [List.append_nil]
  exact List.forall_mem_cons.mpr ⟨⟨show (20 : Nat) < 100 from by decide, nf0⟩, List.forall_mem_cons.mpr ⟨⟨show (20 : Nat) < 100 from by decide, nf1⟩, List.forall_mem_cons.mpr ⟨⟨show (20 : Nat) < 100 from by decide, nf2⟩, List.forall_mem_cons.mpr ⟨⟨show (20 : Nat) < 100 from by decide, nf3⟩, (fun _ h => (by cases h))⟩⟩⟩⟩
set_option maxHeartbeats 4000000 in
theorem vc_La_write_5_0 (x10 : Int) (x17 : Int) (bends_0o9 : Int → Int) (k10 : 0 ≤ x10 ∧ x10 ≤ 47) (k17 : 1 ≤ x17 ∧ x17 ≤ 48) (f0 : x17 = x10 + 1) (f4 : BNZ (bends_0o9) (x10)) : BNY (bends_0o9) (x17) := by
  first
    | exact bnz_y ‹BNZ _ _› (by omega)
def o_La_write_5 : or_T := (79, 18, [(10, (0, 0, 47, [])), (17, (0, 1, 48, []))], [(6, [17, 10], [1]), (20, [9, 10], [60, 0, 1, 643, 4])], [], [], [(20, [9, 17], [60, 0, 1, 642, 4])], [], [])
theorem oo_La_write_5 {kA : Nat → ClassId} : or_ok PRD kA GG o_La_write_5 := by
  refine or_mk fun A ta ws vs hD hth hl => ?_
  intro t10 k10 t17 k17 f0 f4
  have nf0 : fc_1 PRD (20, [9, 17], [60, 0, 1, 642, 4]) ws (vs) := ⟨nf_in hl rfl, sgq_1608 (vc_La_write_5_0 (v_iv (n_v vs 10)) (v_iv (n_v vs 17)) (w_ei ws (w_ar ws (n_v vs 9) 4)) k10 k17 (shm_4 f0) (shm_342 f4))⟩
  refine ⟨(fun _ h => (by cases h)), [], trivial, ?_, (fun _ h => (by cases h))⟩
  rw [List.append_nil]
  exact List.forall_mem_cons.mpr ⟨⟨show (20 : Nat) < 100 from by decide, nf0⟩, (fun _ h => (by cases h))⟩
set_option maxHeartbeats 4000000 in
theorem vc_La_write_6_r0 (x10 : Int) (x11 : Int) (x12 : Int) (x16 : Int) (x20 : Int) (x21 : Int) (firstJoint_0 : Int → Int) (turned_0o8 : Int → Int) (layerOf_0 : Int → Int) (tail_0o14 : Int → Int) (head_0o14 : Int → Int) (items_0 : Int) (layerCount_0 : Int) (nodes_0o14 : Int) (edges_0o14 : Int) (k10 : 0 ≤ x10 ∧ x10 ≤ 47) (k11 : 2 ≤ x11 ∧ x11 ≤ 23) (k12 : 0 ≤ x12 ∧ x12 ≤ 21) (k16 : 1 ≤ x16 ∧ x16 ≤ 22) (k20 : 0 ≤ x20 ∧ x20 ≤ 72) (k21 : 0 ≤ x21 ∧ x21 ≤ 93) (d2 : x20 + 0 ≤ x21 ∧ x21 ≤ x20 + 21) (d3 : x16 + (-4294967296) ≤ x12 ∧ x12 ≤ x16 + (-1)) (d4 : x11 + (-1) ≤ x16 ∧ x16 ≤ x11 + (-1)) (f1 : x21 = x20 + x12) (h2 : x20 = firstJoint_0 (x10)) (f9 : MIT (items_0) (layerCount_0) (nodes_0o14) (edges_0o14) (layerOf_0) (firstJoint_0) (tail_0o14) (head_0o14) (turned_0o8)) (f12 : WRS (layerOf_0) (tail_0o14) (head_0o14) (turned_0o8) (x10) (x11)) (f13 : (0 ≤ x10) ∧ ((x10 + 1) ≤ edges_0o14)) (kz_0_2 : 0 ≤ layerCount_0 ∧ layerCount_0 ≤ 24) (kz_0_3 : 0 ≤ items_0 ∧ items_0 ≤ 72) (kz_14_0 : 0 ≤ nodes_0o14 ∧ nodes_0o14 ≤ 24) (kz_14_1 : 0 ≤ edges_0o14 ∧ edges_0o14 ≤ 48) : 0 ≤ x21 ∧ x21 ≤ 71 := by
  first
    | (have q := wrs_in (f := x20) ‹MIT _ _ _ _ _ _ _ _ _› ‹WRS _ _ _ _ _ _› (by omega) (by omega) (by assumption) (by omega); omega)
def o_La_write_6 : or_T := (208, 23, [(0, (2, 0, 0, [4])), (7, (2, 0, 0, [4])), (8, (2, 0, 0, [2])), (9, (2, 0, 0, [0])), (10, (0, 0, 47, [])), (11, (0, 2, 23, [])), (12, (0, 0, 21, [])), (13, (2, 0, 0, [10])), (14, (2, 0, 0, [3])), (15, (0, 1, 1, [])), (16, (0, 1, 22, [])), (17, (2, 0, 0, [42])), (18, (0, 0, 0, [])), (19, (2, 0, 0, [63])), (20, (0, 0, 72, [])), (21, (0, 0, 93, [])), (22, (2, 0, 0, [122]))], [(9, [22, 13], [6]), (1, [21, 20, 12], []), (10, [20, 19, 10], []), (9, [19, 7], [5]), (8, [18], [0]), (10, [18, 17, 10], []), (9, [17, 8], [9]), (7, [12, 16], [2]), (2, [16, 11, 15], []), (20, [7, 14, 8], [60, 4, 5, 664, 3, 2, 1000, 1001, 4, 5, 1007, 1008, 2009]), (20, [9, 10], [60, 0, 1, 643, 4]), (20, [9, 10, 12], [50, 0, 1, 4, 0, 5, 3, 0, 4, 1, 1, 1, 2]), (20, [7, 14, 8, 10, 11], [60, 0, 4, 669, 4, 1007, 1008, 2009]), (20, [10, 14], [50, 1, 0, 1001, 2, 6, 0, 2, 0, 0, 1, 0, 0, 6, 4, 2, 1, 0, 0, 1, 2, 1, 1]), (20, [13], [60, 0, 1, 543, 6]), (24, [0, 7], [])], [(21, (0, 0, 71, []))], [], [], [], [(21, 12, 0, 72), (21, 16, -4294967296, 71), (21, 20, 0, 21), (12, 16, -4294967296, -1), (16, 11, -1, -1)])
theorem oo_La_write_6 {kA : Nat → ClassId} : or_ok PRD kA GG o_La_write_6 := by
  refine or_mk fun A ta ws vs hD hth hl => ?_
  intro t0 r0 t7 r7 t8 r8 t9 r9 t10 k10 t11 k11 t12 k12 t13 r13 t14 r14 t15 k15 t16 k16 t17 r17 t18 k18 t19 r19 t20 k20 t21 k21 t22 r22 d0 d1 d2 d3 d4 f0 f1 f2 f3 f4 f5 f6 f7 f8 f9 f10 f11 f12 f13 f14 f15
  replace f2 := shm_107 f2
  replace f3 := shm_110 f3
  replace f9 := shm_1091 f9
  replace f12 := shm_1610 f12
  replace f15 := shm_5 f15
  have q7 : n_v vs 7 = n_v vs 0 := f15.symm
  simp only [q7] at f3 f9 f12
  have ad_19 : v_ad (n_v vs 19) = w_ar ws (n_v vs 0) 5 := congrArg v_ad f3
  simp only [ad_19] at f2
  have h2 : v_iv (n_v vs 20) = w_ei ws (w_ar ws (n_v vs 0) 5) (v_iv (n_v vs 10)) := f2
  have kz_0_2 := fdq_77 hD hth r0
  have kz_0_3 := fdq_218 hD hth r0
  have kz_14_0 := fdq_21 hD hth r14
  have kz_14_1 := fdq_30 hD hth r14
  have hrf0 : 0 ≤ v_iv (n_v vs 21) ∧ v_iv (n_v vs 21) ≤ 71 := vc_La_write_6_r0 (v_iv (n_v vs 10)) (v_iv (n_v vs 11)) (v_iv (n_v vs 12)) (v_iv (n_v vs 16)) (v_iv (n_v vs 20)) (v_iv (n_v vs 21)) (w_ei ws (w_ar ws (n_v vs 0) 5)) (w_ei ws (w_ar ws (n_v vs 8) 9)) (w_ei ws (w_ar ws (n_v vs 0) 4)) (w_ei ws (w_ar ws (n_v vs 14) 7)) (w_ei ws (w_ar ws (n_v vs 14) 8)) (w_fi ws (n_v vs 0) 3) (w_fi ws (n_v vs 0) 2) (w_fi ws (n_v vs 14) 0) (w_fi ws (n_v vs 14) 1) k10 k11 k12 k16 k20 k21 d2 d3 d4 (shm_12 f1) h2 f9 f12 (shm_387 f13) kz_0_2 kz_0_3 kz_14_0 kz_14_1
  have rf21 : tv_ok ta (0, 0, 71, []) (n_v vs 21) := tv_in t21 (by first | omega | grind) (by first | omega | grind)
  refine ⟨List.forall_mem_cons.mpr ⟨rf21, (fun _ h => (by cases h))⟩, [], trivial, ?_, (fun _ h => (by cases h))⟩
  rw [List.append_nil]
  exact (fun _ h => (by cases h))
set_option maxHeartbeats 4000000 in
theorem vc_La_write_7_r0 (x21 : Int) (x23 : Int) (place_0o13 : Int → Int) (k21 : 0 ≤ x21 ∧ x21 ≤ 71) (k23 : (-2147483648) ≤ x23 ∧ x23 ≤ 2147483647) (h0 : x23 = place_0o13 (x21)) (f15 : PBZ (place_0o13)) : 0 ≤ x23 ∧ x23 ≤ 568320 := by
  first
    | (have q := ‹PBZ _› x21 (by omega) (by omega); omega)
    | (have q := ‹PBZ _› x24 (by omega) (by omega); omega)
    | (have q := ‹PBZ _› x13 (by omega) (by omega); omega)
def o_La_write_7 : or_T := (209, 24, [(0, (2, 0, 0, [4])), (7, (2, 0, 0, [4])), (8, (2, 0, 0, [2])), (9, (2, 0, 0, [0])), (10, (0, 0, 47, [])), (11, (0, 2, 23, [])), (12, (0, 0, 21, [])), (13, (2, 0, 0, [10])), (14, (2, 0, 0, [3])), (15, (0, 1, 1, [])), (16, (0, 1, 22, [])), (17, (2, 0, 0, [42])), (18, (0, 0, 0, [])), (19, (2, 0, 0, [63])), (20, (0, 0, 72, [])), (21, (0, 0, 71, [])), (22, (2, 0, 0, [122])), (23, (0, -2147483648, 2147483647, []))], [(10, [23, 22, 21], []), (9, [22, 13], [6]), (1, [21, 20, 12], []), (10, [20, 19, 10], []), (9, [19, 7], [5]), (8, [18], [0]), (10, [18, 17, 10], []), (9, [17, 8], [9]), (7, [12, 16], [2]), (2, [16, 11, 15], []), (20, [7, 14, 8], [60, 4, 5, 664, 3, 2, 1000, 1001, 4, 5, 1007, 1008, 2009]), (20, [9, 10], [60, 0, 1, 643, 4]), (20, [9, 10, 12], [50, 0, 1, 4, 0, 5, 3, 0, 4, 1, 1, 1, 2]), (20, [7, 14, 8, 10, 11], [60, 0, 4, 669, 4, 1007, 1008, 2009]), (20, [10, 14], [50, 1, 0, 1001, 2, 6, 0, 2, 0, 0, 1, 0, 0, 6, 4, 2, 1, 0, 0, 1, 2, 1, 1]), (20, [13], [60, 0, 1, 543, 6]), (24, [0, 7], [])], [(23, (0, 0, 568320, []))], [], [], [], [(21, 12, 0, 72), (21, 20, 0, 21), (12, 16, -4294967296, -1), (16, 11, -1, -1)])
theorem oo_La_write_7 {kA : Nat → ClassId} : or_ok PRD kA GG o_La_write_7 := by
  refine or_mk fun A ta ws vs hD hth hl => ?_
  intro t0 r0 t7 r7 t8 r8 t9 r9 t10 k10 t11 k11 t12 k12 t13 r13 t14 r14 t15 k15 t16 k16 t17 r17 t18 k18 t19 r19 t20 k20 t21 k21 t22 r22 t23 k23 d0 d1 d2 d3 f0 f1 f2 f3 f4 f5 f6 f7 f8 f9 f10 f11 f12 f13 f14 f15 f16
  replace f0 := shm_107 f0
  replace f1 := shm_111 f1
  have ad_22 : v_ad (n_v vs 22) = w_ar ws (n_v vs 13) 6 := congrArg v_ad f1
  simp only [ad_22] at f0
  have h0 : v_iv (n_v vs 23) = w_ei ws (w_ar ws (n_v vs 13) 6) (v_iv (n_v vs 21)) := f0
  have hrf0 : 0 ≤ v_iv (n_v vs 23) ∧ v_iv (n_v vs 23) ≤ 568320 := vc_La_write_7_r0 (v_iv (n_v vs 21)) (v_iv (n_v vs 23)) (w_ei ws (w_ar ws (n_v vs 13) 6)) k21 k23 h0 (shm_1607 f15)
  have rf23 : tv_ok ta (0, 0, 568320, []) (n_v vs 23) := tv_in t23 (by first | omega | grind) (by first | omega | grind)
  refine ⟨List.forall_mem_cons.mpr ⟨rf23, (fun _ h => (by cases h))⟩, [], trivial, ?_, (fun _ h => (by cases h))⟩
  rw [List.append_nil]
  exact (fun _ h => (by cases h))
set_option maxHeartbeats 4000000 in
theorem vc_La_write_8_0 (x10 : Int) (x20 : Int) (bends_0o9 : Int → Int) (gx : Int) (k10 : 0 ≤ x10 ∧ x10 ≤ 47) (ex2 : gx = bends_0o9 (x10)) : 1 * bends_0o9 (x10) + ((-1) * gx + 0) ≤ 0 := by
  first
    | omega
set_option maxHeartbeats 4000000 in
theorem vc_La_write_8_1 (x10 : Int) (bends_0o9 : Int → Int) (k10 : 0 ≤ x10 ∧ x10 ≤ 47) (f13 : BNZ (bends_0o9) (x10)) : BNZ (bends_0o9) (x10) := by
  first
    | assumption
set_option maxHeartbeats 4000000 in
theorem vc_La_write_8_2 (x10 : Int) (x12 : Int) (x20 : Int) (x21 : Int) (firstJoint_0 : Int → Int) (bends_0o9 : Int → Int) (gx : Int) (k10 : 0 ≤ x10 ∧ x10 ≤ 47) (k12 : 0 ≤ x12 ∧ x12 ≤ 21) (k20 : 0 ≤ x20 ∧ x20 ≤ 72) (k21 : 0 ≤ x21 ∧ x21 ≤ 71) (f4 : x21 = x20 + x12) (h5 : x20 = firstJoint_0 (x10)) (f14 : bends_0o9 (x10) ≤ x12) (ex2 : gx = bends_0o9 (x10)) : 1 * gx + ((-1) * x12 + 0) ≤ 0 := by
  first
    | omega
def o_La_write_8 : or_T := (218, 28, [(0, (2, 0, 0, [4])), (7, (2, 0, 0, [4])), (8, (2, 0, 0, [2])), (9, (2, 0, 0, [0])), (10, (0, 0, 47, [])), (11, (0, 2, 23, [])), (12, (0, 0, 21, [])), (13, (2, 0, 0, [10])), (14, (2, 0, 0, [3])), (15, (0, 1, 1, [])), (16, (0, 1, 22, [])), (17, (2, 0, 0, [42])), (18, (0, 0, 0, [])), (19, (2, 0, 0, [63])), (20, (0, 0, 72, [])), (21, (0, 0, 71, [])), (22, (2, 0, 0, [122])), (23, (0, 0, 568320, [])), (25, (2, 0, 0, [62])), (26, (0, 0, 23, []))], [(10, [26, 25, 21], []), (9, [25, 7], [4]), (10, [23, 22, 21], []), (9, [22, 13], [6]), (1, [21, 20, 12], []), (10, [20, 19, 10], []), (9, [19, 7], [5]), (8, [18], [0]), (10, [18, 17, 10], []), (9, [17, 8], [9]), (7, [12, 16], [2]), (2, [16, 11, 15], []), (20, [7, 14, 8], [60, 4, 5, 664, 3, 2, 1000, 1001, 4, 5, 1007, 1008, 2009]), (20, [9, 10], [60, 0, 1, 643, 4]), (20, [9, 10, 12], [50, 0, 1, 4, 0, 5, 3, 0, 4, 1, 1, 1, 2]), (20, [7, 14, 8, 10, 11], [60, 0, 4, 669, 4, 1007, 1008, 2009]), (20, [10, 14], [50, 1, 0, 1001, 2, 6, 0, 2, 0, 0, 1, 0, 0, 6, 4, 2, 1, 0, 0, 1, 2, 1, 1]), (20, [13], [60, 0, 1, 543, 6]), (24, [0, 7], [])], [], [(0, 0, 23, [])], [(20, [9, 10, 28], [30, 0, 1, 2, 4, -1, 0, 0]), (20, [9, 10], [60, 0, 1, 643, 4]), (23, [28, 12], [0, 1, -1])], [], [(21, 12, 0, 72), (21, 20, 0, 21), (12, 16, -4294967296, -1), (16, 11, -1, -1)])
theorem oo_La_write_8 {kA : Nat → ClassId} : or_ok PRD kA GG o_La_write_8 := by
  refine or_mk fun A ta ws vs hD hth hl => ?_
  intro t0 r0 t7 r7 t8 r8 t9 r9 t10 k10 t11 k11 t12 k12 t13 r13 t14 r14 t15 k15 t16 k16 t17 r17 t18 k18 t19 r19 t20 k20 t21 k21 t22 r22 t23 k23 t25 r25 t26 k26 d0 d1 d2 d3 f0 f1 f2 f3 f4 f5 f6 f7 f8 f9 f10 f11 f12 f13 f14 f15 f16 f17 f18
  replace f0 := shm_107 f0
  replace f1 := shm_108 f1
  replace f2 := shm_107 f2
  replace f3 := shm_111 f3
  replace f4 := shm_12 f4
  replace f5 := shm_107 f5
  replace f6 := shm_110 f6
  replace f7 := shm_192 f7
  replace f8 := shm_107 f8
  replace f9 := shm_119 f9
  replace f10 := shm_6 f10
  replace f11 := shm_14 f11
  replace f12 := shm_1091 f12
  replace f13 := shm_342 f13
  replace f14 := shm_1609 f14
  replace f15 := shm_1610 f15
  replace f16 := shm_387 f16
  replace f17 := shm_1607 f17
  replace f18 := shm_5 f18
  have q7 : n_v vs 7 = n_v vs 0 := f18.symm
  simp only [q7] at f1 f6 f12 f15
  have cr_0_4 := fdq_219 hD hth r0
  have cr_0_5 := fdq_248 hD hth r0
  have cr_8_9 := fdq_76 hD hth r8
  have cr_9_4 := fdq_1 hD hth r9
  have cr_13_6 := fdq_115 hD hth r13
  have cr_14_7 := fdq_46 hD hth r14
  have cr_14_8 := fdq_47 hD hth r14
  have ad_25 : v_ad (n_v vs 25) = w_ar ws (n_v vs 0) 4 := congrArg v_ad f1
  have ad_22 : v_ad (n_v vs 22) = w_ar ws (n_v vs 13) 6 := congrArg v_ad f3
  have ad_19 : v_ad (n_v vs 19) = w_ar ws (n_v vs 0) 5 := congrArg v_ad f6
  have ad_17 : v_ad (n_v vs 17) = w_ar ws (n_v vs 8) 9 := congrArg v_ad f9
  simp only [ad_25] at f0
  have h0 : v_iv (n_v vs 26) = w_ei ws (w_ar ws (n_v vs 0) 4) (v_iv (n_v vs 21)) := f0
  simp only [ad_22] at f2
  have h2 : v_iv (n_v vs 23) = w_ei ws (w_ar ws (n_v vs 13) 6) (v_iv (n_v vs 21)) := f2
  simp only [ad_19] at f5
  have h5 : v_iv (n_v vs 20) = w_ei ws (w_ar ws (n_v vs 0) 5) (v_iv (n_v vs 10)) := f5
  simp only [ad_17] at f8
  have h8 : v_iv (n_v vs 18) = w_ei ws (w_ar ws (n_v vs 8) 9) (v_iv (n_v vs 10)) := f8
  have hK_0_4 := elq_131 hD hth cr_0_4
  have hK_0_5 := elq_155 hD hth cr_0_5
  have hK_8_9 := elq_38 hD hth cr_8_9
  have hK_9_4 := elq_0 hD hth cr_9_4
  have hK_13_6 := elq_58 hD hth cr_13_6
  have hK_14_7 := elq_11 hD hth cr_14_7
  have hK_14_8 := elq_12 hD hth cr_14_8
  have kz_0_2 := fdq_77 hD hth r0
  have kz_0_3 := fdq_218 hD hth r0
  have kz_14_0 := fdq_21 hD hth r14
  have kz_14_1 := fdq_30 hD hth r14
  have kv0 := th_el hD hth cr_9_4 (kd := 0) (n := 48) (m := 48) (lo := 0) (hi := 24) (rs := []) (L := []) rfl (by decide) (j := (v_iv (n_v vs 10)).toNat) (by omega)
  have kw0 : w_el ws (w_ar ws (n_v vs 9) 4) (v_iv (n_v vs 10)).toNat = w_ei ws (w_ar ws (n_v vs 9) 4) (v_iv (n_v vs 10)) := rfl
  obtain ⟨x, ex, hx⟩ := iv_ex (ta := ta) (lo := 0) (hi := 23) (z := w_el ws (w_ar ws (n_v vs 9) 4) (v_iv (n_v vs 10)).toNat) (by omega) (by omega) (by omega) (by omega)
  have ex2 : v_iv (Value.int x) = w_el ws (w_ar ws (n_v vs 9) 4) (v_iv (n_v vs 10)).toNat := ex
  have ex3 : 0 ≤ v_iv (Value.int x) ∧ v_iv (Value.int x) ≤ 23 := tv_rng hx
  have e_9 : n_v (vs ++ [Value.int x]) 9 = n_v vs 9 := n_v_old (by rw [hl]; decide)
  have e_10 : n_v (vs ++ [Value.int x]) 10 = n_v vs 10 := n_v_old (by rw [hl]; decide)
  have e_12 : n_v (vs ++ [Value.int x]) 12 = n_v vs 12 := n_v_old (by rw [hl]; decide)
  have e_28 : n_v (vs ++ [Value.int x]) 28 = Value.int x := n_v_new hl
  have nf0 : fc_1 PRD (20, [9, 10, 28], [30, 0, 1, 2, 4, -1, 0, 0]) ws (vs ++ [Value.int x]) := by
    refine ⟨nf_inA hl rfl, sgq_109 ?_⟩
    · show 1 * w_el ws (w_ar ws (n_v (vs ++ [Value.int x]) 9) 4) (v_iv (n_v (vs ++ [Value.int x]) 10)).toNat + ((-1) * v_iv (n_v (vs ++ [Value.int x]) 28) + 0) ≤ 0
      simp only [e_9, e_10, e_28]
      exact vc_La_write_8_0 (v_iv (n_v vs 10)) (v_iv (n_v vs 20)) (w_ei ws (w_ar ws (n_v vs 9) 4)) (v_iv (Value.int x)) k10 ex2
  have nf1 : fc_1 PRD (20, [9, 10], [60, 0, 1, 643, 4]) ws (vs ++ [Value.int x]) := by
    refine ⟨nf_inA hl rfl, sgq_342 ?_⟩
    · show BNZ (w_ei ws (w_ar ws (n_v (vs ++ [Value.int x]) 9) 4)) (v_iv (n_v (vs ++ [Value.int x]) 10))
      simp only [e_9, e_10]
      exact vc_La_write_8_1 (v_iv (n_v vs 10)) (w_ei ws (w_ar ws (n_v vs 9) 4)) k10 f13
  have nf2 : fc_1 PRD (23, [28, 12], [0, 1, -1]) ws (vs ++ [Value.int x]) := by
    refine ⟨nf_inA hl rfl, sgq_7 ?_⟩
    · show 1 * v_iv (n_v (vs ++ [Value.int x]) 28) + ((-1) * v_iv (n_v (vs ++ [Value.int x]) 12) + 0) ≤ 0
      simp only [e_12, e_28]
      exact vc_La_write_8_2 (v_iv (n_v vs 10)) (v_iv (n_v vs 12)) (v_iv (n_v vs 20)) (v_iv (n_v vs 21)) (w_ei ws (w_ar ws (n_v vs 0) 5)) (w_ei ws (w_ar ws (n_v vs 9) 4)) (v_iv (Value.int x)) k10 k12 k20 k21 f4 h5 f14 ex2
  exact ⟨(fun _ h => (by cases h)), [Value.int x], ag_one hx, List.forall_mem_cons.mpr ⟨⟨show (20 : Nat) < 100 from by decide, nf0⟩, List.forall_mem_cons.mpr ⟨⟨show (20 : Nat) < 100 from by decide, nf1⟩, List.forall_mem_cons.mpr ⟨⟨show (23 : Nat) < 100 from by decide, nf2⟩, (fun _ h => (by cases h))⟩⟩⟩, (fun _ h => (by cases h))⟩
set_option maxHeartbeats 4000000 in
theorem vc_La_write_9_0 (x10 : Int) (x12 : Int) (x28 : Int) (x29 : Int) (bends_0o9 : Int → Int) (k10 : 0 ≤ x10 ∧ x10 ≤ 47) (k12 : 0 ≤ x12 ∧ x12 ≤ 21) (k28 : 0 ≤ x28 ∧ x28 ≤ 23) (k29 : 1 ≤ x29 ∧ x29 ≤ 22) (d0 : x12 + 1 ≤ x29 ∧ x29 ≤ x12 + 1) (f5 : 1 * x28 + ((-1) * x12 + 0) ≤ 0) (f11 : 1 * bends_0o9 (x10) + ((-1) * x28 + 0) ≤ 1) : bends_0o9 (x10) ≤ x29 := by
  first
    | omega
def o_La_write_9 : or_T := (151, 30, [(10, (0, 0, 47, [])), (12, (0, 0, 21, [])), (28, (0, 0, 23, [])), (29, (0, 1, 22, []))], [(23, [28, 12], [0, 1, -1]), (20, [9, 10, 28], [30, 1, 1, 2, 4, -1, 0, 0])], [], [], [(20, [9, 10, 29], [50, 0, 1, 4, 0, 5, 3, 0, 4, 1, 1, 1, 2])], [], [(29, 12, 1, 1)])
theorem oo_La_write_9 {kA : Nat → ClassId} : or_ok PRD kA GG o_La_write_9 := by
  refine or_mk fun A ta ws vs hD hth hl => ?_
  intro t10 k10 t12 k12 t28 k28 t29 k29 d0 f5 f11
  have nf0 : fc_1 PRD (20, [9, 10, 29], [50, 0, 1, 4, 0, 5, 3, 0, 4, 1, 1, 1, 2]) ws (vs) := ⟨nf_in hl rfl, sgq_1609 (vc_La_write_9_0 (v_iv (n_v vs 10)) (v_iv (n_v vs 12)) (v_iv (n_v vs 28)) (v_iv (n_v vs 29)) (w_ei ws (w_ar ws (n_v vs 9) 4)) k10 k12 k28 k29 d0 (shm_7 f5) (shm_112 f11))⟩
  refine ⟨(fun _ h => (by cases h)), [], trivial, ?_, (fun _ h => (by cases h))⟩
  rw [List.append_nil]
  exact List.forall_mem_cons.mpr ⟨⟨show (20 : Nat) < 100 from by decide, nf0⟩, (fun _ h => (by cases h))⟩
set_option maxHeartbeats 4000000 in
theorem vc_La_write_10_r0 (x10 : Int) (x11 : Int) (x12 : Int) (x16 : Int) (x20 : Int) (x21 : Int) (x23 : Int) (x24 : Int) (firstJoint_0 : Int → Int) (turned_0o8 : Int → Int) (layerOf_0 : Int → Int) (tail_0o14 : Int → Int) (head_0o14 : Int → Int) (items_0 : Int) (layerCount_0 : Int) (nodes_0o14 : Int) (edges_0o14 : Int) (k10 : 0 ≤ x10 ∧ x10 ≤ 47) (k11 : 2 ≤ x11 ∧ x11 ≤ 23) (k12 : 0 ≤ x12 ∧ x12 ≤ 21) (k16 : 1 ≤ x16 ∧ x16 ≤ 22) (k20 : 0 ≤ x20 ∧ x20 ≤ 72) (k21 : 2 ≤ x21 ∧ x21 ≤ 95) (k23 : 0 ≤ x23 ∧ x23 ≤ 93) (k24 : (-21) ≤ x24 ∧ x24 ≤ 93) (d1 : x21 + (-23) ≤ x24 ∧ x24 ≤ x21 + (-2)) (d2 : x11 + (-23) ≤ x24 ∧ x24 ≤ x11 + 70) (d3 : x20 + (-21) ≤ x24 ∧ x24 ≤ x20 + 21) (d4 : x21 + (-2) ≤ x23 ∧ x23 ≤ x21 + (-2)) (d6 : x20 + 0 ≤ x23 ∧ x23 ≤ x20 + 21) (d9 : x16 + (-4294967296) ≤ x12 ∧ x12 ≤ x16 + (-1)) (d10 : x11 + (-1) ≤ x16 ∧ x16 ≤ x11 + (-1)) (f1 : x24 = x23 - x12) (f3 : x21 = x20 + x11) (h4 : x20 = firstJoint_0 (x10)) (f11 : MIT (items_0) (layerCount_0) (nodes_0o14) (edges_0o14) (layerOf_0) (firstJoint_0) (tail_0o14) (head_0o14) (turned_0o8)) (f14 : WRS (layerOf_0) (tail_0o14) (head_0o14) (turned_0o8) (x10) (x11)) (f15 : (0 ≤ x10) ∧ ((x10 + 1) ≤ edges_0o14)) (kz_0_2 : 0 ≤ layerCount_0 ∧ layerCount_0 ≤ 24) (kz_0_3 : 0 ≤ items_0 ∧ items_0 ≤ 72) (kz_14_0 : 0 ≤ nodes_0o14 ∧ nodes_0o14 ≤ 24) (kz_14_1 : 0 ≤ edges_0o14 ∧ edges_0o14 ≤ 48) : 0 ≤ x24 ∧ x24 ≤ 71 := by
  first
    | (have q := wrs_in (f := x20) ‹MIT _ _ _ _ _ _ _ _ _› ‹WRS _ _ _ _ _ _› (by omega) (by omega) (by assumption) (by omega); omega)
def o_La_write_10 : or_T := (208, 26, [(0, (2, 0, 0, [4])), (7, (2, 0, 0, [4])), (8, (2, 0, 0, [2])), (9, (2, 0, 0, [0])), (10, (0, 0, 47, [])), (11, (0, 2, 23, [])), (12, (0, 0, 21, [])), (13, (2, 0, 0, [10])), (14, (2, 0, 0, [3])), (15, (0, 1, 1, [])), (16, (0, 1, 22, [])), (17, (2, 0, 0, [42])), (18, (0, 1, 1, [])), (19, (2, 0, 0, [63])), (20, (0, 0, 72, [])), (21, (0, 2, 95, [])), (22, (0, 2, 2, [])), (23, (0, 0, 93, [])), (24, (0, -21, 93, [])), (25, (2, 0, 0, [122]))], [(9, [25, 13], [6]), (2, [24, 23, 12], []), (2, [23, 21, 22], []), (1, [21, 20, 11], []), (10, [20, 19, 10], []), (9, [19, 7], [5]), (8, [18], [1]), (10, [18, 17, 10], []), (9, [17, 8], [9]), (7, [12, 16], [2]), (2, [16, 11, 15], []), (20, [7, 14, 8], [60, 4, 5, 664, 3, 2, 1000, 1001, 4, 5, 1007, 1008, 2009]), (20, [9, 10], [60, 0, 1, 643, 4]), (20, [9, 10, 12], [50, 0, 1, 4, 0, 5, 3, 0, 4, 1, 1, 1, 2]), (20, [7, 14, 8, 10, 11], [60, 0, 4, 669, 4, 1007, 1008, 2009]), (20, [10, 14], [50, 1, 0, 1001, 2, 6, 0, 2, 0, 0, 1, 0, 0, 6, 4, 2, 1, 0, 0, 1, 2, 1, 1]), (20, [13], [60, 0, 1, 543, 6]), (24, [0, 7], [])], [(24, (0, 0, 71, []))], [], [], [], [(24, 23, -21, 0), (24, 21, -23, -2), (24, 11, -23, 70), (24, 20, -21, 21), (23, 21, -2, -2), (23, 11, -2, 70), (23, 20, 0, 21), (21, 11, 0, 72), (21, 20, 2, 23), (12, 16, -4294967296, -1), (16, 11, -1, -1)])
theorem oo_La_write_10 {kA : Nat → ClassId} : or_ok PRD kA GG o_La_write_10 := by
  refine or_mk fun A ta ws vs hD hth hl => ?_
  intro t0 r0 t7 r7 t8 r8 t9 r9 t10 k10 t11 k11 t12 k12 t13 r13 t14 r14 t15 k15 t16 k16 t17 r17 t18 k18 t19 r19 t20 k20 t21 k21 t22 k22 t23 k23 t24 k24 t25 r25 d0 d1 d2 d3 d4 d5 d6 d7 d8 d9 d10 f0 f1 f2 f3 f4 f5 f6 f7 f8 f9 f10 f11 f12 f13 f14 f15 f16 f17
  replace f4 := shm_107 f4
  replace f5 := shm_110 f5
  replace f11 := shm_1091 f11
  replace f14 := shm_1610 f14
  replace f17 := shm_5 f17
  have q7 : n_v vs 7 = n_v vs 0 := f17.symm
  simp only [q7] at f5 f11 f14
  have ad_19 : v_ad (n_v vs 19) = w_ar ws (n_v vs 0) 5 := congrArg v_ad f5
  simp only [ad_19] at f4
  have h4 : v_iv (n_v vs 20) = w_ei ws (w_ar ws (n_v vs 0) 5) (v_iv (n_v vs 10)) := f4
  have kz_0_2 := fdq_77 hD hth r0
  have kz_0_3 := fdq_218 hD hth r0
  have kz_14_0 := fdq_21 hD hth r14
  have kz_14_1 := fdq_30 hD hth r14
  have hrf0 : 0 ≤ v_iv (n_v vs 24) ∧ v_iv (n_v vs 24) ≤ 71 := vc_La_write_10_r0 (v_iv (n_v vs 10)) (v_iv (n_v vs 11)) (v_iv (n_v vs 12)) (v_iv (n_v vs 16)) (v_iv (n_v vs 20)) (v_iv (n_v vs 21)) (v_iv (n_v vs 23)) (v_iv (n_v vs 24)) (w_ei ws (w_ar ws (n_v vs 0) 5)) (w_ei ws (w_ar ws (n_v vs 8) 9)) (w_ei ws (w_ar ws (n_v vs 0) 4)) (w_ei ws (w_ar ws (n_v vs 14) 7)) (w_ei ws (w_ar ws (n_v vs 14) 8)) (w_fi ws (n_v vs 0) 3) (w_fi ws (n_v vs 0) 2) (w_fi ws (n_v vs 14) 0) (w_fi ws (n_v vs 14) 1) k10 k11 k12 k16 k20 k21 k23 k24 d1 d2 d3 d4 d6 d9 d10 (shm_14 f1) (shm_12 f3) h4 f11 f14 (shm_387 f15) kz_0_2 kz_0_3 kz_14_0 kz_14_1
  have rf24 : tv_ok ta (0, 0, 71, []) (n_v vs 24) := tv_in t24 (by first | omega | grind) (by first | omega | grind)
  refine ⟨List.forall_mem_cons.mpr ⟨rf24, (fun _ h => (by cases h))⟩, [], trivial, ?_, (fun _ h => (by cases h))⟩
  rw [List.append_nil]
  exact (fun _ h => (by cases h))
set_option maxHeartbeats 4000000 in
theorem vc_La_write_11_r0 (x21 : Int) (x24 : Int) (x26 : Int) (place_0o13 : Int → Int) (k24 : 0 ≤ x24 ∧ x24 ≤ 71) (k26 : (-2147483648) ≤ x26 ∧ x26 ≤ 2147483647) (h0 : x26 = place_0o13 (x24)) (f17 : PBZ (place_0o13)) : 0 ≤ x26 ∧ x26 ≤ 568320 := by
  first
    | (have q := ‹PBZ _› x21 (by omega) (by omega); omega)
    | (have q := ‹PBZ _› x24 (by omega) (by omega); omega)
    | (have q := ‹PBZ _› x13 (by omega) (by omega); omega)
def o_La_write_11 : or_T := (209, 27, [(0, (2, 0, 0, [4])), (7, (2, 0, 0, [4])), (8, (2, 0, 0, [2])), (9, (2, 0, 0, [0])), (10, (0, 0, 47, [])), (11, (0, 2, 23, [])), (12, (0, 0, 21, [])), (13, (2, 0, 0, [10])), (14, (2, 0, 0, [3])), (15, (0, 1, 1, [])), (16, (0, 1, 22, [])), (17, (2, 0, 0, [42])), (18, (0, 1, 1, [])), (19, (2, 0, 0, [63])), (20, (0, 0, 72, [])), (21, (0, 2, 95, [])), (22, (0, 2, 2, [])), (23, (0, 0, 93, [])), (24, (0, 0, 71, [])), (25, (2, 0, 0, [122])), (26, (0, -2147483648, 2147483647, []))], [(10, [26, 25, 24], []), (9, [25, 13], [6]), (2, [24, 23, 12], []), (2, [23, 21, 22], []), (1, [21, 20, 11], []), (10, [20, 19, 10], []), (9, [19, 7], [5]), (8, [18], [1]), (10, [18, 17, 10], []), (9, [17, 8], [9]), (7, [12, 16], [2]), (2, [16, 11, 15], []), (20, [7, 14, 8], [60, 4, 5, 664, 3, 2, 1000, 1001, 4, 5, 1007, 1008, 2009]), (20, [9, 10], [60, 0, 1, 643, 4]), (20, [9, 10, 12], [50, 0, 1, 4, 0, 5, 3, 0, 4, 1, 1, 1, 2]), (20, [7, 14, 8, 10, 11], [60, 0, 4, 669, 4, 1007, 1008, 2009]), (20, [10, 14], [50, 1, 0, 1001, 2, 6, 0, 2, 0, 0, 1, 0, 0, 6, 4, 2, 1, 0, 0, 1, 2, 1, 1]), (20, [13], [60, 0, 1, 543, 6]), (24, [0, 7], [])], [(26, (0, 0, 568320, []))], [], [], [], [(24, 23, -21, 0), (24, 21, -23, -2), (24, 20, -21, 21), (23, 21, -2, -2), (23, 11, -2, 70), (23, 20, 0, 21), (21, 11, 0, 72), (21, 20, 2, 23), (12, 16, -4294967296, -1), (16, 11, -1, -1)])
theorem oo_La_write_11 {kA : Nat → ClassId} : or_ok PRD kA GG o_La_write_11 := by
  refine or_mk fun A ta ws vs hD hth hl => ?_
  intro t0 r0 t7 r7 t8 r8 t9 r9 t10 k10 t11 k11 t12 k12 t13 r13 t14 r14 t15 k15 t16 k16 t17 r17 t18 k18 t19 r19 t20 k20 t21 k21 t22 k22 t23 k23 t24 k24 t25 r25 t26 k26 d0 d1 d2 d3 d4 d5 d6 d7 d8 d9 f0 f1 f2 f3 f4 f5 f6 f7 f8 f9 f10 f11 f12 f13 f14 f15 f16 f17 f18
  replace f0 := shm_107 f0
  replace f1 := shm_111 f1
  have ad_25 : v_ad (n_v vs 25) = w_ar ws (n_v vs 13) 6 := congrArg v_ad f1
  simp only [ad_25] at f0
  have h0 : v_iv (n_v vs 26) = w_ei ws (w_ar ws (n_v vs 13) 6) (v_iv (n_v vs 24)) := f0
  have hrf0 : 0 ≤ v_iv (n_v vs 26) ∧ v_iv (n_v vs 26) ≤ 568320 := vc_La_write_11_r0 (v_iv (n_v vs 21)) (v_iv (n_v vs 24)) (v_iv (n_v vs 26)) (w_ei ws (w_ar ws (n_v vs 13) 6)) k24 k26 h0 (shm_1607 f17)
  have rf26 : tv_ok ta (0, 0, 568320, []) (n_v vs 26) := tv_in t26 (by first | omega | grind) (by first | omega | grind)
  refine ⟨List.forall_mem_cons.mpr ⟨rf26, (fun _ h => (by cases h))⟩, [], trivial, ?_, (fun _ h => (by cases h))⟩
  rw [List.append_nil]
  exact (fun _ h => (by cases h))
set_option maxHeartbeats 4000000 in
theorem vc_La_write_12_0 (x10 : Int) (x20 : Int) (bends_0o9 : Int → Int) (gx : Int) (k10 : 0 ≤ x10 ∧ x10 ≤ 47) (ex2 : gx = bends_0o9 (x10)) : 1 * bends_0o9 (x10) + ((-1) * gx + 0) ≤ 0 := by
  first
    | omega
set_option maxHeartbeats 4000000 in
theorem vc_La_write_12_1 (x10 : Int) (bends_0o9 : Int → Int) (k10 : 0 ≤ x10 ∧ x10 ≤ 47) (f15 : BNZ (bends_0o9) (x10)) : BNZ (bends_0o9) (x10) := by
  first
    | assumption
set_option maxHeartbeats 4000000 in
theorem vc_La_write_12_2 (x10 : Int) (x12 : Int) (x20 : Int) (x23 : Int) (x24 : Int) (bends_0o9 : Int → Int) (gx : Int) (k10 : 0 ≤ x10 ∧ x10 ≤ 47) (k12 : 0 ≤ x12 ∧ x12 ≤ 21) (k23 : 0 ≤ x23 ∧ x23 ≤ 93) (k24 : 0 ≤ x24 ∧ x24 ≤ 71) (f4 : x24 = x23 - x12) (f16 : bends_0o9 (x10) ≤ x12) (ex2 : gx = bends_0o9 (x10)) : 1 * gx + ((-1) * x12 + 0) ≤ 0 := by
  first
    | omega
def o_La_write_12 : or_T := (218, 31, [(0, (2, 0, 0, [4])), (7, (2, 0, 0, [4])), (8, (2, 0, 0, [2])), (9, (2, 0, 0, [0])), (10, (0, 0, 47, [])), (11, (0, 2, 23, [])), (12, (0, 0, 21, [])), (13, (2, 0, 0, [10])), (14, (2, 0, 0, [3])), (15, (0, 1, 1, [])), (16, (0, 1, 22, [])), (17, (2, 0, 0, [42])), (18, (0, 1, 1, [])), (19, (2, 0, 0, [63])), (20, (0, 0, 72, [])), (21, (0, 2, 95, [])), (22, (0, 2, 2, [])), (23, (0, 0, 93, [])), (24, (0, 0, 71, [])), (25, (2, 0, 0, [122])), (26, (0, 0, 568320, [])), (28, (2, 0, 0, [62])), (29, (0, 0, 23, []))], [(10, [29, 28, 24], []), (9, [28, 7], [4]), (10, [26, 25, 24], []), (9, [25, 13], [6]), (2, [24, 23, 12], []), (2, [23, 21, 22], []), (1, [21, 20, 11], []), (10, [20, 19, 10], []), (9, [19, 7], [5]), (8, [18], [1]), (10, [18, 17, 10], []), (9, [17, 8], [9]), (7, [12, 16], [2]), (2, [16, 11, 15], []), (20, [7, 14, 8], [60, 4, 5, 664, 3, 2, 1000, 1001, 4, 5, 1007, 1008, 2009]), (20, [9, 10], [60, 0, 1, 643, 4]), (20, [9, 10, 12], [50, 0, 1, 4, 0, 5, 3, 0, 4, 1, 1, 1, 2]), (20, [7, 14, 8, 10, 11], [60, 0, 4, 669, 4, 1007, 1008, 2009]), (20, [10, 14], [50, 1, 0, 1001, 2, 6, 0, 2, 0, 0, 1, 0, 0, 6, 4, 2, 1, 0, 0, 1, 2, 1, 1]), (20, [13], [60, 0, 1, 543, 6]), (24, [0, 7], [])], [], [(0, 0, 23, [])], [(20, [9, 10, 31], [30, 0, 1, 2, 4, -1, 0, 0]), (20, [9, 10], [60, 0, 1, 643, 4]), (23, [31, 12], [0, 1, -1])], [], [(24, 23, -21, 0), (24, 21, -23, -2), (24, 20, -21, 21), (23, 21, -2, -2), (23, 11, -2, 70), (23, 20, 0, 21), (21, 11, 0, 72), (21, 20, 2, 23), (12, 16, -4294967296, -1), (16, 11, -1, -1)])
theorem oo_La_write_12 {kA : Nat → ClassId} : or_ok PRD kA GG o_La_write_12 := by
  refine or_mk fun A ta ws vs hD hth hl => ?_
  intro t0 r0 t7 r7 t8 r8 t9 r9 t10 k10 t11 k11 t12 k12 t13 r13 t14 r14 t15 k15 t16 k16 t17 r17 t18 k18 t19 r19 t20 k20 t21 k21 t22 k22 t23 k23 t24 k24 t25 r25 t26 k26 t28 r28 t29 k29 d0 d1 d2 d3 d4 d5 d6 d7 d8 d9 f0 f1 f2 f3 f4 f5 f6 f7 f8 f9 f10 f11 f12 f13 f14 f15 f16 f17 f18 f19 f20
  replace f0 := shm_107 f0
  replace f1 := shm_108 f1
  replace f2 := shm_107 f2
  replace f3 := shm_111 f3
  replace f4 := shm_14 f4
  replace f5 := shm_14 f5
  replace f6 := shm_12 f6
  replace f7 := shm_107 f7
  replace f8 := shm_110 f8
  replace f9 := shm_142 f9
  replace f10 := shm_107 f10
  replace f11 := shm_119 f11
  replace f12 := shm_6 f12
  replace f13 := shm_14 f13
  replace f14 := shm_1091 f14
  replace f15 := shm_342 f15
  replace f16 := shm_1609 f16
  replace f17 := shm_1610 f17
  replace f18 := shm_387 f18
  replace f19 := shm_1607 f19
  replace f20 := shm_5 f20
  have q7 : n_v vs 7 = n_v vs 0 := f20.symm
  simp only [q7] at f1 f8 f14 f17
  have cr_0_4 := fdq_219 hD hth r0
  have cr_0_5 := fdq_248 hD hth r0
  have cr_8_9 := fdq_76 hD hth r8
  have cr_9_4 := fdq_1 hD hth r9
  have cr_13_6 := fdq_115 hD hth r13
  have cr_14_7 := fdq_46 hD hth r14
  have cr_14_8 := fdq_47 hD hth r14
  have ad_28 : v_ad (n_v vs 28) = w_ar ws (n_v vs 0) 4 := congrArg v_ad f1
  have ad_25 : v_ad (n_v vs 25) = w_ar ws (n_v vs 13) 6 := congrArg v_ad f3
  have ad_19 : v_ad (n_v vs 19) = w_ar ws (n_v vs 0) 5 := congrArg v_ad f8
  have ad_17 : v_ad (n_v vs 17) = w_ar ws (n_v vs 8) 9 := congrArg v_ad f11
  simp only [ad_28] at f0
  have h0 : v_iv (n_v vs 29) = w_ei ws (w_ar ws (n_v vs 0) 4) (v_iv (n_v vs 24)) := f0
  simp only [ad_25] at f2
  have h2 : v_iv (n_v vs 26) = w_ei ws (w_ar ws (n_v vs 13) 6) (v_iv (n_v vs 24)) := f2
  simp only [ad_19] at f7
  have h7 : v_iv (n_v vs 20) = w_ei ws (w_ar ws (n_v vs 0) 5) (v_iv (n_v vs 10)) := f7
  simp only [ad_17] at f10
  have h10 : v_iv (n_v vs 18) = w_ei ws (w_ar ws (n_v vs 8) 9) (v_iv (n_v vs 10)) := f10
  have hK_0_4 := elq_131 hD hth cr_0_4
  have hK_0_5 := elq_155 hD hth cr_0_5
  have hK_8_9 := elq_38 hD hth cr_8_9
  have hK_9_4 := elq_0 hD hth cr_9_4
  have hK_13_6 := elq_58 hD hth cr_13_6
  have hK_14_7 := elq_11 hD hth cr_14_7
  have hK_14_8 := elq_12 hD hth cr_14_8
  have kz_0_2 := fdq_77 hD hth r0
  have kz_0_3 := fdq_218 hD hth r0
  have kz_14_0 := fdq_21 hD hth r14
  have kz_14_1 := fdq_30 hD hth r14
  have kv0 := th_el hD hth cr_9_4 (kd := 0) (n := 48) (m := 48) (lo := 0) (hi := 24) (rs := []) (L := []) rfl (by decide) (j := (v_iv (n_v vs 10)).toNat) (by omega)
  have kw0 : w_el ws (w_ar ws (n_v vs 9) 4) (v_iv (n_v vs 10)).toNat = w_ei ws (w_ar ws (n_v vs 9) 4) (v_iv (n_v vs 10)) := rfl
  obtain ⟨x, ex, hx⟩ := iv_ex (ta := ta) (lo := 0) (hi := 23) (z := w_el ws (w_ar ws (n_v vs 9) 4) (v_iv (n_v vs 10)).toNat) (by omega) (by omega) (by omega) (by omega)
  have ex2 : v_iv (Value.int x) = w_el ws (w_ar ws (n_v vs 9) 4) (v_iv (n_v vs 10)).toNat := ex
  have ex3 : 0 ≤ v_iv (Value.int x) ∧ v_iv (Value.int x) ≤ 23 := tv_rng hx
  have e_9 : n_v (vs ++ [Value.int x]) 9 = n_v vs 9 := n_v_old (by rw [hl]; decide)
  have e_10 : n_v (vs ++ [Value.int x]) 10 = n_v vs 10 := n_v_old (by rw [hl]; decide)
  have e_12 : n_v (vs ++ [Value.int x]) 12 = n_v vs 12 := n_v_old (by rw [hl]; decide)
  have e_31 : n_v (vs ++ [Value.int x]) 31 = Value.int x := n_v_new hl
  have nf0 : fc_1 PRD (20, [9, 10, 31], [30, 0, 1, 2, 4, -1, 0, 0]) ws (vs ++ [Value.int x]) := by
    refine ⟨nf_inA hl rfl, sgq_109 ?_⟩
    · show 1 * w_el ws (w_ar ws (n_v (vs ++ [Value.int x]) 9) 4) (v_iv (n_v (vs ++ [Value.int x]) 10)).toNat + ((-1) * v_iv (n_v (vs ++ [Value.int x]) 31) + 0) ≤ 0
      simp only [e_9, e_10, e_31]
      exact vc_La_write_12_0 (v_iv (n_v vs 10)) (v_iv (n_v vs 20)) (w_ei ws (w_ar ws (n_v vs 9) 4)) (v_iv (Value.int x)) k10 ex2
  have nf1 : fc_1 PRD (20, [9, 10], [60, 0, 1, 643, 4]) ws (vs ++ [Value.int x]) := by
    refine ⟨nf_inA hl rfl, sgq_342 ?_⟩
    · show BNZ (w_ei ws (w_ar ws (n_v (vs ++ [Value.int x]) 9) 4)) (v_iv (n_v (vs ++ [Value.int x]) 10))
      simp only [e_9, e_10]
      exact vc_La_write_12_1 (v_iv (n_v vs 10)) (w_ei ws (w_ar ws (n_v vs 9) 4)) k10 f15
  have nf2 : fc_1 PRD (23, [31, 12], [0, 1, -1]) ws (vs ++ [Value.int x]) := by
    refine ⟨nf_inA hl rfl, sgq_7 ?_⟩
    · show 1 * v_iv (n_v (vs ++ [Value.int x]) 31) + ((-1) * v_iv (n_v (vs ++ [Value.int x]) 12) + 0) ≤ 0
      simp only [e_12, e_31]
      exact vc_La_write_12_2 (v_iv (n_v vs 10)) (v_iv (n_v vs 12)) (v_iv (n_v vs 20)) (v_iv (n_v vs 23)) (v_iv (n_v vs 24)) (w_ei ws (w_ar ws (n_v vs 9) 4)) (v_iv (Value.int x)) k10 k12 k23 k24 f4 f16 ex2
  exact ⟨(fun _ h => (by cases h)), [Value.int x], ag_one hx, List.forall_mem_cons.mpr ⟨⟨show (20 : Nat) < 100 from by decide, nf0⟩, List.forall_mem_cons.mpr ⟨⟨show (20 : Nat) < 100 from by decide, nf1⟩, List.forall_mem_cons.mpr ⟨⟨show (23 : Nat) < 100 from by decide, nf2⟩, (fun _ h => (by cases h))⟩⟩⟩, (fun _ h => (by cases h))⟩
set_option maxHeartbeats 4000000 in
theorem vc_La_write_13_0 (x10 : Int) (x12 : Int) (x31 : Int) (x32 : Int) (bends_0o9 : Int → Int) (k10 : 0 ≤ x10 ∧ x10 ≤ 47) (k12 : 0 ≤ x12 ∧ x12 ≤ 21) (k31 : 0 ≤ x31 ∧ x31 ≤ 23) (k32 : 1 ≤ x32 ∧ x32 ≤ 22) (d0 : x12 + 1 ≤ x32 ∧ x32 ≤ x12 + 1) (f5 : 1 * x31 + ((-1) * x12 + 0) ≤ 0) (f11 : 1 * bends_0o9 (x10) + ((-1) * x31 + 0) ≤ 1) : bends_0o9 (x10) ≤ x32 := by
  first
    | omega
def o_La_write_13 : or_T := (151, 33, [(10, (0, 0, 47, [])), (12, (0, 0, 21, [])), (31, (0, 0, 23, [])), (32, (0, 1, 22, []))], [(23, [31, 12], [0, 1, -1]), (20, [9, 10, 31], [30, 1, 1, 2, 4, -1, 0, 0])], [], [], [(20, [9, 10, 32], [50, 0, 1, 4, 0, 5, 3, 0, 4, 1, 1, 1, 2])], [], [(32, 12, 1, 1)])
theorem oo_La_write_13 {kA : Nat → ClassId} : or_ok PRD kA GG o_La_write_13 := by
  refine or_mk fun A ta ws vs hD hth hl => ?_
  intro t10 k10 t12 k12 t31 k31 t32 k32 d0 f5 f11
  have nf0 : fc_1 PRD (20, [9, 10, 32], [50, 0, 1, 4, 0, 5, 3, 0, 4, 1, 1, 1, 2]) ws (vs) := ⟨nf_in hl rfl, sgq_1609 (vc_La_write_13_0 (v_iv (n_v vs 10)) (v_iv (n_v vs 12)) (v_iv (n_v vs 31)) (v_iv (n_v vs 32)) (w_ei ws (w_ar ws (n_v vs 9) 4)) k10 k12 k31 k32 d0 (shm_7 f5) (shm_112 f11))⟩
  refine ⟨(fun _ h => (by cases h)), [], trivial, ?_, (fun _ h => (by cases h))⟩
  rw [List.append_nil]
  exact List.forall_mem_cons.mpr ⟨⟨show (20 : Nat) < 100 from by decide, nf0⟩, (fun _ h => (by cases h))⟩
def n_La_write_an : List an_T := [(19, [(0, (2, 0, 0, [4])), (1, (2, 0, 0, [2])), (2, (2, 0, 0, [0])), (3, (0, 0, 24, []))], [], (0, 0), [(0, 0, 99981), (1, 10, 24), (0, 0, 100000), (0, 0, 0), (0, 0, 0)], [], [((0, 0), (2, 0, 0, [10])), ((0, 1), (2, 0, 0, [3]))], [(2, 0, 0, [4]), (2, 0, 0, [2]), (2, 0, 0, [0]), (2, 0, 0, [10]), (2, 0, 0, [3]), (2, 0, 0, [12]), (0, 0, 3072, [])], 0, [], [(20, [7, 12, 8], [60, 4, 5, 664, 3, 2, 1000, 1001, 4, 5, 1007, 1008, 2009]), (20, [9], [60, 0, 1, 641, 4]), (20, [11], [60, 0, 1, 543, 6]), (20, [5, 6], [62, 2000000]), (24, [0, 7], [])]), (79, [(0, (2, 0, 0, [4])), (1, (2, 0, 0, [2])), (2, (2, 0, 0, [0])), (3, (0, 0, 48, []))], [], (0, 0), [(0, 0, 99921), (1, 10, 48), (0, 0, 100000), (0, 0, 0), (0, 0, 0)], [], [((0, 0), (2, 0, 0, [10])), ((0, 1), (2, 0, 0, [3]))], [(2, 0, 0, [4]), (2, 0, 0, [2]), (2, 0, 0, [0]), (2, 0, 0, [10]), (2, 0, 0, [3]), (2, 0, 0, [12]), (0, 0, 3072, [])], 0, [], [(20, [7, 12, 8], [60, 4, 5, 664, 3, 2, 1000, 1001, 4, 5, 1007, 1008, 2009]), (20, [9, 10], [60, 0, 1, 642, 4]), (20, [11], [60, 0, 1, 543, 6]), (20, [5, 6], [62, 2000000]), (24, [0, 7], [])]), (151, [(0, (2, 0, 0, [4])), (1, (2, 0, 0, [2])), (2, (2, 0, 0, [0])), (3, (0, 0, 47, [])), (4, (0, (Int.negSucc 22), 23, [])), (5, (0, 0, 22, []))], [], (0, 0), [(0, 0, 99921), (1, 10, 48), (0, 0, 99849), (1, 12, 22), (0, 0, 100000)], [(12, 11, (Int.negSucc 999999999999), 23)], [((0, 0), (2, 0, 0, [10])), ((0, 1), (2, 0, 0, [3]))], [(2, 0, 0, [4]), (2, 0, 0, [2]), (2, 0, 0, [0]), (2, 0, 0, [10]), (2, 0, 0, [3]), (2, 0, 0, [12]), (0, 0, 3072, [])], 0, [], [(20, [7, 14, 8], [60, 4, 5, 664, 3, 2, 1000, 1001, 4, 5, 1007, 1008, 2009]), (20, [9, 10], [60, 0, 1, 643, 4]), (20, [9, 10, 12], [50, 0, 1, 4, 0, 5, 3, 0, 4, 1, 1, 1, 2]), (20, [7, 14, 8, 10, 11], [60, 0, 4, 669, 4, 1007, 1008, 2009]), (20, [10, 14], [50, 1, 0, 1001, 2, 6, 0, 2, 0, 0, 1, 0, 0, 6, 4, 2, 1, 0, 0, 1, 2, 1, 1]), (20, [13], [60, 0, 1, 543, 6]), (20, [5, 6], [62, 2000000]), (24, [0, 7], [])])]
def t_La_write_ct : ct_L := [(1, 149, e_La_upperEnd), (1, 153, e_La_lowerEnd), (1, 233, e_La_countCrossings), (1, 248, e_Dr_dropBends), (658, 269, e_Dr_addBend_at_gl)]
set_option maxRecDepth 100000 in
theorem c_La_write {l : Launch} {D : va_G} {kA : Nat → ClassId} (h_Dr_addBend_at_gl : ct_ok PRD l D kA GG y_Dr_addBend_at_gl z_Dr_addBend_at_gl e_Dr_addBend_at_gl) (h_Dr_dropBends : ct_ok PRD l D kA GG y_Dr_dropBends z_Dr_dropBends e_Dr_dropBends) (h_La_countCrossings : ct_ok PRD l D kA GG y_La_countCrossings z_La_countCrossings e_La_countCrossings) (h_La_lowerEnd : ct_ok PRD l D kA GG y_La_lowerEnd z_La_lowerEnd e_La_lowerEnd) (h_La_upperEnd : ct_ok PRD l D kA GG y_La_upperEnd z_La_upperEnd e_La_upperEnd) : ct_ok PRD l D kA GG y_La_write z_La_write e_La_write := chk_all_ok (FT := [(12, 4, 0), (18, 4, 1), (29, 4, 4), (33, 4, 5), (125, 2, 9), (139, 3, 0), (146, 3, 1), (156, 3, 9), (169, 10, 6), (256, 0, 8), (259, 0, 2), (262, 0, 3), (265, 0, 10), (268, 0, 11)]) (PT := [(253, 0, 7, .int), (256, 0, 8, .int)]) (CT := t_La_write_ct) (KT := []) (NT := []) (AN := n_La_write_an) (OT := [o_La_write_0, o_La_write_1, o_La_write_2, o_La_write_3, o_La_write_4, o_La_write_5, o_La_write_6, o_La_write_7, o_La_write_8, o_La_write_9, o_La_write_10, o_La_write_11, o_La_write_12, o_La_write_13]) 5 616 (List.forall_mem_cons.mpr ⟨oo_La_write_0, List.forall_mem_cons.mpr ⟨oo_La_write_1, List.forall_mem_cons.mpr ⟨oo_La_write_2, List.forall_mem_cons.mpr ⟨oo_La_write_3, List.forall_mem_cons.mpr ⟨oo_La_write_4, List.forall_mem_cons.mpr ⟨oo_La_write_5, List.forall_mem_cons.mpr ⟨oo_La_write_6, List.forall_mem_cons.mpr ⟨oo_La_write_7, List.forall_mem_cons.mpr ⟨oo_La_write_8, List.forall_mem_cons.mpr ⟨oo_La_write_9, List.forall_mem_cons.mpr ⟨oo_La_write_10, List.forall_mem_cons.mpr ⟨oo_La_write_11, List.forall_mem_cons.mpr ⟨oo_La_write_12, List.forall_mem_cons.mpr ⟨oo_La_write_13, List.forall_mem_nil _⟩⟩⟩⟩⟩⟩⟩⟩⟩⟩⟩⟩⟩⟩) (by decide +kernel) ⟨List.forall_mem_cons.mpr ⟨gf_La_12, List.forall_mem_cons.mpr ⟨gf_La_18, List.forall_mem_cons.mpr ⟨gf_La_29, List.forall_mem_cons.mpr ⟨gf_La_33, List.forall_mem_cons.mpr ⟨gf_La_125, List.forall_mem_cons.mpr ⟨gf_La_139, List.forall_mem_cons.mpr ⟨gf_La_146, List.forall_mem_cons.mpr ⟨gf_La_156, List.forall_mem_cons.mpr ⟨gf_La_169, List.forall_mem_cons.mpr ⟨gf_La_256, List.forall_mem_cons.mpr ⟨gf_La_259, List.forall_mem_cons.mpr ⟨gf_La_262, List.forall_mem_cons.mpr ⟨gf_La_265, List.forall_mem_cons.mpr ⟨gf_La_268, List.forall_mem_nil _⟩⟩⟩⟩⟩⟩⟩⟩⟩⟩⟩⟩⟩⟩, List.forall_mem_cons.mpr ⟨pf_La_253, List.forall_mem_cons.mpr ⟨pf_La_256, List.forall_mem_nil _⟩⟩, List.forall_mem_cons.mpr ⟨cl_virtual (y := y_La_upperEnd) (ci := 4) rfl rfl ⟨_, _, rfl⟩ (by decide +kernel) h_La_upperEnd wm_1321 wm_18 wm_1318 wm_1320 wv_4_9 ⟨by decide, by decide, by decide +kernel⟩ (by decide), List.forall_mem_cons.mpr ⟨cl_virtual (y := y_La_lowerEnd) (ci := 4) rfl rfl ⟨_, _, rfl⟩ (by decide +kernel) h_La_lowerEnd wm_1325 wm_18 wm_1322 wm_1324 wv_4_10 ⟨by decide, by decide, by decide +kernel⟩ (by decide), List.forall_mem_cons.mpr ⟨cl_virtual (y := y_La_countCrossings) (ci := 4) rfl rfl ⟨_, _, rfl⟩ (by decide +kernel) h_La_countCrossings wm_1432 wm_18 wm_1429 wm_1431 wv_5_14 ⟨by decide, by decide, by decide +kernel⟩ (by decide), List.forall_mem_cons.mpr ⟨cl_virtual (y := y_Dr_dropBends) (ci := 0) rfl rfl ⟨_, _, rfl⟩ (by decide +kernel) h_Dr_dropBends wm_1460 wm_8 wm_1457 wm_1458 wm_1459 ⟨by decide, by decide, by decide +kernel⟩ (by decide), List.forall_mem_cons.mpr ⟨cl_virtual (y := y_Dr_addBend_at_gl) (ci := 0) rfl rfl ⟨_, _, rfl⟩ (by decide +kernel) h_Dr_addBend_at_gl wm_1464 wm_8 wm_1461 wm_1462 wm_1463 ⟨by decide, by decide, by decide +kernel⟩ (by decide), List.forall_mem_nil _⟩⟩⟩⟩⟩, List.forall_mem_nil _, List.forall_mem_nil _, GG_pl⟩ (by decide +kernel)
set_option maxHeartbeats 4000000 in
theorem vc_St_solve_at_gl_0_0 (x2 : Int) (x3 : Int) (from_0 : Int → Int) (to_0 : Int → Int) (room_0 : Int → Int) (gain_0 : Int → Int) (nodes_0 : Int) (arcs_0 : Int) (k3 : 0 ≤ x3 ∧ x3 ≤ 0) (f1 : FLO0 (nodes_0) (arcs_0) (from_0) (to_0) (room_0) (gain_0)) (kz_0_0 : 0 ≤ nodes_0 ∧ nodes_0 ≤ 72) (kz_0_1 : 0 ≤ arcs_0 ∧ arcs_0 ≤ 384) : FLV (nodes_0) (arcs_0) (from_0) (to_0) (room_0) (gain_0) (x3) := by
  first
    | (rw [show x8 = x7 + 1 by omega]; assumption)
    | (rw [show x2 = 0 by omega]; assumption)
    | (rw [show x3 = 0 by omega]; assumption)
    | (rw [show x4 = 0 by omega]; assumption)
set_option maxHeartbeats 4000000 in
theorem vc_St_solve_at_gl_0_1 (x2 : Int) (x3 : Int) (from_0 : Int → Int) (to_0 : Int → Int) (room_0 : Int → Int) (gain_0 : Int → Int) (nodes_0 : Int) (arcs_0 : Int) (place_0 : Int → Int) (k2 : 0 ≤ x2 ∧ x2 ≤ 0) (k3 : 0 ≤ x3 ∧ x3 ≤ 0) (f1 : FLO0 (nodes_0) (arcs_0) (from_0) (to_0) (room_0) (gain_0)) (hT2 : ∀ j : Int, 0 ≤ j → j < x2 + 72 → 0 ≤ place_0 j ∧ place_0 j ≤ 0) (kz_0_0 : 0 ≤ nodes_0 ∧ nodes_0 ≤ 72) (kz_0_1 : 0 ≤ arcs_0 ∧ arcs_0 ≤ 384) : PBG (nodes_0) (place_0) (x3) := by
  first
    | (intro v a b; have q := ‹PBL _ _ _› v a b; omega)
    | (intro v a b; first | (have q := hT0 v a (by have := (‹FLO0 _ _ _ _ _ _›).1.2.1; omega); omega) | (have q := hT1 v a (by have := (‹FLO0 _ _ _ _ _ _›).1.2.1; omega); omega) | (have q := hT2 v a (by have := (‹FLO0 _ _ _ _ _ _›).1.2.1; omega); omega) | (have q := hT3 v a (by have := (‹FLO0 _ _ _ _ _ _›).1.2.1; omega); omega))
def o_St_solve_at_gl_0 : or_T := (10, 4, [(0, (2, 0, 0, [10])), (2, (0, 0, 0, [])), (3, (0, 0, 0, []))], [(9, [1, 0], [6]), (20, [0], [60, 2, 4, 532, 0, 1, 2, 3, 4, 5]), (20, [1, 2], [8, 0, 0, 72])], [], [], [(20, [0, 3], [60, 2, 4, 530, 0, 1, 2, 3, 4, 5]), (20, [0, 3], [60, 1, 1, 522, 0, 6]), (24, [0, 0], [])], [], [])
theorem oo_St_solve_at_gl_0 {kA : Nat → ClassId} : or_ok PRD kA GG o_St_solve_at_gl_0 := by
  refine or_mk fun A ta ws vs hD hth hl => ?_
  intro t0 r0 t2 k2 t3 k3 f0 f1 f2
  replace f0 := shm_111 f0
  replace f1 := shm_1611 f1
  replace f2 := shm_46 f2
  have ad_1 : v_ad (n_v vs 1) = w_ar ws (n_v vs 0) 6 := congrArg v_ad f0
  have hT2 : ∀ j : Int, 0 ≤ j → j < v_iv (n_v vs 2) + 72 → 0 ≤ w_ei ws (w_ar ws (n_v vs 0) 6) j ∧ w_ei ws (w_ar ws (n_v vs 0) 6) j ≤ 0 := fun j h0 h1 => by have h2 := f2 j.toNat (by omega); rw [ad_1] at h2; exact h2
  have kz_0_0 := fdq_114 hD hth r0
  have kz_0_1 := fdq_113 hD hth r0
  have nf0 : fc_1 PRD (20, [0, 3], [60, 2, 4, 530, 0, 1, 2, 3, 4, 5]) ws (vs) := ⟨nf_in hl rfl, sgq_929 (vc_St_solve_at_gl_0_0 (v_iv (n_v vs 2)) (v_iv (n_v vs 3)) (w_ei ws (w_ar ws (n_v vs 0) 2)) (w_ei ws (w_ar ws (n_v vs 0) 3)) (w_ei ws (w_ar ws (n_v vs 0) 4)) (w_ei ws (w_ar ws (n_v vs 0) 5)) (w_fi ws (n_v vs 0) 0) (w_fi ws (n_v vs 0) 1) k3 f1 kz_0_0 kz_0_1)⟩
  have nf1 : fc_1 PRD (20, [0, 3], [60, 1, 1, 522, 0, 6]) ws (vs) := ⟨nf_in hl rfl, sgq_1224 (vc_St_solve_at_gl_0_1 (v_iv (n_v vs 2)) (v_iv (n_v vs 3)) (w_ei ws (w_ar ws (n_v vs 0) 2)) (w_ei ws (w_ar ws (n_v vs 0) 3)) (w_ei ws (w_ar ws (n_v vs 0) 4)) (w_ei ws (w_ar ws (n_v vs 0) 5)) (w_fi ws (n_v vs 0) 0) (w_fi ws (n_v vs 0) 1) (w_ei ws (w_ar ws (n_v vs 0) 6)) k2 k3 f1 hT2 kz_0_0 kz_0_1)⟩
  have nf2 : fc_1 PRD (24, [0, 0], []) ws (vs) := by
    refine ⟨nf_in hl rfl, sgq_1 ?_⟩
    · show n_v vs 0 = n_v vs 0
      first | rfl | simp only [true_and]
  refine ⟨(fun _ h => (by cases h)), [], trivial, ?_, (fun _ h => (by cases h))⟩
  rw [List.append_nil]
  exact List.forall_mem_cons.mpr ⟨⟨show (20 : Nat) < 100 from by decide, nf0⟩, List.forall_mem_cons.mpr ⟨⟨show (20 : Nat) < 100 from by decide, nf1⟩, List.forall_mem_cons.mpr ⟨⟨show (24 : Nat) < 100 from by decide, nf2⟩, (fun _ h => (by cases h))⟩⟩⟩
set_option maxHeartbeats 4000000 in
theorem vc_St_solve_at_gl_1_0 (x2 : Int) (from_0 : Int → Int) (to_0 : Int → Int) (room_0 : Int → Int) (gain_0 : Int → Int) (nodes_0 : Int) (arcs_0 : Int) (k2 : 1000000 ≤ x2 ∧ x2 ≤ 1000000) (f1 : FLV (nodes_0) (arcs_0) (from_0) (to_0) (room_0) (gain_0) (x2)) (kz_0_0 : 0 ≤ nodes_0 ∧ nodes_0 ≤ 72) (kz_0_1 : 0 ≤ arcs_0 ∧ arcs_0 ≤ 384) : EXQ (nodes_0) (arcs_0) (from_0) (to_0) (room_0) (gain_0) := by
  first
    | (have q := flv_few ‹FLV _ _ _ _ _ _ _›; omega)
set_option maxHeartbeats 4000000 in
theorem vc_St_solve_at_gl_1_1 (x2 : Int) (from_0 : Int → Int) (to_0 : Int → Int) (room_0 : Int → Int) (gain_0 : Int → Int) (nodes_0 : Int) (arcs_0 : Int) (k2 : 1000000 ≤ x2 ∧ x2 ≤ 1000000) (f1 : FLV (nodes_0) (arcs_0) (from_0) (to_0) (room_0) (gain_0) (x2)) (kz_0_0 : 0 ≤ nodes_0 ∧ nodes_0 ≤ 72) (kz_0_1 : 0 ≤ arcs_0 ∧ arcs_0 ≤ 384) : GPR (nodes_0) (arcs_0) (from_0) (to_0) (room_0) (gain_0) := by
  first
    | (have q := flv_few ‹FLV _ _ _ _ _ _ _›; omega)
def o_St_solve_at_gl_1 : or_T := (40, 4, [(0, (2, 0, 0, [10])), (2, (0, 1000000, 1000000, []))], [(20, [1, 2], [60, 2, 4, 530, 0, 1, 2, 3, 4, 5]), (24, [0, 1], [])], [], [], [(20, [1], [60, 2, 4, 536, 0, 1, 2, 3, 4, 5]), (20, [1], [60, 2, 4, 537, 0, 1, 2, 3, 4, 5])], [], [])
theorem oo_St_solve_at_gl_1 {kA : Nat → ClassId} : or_ok PRD kA GG o_St_solve_at_gl_1 := by
  refine or_mk fun A ta ws vs hD hth hl => ?_
  intro t0 r0 t2 k2 f1 f3
  replace f1 := shm_929 f1
  replace f3 := shm_5 f3
  have q1 : n_v vs 1 = n_v vs 0 := f3.symm
  simp only [q1] at f1
  have kz_0_0 := fdq_114 hD hth r0
  have kz_0_1 := fdq_113 hD hth r0
  have nf0 : fc_1 PRD (20, [1], [60, 2, 4, 536, 0, 1, 2, 3, 4, 5]) ws (vs) := by
    refine ⟨nf_in hl rfl, sgq_1612 ?_⟩
    · show EXQ (w_fi ws (n_v vs 1) 0) (w_fi ws (n_v vs 1) 1) (w_ei ws (w_ar ws (n_v vs 1) 2)) (w_ei ws (w_ar ws (n_v vs 1) 3)) (w_ei ws (w_ar ws (n_v vs 1) 4)) (w_ei ws (w_ar ws (n_v vs 1) 5))
      rw [q1]
      exact vc_St_solve_at_gl_1_0 (v_iv (n_v vs 2)) (w_ei ws (w_ar ws (n_v vs 0) 2)) (w_ei ws (w_ar ws (n_v vs 0) 3)) (w_ei ws (w_ar ws (n_v vs 0) 4)) (w_ei ws (w_ar ws (n_v vs 0) 5)) (w_fi ws (n_v vs 0) 0) (w_fi ws (n_v vs 0) 1) k2 f1 kz_0_0 kz_0_1
  have nf1 : fc_1 PRD (20, [1], [60, 2, 4, 537, 0, 1, 2, 3, 4, 5]) ws (vs) := by
    refine ⟨nf_in hl rfl, sgq_1613 ?_⟩
    · show GPR (w_fi ws (n_v vs 1) 0) (w_fi ws (n_v vs 1) 1) (w_ei ws (w_ar ws (n_v vs 1) 2)) (w_ei ws (w_ar ws (n_v vs 1) 3)) (w_ei ws (w_ar ws (n_v vs 1) 4)) (w_ei ws (w_ar ws (n_v vs 1) 5))
      rw [q1]
      exact vc_St_solve_at_gl_1_1 (v_iv (n_v vs 2)) (w_ei ws (w_ar ws (n_v vs 0) 2)) (w_ei ws (w_ar ws (n_v vs 0) 3)) (w_ei ws (w_ar ws (n_v vs 0) 4)) (w_ei ws (w_ar ws (n_v vs 0) 5)) (w_fi ws (n_v vs 0) 0) (w_fi ws (n_v vs 0) 1) k2 f1 kz_0_0 kz_0_1
  refine ⟨(fun _ h => (by cases h)), [], trivial, ?_, (fun _ h => (by cases h))⟩
  rw [List.append_nil]
  exact List.forall_mem_cons.mpr ⟨⟨show (20 : Nat) < 100 from by decide, nf0⟩, List.forall_mem_cons.mpr ⟨⟨show (20 : Nat) < 100 from by decide, nf1⟩, (fun _ h => (by cases h))⟩⟩
set_option maxHeartbeats 4000000 in
theorem vc_St_solve_at_gl_2_0 (x2 : Int) (from_0 : Int → Int) (to_0 : Int → Int) (room_0 : Int → Int) (gain_0 : Int → Int) (nodes_0 : Int) (arcs_0 : Int) (k2 : 0 ≤ x2 ∧ x2 ≤ 999999) (f1 : FLV (nodes_0) (arcs_0) (from_0) (to_0) (room_0) (gain_0) (x2)) (kz_0_0 : 0 ≤ nodes_0 ∧ nodes_0 ≤ 72) (kz_0_1 : 0 ≤ arcs_0 ∧ arcs_0 ≤ 384) : x2 ≤ 9936 := by
  first
    | (have q := flv_few ‹FLV _ _ _ _ _ _ _›; omega)
def o_St_solve_at_gl_2 : or_T := (16, 4, [(0, (2, 0, 0, [10])), (2, (0, 0, 999999, []))], [(20, [1, 2], [60, 2, 4, 530, 0, 1, 2, 3, 4, 5]), (24, [0, 1], [])], [], [], [(20, [2], [50, 0, 0, 0, 2, 1, 0, 0, 9936])], [], [])
theorem oo_St_solve_at_gl_2 {kA : Nat → ClassId} : or_ok PRD kA GG o_St_solve_at_gl_2 := by
  refine or_mk fun A ta ws vs hD hth hl => ?_
  intro t0 r0 t2 k2 f1 f3
  replace f1 := shm_929 f1
  replace f3 := shm_5 f3
  have q1 : n_v vs 1 = n_v vs 0 := f3.symm
  simp only [q1] at f1
  have kz_0_0 := fdq_114 hD hth r0
  have kz_0_1 := fdq_113 hD hth r0
  have nf0 : fc_1 PRD (20, [2], [50, 0, 0, 0, 2, 1, 0, 0, 9936]) ws (vs) := ⟨nf_in hl rfl, sgq_1614 (vc_St_solve_at_gl_2_0 (v_iv (n_v vs 2)) (w_ei ws (w_ar ws (n_v vs 0) 2)) (w_ei ws (w_ar ws (n_v vs 0) 3)) (w_ei ws (w_ar ws (n_v vs 0) 4)) (w_ei ws (w_ar ws (n_v vs 0) 5)) (w_fi ws (n_v vs 0) 0) (w_fi ws (n_v vs 0) 1) k2 f1 kz_0_0 kz_0_1)⟩
  refine ⟨(fun _ h => (by cases h)), [], trivial, ?_, (fun _ h => (by cases h))⟩
  rw [List.append_nil]
  exact List.forall_mem_cons.mpr ⟨⟨show (20 : Nat) < 100 from by decide, nf0⟩, (fun _ h => (by cases h))⟩
set_option maxHeartbeats 4000000 in
theorem vc_St_solve_at_gl_3_0 (x2 : Int) (gx : Int) (k2 : 0 ≤ x2 ∧ x2 ≤ 999999) (ex2 : gx = x2) : 1 * gx + ((-1) * x2 + 0) ≤ 0 := by
  first
    | omega
    | (have q := (‹FRP _ _ _ _ _ _ _ _ _›).2 (by omega); omega)
set_option maxHeartbeats 4000000 in
theorem vc_St_solve_at_gl_3_1 (x2 : Int) (gx : Int) (k2 : 0 ≤ x2 ∧ x2 ≤ 999999) (ex2 : gx = x2) : (-1) * gx + (1 * x2 + 0) ≤ 0 := by
  first
    | omega
    | (have q := (‹FRP _ _ _ _ _ _ _ _ _›).2 (by omega); omega)
set_option maxHeartbeats 4000000 in
theorem vc_St_solve_at_gl_3_2 (x2 : Int) (from_0 : Int → Int) (to_0 : Int → Int) (room_0 : Int → Int) (gain_0 : Int → Int) (nodes_0 : Int) (arcs_0 : Int) (k2 : 0 ≤ x2 ∧ x2 ≤ 999999) (f2 : FLV (nodes_0) (arcs_0) (from_0) (to_0) (room_0) (gain_0) (x2)) (kz_0_0 : 0 ≤ nodes_0 ∧ nodes_0 ≤ 72) (kz_0_1 : 0 ≤ arcs_0 ∧ arcs_0 ≤ 384) : NWL (nodes_0) (arcs_0) (from_0) (to_0) (gain_0) := by
  exact (‹FLV _ _ _ _ _ _ _›).1
set_option maxHeartbeats 4000000 in
theorem vc_St_solve_at_gl_3_3 (x2 : Int) (nodes_0 : Int) (place_0 : Int → Int) (gx : Int) (k2 : 0 ≤ x2 ∧ x2 ≤ 999999) (f3 : PBG (nodes_0) (place_0) (x2)) (kz_0_0 : 0 ≤ nodes_0 ∧ nodes_0 ≤ 72) (ex2 : gx = x2) : PBG (nodes_0) (place_0) (gx) := by
  intro v a b; have q := ‹PBG _ _ _› v a b; omega
set_option maxHeartbeats 4000000 in
theorem vc_St_solve_at_gl_3_4 (x2 : Int) (gx : Int) (k2 : 0 ≤ x2 ∧ x2 ≤ 999999) (ex2 : gx = x2) : gx = x2 := by
  first
    | omega
    | (have q := (‹FRP _ _ _ _ _ _ _ _ _›).2 (by omega); omega)
def o_St_solve_at_gl_3 : or_T := (17, 4, [(0, (2, 0, 0, [10])), (1, (2, 0, 0, [10])), (2, (0, 0, 999999, [])), (3, (0, 1000000, 1000000, []))], [(20, [2], [50, 0, 0, 0, 2, 1, 0, 0, 9936]), (7, [2, 3], [2]), (20, [1, 2], [60, 2, 4, 530, 0, 1, 2, 3, 4, 5]), (20, [1, 2], [60, 1, 1, 522, 0, 6]), (24, [0, 1], [])], [], [(0, 0, 9999, [])], [(23, [4, 2], [0, 1, -1]), (23, [4, 2], [0, -1, 1]), (20, [1], [60, 2, 3, 515, 0, 1, 2, 3, 5]), (20, [1, 4], [60, 1, 1, 522, 0, 6]), (20, [4, 2], [50, 0, 0, 1, 2, 1, 0, 1, 1])], [], [])
theorem oo_St_solve_at_gl_3 {kA : Nat → ClassId} : or_ok PRD kA GG o_St_solve_at_gl_3 := by
  refine or_mk fun A ta ws vs hD hth hl => ?_
  intro t0 r0 t1 r1 t2 k2 t3 k3 f0 f1 f2 f3 f4
  replace f0 := shm_1614 f0
  replace f1 := shm_6 f1
  replace f2 := shm_929 f2
  replace f3 := shm_1224 f3
  replace f4 := shm_5 f4
  have q1 : n_v vs 1 = n_v vs 0 := f4.symm
  simp only [q1] at f2 f3
  have cr_0_2 := fdq_108 hD hth r0
  have cr_0_3 := fdq_109 hD hth r0
  have cr_0_4 := fdq_110 hD hth r0
  have cr_0_5 := fdq_111 hD hth r0
  have cr_0_6 := fdq_115 hD hth r0
  have hK_0_2 := elq_53 hD hth cr_0_2
  have hK_0_3 := elq_54 hD hth cr_0_3
  have hK_0_4 := elq_55 hD hth cr_0_4
  have hK_0_5 := elq_56 hD hth cr_0_5
  have hK_0_6 := elq_58 hD hth cr_0_6
  have kz_0_0 := fdq_114 hD hth r0
  have kz_0_1 := fdq_113 hD hth r0
  obtain ⟨x, ex, hx⟩ := iv_ex (ta := ta) (lo := 0) (hi := 9999) (z := v_iv (n_v vs 2)) (by omega) (by omega) (by omega) (by omega)
  have ex2 : v_iv (Value.int x) = v_iv (n_v vs 2) := ex
  have ex3 : 0 ≤ v_iv (Value.int x) ∧ v_iv (Value.int x) ≤ 9999 := tv_rng hx
  have e_1 : n_v (vs ++ [Value.int x]) 1 = n_v vs 1 := n_v_old (by rw [hl]; decide)
  have e_2 : n_v (vs ++ [Value.int x]) 2 = n_v vs 2 := n_v_old (by rw [hl]; decide)
  have e_4 : n_v (vs ++ [Value.int x]) 4 = Value.int x := n_v_new hl
  have nf0 : fc_1 PRD (23, [4, 2], [0, 1, -1]) ws (vs ++ [Value.int x]) := by
    refine ⟨nf_inA hl rfl, sgq_7 ?_⟩
    · show 1 * v_iv (n_v (vs ++ [Value.int x]) 4) + ((-1) * v_iv (n_v (vs ++ [Value.int x]) 2) + 0) ≤ 0
      simp only [e_2, e_4]
      exact vc_St_solve_at_gl_3_0 (v_iv (n_v vs 2)) (v_iv (Value.int x)) k2 ex2
  have nf1 : fc_1 PRD (23, [4, 2], [0, -1, 1]) ws (vs ++ [Value.int x]) := by
    refine ⟨nf_inA hl rfl, sgq_22 ?_⟩
    · show (-1) * v_iv (n_v (vs ++ [Value.int x]) 4) + (1 * v_iv (n_v (vs ++ [Value.int x]) 2) + 0) ≤ 0
      simp only [e_2, e_4]
      exact vc_St_solve_at_gl_3_1 (v_iv (n_v vs 2)) (v_iv (Value.int x)) k2 ex2
  have nf2 : fc_1 PRD (20, [1], [60, 2, 3, 515, 0, 1, 2, 3, 5]) ws (vs ++ [Value.int x]) := by
    refine ⟨nf_inA hl rfl, sgq_931 ?_⟩
    · show NWL (w_fi ws (n_v (vs ++ [Value.int x]) 1) 0) (w_fi ws (n_v (vs ++ [Value.int x]) 1) 1) (w_ei ws (w_ar ws (n_v (vs ++ [Value.int x]) 1) 2)) (w_ei ws (w_ar ws (n_v (vs ++ [Value.int x]) 1) 3)) (w_ei ws (w_ar ws (n_v (vs ++ [Value.int x]) 1) 5))
      simp only [e_1, q1]
      exact vc_St_solve_at_gl_3_2 (v_iv (n_v vs 2)) (w_ei ws (w_ar ws (n_v vs 0) 2)) (w_ei ws (w_ar ws (n_v vs 0) 3)) (w_ei ws (w_ar ws (n_v vs 0) 4)) (w_ei ws (w_ar ws (n_v vs 0) 5)) (w_fi ws (n_v vs 0) 0) (w_fi ws (n_v vs 0) 1) k2 f2 kz_0_0 kz_0_1
  have nf3 : fc_1 PRD (20, [1, 4], [60, 1, 1, 522, 0, 6]) ws (vs ++ [Value.int x]) := by
    refine ⟨nf_inA hl rfl, sgq_1224 ?_⟩
    · show PBG (w_fi ws (n_v (vs ++ [Value.int x]) 1) 0) (w_ei ws (w_ar ws (n_v (vs ++ [Value.int x]) 1) 6)) (v_iv (n_v (vs ++ [Value.int x]) 4))
      simp only [e_1, e_4, q1]
      exact vc_St_solve_at_gl_3_3 (v_iv (n_v vs 2)) (w_fi ws (n_v vs 0) 0) (w_ei ws (w_ar ws (n_v vs 0) 6)) (v_iv (Value.int x)) k2 f3 kz_0_0 ex2
  have nf4 : fc_1 PRD (20, [4, 2], [50, 0, 0, 1, 2, 1, 0, 1, 1]) ws (vs ++ [Value.int x]) := by
    refine ⟨nf_inA hl rfl, sgq_48 ?_⟩
    · show v_iv (n_v (vs ++ [Value.int x]) 4) = v_iv (n_v (vs ++ [Value.int x]) 2)
      simp only [e_2, e_4]
      exact vc_St_solve_at_gl_3_4 (v_iv (n_v vs 2)) (v_iv (Value.int x)) k2 ex2
  exact ⟨(fun _ h => (by cases h)), [Value.int x], ag_one hx, List.forall_mem_cons.mpr ⟨⟨show (23 : Nat) < 100 from by decide, nf0⟩, List.forall_mem_cons.mpr ⟨⟨show (23 : Nat) < 100 from by decide, nf1⟩, List.forall_mem_cons.mpr ⟨⟨show (20 : Nat) < 100 from by decide, nf2⟩, List.forall_mem_cons.mpr ⟨⟨show (20 : Nat) < 100 from by decide, nf3⟩, List.forall_mem_cons.mpr ⟨⟨show (20 : Nat) < 100 from by decide, nf4⟩, (fun _ h => (by cases h))⟩⟩⟩⟩⟩, (fun _ h => (by cases h))⟩
set_option maxHeartbeats 4000000 in
theorem vc_St_solve_at_gl_4_0 (x2 : Int) (x4 : Int) (gx : Int) (k2 : 0 ≤ x2 ∧ x2 ≤ 999999) (k4 : 0 ≤ x4 ∧ x4 ≤ 9999) (f1 : 1 * x4 + ((-1) * x2 + 0) ≤ 0) (f2 : (-1) * x4 + (1 * x2 + 0) ≤ 0) (ex2 : gx = x2) : 1 * gx + ((-1) * x2 + 0) ≤ 0 := by
  first
    | omega
    | (have q := (‹FRP _ _ _ _ _ _ _ _ _›).2 (by omega); omega)
set_option maxHeartbeats 4000000 in
theorem vc_St_solve_at_gl_4_1 (x2 : Int) (x4 : Int) (gx : Int) (k2 : 0 ≤ x2 ∧ x2 ≤ 999999) (k4 : 0 ≤ x4 ∧ x4 ≤ 9999) (f1 : 1 * x4 + ((-1) * x2 + 0) ≤ 0) (f2 : (-1) * x4 + (1 * x2 + 0) ≤ 0) (ex2 : gx = x2) : (-1) * gx + (1 * x2 + 0) ≤ 0 := by
  first
    | omega
    | (have q := (‹FRP _ _ _ _ _ _ _ _ _›).2 (by omega); omega)
set_option maxHeartbeats 4000000 in
theorem vc_St_solve_at_gl_4_2 (x5 : Int) (from_0 : Int → Int) (to_0 : Int → Int) (gain_0 : Int → Int) (nodes_0 : Int) (arcs_0 : Int) (room_0 : Int → Int) (place_0 : Int → Int) (by_0 : Int → Int) (k5 : 0 ≤ x5 ∧ x5 ≤ 71) (f8 : FRP (nodes_0) (arcs_0) (from_0) (to_0) (room_0) (gain_0) (place_0) (by_0) (x5)) (kz_0_0 : 0 ≤ nodes_0 ∧ nodes_0 ≤ 72) (kz_0_1 : 0 ≤ arcs_0 ∧ arcs_0 ≤ 384) : RSW (nodes_0) (arcs_0) (from_0) (to_0) (room_0) (gain_0) (by_0) := by
  exact ((‹FRP _ _ _ _ _ _ _ _ _›).2 (by omega)).2.2.2
set_option maxHeartbeats 4000000 in
theorem vc_St_solve_at_gl_4_3 (x5 : Int) (from_0 : Int → Int) (to_0 : Int → Int) (gain_0 : Int → Int) (nodes_0 : Int) (arcs_0 : Int) (room_0 : Int → Int) (place_0 : Int → Int) (by_0 : Int → Int) (k5 : 0 ≤ x5 ∧ x5 ≤ 71) (f8 : FRP (nodes_0) (arcs_0) (from_0) (to_0) (room_0) (gain_0) (place_0) (by_0) (x5)) (kz_0_0 : 0 ≤ nodes_0 ∧ nodes_0 ≤ 72) (kz_0_1 : 0 ≤ arcs_0 ∧ arcs_0 ≤ 384) : RNG (from_0) (by_0) (x5) := by
  first
    | exact ((‹FRP _ _ _ _ _ _ _ _ _›).2 (by omega)).2.2.1
    | exact ‹RNGX _ _ _› (by omega)
set_option maxHeartbeats 4000000 in
theorem vc_St_solve_at_gl_4_4 (x2 : Int) (from_0 : Int → Int) (to_0 : Int → Int) (gain_0 : Int → Int) (nodes_0 : Int) (arcs_0 : Int) (room_0 : Int → Int) (gx : Int) (k2 : 0 ≤ x2 ∧ x2 ≤ 999999) (f6 : FLV (nodes_0) (arcs_0) (from_0) (to_0) (room_0) (gain_0) (x2)) (kz_0_0 : 0 ≤ nodes_0 ∧ nodes_0 ≤ 72) (kz_0_1 : 0 ≤ arcs_0 ∧ arcs_0 ≤ 384) (ex2 : gx = x2) : FLV (nodes_0) (arcs_0) (from_0) (to_0) (room_0) (gain_0) (gx) := by
  rw [show gx = x2 by omega]; assumption
set_option maxHeartbeats 4000000 in
theorem vc_St_solve_at_gl_4_5 (x5 : Int) (from_0 : Int → Int) (to_0 : Int → Int) (gain_0 : Int → Int) (nodes_0 : Int) (arcs_0 : Int) (room_0 : Int → Int) (place_0 : Int → Int) (by_0 : Int → Int) (k5 : 0 ≤ x5 ∧ x5 ≤ 71) (f8 : FRP (nodes_0) (arcs_0) (from_0) (to_0) (room_0) (gain_0) (place_0) (by_0) (x5)) (kz_0_0 : 0 ≤ nodes_0 ∧ nodes_0 ≤ 72) (kz_0_1 : 0 ≤ arcs_0 ∧ arcs_0 ≤ 384) : (0 ≤ x5) ∧ ((x5 + 1) ≤ nodes_0) := by
  first
    | omega
    | (have q := (‹FRP _ _ _ _ _ _ _ _ _›).2 (by omega); omega)
set_option maxHeartbeats 4000000 in
theorem vc_St_solve_at_gl_4_6 (x2 : Int) (gx : Int) (k2 : 0 ≤ x2 ∧ x2 ≤ 999999) (ex2 : gx = x2) : gx = x2 := by
  first
    | omega
    | (have q := (‹FRP _ _ _ _ _ _ _ _ _›).2 (by omega); omega)
def o_St_solve_at_gl_4 : or_T := (31, 7, [(0, (2, 0, 0, [10])), (1, (2, 0, 0, [10])), (2, (0, 0, 999999, [])), (3, (0, 1000000, 1000000, [])), (4, (0, 0, 9999, [])), (5, (0, 0, 71, [])), (6, (0, -1, -1, []))], [(7, [5, 6], [1]), (23, [4, 2], [0, 1, -1]), (23, [4, 2], [0, -1, 1]), (20, [1], [60, 2, 3, 515, 0, 1, 2, 3, 5]), (20, [4, 2], [50, 0, 0, 1, 2, 1, 0, 1, 1]), (20, [2], [50, 0, 0, 0, 2, 1, 0, 0, 9936]), (20, [1, 2], [60, 2, 4, 530, 0, 1, 2, 3, 4, 5]), (24, [0, 1], []), (20, [1, 5], [60, 2, 6, 525, 0, 1, 2, 3, 4, 5, 6, 7]), (20, [1, 4], [60, 1, 1, 523, 0, 6]), (102, [4], [37218383881977644441306597687849648128]), (23, [4, 2], [0, 1, -1]), (23, [4, 2], [0, -1, 1]), (7, [2, 3], [2])], [], [(0, 0, 9999, [])], [(23, [7, 2], [0, 1, -1]), (23, [7, 2], [0, -1, 1]), (20, [1], [60, 2, 5, 529, 0, 1, 2, 3, 4, 5, 7]), (20, [1, 5], [60, 0, 2, 509, 2, 7]), (20, [1, 7], [60, 2, 4, 530, 0, 1, 2, 3, 4, 5]), (20, [5, 1], [50, 1, 0, 1000, 2, 6, 0, 2, 0, 0, 1, 0, 0, 6, 4, 2, 1, 0, 0, 1, 2, 1, 0]), (20, [7, 2], [50, 0, 0, 1, 2, 1, 0, 1, 1])], [], [])
theorem oo_St_solve_at_gl_4 {kA : Nat → ClassId} : or_ok PRD kA GG o_St_solve_at_gl_4 := by
  refine or_mk fun A ta ws vs hD hth hl => ?_
  intro t0 r0 t1 r1 t2 k2 t3 k3 t4 k4 t5 k5 t6 k6 f0 f1 f2 f3 f4 f5 f6 f7 f8 f9 ta1 w1 le1 s1 f11 f12 f13
  replace f0 := shm_40 f0
  replace f1 := shm_7 f1
  replace f2 := shm_22 f2
  replace f3 := shm_931 f3
  replace f4 := shm_48 f4
  replace f5 := shm_1614 f5
  replace f6 := shm_929 f6
  replace f7 := shm_5 f7
  replace f8 := shm_1226 f8
  replace f9 := shm_1227 f9
  replace f11 := shm_7 f11
  replace f12 := shm_22 f12
  replace f13 := shm_6 f13
  have q1 : n_v vs 1 = n_v vs 0 := f7.symm
  simp only [q1] at f3 f6 f8 f9
  have cr_0_2 := fdq_108 hD hth r0
  have cr_0_3 := fdq_109 hD hth r0
  have cr_0_4 := fdq_110 hD hth r0
  have cr_0_5 := fdq_111 hD hth r0
  have cr_0_6 := fdq_115 hD hth r0
  have cr_0_7 := fdq_116 hD hth r0
  have hK_0_2 := elq_53 hD hth cr_0_2
  have hK_0_3 := elq_54 hD hth cr_0_3
  have hK_0_4 := elq_55 hD hth cr_0_4
  have hK_0_5 := elq_56 hD hth cr_0_5
  have hK_0_6 := elq_58 hD hth cr_0_6
  have hK_0_7 := elq_59 hD hth cr_0_7
  have kz_0_0 := fdq_114 hD hth r0
  have kz_0_1 := fdq_113 hD hth r0
  obtain ⟨x, ex, hx⟩ := iv_ex (ta := ta) (lo := 0) (hi := 9999) (z := v_iv (n_v vs 2)) (by omega) (by omega) (by omega) (by omega)
  have ex2 : v_iv (Value.int x) = v_iv (n_v vs 2) := ex
  have ex3 : 0 ≤ v_iv (Value.int x) ∧ v_iv (Value.int x) ≤ 9999 := tv_rng hx
  have e_1 : n_v (vs ++ [Value.int x]) 1 = n_v vs 1 := n_v_old (by rw [hl]; decide)
  have e_2 : n_v (vs ++ [Value.int x]) 2 = n_v vs 2 := n_v_old (by rw [hl]; decide)
  have e_5 : n_v (vs ++ [Value.int x]) 5 = n_v vs 5 := n_v_old (by rw [hl]; decide)
  have e_7 : n_v (vs ++ [Value.int x]) 7 = Value.int x := n_v_new hl
  have nf0 : fc_1 PRD (23, [7, 2], [0, 1, -1]) ws (vs ++ [Value.int x]) := by
    refine ⟨nf_inA hl rfl, sgq_7 ?_⟩
    · show 1 * v_iv (n_v (vs ++ [Value.int x]) 7) + ((-1) * v_iv (n_v (vs ++ [Value.int x]) 2) + 0) ≤ 0
      simp only [e_2, e_7]
      exact vc_St_solve_at_gl_4_0 (v_iv (n_v vs 2)) (v_iv (n_v vs 4)) (v_iv (Value.int x)) k2 k4 f1 f2 ex2
  have nf1 : fc_1 PRD (23, [7, 2], [0, -1, 1]) ws (vs ++ [Value.int x]) := by
    refine ⟨nf_inA hl rfl, sgq_22 ?_⟩
    · show (-1) * v_iv (n_v (vs ++ [Value.int x]) 7) + (1 * v_iv (n_v (vs ++ [Value.int x]) 2) + 0) ≤ 0
      simp only [e_2, e_7]
      exact vc_St_solve_at_gl_4_1 (v_iv (n_v vs 2)) (v_iv (n_v vs 4)) (v_iv (Value.int x)) k2 k4 f1 f2 ex2
  have nf2 : fc_1 PRD (20, [1], [60, 2, 5, 529, 0, 1, 2, 3, 4, 5, 7]) ws (vs ++ [Value.int x]) := by
    refine ⟨nf_inA hl rfl, sgq_927 ?_⟩
    · show RSW (w_fi ws (n_v (vs ++ [Value.int x]) 1) 0) (w_fi ws (n_v (vs ++ [Value.int x]) 1) 1) (w_ei ws (w_ar ws (n_v (vs ++ [Value.int x]) 1) 2)) (w_ei ws (w_ar ws (n_v (vs ++ [Value.int x]) 1) 3)) (w_ei ws (w_ar ws (n_v (vs ++ [Value.int x]) 1) 4)) (w_ei ws (w_ar ws (n_v (vs ++ [Value.int x]) 1) 5)) (w_ei ws (w_ar ws (n_v (vs ++ [Value.int x]) 1) 7))
      simp only [e_1, q1]
      exact vc_St_solve_at_gl_4_2 (v_iv (n_v vs 5)) (w_ei ws (w_ar ws (n_v vs 0) 2)) (w_ei ws (w_ar ws (n_v vs 0) 3)) (w_ei ws (w_ar ws (n_v vs 0) 5)) (w_fi ws (n_v vs 0) 0) (w_fi ws (n_v vs 0) 1) (w_ei ws (w_ar ws (n_v vs 0) 4)) (w_ei ws (w_ar ws (n_v vs 0) 6)) (w_ei ws (w_ar ws (n_v vs 0) 7)) k5 f8 kz_0_0 kz_0_1
  have nf3 : fc_1 PRD (20, [1, 5], [60, 0, 2, 509, 2, 7]) ws (vs ++ [Value.int x]) := by
    refine ⟨nf_inA hl rfl, sgq_928 ?_⟩
    · show RNG (w_ei ws (w_ar ws (n_v (vs ++ [Value.int x]) 1) 2)) (w_ei ws (w_ar ws (n_v (vs ++ [Value.int x]) 1) 7)) (v_iv (n_v (vs ++ [Value.int x]) 5))
      simp only [e_1, e_5, q1]
      exact vc_St_solve_at_gl_4_3 (v_iv (n_v vs 5)) (w_ei ws (w_ar ws (n_v vs 0) 2)) (w_ei ws (w_ar ws (n_v vs 0) 3)) (w_ei ws (w_ar ws (n_v vs 0) 5)) (w_fi ws (n_v vs 0) 0) (w_fi ws (n_v vs 0) 1) (w_ei ws (w_ar ws (n_v vs 0) 4)) (w_ei ws (w_ar ws (n_v vs 0) 6)) (w_ei ws (w_ar ws (n_v vs 0) 7)) k5 f8 kz_0_0 kz_0_1
  have nf4 : fc_1 PRD (20, [1, 7], [60, 2, 4, 530, 0, 1, 2, 3, 4, 5]) ws (vs ++ [Value.int x]) := by
    refine ⟨nf_inA hl rfl, sgq_929 ?_⟩
    · show FLV (w_fi ws (n_v (vs ++ [Value.int x]) 1) 0) (w_fi ws (n_v (vs ++ [Value.int x]) 1) 1) (w_ei ws (w_ar ws (n_v (vs ++ [Value.int x]) 1) 2)) (w_ei ws (w_ar ws (n_v (vs ++ [Value.int x]) 1) 3)) (w_ei ws (w_ar ws (n_v (vs ++ [Value.int x]) 1) 4)) (w_ei ws (w_ar ws (n_v (vs ++ [Value.int x]) 1) 5)) (v_iv (n_v (vs ++ [Value.int x]) 7))
      simp only [e_1, e_7, q1]
      exact vc_St_solve_at_gl_4_4 (v_iv (n_v vs 2)) (w_ei ws (w_ar ws (n_v vs 0) 2)) (w_ei ws (w_ar ws (n_v vs 0) 3)) (w_ei ws (w_ar ws (n_v vs 0) 5)) (w_fi ws (n_v vs 0) 0) (w_fi ws (n_v vs 0) 1) (w_ei ws (w_ar ws (n_v vs 0) 4)) (v_iv (Value.int x)) k2 f6 kz_0_0 kz_0_1 ex2
  have nf5 : fc_1 PRD (20, [5, 1], [50, 1, 0, 1000, 2, 6, 0, 2, 0, 0, 1, 0, 0, 6, 4, 2, 1, 0, 0, 1, 2, 1, 0]) ws (vs ++ [Value.int x]) := by
    refine ⟨nf_inA hl rfl, sgq_416 ?_⟩
    · show (0 ≤ v_iv (n_v (vs ++ [Value.int x]) 5)) ∧ ((v_iv (n_v (vs ++ [Value.int x]) 5) + 1) ≤ w_fi ws (n_v (vs ++ [Value.int x]) 1) 0)
      simp only [e_1, e_5, q1]
      exact vc_St_solve_at_gl_4_5 (v_iv (n_v vs 5)) (w_ei ws (w_ar ws (n_v vs 0) 2)) (w_ei ws (w_ar ws (n_v vs 0) 3)) (w_ei ws (w_ar ws (n_v vs 0) 5)) (w_fi ws (n_v vs 0) 0) (w_fi ws (n_v vs 0) 1) (w_ei ws (w_ar ws (n_v vs 0) 4)) (w_ei ws (w_ar ws (n_v vs 0) 6)) (w_ei ws (w_ar ws (n_v vs 0) 7)) k5 f8 kz_0_0 kz_0_1
  have nf6 : fc_1 PRD (20, [7, 2], [50, 0, 0, 1, 2, 1, 0, 1, 1]) ws (vs ++ [Value.int x]) := by
    refine ⟨nf_inA hl rfl, sgq_48 ?_⟩
    · show v_iv (n_v (vs ++ [Value.int x]) 7) = v_iv (n_v (vs ++ [Value.int x]) 2)
      simp only [e_2, e_7]
      exact vc_St_solve_at_gl_4_6 (v_iv (n_v vs 2)) (v_iv (Value.int x)) k2 ex2
  exact ⟨(fun _ h => (by cases h)), [Value.int x], ag_one hx, List.forall_mem_cons.mpr ⟨⟨show (23 : Nat) < 100 from by decide, nf0⟩, List.forall_mem_cons.mpr ⟨⟨show (23 : Nat) < 100 from by decide, nf1⟩, List.forall_mem_cons.mpr ⟨⟨show (20 : Nat) < 100 from by decide, nf2⟩, List.forall_mem_cons.mpr ⟨⟨show (20 : Nat) < 100 from by decide, nf3⟩, List.forall_mem_cons.mpr ⟨⟨show (20 : Nat) < 100 from by decide, nf4⟩, List.forall_mem_cons.mpr ⟨⟨show (20 : Nat) < 100 from by decide, nf5⟩, List.forall_mem_cons.mpr ⟨⟨show (20 : Nat) < 100 from by decide, nf6⟩, (fun _ h => (by cases h))⟩⟩⟩⟩⟩⟩⟩, (fun _ h => (by cases h))⟩
set_option maxHeartbeats 4000000 in
theorem vc_St_solve_at_gl_5_0 (x2 : Int) (x3 : Int) (x4 : Int) (x7 : Int) (x8 : Int) (from_0 : Int → Int) (nodes_0 : Int) (to_0 : Int → Int) (gain_0 : Int → Int) (arcs_0 : Int) (room_0 : Int → Int) (k2 : 0 ≤ x2 ∧ x2 ≤ 999999) (k7 : 0 ≤ x7 ∧ x7 ≤ 9999) (k8 : 1 ≤ x8 ∧ x8 ≤ 1000000) (d0 : x2 + 1 ≤ x8 ∧ x8 ≤ x2 + 1) (f1 : 1 * x7 + ((-1) * x2 + 0) ≤ 0) (f2 : (-1) * x7 + (1 * x2 + 0) ≤ 0) (f13 : FLV1 (nodes_0) (arcs_0) (from_0) (to_0) (room_0) (gain_0) (x7)) (kz_0_0 : 0 ≤ nodes_0 ∧ nodes_0 ≤ 72) (kz_0_1 : 0 ≤ arcs_0 ∧ arcs_0 ≤ 384) : FLV (nodes_0) (arcs_0) (from_0) (to_0) (room_0) (gain_0) (x8) := by
  first
    | (rw [show x8 = x7 + 1 by omega]; assumption)
    | (rw [show x2 = 0 by omega]; assumption)
    | (rw [show x3 = 0 by omega]; assumption)
    | (rw [show x4 = 0 by omega]; assumption)
set_option maxHeartbeats 4000000 in
theorem vc_St_solve_at_gl_5_1 (x2 : Int) (x4 : Int) (x8 : Int) (nodes_0 : Int) (place_0 : Int → Int) (k2 : 0 ≤ x2 ∧ x2 ≤ 999999) (k4 : 0 ≤ x4 ∧ x4 ≤ 9999) (k8 : 1 ≤ x8 ∧ x8 ≤ 1000000) (d0 : x2 + 1 ≤ x8 ∧ x8 ≤ x2 + 1) (f6 : 1 * x4 + ((-1) * x2 + 0) ≤ 0) (f7 : (-1) * x4 + (1 * x2 + 0) ≤ 0) (f12 : PBL (nodes_0) (place_0) (x4)) (kz_0_0 : 0 ≤ nodes_0 ∧ nodes_0 ≤ 72) : PBG (nodes_0) (place_0) (x8) := by
  first
    | (intro v a b; have q := ‹PBL _ _ _› v a b; omega)
    | (intro v a b; first | (have q := hT0 v a (by have := (‹FLO0 _ _ _ _ _ _›).1.2.1; omega); omega) | (have q := hT1 v a (by have := (‹FLO0 _ _ _ _ _ _›).1.2.1; omega); omega) | (have q := hT2 v a (by have := (‹FLO0 _ _ _ _ _ _›).1.2.1; omega); omega) | (have q := hT3 v a (by have := (‹FLO0 _ _ _ _ _ _›).1.2.1; omega); omega))
def o_St_solve_at_gl_5 : or_T := (10, 9, [(0, (2, 0, 0, [10])), (2, (0, 0, 999999, [])), (4, (0, 0, 9999, [])), (7, (0, 0, 9999, [])), (8, (0, 1, 1000000, []))], [(23, [7, 2], [0, 1, -1]), (23, [7, 2], [0, -1, 1]), (23, [4, 2], [0, 1, -1]), (23, [4, 2], [0, -1, 1]), (24, [0, 1], []), (20, [1, 4], [60, 1, 1, 523, 0, 6]), (20, [1, 7], [60, 2, 4, 531, 0, 1, 2, 3, 4, 5])], [], [], [(20, [1, 8], [60, 2, 4, 530, 0, 1, 2, 3, 4, 5]), (20, [1, 8], [60, 1, 1, 522, 0, 6])], [], [(8, 2, 1, 1)])
theorem oo_St_solve_at_gl_5 {kA : Nat → ClassId} : or_ok PRD kA GG o_St_solve_at_gl_5 := by
  refine or_mk fun A ta ws vs hD hth hl => ?_
  intro t0 r0 t2 k2 t4 k4 t7 k7 t8 k8 d0 f1 f2 f6 f7 f11 f12 f13
  replace f1 := shm_7 f1
  replace f2 := shm_22 f2
  replace f6 := shm_7 f6
  replace f7 := shm_22 f7
  replace f11 := shm_5 f11
  replace f12 := shm_1227 f12
  replace f13 := shm_934 f13
  have q1 : n_v vs 1 = n_v vs 0 := f11.symm
  simp only [q1] at f12 f13
  have kz_0_0 := fdq_114 hD hth r0
  have kz_0_1 := fdq_113 hD hth r0
  have nf0 : fc_1 PRD (20, [1, 8], [60, 2, 4, 530, 0, 1, 2, 3, 4, 5]) ws (vs) := by
    refine ⟨nf_in hl rfl, sgq_929 ?_⟩
    · show FLV (w_fi ws (n_v vs 1) 0) (w_fi ws (n_v vs 1) 1) (w_ei ws (w_ar ws (n_v vs 1) 2)) (w_ei ws (w_ar ws (n_v vs 1) 3)) (w_ei ws (w_ar ws (n_v vs 1) 4)) (w_ei ws (w_ar ws (n_v vs 1) 5)) (v_iv (n_v vs 8))
      rw [q1]
      exact vc_St_solve_at_gl_5_0 (v_iv (n_v vs 2)) (v_iv (n_v vs 3)) (v_iv (n_v vs 4)) (v_iv (n_v vs 7)) (v_iv (n_v vs 8)) (w_ei ws (w_ar ws (n_v vs 0) 2)) (w_fi ws (n_v vs 0) 0) (w_ei ws (w_ar ws (n_v vs 0) 3)) (w_ei ws (w_ar ws (n_v vs 0) 5)) (w_fi ws (n_v vs 0) 1) (w_ei ws (w_ar ws (n_v vs 0) 4)) k2 k7 k8 d0 f1 f2 f13 kz_0_0 kz_0_1
  have nf1 : fc_1 PRD (20, [1, 8], [60, 1, 1, 522, 0, 6]) ws (vs) := by
    refine ⟨nf_in hl rfl, sgq_1224 ?_⟩
    · show PBG (w_fi ws (n_v vs 1) 0) (w_ei ws (w_ar ws (n_v vs 1) 6)) (v_iv (n_v vs 8))
      rw [q1]
      exact vc_St_solve_at_gl_5_1 (v_iv (n_v vs 2)) (v_iv (n_v vs 4)) (v_iv (n_v vs 8)) (w_fi ws (n_v vs 0) 0) (w_ei ws (w_ar ws (n_v vs 0) 6)) k2 k4 k8 d0 f6 f7 f12 kz_0_0
  refine ⟨(fun _ h => (by cases h)), [], trivial, ?_, (fun _ h => (by cases h))⟩
  rw [List.append_nil]
  exact List.forall_mem_cons.mpr ⟨⟨show (20 : Nat) < 100 from by decide, nf0⟩, List.forall_mem_cons.mpr ⟨⟨show (20 : Nat) < 100 from by decide, nf1⟩, (fun _ h => (by cases h))⟩⟩
set_option maxHeartbeats 4000000 in
theorem vc_St_solve_at_gl_6_0 (x4 : Int) (x5 : Int) (from_0 : Int → Int) (to_0 : Int → Int) (gain_0 : Int → Int) (nodes_0 : Int) (arcs_0 : Int) (room_0 : Int → Int) (place_0 : Int → Int) (by_0 : Int → Int) (k4 : 0 ≤ x4 ∧ x4 ≤ 9999) (k5 : (-1) ≤ x5 ∧ x5 ≤ (-1)) (f8 : FRP (nodes_0) (arcs_0) (from_0) (to_0) (room_0) (gain_0) (place_0) (by_0) (x5)) (f9 : PBL (nodes_0) (place_0) (x4)) (kz_0_0 : 0 ≤ nodes_0 ∧ nodes_0 ≤ 72) (kz_0_1 : 0 ≤ arcs_0 ∧ arcs_0 ≤ 384) : EXQ (nodes_0) (arcs_0) (from_0) (to_0) (room_0) (gain_0) := by
  first
    | exact exq_of ‹FRP _ _ _ _ _ _ _ _ _› (by omega) ‹PBL _ _ _›
set_option maxHeartbeats 4000000 in
theorem vc_St_solve_at_gl_6_1 (x2 : Int) (from_0 : Int → Int) (to_0 : Int → Int) (gain_0 : Int → Int) (nodes_0 : Int) (arcs_0 : Int) (room_0 : Int → Int) (k2 : 0 ≤ x2 ∧ x2 ≤ 999999) (f6 : FLV (nodes_0) (arcs_0) (from_0) (to_0) (room_0) (gain_0) (x2)) (kz_0_0 : 0 ≤ nodes_0 ∧ nodes_0 ≤ 72) (kz_0_1 : 0 ≤ arcs_0 ∧ arcs_0 ≤ 384) : GPR (nodes_0) (arcs_0) (from_0) (to_0) (room_0) (gain_0) := by
  first
    | exact gpr_of ‹FLV _ _ _ _ _ _ _›
def o_St_solve_at_gl_6 : or_T := (40, 7, [(0, (2, 0, 0, [10])), (2, (0, 0, 999999, [])), (4, (0, 0, 9999, [])), (5, (0, -1, -1, []))], [(20, [1, 2], [60, 2, 4, 530, 0, 1, 2, 3, 4, 5]), (24, [0, 1], []), (20, [1, 5], [60, 2, 6, 525, 0, 1, 2, 3, 4, 5, 6, 7]), (20, [1, 4], [60, 1, 1, 523, 0, 6])], [], [], [(20, [1], [60, 2, 4, 536, 0, 1, 2, 3, 4, 5]), (20, [1], [60, 2, 4, 537, 0, 1, 2, 3, 4, 5])], [], [])
theorem oo_St_solve_at_gl_6 {kA : Nat → ClassId} : or_ok PRD kA GG o_St_solve_at_gl_6 := by
  refine or_mk fun A ta ws vs hD hth hl => ?_
  intro t0 r0 t2 k2 t4 k4 t5 k5 f6 f7 f8 f9
  replace f6 := shm_929 f6
  replace f7 := shm_5 f7
  replace f8 := shm_1226 f8
  replace f9 := shm_1227 f9
  have q1 : n_v vs 1 = n_v vs 0 := f7.symm
  simp only [q1] at f6 f8 f9
  have kz_0_0 := fdq_114 hD hth r0
  have kz_0_1 := fdq_113 hD hth r0
  have nf0 : fc_1 PRD (20, [1], [60, 2, 4, 536, 0, 1, 2, 3, 4, 5]) ws (vs) := by
    refine ⟨nf_in hl rfl, sgq_1612 ?_⟩
    · show EXQ (w_fi ws (n_v vs 1) 0) (w_fi ws (n_v vs 1) 1) (w_ei ws (w_ar ws (n_v vs 1) 2)) (w_ei ws (w_ar ws (n_v vs 1) 3)) (w_ei ws (w_ar ws (n_v vs 1) 4)) (w_ei ws (w_ar ws (n_v vs 1) 5))
      rw [q1]
      exact vc_St_solve_at_gl_6_0 (v_iv (n_v vs 4)) (v_iv (n_v vs 5)) (w_ei ws (w_ar ws (n_v vs 0) 2)) (w_ei ws (w_ar ws (n_v vs 0) 3)) (w_ei ws (w_ar ws (n_v vs 0) 5)) (w_fi ws (n_v vs 0) 0) (w_fi ws (n_v vs 0) 1) (w_ei ws (w_ar ws (n_v vs 0) 4)) (w_ei ws (w_ar ws (n_v vs 0) 6)) (w_ei ws (w_ar ws (n_v vs 0) 7)) k4 k5 f8 f9 kz_0_0 kz_0_1
  have nf1 : fc_1 PRD (20, [1], [60, 2, 4, 537, 0, 1, 2, 3, 4, 5]) ws (vs) := by
    refine ⟨nf_in hl rfl, sgq_1613 ?_⟩
    · show GPR (w_fi ws (n_v vs 1) 0) (w_fi ws (n_v vs 1) 1) (w_ei ws (w_ar ws (n_v vs 1) 2)) (w_ei ws (w_ar ws (n_v vs 1) 3)) (w_ei ws (w_ar ws (n_v vs 1) 4)) (w_ei ws (w_ar ws (n_v vs 1) 5))
      rw [q1]
      exact vc_St_solve_at_gl_6_1 (v_iv (n_v vs 2)) (w_ei ws (w_ar ws (n_v vs 0) 2)) (w_ei ws (w_ar ws (n_v vs 0) 3)) (w_ei ws (w_ar ws (n_v vs 0) 5)) (w_fi ws (n_v vs 0) 0) (w_fi ws (n_v vs 0) 1) (w_ei ws (w_ar ws (n_v vs 0) 4)) k2 f6 kz_0_0 kz_0_1
  refine ⟨(fun _ h => (by cases h)), [], trivial, ?_, (fun _ h => (by cases h))⟩
  rw [List.append_nil]
  exact List.forall_mem_cons.mpr ⟨⟨show (20 : Nat) < 100 from by decide, nf0⟩, List.forall_mem_cons.mpr ⟨⟨show (20 : Nat) < 100 from by decide, nf1⟩, (fun _ h => (by cases h))⟩⟩
set_option maxHeartbeats 4000000 in
theorem vc_St_solve_at_gl_7_0 (x4 : Int) (x5 : Int) (from_0 : Int → Int) (to_0 : Int → Int) (room_0 : Int → Int) (gain_0 : Int → Int) (nodes_0 : Int) (arcs_0 : Int) (place_0 : Int → Int) (k4 : 0 ≤ x4 ∧ x4 ≤ 0) (k5 : 0 ≤ x5 ∧ x5 ≤ 0) (f1 : EXQ (nodes_0) (arcs_0) (from_0) (to_0) (room_0) (gain_0)) (f2 : GPR (nodes_0) (arcs_0) (from_0) (to_0) (room_0) (gain_0)) (hT4 : ∀ j : Int, 0 ≤ j → j < x4 + 72 → 0 ≤ place_0 j ∧ place_0 j ≤ 0) (kz_0_0 : 0 ≤ nodes_0 ∧ nodes_0 ≤ 72) (kz_0_1 : 0 ≤ arcs_0 ∧ arcs_0 ≤ 384) : FNL (nodes_0) (arcs_0) (from_0) (to_0) (room_0) (gain_0) (place_0) (x5) := by
  first
    | exact fnl_zero ‹EXQ _ _ _ _ _ _› ‹GPR _ _ _ _ _ _› (fun v a b => by first | (have q := hT4 v a (by have := (‹GPR _ _ _ _ _ _›).1.2.1; omega); omega) | (have q := hT3 v a (by have := (‹GPR _ _ _ _ _ _›).1.2.1; omega); omega) | (have q := hT5 v a (by have := (‹GPR _ _ _ _ _ _›).1.2.1; omega); omega)) (by omega)
def o_St_solve_at_gl_7 : or_T := (50, 6, [(0, (2, 0, 0, [10])), (4, (0, 0, 0, [])), (5, (0, 0, 0, []))], [(9, [3, 1], [6]), (20, [1], [60, 2, 4, 536, 0, 1, 2, 3, 4, 5]), (20, [1], [60, 2, 4, 537, 0, 1, 2, 3, 4, 5]), (24, [0, 1], []), (20, [3, 4], [8, 0, 0, 72])], [], [], [(20, [1, 5], [60, 2, 5, 526, 0, 1, 2, 3, 4, 5, 6])], [], [])
theorem oo_St_solve_at_gl_7 {kA : Nat → ClassId} : or_ok PRD kA GG o_St_solve_at_gl_7 := by
  refine or_mk fun A ta ws vs hD hth hl => ?_
  intro t0 r0 t4 k4 t5 k5 f0 f1 f2 f3 f4
  replace f0 := shm_111 f0
  replace f1 := shm_1612 f1
  replace f2 := shm_1613 f2
  replace f3 := shm_5 f3
  replace f4 := shm_46 f4
  have q1 : n_v vs 1 = n_v vs 0 := f3.symm
  simp only [q1] at f0 f1 f2
  have ad_3 : v_ad (n_v vs 3) = w_ar ws (n_v vs 0) 6 := congrArg v_ad f0
  have hT4 : ∀ j : Int, 0 ≤ j → j < v_iv (n_v vs 4) + 72 → 0 ≤ w_ei ws (w_ar ws (n_v vs 0) 6) j ∧ w_ei ws (w_ar ws (n_v vs 0) 6) j ≤ 0 := fun j h0 h1 => by have h2 := f4 j.toNat (by omega); rw [ad_3] at h2; exact h2
  have kz_0_0 := fdq_114 hD hth r0
  have kz_0_1 := fdq_113 hD hth r0
  have nf0 : fc_1 PRD (20, [1, 5], [60, 2, 5, 526, 0, 1, 2, 3, 4, 5, 6]) ws (vs) := by
    refine ⟨nf_in hl rfl, sgq_486 ?_⟩
    · show FNL (w_fi ws (n_v vs 1) 0) (w_fi ws (n_v vs 1) 1) (w_ei ws (w_ar ws (n_v vs 1) 2)) (w_ei ws (w_ar ws (n_v vs 1) 3)) (w_ei ws (w_ar ws (n_v vs 1) 4)) (w_ei ws (w_ar ws (n_v vs 1) 5)) (w_ei ws (w_ar ws (n_v vs 1) 6)) (v_iv (n_v vs 5))
      rw [q1]
      exact vc_St_solve_at_gl_7_0 (v_iv (n_v vs 4)) (v_iv (n_v vs 5)) (w_ei ws (w_ar ws (n_v vs 0) 2)) (w_ei ws (w_ar ws (n_v vs 0) 3)) (w_ei ws (w_ar ws (n_v vs 0) 4)) (w_ei ws (w_ar ws (n_v vs 0) 5)) (w_fi ws (n_v vs 0) 0) (w_fi ws (n_v vs 0) 1) (w_ei ws (w_ar ws (n_v vs 0) 6)) k4 k5 f1 f2 hT4 kz_0_0 kz_0_1
  refine ⟨(fun _ h => (by cases h)), [], trivial, ?_, (fun _ h => (by cases h))⟩
  rw [List.append_nil]
  exact List.forall_mem_cons.mpr ⟨⟨show (20 : Nat) < 100 from by decide, nf0⟩, (fun _ h => (by cases h))⟩
set_option maxHeartbeats 4000000 in
theorem vc_St_solve_at_gl_8_0 (x2 : Int) (x3 : Int) (nodes_0 : Int) (from_0 : Int → Int) (to_0 : Int → Int) (room_0 : Int → Int) (gain_0 : Int → Int) (place_0 : Int → Int) (arcs_0 : Int) (k2 : 1 ≤ x2 ∧ x2 ≤ 73) (k3 : 0 ≤ x3 ∧ x3 ≤ 72) (d0 : x3 + 1 ≤ x2 ∧ x2 ≤ x3 + 4294967296) (g1 : x3 = nodes_0) (f2 : FNL (nodes_0) (arcs_0) (from_0) (to_0) (room_0) (gain_0) (place_0) (x2)) (kz_0_0 : 0 ≤ nodes_0 ∧ nodes_0 ≤ 72) (kz_0_1 : 0 ≤ arcs_0 ∧ arcs_0 ≤ 384) : LYQ (nodes_0) (arcs_0) (from_0) (to_0) (place_0) := by
  first
    | (have q := fnl_few ‹FNL _ _ _ _ _ _ _ _›; omega)
def o_St_solve_at_gl_8 : or_T := (74, 4, [(0, (2, 0, 0, [10])), (2, (0, 1, 73, [])), (3, (0, 0, 72, []))], [(9, [3, 1], [0]), (20, [1, 2], [60, 2, 5, 526, 0, 1, 2, 3, 4, 5, 6]), (24, [0, 1], [])], [], [], [(20, [0], [60, 2, 3, 538, 0, 1, 2, 3, 6])], [], [(2, 3, 1, 4294967296)])
theorem oo_St_solve_at_gl_8 {kA : Nat → ClassId} : or_ok PRD kA GG o_St_solve_at_gl_8 := by
  refine or_mk fun A ta ws vs hD hth hl => ?_
  intro t0 r0 t2 k2 t3 k3 d0 f1 f2 f4
  replace f1 := shm_163 f1
  replace f2 := shm_486 f2
  replace f4 := shm_5 f4
  have q1 : n_v vs 1 = n_v vs 0 := f4.symm
  simp only [q1] at f1 f2
  have g1 : v_iv (n_v vs 3) = w_fi ws (n_v vs 0) 0 := congrArg v_iv f1
  have kz_0_0 := fdq_114 hD hth r0
  have kz_0_1 := fdq_113 hD hth r0
  have nf0 : fc_1 PRD (20, [0], [60, 2, 3, 538, 0, 1, 2, 3, 6]) ws (vs) := ⟨nf_in hl rfl, sgq_1615 (vc_St_solve_at_gl_8_0 (v_iv (n_v vs 2)) (v_iv (n_v vs 3)) (w_fi ws (n_v vs 0) 0) (w_ei ws (w_ar ws (n_v vs 0) 2)) (w_ei ws (w_ar ws (n_v vs 0) 3)) (w_ei ws (w_ar ws (n_v vs 0) 4)) (w_ei ws (w_ar ws (n_v vs 0) 5)) (w_ei ws (w_ar ws (n_v vs 0) 6)) (w_fi ws (n_v vs 0) 1) k2 k3 d0 g1 f2 kz_0_0 kz_0_1)⟩
  refine ⟨(fun _ h => (by cases h)), [], trivial, ?_, (fun _ h => (by cases h))⟩
  rw [List.append_nil]
  exact List.forall_mem_cons.mpr ⟨⟨show (20 : Nat) < 100 from by decide, nf0⟩, (fun _ h => (by cases h))⟩
set_option maxHeartbeats 4000000 in
theorem vc_St_solve_at_gl_9_0 (x2 : Int) (gx : Int) (k2 : 0 ≤ x2 ∧ x2 ≤ 72) (ex2 : gx = x2) : 1 * gx + ((-1) * x2 + 0) ≤ 0 := by
  first
    | omega
    | (have q := (‹FRP _ _ _ _ _ _ _ _ _›).2 (by omega); omega)
set_option maxHeartbeats 4000000 in
theorem vc_St_solve_at_gl_9_1 (x2 : Int) (gx : Int) (k2 : 0 ≤ x2 ∧ x2 ≤ 72) (ex2 : gx = x2) : (-1) * gx + (1 * x2 + 0) ≤ 0 := by
  first
    | omega
    | (have q := (‹FRP _ _ _ _ _ _ _ _ _›).2 (by omega); omega)
set_option maxHeartbeats 4000000 in
theorem vc_St_solve_at_gl_9_2 (x2 : Int) (nodes_0 : Int) (from_0 : Int → Int) (to_0 : Int → Int) (room_0 : Int → Int) (gain_0 : Int → Int) (place_0 : Int → Int) (arcs_0 : Int) (gx : Int) (k2 : 0 ≤ x2 ∧ x2 ≤ 72) (f2 : FNL (nodes_0) (arcs_0) (from_0) (to_0) (room_0) (gain_0) (place_0) (x2)) (kz_0_0 : 0 ≤ nodes_0 ∧ nodes_0 ≤ 72) (kz_0_1 : 0 ≤ arcs_0 ∧ arcs_0 ≤ 384) (ex2 : gx = x2) : FNL (nodes_0) (arcs_0) (from_0) (to_0) (room_0) (gain_0) (place_0) (gx) := by
  rw [show gx = x2 by omega]; assumption
set_option maxHeartbeats 4000000 in
theorem vc_St_solve_at_gl_9_3 (x2 : Int) (gx : Int) (k2 : 0 ≤ x2 ∧ x2 ≤ 72) (ex2 : gx = x2) : gx = x2 := by
  first
    | omega
    | (have q := (‹FRP _ _ _ _ _ _ _ _ _›).2 (by omega); omega)
def o_St_solve_at_gl_9 : or_T := (59, 4, [(0, (2, 0, 0, [10])), (2, (0, 0, 72, []))], [(20, [1, 2], [60, 2, 5, 526, 0, 1, 2, 3, 4, 5, 6]), (24, [0, 1], [])], [], [(0, 0, 73, [])], [(23, [4, 2], [0, 1, -1]), (23, [4, 2], [0, -1, 1]), (20, [1, 4], [60, 2, 5, 526, 0, 1, 2, 3, 4, 5, 6]), (20, [4, 2], [50, 0, 0, 1, 2, 1, 0, 1, 1])], [], [(2, 3, -4294967296, 0)])
theorem oo_St_solve_at_gl_9 {kA : Nat → ClassId} : or_ok PRD kA GG o_St_solve_at_gl_9 := by
  refine or_mk fun A ta ws vs hD hth hl => ?_
  intro t0 r0 t2 k2 d0 f2 f4
  replace f2 := shm_486 f2
  replace f4 := shm_5 f4
  have q1 : n_v vs 1 = n_v vs 0 := f4.symm
  simp only [q1] at f2
  have kz_0_0 := fdq_114 hD hth r0
  have kz_0_1 := fdq_113 hD hth r0
  obtain ⟨x, ex, hx⟩ := iv_ex (ta := ta) (lo := 0) (hi := 73) (z := v_iv (n_v vs 2)) (by omega) (by omega) (by omega) (by omega)
  have ex2 : v_iv (Value.int x) = v_iv (n_v vs 2) := ex
  have ex3 : 0 ≤ v_iv (Value.int x) ∧ v_iv (Value.int x) ≤ 73 := tv_rng hx
  have e_1 : n_v (vs ++ [Value.int x]) 1 = n_v vs 1 := n_v_old (by rw [hl]; decide)
  have e_2 : n_v (vs ++ [Value.int x]) 2 = n_v vs 2 := n_v_old (by rw [hl]; decide)
  have e_4 : n_v (vs ++ [Value.int x]) 4 = Value.int x := n_v_new hl
  have nf0 : fc_1 PRD (23, [4, 2], [0, 1, -1]) ws (vs ++ [Value.int x]) := by
    refine ⟨nf_inA hl rfl, sgq_7 ?_⟩
    · show 1 * v_iv (n_v (vs ++ [Value.int x]) 4) + ((-1) * v_iv (n_v (vs ++ [Value.int x]) 2) + 0) ≤ 0
      simp only [e_2, e_4]
      exact vc_St_solve_at_gl_9_0 (v_iv (n_v vs 2)) (v_iv (Value.int x)) k2 ex2
  have nf1 : fc_1 PRD (23, [4, 2], [0, -1, 1]) ws (vs ++ [Value.int x]) := by
    refine ⟨nf_inA hl rfl, sgq_22 ?_⟩
    · show (-1) * v_iv (n_v (vs ++ [Value.int x]) 4) + (1 * v_iv (n_v (vs ++ [Value.int x]) 2) + 0) ≤ 0
      simp only [e_2, e_4]
      exact vc_St_solve_at_gl_9_1 (v_iv (n_v vs 2)) (v_iv (Value.int x)) k2 ex2
  have nf2 : fc_1 PRD (20, [1, 4], [60, 2, 5, 526, 0, 1, 2, 3, 4, 5, 6]) ws (vs ++ [Value.int x]) := by
    refine ⟨nf_inA hl rfl, sgq_486 ?_⟩
    · show FNL (w_fi ws (n_v (vs ++ [Value.int x]) 1) 0) (w_fi ws (n_v (vs ++ [Value.int x]) 1) 1) (w_ei ws (w_ar ws (n_v (vs ++ [Value.int x]) 1) 2)) (w_ei ws (w_ar ws (n_v (vs ++ [Value.int x]) 1) 3)) (w_ei ws (w_ar ws (n_v (vs ++ [Value.int x]) 1) 4)) (w_ei ws (w_ar ws (n_v (vs ++ [Value.int x]) 1) 5)) (w_ei ws (w_ar ws (n_v (vs ++ [Value.int x]) 1) 6)) (v_iv (n_v (vs ++ [Value.int x]) 4))
      simp only [e_1, e_4, q1]
      exact vc_St_solve_at_gl_9_2 (v_iv (n_v vs 2)) (w_fi ws (n_v vs 0) 0) (w_ei ws (w_ar ws (n_v vs 0) 2)) (w_ei ws (w_ar ws (n_v vs 0) 3)) (w_ei ws (w_ar ws (n_v vs 0) 4)) (w_ei ws (w_ar ws (n_v vs 0) 5)) (w_ei ws (w_ar ws (n_v vs 0) 6)) (w_fi ws (n_v vs 0) 1) (v_iv (Value.int x)) k2 f2 kz_0_0 kz_0_1 ex2
  have nf3 : fc_1 PRD (20, [4, 2], [50, 0, 0, 1, 2, 1, 0, 1, 1]) ws (vs ++ [Value.int x]) := by
    refine ⟨nf_inA hl rfl, sgq_48 ?_⟩
    · show v_iv (n_v (vs ++ [Value.int x]) 4) = v_iv (n_v (vs ++ [Value.int x]) 2)
      simp only [e_2, e_4]
      exact vc_St_solve_at_gl_9_3 (v_iv (n_v vs 2)) (v_iv (Value.int x)) k2 ex2
  exact ⟨(fun _ h => (by cases h)), [Value.int x], ag_one hx, List.forall_mem_cons.mpr ⟨⟨show (23 : Nat) < 100 from by decide, nf0⟩, List.forall_mem_cons.mpr ⟨⟨show (23 : Nat) < 100 from by decide, nf1⟩, List.forall_mem_cons.mpr ⟨⟨show (20 : Nat) < 100 from by decide, nf2⟩, List.forall_mem_cons.mpr ⟨⟨show (20 : Nat) < 100 from by decide, nf3⟩, (fun _ h => (by cases h))⟩⟩⟩⟩, (fun _ h => (by cases h))⟩
set_option maxHeartbeats 4000000 in
theorem vc_St_solve_at_gl_10_0 (x2 : Int) (x4 : Int) (x5 : Int) (x6 : Int) (nodes_0 : Int) (from_0 : Int → Int) (to_0 : Int → Int) (room_0 : Int → Int) (gain_0 : Int → Int) (arcs_0 : Int) (place_0 : Int → Int) (k2 : 0 ≤ x2 ∧ x2 ≤ 72) (k4 : 0 ≤ x4 ∧ x4 ≤ 73) (k5 : 1 ≤ x5 ∧ x5 ≤ 1) (k6 : 1 ≤ x6 ∧ x6 ≤ 73) (d0 : x2 + 1 ≤ x6 ∧ x6 ≤ x2 + 1) (f2 : x5 ≠ 0) (f3 : 1 * x4 + ((-1) * x2 + 0) ≤ 0) (f4 : (-1) * x4 + (1 * x2 + 0) ≤ 0) (f8 : FNQ (nodes_0) (arcs_0) (from_0) (to_0) (room_0) (gain_0) (place_0) (x4) (x5)) (kz_0_0 : 0 ≤ nodes_0 ∧ nodes_0 ≤ 72) (kz_0_1 : 0 ≤ arcs_0 ∧ arcs_0 ≤ 384) : FNL (nodes_0) (arcs_0) (from_0) (to_0) (room_0) (gain_0) (place_0) (x6) := by
  first
    | (rw [show x6 = x4 + 1 by omega]; exact (‹FNQ _ _ _ _ _ _ _ _ _›).2 (by omega))
def o_St_solve_at_gl_10 : or_T := (50, 7, [(0, (2, 0, 0, [10])), (2, (0, 0, 72, [])), (4, (0, 0, 73, [])), (5, (0, 1, 1, [])), (6, (0, 1, 73, []))], [(8, [5], [1]), (23, [4, 2], [0, 1, -1]), (23, [4, 2], [0, -1, 1]), (24, [0, 1], []), (20, [1, 4, 5], [60, 2, 5, 528, 0, 1, 2, 3, 4, 5, 6])], [], [], [(20, [1, 6], [60, 2, 5, 526, 0, 1, 2, 3, 4, 5, 6])], [], [(6, 2, 1, 1)])
theorem oo_St_solve_at_gl_10 {kA : Nat → ClassId} : or_ok PRD kA GG o_St_solve_at_gl_10 := by
  refine or_mk fun A ta ws vs hD hth hl => ?_
  intro t0 r0 t2 k2 t4 k4 t5 k5 t6 k6 d0 f2 f3 f4 f7 f8
  replace f2 := shm_142 f2
  replace f3 := shm_7 f3
  replace f4 := shm_22 f4
  replace f7 := shm_5 f7
  replace f8 := shm_488 f8
  have q1 : n_v vs 1 = n_v vs 0 := f7.symm
  simp only [q1] at f8
  have kz_0_0 := fdq_114 hD hth r0
  have kz_0_1 := fdq_113 hD hth r0
  have nf0 : fc_1 PRD (20, [1, 6], [60, 2, 5, 526, 0, 1, 2, 3, 4, 5, 6]) ws (vs) := by
    refine ⟨nf_in hl rfl, sgq_486 ?_⟩
    · show FNL (w_fi ws (n_v vs 1) 0) (w_fi ws (n_v vs 1) 1) (w_ei ws (w_ar ws (n_v vs 1) 2)) (w_ei ws (w_ar ws (n_v vs 1) 3)) (w_ei ws (w_ar ws (n_v vs 1) 4)) (w_ei ws (w_ar ws (n_v vs 1) 5)) (w_ei ws (w_ar ws (n_v vs 1) 6)) (v_iv (n_v vs 6))
      rw [q1]
      exact vc_St_solve_at_gl_10_0 (v_iv (n_v vs 2)) (v_iv (n_v vs 4)) (v_iv (n_v vs 5)) (v_iv (n_v vs 6)) (w_fi ws (n_v vs 0) 0) (w_ei ws (w_ar ws (n_v vs 0) 2)) (w_ei ws (w_ar ws (n_v vs 0) 3)) (w_ei ws (w_ar ws (n_v vs 0) 4)) (w_ei ws (w_ar ws (n_v vs 0) 5)) (w_fi ws (n_v vs 0) 1) (w_ei ws (w_ar ws (n_v vs 0) 6)) k2 k4 k5 k6 d0 f2 f3 f4 f8 kz_0_0 kz_0_1
  refine ⟨(fun _ h => (by cases h)), [], trivial, ?_, (fun _ h => (by cases h))⟩
  rw [List.append_nil]
  exact List.forall_mem_cons.mpr ⟨⟨show (20 : Nat) < 100 from by decide, nf0⟩, (fun _ h => (by cases h))⟩
set_option maxHeartbeats 4000000 in
theorem vc_St_solve_at_gl_11_0 (x4 : Int) (x5 : Int) (nodes_0 : Int) (from_0 : Int → Int) (to_0 : Int → Int) (room_0 : Int → Int) (gain_0 : Int → Int) (arcs_0 : Int) (place_0 : Int → Int) (k4 : 0 ≤ x4 ∧ x4 ≤ 73) (k5 : 0 ≤ x5 ∧ x5 ≤ 0) (f1 : x5 = 0) (f5 : GPR (nodes_0) (arcs_0) (from_0) (to_0) (room_0) (gain_0)) (f7 : FNQ (nodes_0) (arcs_0) (from_0) (to_0) (room_0) (gain_0) (place_0) (x4) (x5)) (kz_0_0 : 0 ≤ nodes_0 ∧ nodes_0 ≤ 72) (kz_0_1 : 0 ≤ arcs_0 ∧ arcs_0 ≤ 384) : LYQ (nodes_0) (arcs_0) (from_0) (to_0) (place_0) := by
  first
    | exact lyq_end ‹FNQ _ _ _ _ _ _ _ _ _› (by omega) ‹GPR _ _ _ _ _ _›
def o_St_solve_at_gl_11 : or_T := (74, 6, [(0, (2, 0, 0, [10])), (4, (0, 0, 73, [])), (5, (0, 0, 0, []))], [(8, [5], [0]), (20, [1], [60, 2, 4, 537, 0, 1, 2, 3, 4, 5]), (24, [0, 1], []), (20, [1, 4, 5], [60, 2, 5, 528, 0, 1, 2, 3, 4, 5, 6])], [], [], [(20, [0], [60, 2, 3, 538, 0, 1, 2, 3, 6])], [], [])
theorem oo_St_solve_at_gl_11 {kA : Nat → ClassId} : or_ok PRD kA GG o_St_solve_at_gl_11 := by
  refine or_mk fun A ta ws vs hD hth hl => ?_
  intro t0 r0 t4 k4 t5 k5 f1 f5 f6 f7
  replace f5 := shm_1613 f5
  replace f6 := shm_5 f6
  replace f7 := shm_488 f7
  have q1 : n_v vs 1 = n_v vs 0 := f6.symm
  simp only [q1] at f5 f7
  have kz_0_0 := fdq_114 hD hth r0
  have kz_0_1 := fdq_113 hD hth r0
  have nf0 : fc_1 PRD (20, [0], [60, 2, 3, 538, 0, 1, 2, 3, 6]) ws (vs) := ⟨nf_in hl rfl, sgq_1615 (vc_St_solve_at_gl_11_0 (v_iv (n_v vs 4)) (v_iv (n_v vs 5)) (w_fi ws (n_v vs 0) 0) (w_ei ws (w_ar ws (n_v vs 0) 2)) (w_ei ws (w_ar ws (n_v vs 0) 3)) (w_ei ws (w_ar ws (n_v vs 0) 4)) (w_ei ws (w_ar ws (n_v vs 0) 5)) (w_fi ws (n_v vs 0) 1) (w_ei ws (w_ar ws (n_v vs 0) 6)) k4 k5 (shm_192 f1) f5 f7 kz_0_0 kz_0_1)⟩
  refine ⟨(fun _ h => (by cases h)), [], trivial, ?_, (fun _ h => (by cases h))⟩
  rw [List.append_nil]
  exact List.forall_mem_cons.mpr ⟨⟨show (20 : Nat) < 100 from by decide, nf0⟩, (fun _ h => (by cases h))⟩
def n_St_solve_at_gl_an : List an_T := [(10, [(0, (2, 0, 0, [10])), (1, (0, 0, 1000000, []))], [], (0, 0), [(0, 0, 99990), (1, 2, 1000000), (0, 0, 100000)], [], [], [(2, 0, 0, [10])], 0, [], [(20, [1, 2], [60, 2, 4, 530, 0, 1, 2, 3, 4, 5]), (20, [1, 2], [60, 1, 1, 522, 0, 6]), (24, [0, 1], [])]), (40, [(0, (2, 0, 0, [10])), (1, (0, 0, 1000000, []))], [], (0, 0), [(0, 0, 99960), (0, 0, 0), (0, 0, 0)], [], [], [(2, 0, 0, [10])], 0, [], [(20, [1], [60, 2, 4, 536, 0, 1, 2, 3, 4, 5]), (20, [1], [60, 2, 4, 537, 0, 1, 2, 3, 4, 5]), (24, [0, 1], [])]), (50, [(0, (2, 0, 0, [10])), (1, (0, 0, 73, []))], [], (0, 0), [(0, 0, 99950), (1, 2, 73), (0, 0, 100000)], [], [], [(2, 0, 0, [10])], 0, [], [(20, [1, 2], [60, 2, 5, 526, 0, 1, 2, 3, 4, 5, 6]), (20, [1], [60, 2, 4, 537, 0, 1, 2, 3, 4, 5]), (24, [0, 1], [])])]
def t_St_solve_at_gl_ct : ct_L := [(18, 45, e_jArr_fill1_v154), (55, 52, e_St_findRing_at_gl), (97, 56, e_St_sendRound_at_gl), (138, 45, e_jArr_fill1_v154), (181, 60, e_St_raise_at_gl2)]
set_option maxRecDepth 100000 in
theorem c_St_solve_at_gl {l : Launch} {D : va_G} {kA : Nat → ClassId} (h_St_findRing_at_gl : ct_ok PRD l D kA GG y_St_findRing_at_gl z_St_findRing_at_gl e_St_findRing_at_gl) (h_St_raise_at_gl2 : ct_ok PRD l D kA GG y_St_raise_at_gl2 z_St_raise_at_gl2 e_St_raise_at_gl2) (h_St_sendRound_at_gl : ct_ok PRD l D kA GG y_St_sendRound_at_gl z_St_sendRound_at_gl e_St_sendRound_at_gl) : ct_ok PRD l D kA GG y_St_solve_at_gl z_St_solve_at_gl e_St_solve_at_gl := chk_all_ok (FT := [(9, 10, 0), (31, 10, 6)]) (PT := []) (CT := t_St_solve_at_gl_ct) (KT := [(0, 51, .int (1000000), (0, 1000000, 1000000, []))]) (NT := []) (AN := n_St_solve_at_gl_an) (OT := [o_St_solve_at_gl_0, o_St_solve_at_gl_1, o_St_solve_at_gl_2, o_St_solve_at_gl_3, o_St_solve_at_gl_4, o_St_solve_at_gl_5, o_St_solve_at_gl_6, o_St_solve_at_gl_7, o_St_solve_at_gl_8, o_St_solve_at_gl_9, o_St_solve_at_gl_10, o_St_solve_at_gl_11]) 3 200 (List.forall_mem_cons.mpr ⟨oo_St_solve_at_gl_0, List.forall_mem_cons.mpr ⟨oo_St_solve_at_gl_1, List.forall_mem_cons.mpr ⟨oo_St_solve_at_gl_2, List.forall_mem_cons.mpr ⟨oo_St_solve_at_gl_3, List.forall_mem_cons.mpr ⟨oo_St_solve_at_gl_4, List.forall_mem_cons.mpr ⟨oo_St_solve_at_gl_5, List.forall_mem_cons.mpr ⟨oo_St_solve_at_gl_6, List.forall_mem_cons.mpr ⟨oo_St_solve_at_gl_7, List.forall_mem_cons.mpr ⟨oo_St_solve_at_gl_8, List.forall_mem_cons.mpr ⟨oo_St_solve_at_gl_9, List.forall_mem_cons.mpr ⟨oo_St_solve_at_gl_10, List.forall_mem_cons.mpr ⟨oo_St_solve_at_gl_11, List.forall_mem_nil _⟩⟩⟩⟩⟩⟩⟩⟩⟩⟩⟩⟩) (by decide +kernel) ⟨List.forall_mem_cons.mpr ⟨gf_St_9, List.forall_mem_cons.mpr ⟨gf_St_31, List.forall_mem_nil _⟩⟩, List.forall_mem_nil _, List.forall_mem_cons.mpr ⟨cl_static (y := y_jArr_fill1) c_jArr_fill1_v154 wm_55 wm_4 wm_1343 wm_54 ⟨by decide, by decide, by decide +kernel⟩ (by decide), List.forall_mem_cons.mpr ⟨cl_virtual (y := y_St_findRing_at_gl) (ci := 10) rfl rfl ⟨_, _, rfl⟩ (by decide +kernel) h_St_findRing_at_gl wm_1348 wm_19 wm_1345 wm_1347 wv_4_12 ⟨by decide, by decide, by decide +kernel⟩ (by decide), List.forall_mem_cons.mpr ⟨cl_virtual (y := y_St_sendRound_at_gl) (ci := 10) rfl rfl ⟨_, _, rfl⟩ (by decide +kernel) h_St_sendRound_at_gl wm_1360 wm_19 wm_1357 wm_1359 wv_4_15 ⟨by decide, by decide, by decide +kernel⟩ (by decide), List.forall_mem_cons.mpr ⟨cl_static (y := y_jArr_fill1) c_jArr_fill1_v154 wm_55 wm_4 wm_1343 wm_54 ⟨by decide, by decide, by decide +kernel⟩ (by decide), List.forall_mem_cons.mpr ⟨cl_virtual (y := y_St_raise_at_gl2) (ci := 10) rfl rfl ⟨_, _, rfl⟩ (by decide +kernel) h_St_raise_at_gl2 wm_1352 wm_19 wm_1349 wm_1351 wv_4_13 ⟨by decide, by decide, by decide +kernel⟩ (by decide), List.forall_mem_nil _⟩⟩⟩⟩⟩, List.forall_mem_cons.mpr ⟨kx_St_0_51, List.forall_mem_nil _⟩, List.forall_mem_nil _, GG_pl⟩ (by decide +kernel)
set_option maxHeartbeats 4000000 in
theorem vc_St_solve_at_gr_0_0 (nodes_0 : Int) (kz_0_0 : 0 ≤ nodes_0 ∧ nodes_0 ≤ 72) : 0 ≤ nodes_0 := by
  first
    | omega
    | (have q := (‹FRP _ _ _ _ _ _ _ _ _›).2 (by omega); omega)
def o_St_solve_at_gr_0 : or_T := (10, 4, [(0, (2, 0, 0, [10]))], [], [], [], [(20, [0], [50, 1, 0, 0, 0, 2, 0, 0, 2, 0, 0]), (24, [0, 0], [])], [], [])
theorem oo_St_solve_at_gr_0 {kA : Nat → ClassId} : or_ok PRD kA GG o_St_solve_at_gr_0 := by
  refine or_mk fun A ta ws vs hD hth hl => ?_
  intro t0 r0
  have kz_0_0 := fdq_114 hD hth r0
  have nf0 : fc_1 PRD (20, [0], [50, 1, 0, 0, 0, 2, 0, 0, 2, 0, 0]) ws (vs) := ⟨nf_in hl rfl, sgq_1616 (vc_St_solve_at_gr_0_0 (w_fi ws (n_v vs 0) 0) kz_0_0)⟩
  have nf1 : fc_1 PRD (24, [0, 0], []) ws (vs) := by
    refine ⟨nf_in hl rfl, sgq_1 ?_⟩
    · show n_v vs 0 = n_v vs 0
      first | rfl | simp only [true_and]
  refine ⟨(fun _ h => (by cases h)), [], trivial, ?_, (fun _ h => (by cases h))⟩
  rw [List.append_nil]
  exact List.forall_mem_cons.mpr ⟨⟨show (20 : Nat) < 100 from by decide, nf0⟩, List.forall_mem_cons.mpr ⟨⟨show (24 : Nat) < 100 from by decide, nf1⟩, (fun _ h => (by cases h))⟩⟩
set_option maxHeartbeats 4000000 in
theorem vc_St_solve_at_gr_1_0 (x4 : Int) (from_0 : Int → Int) (by_0 : Int → Int) (k4 : 0 ≤ x4 ∧ x4 ≤ 71) (f4 : RNGX (from_0) (by_0) (x4)) : RNG (from_0) (by_0) (x4) := by
  first
    | exact ((‹FRP _ _ _ _ _ _ _ _ _›).2 (by omega)).2.2.1
    | exact ‹RNGX _ _ _› (by omega)
def o_St_solve_at_gr_1 : or_T := (31, 6, [(4, (0, 0, 71, []))], [(24, [0, 1], []), (20, [1, 4], [60, 0, 2, 542, 2, 7])], [], [], [(20, [1, 4], [60, 0, 2, 509, 2, 7])], [], [])
theorem oo_St_solve_at_gr_1 {kA : Nat → ClassId} : or_ok PRD kA GG o_St_solve_at_gr_1 := by
  refine or_mk fun A ta ws vs hD hth hl => ?_
  intro t4 k4 f2 f4
  replace f2 := shm_5 f2
  replace f4 := shm_1229 f4
  have q1 : n_v vs 1 = n_v vs 0 := f2.symm
  simp only [q1] at f4
  have nf0 : fc_1 PRD (20, [1, 4], [60, 0, 2, 509, 2, 7]) ws (vs) := by
    refine ⟨nf_in hl rfl, sgq_928 ?_⟩
    · show RNG (w_ei ws (w_ar ws (n_v vs 1) 2)) (w_ei ws (w_ar ws (n_v vs 1) 7)) (v_iv (n_v vs 4))
      rw [q1]
      exact vc_St_solve_at_gr_1_0 (v_iv (n_v vs 4)) (w_ei ws (w_ar ws (n_v vs 0) 2)) (w_ei ws (w_ar ws (n_v vs 0) 7)) k4 f4
  refine ⟨(fun _ h => (by cases h)), [], trivial, ?_, (fun _ h => (by cases h))⟩
  rw [List.append_nil]
  exact List.forall_mem_cons.mpr ⟨⟨show (20 : Nat) < 100 from by decide, nf0⟩, (fun _ h => (by cases h))⟩
set_option maxHeartbeats 4000000 in
theorem vc_St_solve_at_gr_2_0 (x4 : Int) (x5 : Int) (place_0 : Int → Int) (k4 : 0 ≤ x4 ∧ x4 ≤ 0) (k5 : 0 ≤ x5 ∧ x5 ≤ 0) (hT3 : ∀ j : Int, 0 ≤ j → j < x4 + 72 → 0 ≤ place_0 j ∧ place_0 j ≤ 0) : PBX (place_0) (x5) := by
  first
    | (intro v a b; have q := ‹PBX1 _ _› v a b; omega)
    | (intro v a b; first | (have q := hT0 v a (by omega); omega) | (have q := hT1 v a (by omega); omega) | (have q := hT2 v a (by omega); omega) | (have q := hT3 v a (by omega); omega) | (have q := hT4 v a (by omega); omega))
def o_St_solve_at_gr_2 : or_T := (50, 6, [(0, (2, 0, 0, [10])), (4, (0, 0, 0, [])), (5, (0, 0, 0, []))], [(9, [3, 1], [6]), (24, [0, 1], []), (20, [3, 4], [8, 0, 0, 72])], [], [], [(20, [1, 5], [60, 0, 1, 539, 6])], [], [])
theorem oo_St_solve_at_gr_2 {kA : Nat → ClassId} : or_ok PRD kA GG o_St_solve_at_gr_2 := by
  refine or_mk fun A ta ws vs hD hth hl => ?_
  intro t0 r0 t4 k4 t5 k5 f0 f2 f3
  replace f0 := shm_111 f0
  replace f2 := shm_5 f2
  replace f3 := shm_46 f3
  have q1 : n_v vs 1 = n_v vs 0 := f2.symm
  simp only [q1] at f0
  have ad_3 : v_ad (n_v vs 3) = w_ar ws (n_v vs 0) 6 := congrArg v_ad f0
  have hT3 : ∀ j : Int, 0 ≤ j → j < v_iv (n_v vs 4) + 72 → 0 ≤ w_ei ws (w_ar ws (n_v vs 0) 6) j ∧ w_ei ws (w_ar ws (n_v vs 0) 6) j ≤ 0 := fun j h0 h1 => by have h2 := f3 j.toNat (by omega); rw [ad_3] at h2; exact h2
  have nf0 : fc_1 PRD (20, [1, 5], [60, 0, 1, 539, 6]) ws (vs) := by
    refine ⟨nf_in hl rfl, sgq_489 ?_⟩
    · show PBX (w_ei ws (w_ar ws (n_v vs 1) 6)) (v_iv (n_v vs 5))
      rw [q1]
      exact vc_St_solve_at_gr_2_0 (v_iv (n_v vs 4)) (v_iv (n_v vs 5)) (w_ei ws (w_ar ws (n_v vs 0) 6)) k4 k5 hT3
  refine ⟨(fun _ h => (by cases h)), [], trivial, ?_, (fun _ h => (by cases h))⟩
  rw [List.append_nil]
  exact List.forall_mem_cons.mpr ⟨⟨show (20 : Nat) < 100 from by decide, nf0⟩, (fun _ h => (by cases h))⟩
set_option maxHeartbeats 4000000 in
theorem vc_St_solve_at_gr_3_0 (x2 : Int) (place_0 : Int → Int) (k2 : 1 ≤ x2 ∧ x2 ≤ 73) (f2 : PBX (place_0) (x2)) : PBZ (place_0) := by
  first
    | (intro v a b; have q := ‹PBX1 _ _› v a b; omega)
    | (intro v a b; have q := ‹PBX _ _› v a b; omega)
def o_St_solve_at_gr_3 : or_T := (74, 4, [(2, (0, 1, 73, []))], [(20, [1, 2], [60, 0, 1, 539, 6]), (24, [0, 1], [])], [], [], [(20, [0], [60, 0, 1, 543, 6])], [], [])
theorem oo_St_solve_at_gr_3 {kA : Nat → ClassId} : or_ok PRD kA GG o_St_solve_at_gr_3 := by
  refine or_mk fun A ta ws vs hD hth hl => ?_
  intro t2 k2 f2 f3
  replace f2 := shm_489 f2
  replace f3 := shm_5 f3
  have q1 : n_v vs 1 = n_v vs 0 := f3.symm
  simp only [q1] at f2
  have nf0 : fc_1 PRD (20, [0], [60, 0, 1, 543, 6]) ws (vs) := ⟨nf_in hl rfl, sgq_1607 (vc_St_solve_at_gr_3_0 (v_iv (n_v vs 2)) (w_ei ws (w_ar ws (n_v vs 0) 6)) k2 f2)⟩
  refine ⟨(fun _ h => (by cases h)), [], trivial, ?_, (fun _ h => (by cases h))⟩
  rw [List.append_nil]
  exact List.forall_mem_cons.mpr ⟨⟨show (20 : Nat) < 100 from by decide, nf0⟩, (fun _ h => (by cases h))⟩
set_option maxHeartbeats 4000000 in
theorem vc_St_solve_at_gr_4_0 (x2 : Int) (gx : Int) (k2 : 0 ≤ x2 ∧ x2 ≤ 72) (ex2 : gx = x2) : 1 * gx + ((-1) * x2 + 0) ≤ 0 := by
  first
    | omega
    | (have q := (‹FRP _ _ _ _ _ _ _ _ _›).2 (by omega); omega)
set_option maxHeartbeats 4000000 in
theorem vc_St_solve_at_gr_4_1 (x2 : Int) (gx : Int) (k2 : 0 ≤ x2 ∧ x2 ≤ 72) (ex2 : gx = x2) : (-1) * gx + (1 * x2 + 0) ≤ 0 := by
  first
    | omega
    | (have q := (‹FRP _ _ _ _ _ _ _ _ _›).2 (by omega); omega)
set_option maxHeartbeats 4000000 in
theorem vc_St_solve_at_gr_4_2 (x2 : Int) (place_0 : Int → Int) (gx : Int) (k2 : 0 ≤ x2 ∧ x2 ≤ 72) (f2 : PBX (place_0) (x2)) (ex2 : gx = x2) : PBX (place_0) (gx) := by
  intro v a b; have q := ‹PBX _ _› v a b; omega
set_option maxHeartbeats 4000000 in
theorem vc_St_solve_at_gr_4_3 (x2 : Int) (gx : Int) (k2 : 0 ≤ x2 ∧ x2 ≤ 72) (ex2 : gx = x2) : gx = x2 := by
  first
    | omega
    | (have q := (‹FRP _ _ _ _ _ _ _ _ _›).2 (by omega); omega)
def o_St_solve_at_gr_4 : or_T := (59, 4, [(2, (0, 0, 72, []))], [(20, [1, 2], [60, 0, 1, 539, 6]), (24, [0, 1], [])], [], [(0, 0, 73, [])], [(23, [4, 2], [0, 1, -1]), (23, [4, 2], [0, -1, 1]), (20, [1, 4], [60, 0, 1, 539, 6]), (20, [4, 2], [50, 0, 0, 1, 2, 1, 0, 1, 1])], [], [(2, 3, -4294967296, 0)])
theorem oo_St_solve_at_gr_4 {kA : Nat → ClassId} : or_ok PRD kA GG o_St_solve_at_gr_4 := by
  refine or_mk fun A ta ws vs hD hth hl => ?_
  intro t2 k2 d0 f2 f3
  replace f2 := shm_489 f2
  replace f3 := shm_5 f3
  have q1 : n_v vs 1 = n_v vs 0 := f3.symm
  simp only [q1] at f2
  obtain ⟨x, ex, hx⟩ := iv_ex (ta := ta) (lo := 0) (hi := 73) (z := v_iv (n_v vs 2)) (by omega) (by omega) (by omega) (by omega)
  have ex2 : v_iv (Value.int x) = v_iv (n_v vs 2) := ex
  have ex3 : 0 ≤ v_iv (Value.int x) ∧ v_iv (Value.int x) ≤ 73 := tv_rng hx
  have e_1 : n_v (vs ++ [Value.int x]) 1 = n_v vs 1 := n_v_old (by rw [hl]; decide)
  have e_2 : n_v (vs ++ [Value.int x]) 2 = n_v vs 2 := n_v_old (by rw [hl]; decide)
  have e_4 : n_v (vs ++ [Value.int x]) 4 = Value.int x := n_v_new hl
  have nf0 : fc_1 PRD (23, [4, 2], [0, 1, -1]) ws (vs ++ [Value.int x]) := by
    refine ⟨nf_inA hl rfl, sgq_7 ?_⟩
    · show 1 * v_iv (n_v (vs ++ [Value.int x]) 4) + ((-1) * v_iv (n_v (vs ++ [Value.int x]) 2) + 0) ≤ 0
      simp only [e_2, e_4]
      exact vc_St_solve_at_gr_4_0 (v_iv (n_v vs 2)) (v_iv (Value.int x)) k2 ex2
  have nf1 : fc_1 PRD (23, [4, 2], [0, -1, 1]) ws (vs ++ [Value.int x]) := by
    refine ⟨nf_inA hl rfl, sgq_22 ?_⟩
    · show (-1) * v_iv (n_v (vs ++ [Value.int x]) 4) + (1 * v_iv (n_v (vs ++ [Value.int x]) 2) + 0) ≤ 0
      simp only [e_2, e_4]
      exact vc_St_solve_at_gr_4_1 (v_iv (n_v vs 2)) (v_iv (Value.int x)) k2 ex2
  have nf2 : fc_1 PRD (20, [1, 4], [60, 0, 1, 539, 6]) ws (vs ++ [Value.int x]) := by
    refine ⟨nf_inA hl rfl, sgq_489 ?_⟩
    · show PBX (w_ei ws (w_ar ws (n_v (vs ++ [Value.int x]) 1) 6)) (v_iv (n_v (vs ++ [Value.int x]) 4))
      simp only [e_1, e_4, q1]
      exact vc_St_solve_at_gr_4_2 (v_iv (n_v vs 2)) (w_ei ws (w_ar ws (n_v vs 0) 6)) (v_iv (Value.int x)) k2 f2 ex2
  have nf3 : fc_1 PRD (20, [4, 2], [50, 0, 0, 1, 2, 1, 0, 1, 1]) ws (vs ++ [Value.int x]) := by
    refine ⟨nf_inA hl rfl, sgq_48 ?_⟩
    · show v_iv (n_v (vs ++ [Value.int x]) 4) = v_iv (n_v (vs ++ [Value.int x]) 2)
      simp only [e_2, e_4]
      exact vc_St_solve_at_gr_4_3 (v_iv (n_v vs 2)) (v_iv (Value.int x)) k2 ex2
  exact ⟨(fun _ h => (by cases h)), [Value.int x], ag_one hx, List.forall_mem_cons.mpr ⟨⟨show (23 : Nat) < 100 from by decide, nf0⟩, List.forall_mem_cons.mpr ⟨⟨show (23 : Nat) < 100 from by decide, nf1⟩, List.forall_mem_cons.mpr ⟨⟨show (20 : Nat) < 100 from by decide, nf2⟩, List.forall_mem_cons.mpr ⟨⟨show (20 : Nat) < 100 from by decide, nf3⟩, (fun _ h => (by cases h))⟩⟩⟩⟩, (fun _ h => (by cases h))⟩
set_option maxHeartbeats 4000000 in
theorem vc_St_solve_at_gr_5_0 (x2 : Int) (x4 : Int) (x6 : Int) (place_0 : Int → Int) (k2 : 0 ≤ x2 ∧ x2 ≤ 72) (k4 : 0 ≤ x4 ∧ x4 ≤ 73) (k6 : 1 ≤ x6 ∧ x6 ≤ 73) (d0 : x2 + 1 ≤ x6 ∧ x6 ≤ x2 + 1) (f2 : 1 * x4 + ((-1) * x2 + 0) ≤ 0) (f3 : (-1) * x4 + (1 * x2 + 0) ≤ 0) (f6 : PBX1 (place_0) (x4)) : PBX (place_0) (x6) := by
  first
    | (intro v a b; have q := ‹PBX1 _ _› v a b; omega)
    | (intro v a b; first | (have q := hT0 v a (by omega); omega) | (have q := hT1 v a (by omega); omega) | (have q := hT2 v a (by omega); omega) | (have q := hT3 v a (by omega); omega) | (have q := hT4 v a (by omega); omega))
def o_St_solve_at_gr_5 : or_T := (50, 7, [(2, (0, 0, 72, [])), (4, (0, 0, 73, [])), (6, (0, 1, 73, []))], [(23, [4, 2], [0, 1, -1]), (23, [4, 2], [0, -1, 1]), (24, [0, 1], []), (20, [1, 4], [60, 0, 1, 540, 6])], [], [], [(20, [1, 6], [60, 0, 1, 539, 6])], [], [(6, 2, 1, 1)])
theorem oo_St_solve_at_gr_5 {kA : Nat → ClassId} : or_ok PRD kA GG o_St_solve_at_gr_5 := by
  refine or_mk fun A ta ws vs hD hth hl => ?_
  intro t2 k2 t4 k4 t6 k6 d0 f2 f3 f5 f6
  replace f2 := shm_7 f2
  replace f3 := shm_22 f3
  replace f5 := shm_5 f5
  replace f6 := shm_491 f6
  have q1 : n_v vs 1 = n_v vs 0 := f5.symm
  simp only [q1] at f6
  have nf0 : fc_1 PRD (20, [1, 6], [60, 0, 1, 539, 6]) ws (vs) := by
    refine ⟨nf_in hl rfl, sgq_489 ?_⟩
    · show PBX (w_ei ws (w_ar ws (n_v vs 1) 6)) (v_iv (n_v vs 6))
      rw [q1]
      exact vc_St_solve_at_gr_5_0 (v_iv (n_v vs 2)) (v_iv (n_v vs 4)) (v_iv (n_v vs 6)) (w_ei ws (w_ar ws (n_v vs 0) 6)) k2 k4 k6 d0 f2 f3 f6
  refine ⟨(fun _ h => (by cases h)), [], trivial, ?_, (fun _ h => (by cases h))⟩
  rw [List.append_nil]
  exact List.forall_mem_cons.mpr ⟨⟨show (20 : Nat) < 100 from by decide, nf0⟩, (fun _ h => (by cases h))⟩
set_option maxHeartbeats 4000000 in
theorem vc_St_solve_at_gr_6_0 (x2 : Int) (x3 : Int) (x4 : Int) (nodes_0 : Int) (place_0 : Int → Int) (k2 : 0 ≤ x2 ∧ x2 ≤ 72) (k3 : 0 ≤ x3 ∧ x3 ≤ 72) (k4 : 0 ≤ x4 ∧ x4 ≤ 73) (d0 : x3 + (-4294967296) ≤ x2 ∧ x2 ≤ x3 + 0) (g0 : x3 = nodes_0) (f1 : 1 * x4 + ((-1) * x2 + 0) ≤ 0) (f2 : (-1) * x4 + (1 * x2 + 0) ≤ 0) (f5 : PBX1 (place_0) (x4)) (kz_0_0 : 0 ≤ nodes_0 ∧ nodes_0 ≤ 72) : PBZ (place_0) := by
  first
    | (intro v a b; have q := ‹PBX1 _ _› v a b; omega)
    | (intro v a b; have q := ‹PBX _ _› v a b; omega)
def o_St_solve_at_gr_6 : or_T := (74, 6, [(0, (2, 0, 0, [10])), (2, (0, 0, 72, [])), (3, (0, 0, 72, [])), (4, (0, 0, 73, []))], [(9, [3, 1], [0]), (23, [4, 2], [0, 1, -1]), (23, [4, 2], [0, -1, 1]), (24, [0, 1], []), (20, [1, 4], [60, 0, 1, 540, 6])], [], [], [(20, [0], [60, 0, 1, 543, 6])], [], [(2, 3, -4294967296, 0)])
theorem oo_St_solve_at_gr_6 {kA : Nat → ClassId} : or_ok PRD kA GG o_St_solve_at_gr_6 := by
  refine or_mk fun A ta ws vs hD hth hl => ?_
  intro t0 r0 t2 k2 t3 k3 t4 k4 d0 f0 f1 f2 f4 f5
  replace f0 := shm_163 f0
  replace f4 := shm_5 f4
  replace f5 := shm_491 f5
  have q1 : n_v vs 1 = n_v vs 0 := f4.symm
  simp only [q1] at f0 f5
  have g0 : v_iv (n_v vs 3) = w_fi ws (n_v vs 0) 0 := congrArg v_iv f0
  have kz_0_0 := fdq_114 hD hth r0
  have nf0 : fc_1 PRD (20, [0], [60, 0, 1, 543, 6]) ws (vs) := ⟨nf_in hl rfl, sgq_1607 (vc_St_solve_at_gr_6_0 (v_iv (n_v vs 2)) (v_iv (n_v vs 3)) (v_iv (n_v vs 4)) (w_fi ws (n_v vs 0) 0) (w_ei ws (w_ar ws (n_v vs 0) 6)) k2 k3 k4 d0 g0 (shm_7 f1) (shm_22 f2) f5 kz_0_0)⟩
  refine ⟨(fun _ h => (by cases h)), [], trivial, ?_, (fun _ h => (by cases h))⟩
  rw [List.append_nil]
  exact List.forall_mem_cons.mpr ⟨⟨show (20 : Nat) < 100 from by decide, nf0⟩, (fun _ h => (by cases h))⟩
def n_St_solve_at_gr_an : List an_T := [(10, [(0, (2, 0, 0, [10])), (1, (0, 0, 1000000, []))], [], (0, 0), [(0, 0, 99990), (1, 2, 1000000), (0, 0, 100000)], [], [], [(2, 0, 0, [10])], 0, [], [(20, [1], [50, 1, 0, 0, 0, 2, 0, 0, 2, 0, 0]), (24, [0, 1], [])]), (40, [(0, (2, 0, 0, [10])), (1, (0, 0, 1000000, []))], [], (0, 0), [(0, 0, 99960), (0, 0, 0), (0, 0, 0)], [], [], [(2, 0, 0, [10])], 0, [], [(20, [1], [50, 1, 0, 0, 0, 2, 0, 0, 2, 0, 0]), (24, [0, 1], [])]), (50, [(0, (2, 0, 0, [10])), (1, (0, 0, 73, []))], [], (0, 0), [(0, 0, 99950), (1, 2, 73), (0, 0, 100000)], [], [], [(2, 0, 0, [10])], 0, [], [(20, [1, 2], [60, 0, 1, 539, 6]), (24, [0, 1], [])])]
def t_St_solve_at_gr_ct : ct_L := [(18, 45, e_jArr_fill1_v154), (55, 52, e_St_findRing_at_gr), (97, 56, e_St_sendRound_at_gr), (138, 45, e_jArr_fill1_v154), (181, 60, e_St_raise_at_gr2)]
set_option maxRecDepth 100000 in
theorem c_St_solve_at_gr {l : Launch} {D : va_G} {kA : Nat → ClassId} (h_St_findRing_at_gr : ct_ok PRD l D kA GG y_St_findRing_at_gr z_St_findRing_at_gr e_St_findRing_at_gr) (h_St_raise_at_gr2 : ct_ok PRD l D kA GG y_St_raise_at_gr2 z_St_raise_at_gr2 e_St_raise_at_gr2) (h_St_sendRound_at_gr : ct_ok PRD l D kA GG y_St_sendRound_at_gr z_St_sendRound_at_gr e_St_sendRound_at_gr) : ct_ok PRD l D kA GG y_St_solve_at_gr z_St_solve_at_gr e_St_solve_at_gr := chk_all_ok (FT := [(9, 10, 0), (31, 10, 6)]) (PT := []) (CT := t_St_solve_at_gr_ct) (KT := [(0, 51, .int (1000000), (0, 1000000, 1000000, []))]) (NT := []) (AN := n_St_solve_at_gr_an) (OT := [o_St_solve_at_gr_0, o_St_solve_at_gr_1, o_St_solve_at_gr_2, o_St_solve_at_gr_3, o_St_solve_at_gr_4, o_St_solve_at_gr_5, o_St_solve_at_gr_6]) 3 200 (List.forall_mem_cons.mpr ⟨oo_St_solve_at_gr_0, List.forall_mem_cons.mpr ⟨oo_St_solve_at_gr_1, List.forall_mem_cons.mpr ⟨oo_St_solve_at_gr_2, List.forall_mem_cons.mpr ⟨oo_St_solve_at_gr_3, List.forall_mem_cons.mpr ⟨oo_St_solve_at_gr_4, List.forall_mem_cons.mpr ⟨oo_St_solve_at_gr_5, List.forall_mem_cons.mpr ⟨oo_St_solve_at_gr_6, List.forall_mem_nil _⟩⟩⟩⟩⟩⟩⟩) (by decide +kernel) ⟨List.forall_mem_cons.mpr ⟨gf_St_9, List.forall_mem_cons.mpr ⟨gf_St_31, List.forall_mem_nil _⟩⟩, List.forall_mem_nil _, List.forall_mem_cons.mpr ⟨cl_static (y := y_jArr_fill1) c_jArr_fill1_v154 wm_55 wm_4 wm_1343 wm_54 ⟨by decide, by decide, by decide +kernel⟩ (by decide), List.forall_mem_cons.mpr ⟨cl_virtual (y := y_St_findRing_at_gr) (ci := 10) rfl rfl ⟨_, _, rfl⟩ (by decide +kernel) h_St_findRing_at_gr wm_1348 wm_19 wm_1345 wm_1347 wv_4_12 ⟨by decide, by decide, by decide +kernel⟩ (by decide), List.forall_mem_cons.mpr ⟨cl_virtual (y := y_St_sendRound_at_gr) (ci := 10) rfl rfl ⟨_, _, rfl⟩ (by decide +kernel) h_St_sendRound_at_gr wm_1360 wm_19 wm_1357 wm_1359 wv_4_15 ⟨by decide, by decide, by decide +kernel⟩ (by decide), List.forall_mem_cons.mpr ⟨cl_static (y := y_jArr_fill1) c_jArr_fill1_v154 wm_55 wm_4 wm_1343 wm_54 ⟨by decide, by decide, by decide +kernel⟩ (by decide), List.forall_mem_cons.mpr ⟨cl_virtual (y := y_St_raise_at_gr2) (ci := 10) rfl rfl ⟨_, _, rfl⟩ (by decide +kernel) h_St_raise_at_gr2 wm_1352 wm_19 wm_1349 wm_1351 wv_4_13 ⟨by decide, by decide, by decide +kernel⟩ (by decide), List.forall_mem_nil _⟩⟩⟩⟩⟩, List.forall_mem_cons.mpr ⟨kx_St_0_51, List.forall_mem_nil _⟩, List.forall_mem_nil _, GG_pl⟩ (by decide +kernel)

set_option maxHeartbeats 4000000 in
theorem vc_Mo_bestOrder_0_0 (x2 : Int) (member_0 : Int → Int) (order_0 : Int → Int) (k2 : 0 ≤ x2 ∧ x2 ≤ 0) : CYM (order_0) (member_0) (x2) := by
  first
    | (intro t a b; exfalso; omega)
    | (have h := ‹CYM _ _ _›
       intro t a b
       by_cases q : t = x3
       · rw [(hE_0_96_1 t a).1 q, q]; assumption
       · rw [(hE_0_96_1 t a).2 q]; exact h t a (by omega))
set_option maxHeartbeats 4000000 in
theorem vc_Mo_bestOrder_0_1 (x1 : Int) (k1 : 1000000 ≤ x1 ∧ x1 ≤ 1000000) : x1 = 1000000 := by
  first
    | omega
def o_Mo_bestOrder_0 : or_T := (6, 3, [(1, (0, 1000000, 1000000, [])), (2, (0, 0, 0, []))], [], [], [], [(20, [0, 2], [60, 0, 2, 336, 96, 98]), (20, [1], [50, 0, 0, 1, 2, 1, 0, 0, 1000000]), (24, [0, 0], [])], [], [])
theorem oo_Mo_bestOrder_0 {kA : Nat → ClassId} : or_ok PRD kA GG o_Mo_bestOrder_0 := by
  refine or_mk fun A ta ws vs hD hth hl => ?_
  intro t1 k1 t2 k2
  have nf0 : fc_1 PRD (20, [0, 2], [60, 0, 2, 336, 96, 98]) ws (vs) := ⟨nf_in hl rfl, sgq_1619 (vc_Mo_bestOrder_0_0 (v_iv (n_v vs 2)) (w_ei ws (w_ar ws (n_v vs 0) 98)) (w_ei ws (w_ar ws (n_v vs 0) 96)) k2)⟩
  have nf1 : fc_1 PRD (20, [1], [50, 0, 0, 1, 2, 1, 0, 0, 1000000]) ws (vs) := ⟨nf_in hl rfl, sgq_1620 (vc_Mo_bestOrder_0_1 (v_iv (n_v vs 1)) k1)⟩
  have nf2 : fc_1 PRD (24, [0, 0], []) ws (vs) := by
    refine ⟨nf_in hl rfl, sgq_1 ?_⟩
    · show n_v vs 0 = n_v vs 0
      first | rfl | simp only [true_and]
  refine ⟨(fun _ h => (by cases h)), [], trivial, ?_, (fun _ h => (by cases h))⟩
  rw [List.append_nil]
  exact List.forall_mem_cons.mpr ⟨⟨show (20 : Nat) < 100 from by decide, nf0⟩, List.forall_mem_cons.mpr ⟨⟨show (20 : Nat) < 100 from by decide, nf1⟩, List.forall_mem_cons.mpr ⟨⟨show (24 : Nat) < 100 from by decide, nf2⟩, (fun _ h => (by cases h))⟩⟩⟩
set_option maxHeartbeats 4000000 in
theorem vc_Mo_bestOrder_1_0 (x3 : Int) (x4 : Int) (members_0 : Int) (member_0 : Int → Int) (order_0 : Int → Int) (k3 : 0 ≤ x3 ∧ x3 ≤ 26) (k4 : 0 ≤ x4 ∧ x4 ≤ 26) (d0 : x4 + 0 ≤ x3 ∧ x3 ≤ x4 + 4294967296) (g1 : x4 = members_0) (f3 : MBD (members_0) (member_0)) (f4 : CYM (order_0) (member_0) (x3)) (kz_0_99 : 0 ≤ members_0 ∧ members_0 ≤ 26) : DSM (members_0) (order_0) := by
  first
    | exact dis_cym ‹MBD _ _› ‹CYM _ _ _› (by omega)
set_option maxHeartbeats 4000000 in
theorem vc_Mo_bestOrder_1_1 (members_0 : Int) (f2 : members_0 ≤ 7) (kz_0_99 : 0 ≤ members_0 ∧ members_0 ≤ 26) : members_0 ≤ 7 := by
  first
    | omega
set_option maxHeartbeats 4000000 in
theorem vc_Mo_bestOrder_1_2 (x4 : Int) (x5 : Int) (members_0 : Int) (order_0 : Int → Int) (gx : Int) (k4 : 0 ≤ x4 ∧ x4 ≤ 26) (k5 : 1 ≤ x5 ∧ x5 ≤ 1) (g1 : x4 = members_0) (f2 : members_0 ≤ 7) (kz_0_99 : 0 ≤ members_0 ∧ members_0 ≤ 26) (ex2 : gx = 16777216) : ORZ (members_0) (order_0) (gx) (x5) := by
  first
    | exact fun _ => orm_start (by omega) (by omega) (by omega)
set_option maxHeartbeats 4000000 in
theorem vc_Mo_bestOrder_1_3 (x3 : Int) (x4 : Int) (members_0 : Int) (member_0 : Int → Int) (order_0 : Int → Int) (k3 : 0 ≤ x3 ∧ x3 ≤ 26) (k4 : 0 ≤ x4 ∧ x4 ≤ 26) (d0 : x4 + 0 ≤ x3 ∧ x3 ≤ x4 + 4294967296) (g1 : x4 = members_0) (f4 : CYM (order_0) (member_0) (x3)) (kz_0_99 : 0 ≤ members_0 ∧ members_0 ≤ 26) : SEB (members_0) (order_0) (member_0) := by
  first
    | exact sem_cym ‹CYM _ _ _› (by omega)
set_option maxHeartbeats 4000000 in
theorem vc_Mo_bestOrder_1_4 (x2 : Int) (members_0 : Int) (member_0 : Int → Int) (best_0 : Int → Int) (k2 : 1000000 ≤ x2 ∧ x2 ≤ 1000000) (kz_0_99 : 0 ≤ members_0 ∧ members_0 ≤ 26) : BSL (members_0) (best_0) (member_0) (x2) := by
  first
    | assumption
    | (intro z; exfalso; omega)
    | exact fun _ => ‹BST _ _ _›
set_option maxHeartbeats 4000000 in
theorem vc_Mo_bestOrder_1_5 (x2 : Int) (x5 : Int) (k2 : 1000000 ≤ x2 ∧ x2 ≤ 1000000) (k5 : 1 ≤ x5 ∧ x5 ≤ 1) : (x5 = 1) ∨ (x2 ≤ 999999) := by
  first
    | omega
def o_Mo_bestOrder_1 : or_T := (34, 6, [(0, (2, 0, 0, [165])), (2, (0, 1000000, 1000000, [])), (3, (0, 0, 26, [])), (4, (0, 0, 26, [])), (5, (0, 1, 1, []))], [(9, [4, 1], [99]), (20, [1], [50, 1, 0, 99, 0, 3, 2, 0, 99, 0, 7]), (20, [1], [60, 1, 1, 334, 99, 98]), (20, [1, 3], [60, 0, 2, 336, 96, 98]), (24, [0, 1], [])], [], [(0, -2, 16777216, [])], [(20, [1], [60, 1, 1, 329, 99, 96]), (20, [1], [50, 1, 0, 99, 0, 3, 2, 0, 99, 0, 7]), (20, [1, 6, 5], [60, 1, 1, 331, 99, 96]), (20, [1], [60, 1, 2, 344, 99, 96, 98]), (20, [1, 2], [60, 1, 2, 346, 99, 97, 98]), (20, [5, 2], [50, 0, 0, 3, 6, 1, 2, 1, 0, 0, 1, 0, 2, 1, 1, 0, 999999]), (24, [0, 1], [])], [], [(3, 4, 0, 4294967296)])
theorem oo_Mo_bestOrder_1 {kA : Nat → ClassId} : or_ok PRD kA GG o_Mo_bestOrder_1 := by
  refine or_mk fun A ta ws vs hD hth hl => ?_
  intro t0 r0 t2 k2 t3 k3 t4 k4 t5 k5 d0 f1 f2 f3 f4 f6
  replace f1 := shm_612 f1
  replace f2 := shm_1617 f2
  replace f3 := shm_1618 f3
  replace f4 := shm_1619 f4
  replace f6 := shm_5 f6
  have q1 : n_v vs 1 = n_v vs 0 := f6.symm
  simp only [q1] at f1 f2 f3 f4
  have g1 : v_iv (n_v vs 4) = w_fi ws (n_v vs 0) 99 := congrArg v_iv f1
  have kz_0_99 := fdq_158 hD hth r0
  obtain ⟨x, ex, hx⟩ := iv_ex (ta := ta) (lo := (-2)) (hi := 16777216) (z := 16777216) (by omega) (by omega) (by omega) (by omega)
  have ex2 : v_iv (Value.int x) = 16777216 := ex
  have ex3 : (-2) ≤ v_iv (Value.int x) ∧ v_iv (Value.int x) ≤ 16777216 := tv_rng hx
  have e_0 : n_v (vs ++ [Value.int x]) 0 = n_v vs 0 := n_v_old (by rw [hl]; decide)
  have e_1 : n_v (vs ++ [Value.int x]) 1 = n_v vs 1 := n_v_old (by rw [hl]; decide)
  have e_2 : n_v (vs ++ [Value.int x]) 2 = n_v vs 2 := n_v_old (by rw [hl]; decide)
  have e_5 : n_v (vs ++ [Value.int x]) 5 = n_v vs 5 := n_v_old (by rw [hl]; decide)
  have e_6 : n_v (vs ++ [Value.int x]) 6 = Value.int x := n_v_new hl
  have nf0 : fc_1 PRD (20, [1], [60, 1, 1, 329, 99, 96]) ws (vs ++ [Value.int x]) := by
    refine ⟨nf_inA hl rfl, sgq_1621 ?_⟩
    · show DSM (w_fi ws (n_v (vs ++ [Value.int x]) 1) 99) (w_ei ws (w_ar ws (n_v (vs ++ [Value.int x]) 1) 96))
      simp only [e_1, q1]
      exact vc_Mo_bestOrder_1_0 (v_iv (n_v vs 3)) (v_iv (n_v vs 4)) (w_fi ws (n_v vs 0) 99) (w_ei ws (w_ar ws (n_v vs 0) 98)) (w_ei ws (w_ar ws (n_v vs 0) 96)) k3 k4 d0 g1 f3 f4 kz_0_99
  have nf1 : fc_1 PRD (20, [1], [50, 1, 0, 99, 0, 3, 2, 0, 99, 0, 7]) ws (vs ++ [Value.int x]) := by
    refine ⟨nf_inA hl rfl, sgq_1617 ?_⟩
    · show w_fi ws (n_v (vs ++ [Value.int x]) 1) 99 ≤ 7
      simp only [e_1, q1]
      exact vc_Mo_bestOrder_1_1 (w_fi ws (n_v vs 0) 99) f2 kz_0_99
  have nf2 : fc_1 PRD (20, [1, 6, 5], [60, 1, 1, 331, 99, 96]) ws (vs ++ [Value.int x]) := by
    refine ⟨nf_inA hl rfl, sgq_1622 ?_⟩
    · show ORZ (w_fi ws (n_v (vs ++ [Value.int x]) 1) 99) (w_ei ws (w_ar ws (n_v (vs ++ [Value.int x]) 1) 96)) (v_iv (n_v (vs ++ [Value.int x]) 6)) (v_iv (n_v (vs ++ [Value.int x]) 5))
      simp only [e_1, e_5, e_6, q1]
      exact vc_Mo_bestOrder_1_2 (v_iv (n_v vs 4)) (v_iv (n_v vs 5)) (w_fi ws (n_v vs 0) 99) (w_ei ws (w_ar ws (n_v vs 0) 96)) (v_iv (Value.int x)) k4 k5 g1 f2 kz_0_99 ex2
  have nf3 : fc_1 PRD (20, [1], [60, 1, 2, 344, 99, 96, 98]) ws (vs ++ [Value.int x]) := by
    refine ⟨nf_inA hl rfl, sgq_1623 ?_⟩
    · show SEB (w_fi ws (n_v (vs ++ [Value.int x]) 1) 99) (w_ei ws (w_ar ws (n_v (vs ++ [Value.int x]) 1) 96)) (w_ei ws (w_ar ws (n_v (vs ++ [Value.int x]) 1) 98))
      simp only [e_1, q1]
      exact vc_Mo_bestOrder_1_3 (v_iv (n_v vs 3)) (v_iv (n_v vs 4)) (w_fi ws (n_v vs 0) 99) (w_ei ws (w_ar ws (n_v vs 0) 98)) (w_ei ws (w_ar ws (n_v vs 0) 96)) k3 k4 d0 g1 f4 kz_0_99
  have nf4 : fc_1 PRD (20, [1, 2], [60, 1, 2, 346, 99, 97, 98]) ws (vs ++ [Value.int x]) := by
    refine ⟨nf_inA hl rfl, sgq_1624 ?_⟩
    · show BSL (w_fi ws (n_v (vs ++ [Value.int x]) 1) 99) (w_ei ws (w_ar ws (n_v (vs ++ [Value.int x]) 1) 97)) (w_ei ws (w_ar ws (n_v (vs ++ [Value.int x]) 1) 98)) (v_iv (n_v (vs ++ [Value.int x]) 2))
      simp only [e_1, e_2, q1]
      exact vc_Mo_bestOrder_1_4 (v_iv (n_v vs 2)) (w_fi ws (n_v vs 0) 99) (w_ei ws (w_ar ws (n_v vs 0) 98)) (w_ei ws (w_ar ws (n_v vs 0) 97)) k2 kz_0_99
  have nf5 : fc_1 PRD (20, [5, 2], [50, 0, 0, 3, 6, 1, 2, 1, 0, 0, 1, 0, 2, 1, 1, 0, 999999]) ws (vs ++ [Value.int x]) := by
    refine ⟨nf_inA hl rfl, sgq_1625 ?_⟩
    · show (v_iv (n_v (vs ++ [Value.int x]) 5) = 1) ∨ (v_iv (n_v (vs ++ [Value.int x]) 2) ≤ 999999)
      simp only [e_2, e_5]
      exact vc_Mo_bestOrder_1_5 (v_iv (n_v vs 2)) (v_iv (n_v vs 5)) k2 k5
  have nf6 : fc_1 PRD (24, [0, 1], []) ws (vs ++ [Value.int x]) := by
    refine ⟨nf_inA hl rfl, sgq_5 ?_⟩
    · show n_v (vs ++ [Value.int x]) 0 = n_v (vs ++ [Value.int x]) 1
      first | rfl | simp only [e_0, e_1, q1]
  exact ⟨(fun _ h => (by cases h)), [Value.int x], ag_one hx, List.forall_mem_cons.mpr ⟨⟨show (20 : Nat) < 100 from by decide, nf0⟩, List.forall_mem_cons.mpr ⟨⟨show (20 : Nat) < 100 from by decide, nf1⟩, List.forall_mem_cons.mpr ⟨⟨show (20 : Nat) < 100 from by decide, nf2⟩, List.forall_mem_cons.mpr ⟨⟨show (20 : Nat) < 100 from by decide, nf3⟩, List.forall_mem_cons.mpr ⟨⟨show (20 : Nat) < 100 from by decide, nf4⟩, List.forall_mem_cons.mpr ⟨⟨show (20 : Nat) < 100 from by decide, nf5⟩, List.forall_mem_cons.mpr ⟨⟨show (24 : Nat) < 100 from by decide, nf6⟩, (fun _ h => (by cases h))⟩⟩⟩⟩⟩⟩⟩, (fun _ h => (by cases h))⟩
set_option maxHeartbeats 4000000 in
theorem vc_Mo_bestOrder_2_0 (x3 : Int) (x7 : Int) (x8 : Int) (members_0 : Int) (member_0 : Int → Int) (member_1 : Int → Int) (members_1 : Int) (order_1 : Int → Int) (order_0 : Int → Int) (k3 : 0 ≤ x3 ∧ x3 ≤ 25) (k7 : 0 ≤ x7 ∧ x7 ≤ 25) (k8 : 1 ≤ x8 ∧ x8 ≤ 26) (d0 : x3 + 1 ≤ x8 ∧ x8 ≤ x3 + 1) (h6 : x7 = member_1 (x3)) (f13 : CYM (order_1) (member_1) (x3)) (fe_0_99_1 : members_0 = members_1) (hE_0_96_1 : ∀ j : Int, 0 ≤ j → (j = x3 → order_0 j = x7) ∧ (j ≠ x3 → order_0 j = order_1 j)) (hE_0_98_1 : ∀ j : Int, member_0 j = member_1 j) (kz_0_99 : 0 ≤ members_0 ∧ members_0 ≤ 26) : CYM (order_0) (member_0) (x8) := by
  subst fe_0_99_1
  have e_hE_0_98_1 := funext hE_0_98_1; subst e_hE_0_98_1
  first
    | (intro t a b; exfalso; omega)
    | (have h := ‹CYM _ _ _›
       intro t a b
       by_cases q : t = x3
       · rw [(hE_0_96_1 t a).1 q, q]; assumption
       · rw [(hE_0_96_1 t a).2 q]; exact h t a (by omega))
def o_Mo_bestOrder_2 : or_T := (6, 9, [(0, (2, 0, 0, [165])), (3, (0, 0, 25, [])), (5, (2, 0, 0, [232])), (7, (0, 0, 25, [])), (8, (0, 1, 26, []))], [(24, [0, 1], []), (100, [5, 3, 7], []), (10, [7, 6, 3], []), (9, [6, 1], [98]), (9, [5, 1], [96]), (20, [1, 3], [60, 0, 2, 336, 96, 98])], [], [], [(20, [1, 8], [60, 0, 2, 336, 96, 98])], [], [(8, 3, 1, 1), (3, 4, -4294967296, -1)])
theorem oo_Mo_bestOrder_2 {kA : Nat → ClassId} : or_ok PRD kA GG o_Mo_bestOrder_2 := by
  refine or_mk fun A ta ws vs hD hth hl => ?_
  intro t0 r0 t3 k3 t5 r5 t7 k7 t8 k8 d0 d2 f4 ta1 w1 le1 s1 f6 f7 f8 f13
  replace f4 := shm_5 f4
  have s1 : (∀ b j, w_el ws b j = if b = v_ad (n_v vs 5) ∧ j = (v_iv (n_v vs 3)).toNat then v_iv (n_v vs 7) else w_el w1 b j) ∧ ∀ b k, w_fd ws b k = w_fd w1 b k := s1.2
  replace f6 := shm_107 f6
  replace f7 := shm_615 f7
  replace f8 := shm_666 f8
  replace f13 := shm_1619 f13
  have q1 : n_v vs 1 = n_v vs 0 := f4.symm
  simp only [q1] at f7 f8 f13
  have ar_0_96_1 : w_ar w1 (n_v vs 0) 96 = w_ar ws (n_v vs 0) 96 := congrArg v_ad (s1.2 _ _).symm
  have ar_0_98_1 : w_ar w1 (n_v vs 0) 98 = w_ar ws (n_v vs 0) 98 := congrArg v_ad (s1.2 _ _).symm
  have cr_0_98 := fdq_157 hD hth r0
  have ad_6 : v_ad (n_v vs 6) = w_ar ws (n_v vs 0) 98 := (congrArg v_ad f7).trans ar_0_98_1
  have ad_5 : v_ad (n_v vs 5) = w_ar ws (n_v vs 0) 96 := (congrArg v_ad f8).trans ar_0_96_1
  simp only [ad_6] at f6
  have h6 : v_iv (n_v vs 7) = w_ei w1 (w_ar ws (n_v vs 0) 98) (v_iv (n_v vs 3)) := f6
  simp only [ar_0_98_1, ar_0_96_1] at f13
  have fe_0_99_1 : w_fi ws (n_v vs 0) 99 = w_fi w1 (n_v vs 0) 99 := congrArg v_iv (s1.2 _ _)
  have hE_0_96_1 : ∀ j : Int, 0 ≤ j → (j = v_iv (n_v vs 3) → w_ei ws (w_ar ws (n_v vs 0) 96) j = v_iv (n_v vs 7)) ∧ (j ≠ v_iv (n_v vs 3) → w_ei ws (w_ar ws (n_v vs 0) 96) j = w_ei w1 (w_ar ws (n_v vs 0) 96) j) := fun j hj => ⟨fun h => by unfold w_ei; rw [s1.1, if_pos ⟨ad_5.symm, by rw [h]⟩], fun h => by unfold w_ei; rw [s1.1, if_neg (fun e => h (by have := e.2; omega))]⟩
  have hE_0_98_1 : ∀ j : Int, w_ei ws (w_ar ws (n_v vs 0) 98) j = w_ei w1 (w_ar ws (n_v vs 0) 98) j := el_kp s1.1 r5 cr_0_98 (by decide)
  have kz_0_99 := fdq_158 hD hth r0
  have nf0 : fc_1 PRD (20, [1, 8], [60, 0, 2, 336, 96, 98]) ws (vs) := by
    refine ⟨nf_in hl rfl, sgq_1619 ?_⟩
    · show CYM (w_ei ws (w_ar ws (n_v vs 1) 96)) (w_ei ws (w_ar ws (n_v vs 1) 98)) (v_iv (n_v vs 8))
      rw [q1]
      exact vc_Mo_bestOrder_2_0 (v_iv (n_v vs 3)) (v_iv (n_v vs 7)) (v_iv (n_v vs 8)) (w_fi ws (n_v vs 0) 99) (w_ei ws (w_ar ws (n_v vs 0) 98)) (w_ei w1 (w_ar ws (n_v vs 0) 98)) (w_fi w1 (n_v vs 0) 99) (w_ei w1 (w_ar ws (n_v vs 0) 96)) (w_ei ws (w_ar ws (n_v vs 0) 96)) k3 k7 k8 d0 h6 f13 fe_0_99_1 hE_0_96_1 hE_0_98_1 kz_0_99
  refine ⟨(fun _ h => (by cases h)), [], trivial, ?_, (fun _ h => (by cases h))⟩
  rw [List.append_nil]
  exact List.forall_mem_cons.mpr ⟨⟨show (20 : Nat) < 100 from by decide, nf0⟩, (fun _ h => (by cases h))⟩
set_option maxHeartbeats 4000000 in
theorem vc_Mo_bestOrder_3_0 (x2 : Int) (members_0 : Int) (member_0 : Int → Int) (best_0 : Int → Int) (k2 : 0 ≤ x2 ∧ x2 ≤ 999999) (f5 : BSL (members_0) (best_0) (member_0) (x2)) (kz_0_99 : 0 ≤ members_0 ∧ members_0 ≤ 26) : BST (members_0) (best_0) (member_0) := by
  first
    | assumption
    | exact ‹BSL _ _ _ _› (by omega)
def o_Mo_bestOrder_3 : or_T := (232, 5, [(0, (2, 0, 0, [165])), (2, (0, 0, 999999, []))], [(20, [1, 2], [60, 1, 2, 346, 99, 97, 98]), (24, [0, 1], [])], [], [], [(20, [0], [60, 1, 2, 345, 99, 97, 98])], [], [])
theorem oo_Mo_bestOrder_3 {kA : Nat → ClassId} : or_ok PRD kA GG o_Mo_bestOrder_3 := by
  refine or_mk fun A ta ws vs hD hth hl => ?_
  intro t0 r0 t2 k2 f5 f7
  replace f5 := shm_1624 f5
  replace f7 := shm_5 f7
  have q1 : n_v vs 1 = n_v vs 0 := f7.symm
  simp only [q1] at f5
  have kz_0_99 := fdq_158 hD hth r0
  have nf0 : fc_1 PRD (20, [0], [60, 1, 2, 345, 99, 97, 98]) ws (vs) := ⟨nf_in hl rfl, sgq_1626 (vc_Mo_bestOrder_3_0 (v_iv (n_v vs 2)) (w_fi ws (n_v vs 0) 99) (w_ei ws (w_ar ws (n_v vs 0) 98)) (w_ei ws (w_ar ws (n_v vs 0) 97)) k2 f5 kz_0_99)⟩
  refine ⟨(fun _ h => (by cases h)), [], trivial, ?_, (fun _ h => (by cases h))⟩
  rw [List.append_nil]
  exact List.forall_mem_cons.mpr ⟨⟨show (20 : Nat) < 100 from by decide, nf0⟩, (fun _ h => (by cases h))⟩
set_option maxHeartbeats 4000000 in
theorem vc_Mo_bestOrder_4_0 (order_0 : Int → Int) (members_0 : Int) (f1 : DSM (members_0) (order_0)) (kz_0_99 : 0 ≤ members_0 ∧ members_0 ≤ 26) : DSM (members_0) (order_0) := by
  first
    | assumption
set_option maxHeartbeats 4000000 in
theorem vc_Mo_bestOrder_4_1 (members_0 : Int) (f2 : members_0 ≤ 7) (kz_0_99 : 0 ≤ members_0 ∧ members_0 ≤ 26) : members_0 ≤ 7 := by
  first
    | omega
set_option maxHeartbeats 4000000 in
theorem vc_Mo_bestOrder_4_2 (x3 : Int) (x4 : Int) (order_0 : Int → Int) (members_0 : Int) (gx : Int) (k3 : 1 ≤ x3 ∧ x3 ≤ 1) (k4 : (-2) ≤ x4 ∧ x4 ≤ 16777216) (f0 : x3 ≠ 0) (f3 : ORZ (members_0) (order_0) (x4) (x3)) (kz_0_99 : 0 ≤ members_0 ∧ members_0 ≤ 26) (ex2 : gx = 0 + (1 * x4 + 0)) : ORQ (members_0) (order_0) (gx) := by
  first
    | assumption
    | exact ‹ORZ _ _ _ _› (by omega)
    | (have h := ‹ORQ _ _ _›; unfold ORQ ORM at h ⊢; omega)
    | (have h := ‹ORZ _ _ _ _› (by omega); unfold ORQ; unfold ORM at h ⊢; omega)
set_option maxHeartbeats 4000000 in
theorem vc_Mo_bestOrder_4_3 (x3 : Int) (x4 : Int) (order_0 : Int → Int) (members_0 : Int) (gx : Int) (k3 : 1 ≤ x3 ∧ x3 ≤ 1) (k4 : (-2) ≤ x4 ∧ x4 ≤ 16777216) (f0 : x3 ≠ 0) (f2 : members_0 ≤ 7) (f3 : ORZ (members_0) (order_0) (x4) (x3)) (kz_0_99 : 0 ≤ members_0 ∧ members_0 ≤ 26) (ex2 : gx = 0 + (1 * x4 + 0)) : (-1) * gx + 0 ≤ (-1) := by
  first
    | (have h := orm_pos (by omega) (by omega) (‹ORZ _ _ _ _› (by omega)); omega)
    | (have h := orm_pos (by omega) (by omega) ‹ORQ _ _ _›; omega)
    | (have h := ‹ORZ _ _ _ _› (by omega); have := orm_pos (by omega) (by omega) h; omega)
set_option maxHeartbeats 4000000 in
theorem vc_Mo_bestOrder_4_4 (x6 : Int) (order_0 : Int → Int) (members_0 : Int) (member_0 : Int → Int) (f4 : SEB (members_0) (order_0) (member_0)) (kz_0_99 : 0 ≤ members_0 ∧ members_0 ≤ 26) : SEB (members_0) (order_0) (member_0) := by
  first
    | assumption
    | (have h := ‹SEM _ _ _›; unfold SEB; rw [show members_0 = x7 by omega]; exact h)
    | (have h := ‹SEM _ _ _›; unfold SEB; rw [show members_0 = x6 by omega]; exact h)
    | (have h := ‹SEM _ _ _›; unfold SEB; rw [show members_0 = x8 by omega]; exact h)
set_option maxHeartbeats 4000000 in
theorem vc_Mo_bestOrder_4_5 (x2 : Int) (members_0 : Int) (member_0 : Int → Int) (best_0 : Int → Int) (k2 : 0 ≤ x2 ∧ x2 ≤ 1000000) (f5 : BSL (members_0) (best_0) (member_0) (x2)) (kz_0_99 : 0 ≤ members_0 ∧ members_0 ≤ 26) : BSL (members_0) (best_0) (member_0) (x2) := by
  first
    | assumption
    | (intro z; exfalso; omega)
    | exact fun _ => ‹BST _ _ _›
set_option maxHeartbeats 4000000 in
theorem vc_Mo_bestOrder_4_6 (x5 : Int) (x6 : Int) (k5 : 0 ≤ x5 ∧ x5 ≤ 0) (k6 : 0 ≤ x6 ∧ x6 ≤ 0) : (0 ≤ x5) ∧ (x5 ≤ (9 * x6)) := by
  first
    | omega
def o_Mo_bestOrder_4 : or_T := (43, 7, [(0, (2, 0, 0, [165])), (1, (2, 0, 0, [165])), (2, (0, 0, 1000000, [])), (3, (0, 1, 1, [])), (4, (0, -2, 16777216, [])), (5, (0, 0, 0, [])), (6, (0, 0, 0, []))], [(8, [3], [1]), (20, [1], [60, 1, 1, 329, 99, 96]), (20, [1], [50, 1, 0, 99, 0, 3, 2, 0, 99, 0, 7]), (20, [1, 4, 3], [60, 1, 1, 331, 99, 96]), (20, [1], [60, 1, 2, 344, 99, 96, 98]), (20, [1, 2], [60, 1, 2, 346, 99, 97, 98]), (20, [3, 2], [50, 0, 0, 3, 6, 1, 2, 1, 0, 0, 1, 0, 2, 1, 1, 0, 999999]), (24, [0, 1], [])], [], [(0, -2, 16777216, [])], [(20, [1], [60, 1, 1, 329, 99, 96]), (20, [1], [50, 1, 0, 99, 0, 3, 2, 0, 99, 0, 7]), (20, [1, 7], [60, 1, 1, 330, 99, 96]), (23, [7], [-1, -1]), (20, [1], [60, 1, 2, 344, 99, 96, 98]), (20, [1, 2], [60, 1, 2, 346, 99, 97, 98]), (20, [5, 6], [50, 0, 0, 2, 6, 0, 2, 0, 0, 1, 0, 0, 2, 1, 0, 6, 2, 0, 9, 1, 1]), (24, [0, 1], [])], [(7, 4, 0, 0)], [])
theorem oo_Mo_bestOrder_4 {kA : Nat → ClassId} : or_ok PRD kA GG o_Mo_bestOrder_4 := by
  refine or_mk fun A ta ws vs hD hth hl => ?_
  intro t0 r0 t1 r1 t2 k2 t3 k3 t4 k4 t5 k5 t6 k6 f0 f1 f2 f3 f4 f5 f6 f7
  replace f0 := shm_142 f0
  replace f1 := shm_1621 f1
  replace f2 := shm_1617 f2
  replace f3 := shm_1622 f3
  replace f4 := shm_1623 f4
  replace f5 := shm_1624 f5
  replace f6 := shm_1625 f6
  replace f7 := shm_5 f7
  have q1 : n_v vs 1 = n_v vs 0 := f7.symm
  simp only [q1] at f1 f2 f3 f4 f5
  have cr_0_96 := fdq_166 hD hth r0
  have cr_0_97 := fdq_169 hD hth r0
  have cr_0_98 := fdq_157 hD hth r0
  have hK_0_96 := elq_96 hD hth cr_0_96
  have hK_0_97 := elq_99 hD hth cr_0_97
  have hK_0_98 := elq_90 hD hth cr_0_98
  have kz_0_99 := fdq_158 hD hth r0
  obtain ⟨x, ex, hx⟩ := iv_ex (ta := ta) (lo := (-2)) (hi := 16777216) (z := 0 + (1 * v_iv (n_v vs 4) + 0)) (by omega) (by omega) (by omega) (by omega)
  have ex2 : v_iv (Value.int x) = 0 + (1 * v_iv (n_v vs 4) + 0) := ex
  have ex3 : (-2) ≤ v_iv (Value.int x) ∧ v_iv (Value.int x) ≤ 16777216 := tv_rng hx
  have e_0 : n_v (vs ++ [Value.int x]) 0 = n_v vs 0 := n_v_old (by rw [hl]; decide)
  have e_1 : n_v (vs ++ [Value.int x]) 1 = n_v vs 1 := n_v_old (by rw [hl]; decide)
  have e_2 : n_v (vs ++ [Value.int x]) 2 = n_v vs 2 := n_v_old (by rw [hl]; decide)
  have e_5 : n_v (vs ++ [Value.int x]) 5 = n_v vs 5 := n_v_old (by rw [hl]; decide)
  have e_6 : n_v (vs ++ [Value.int x]) 6 = n_v vs 6 := n_v_old (by rw [hl]; decide)
  have e_7 : n_v (vs ++ [Value.int x]) 7 = Value.int x := n_v_new hl
  have nf0 : fc_1 PRD (20, [1], [60, 1, 1, 329, 99, 96]) ws (vs ++ [Value.int x]) := by
    refine ⟨nf_inA hl rfl, sgq_1621 ?_⟩
    · show DSM (w_fi ws (n_v (vs ++ [Value.int x]) 1) 99) (w_ei ws (w_ar ws (n_v (vs ++ [Value.int x]) 1) 96))
      simp only [e_1, q1]
      exact vc_Mo_bestOrder_4_0 (w_ei ws (w_ar ws (n_v vs 0) 96)) (w_fi ws (n_v vs 0) 99) f1 kz_0_99
  have nf1 : fc_1 PRD (20, [1], [50, 1, 0, 99, 0, 3, 2, 0, 99, 0, 7]) ws (vs ++ [Value.int x]) := by
    refine ⟨nf_inA hl rfl, sgq_1617 ?_⟩
    · show w_fi ws (n_v (vs ++ [Value.int x]) 1) 99 ≤ 7
      simp only [e_1, q1]
      exact vc_Mo_bestOrder_4_1 (w_fi ws (n_v vs 0) 99) f2 kz_0_99
  have nf2 : fc_1 PRD (20, [1, 7], [60, 1, 1, 330, 99, 96]) ws (vs ++ [Value.int x]) := by
    refine ⟨nf_inA hl rfl, sgq_1627 ?_⟩
    · show ORQ (w_fi ws (n_v (vs ++ [Value.int x]) 1) 99) (w_ei ws (w_ar ws (n_v (vs ++ [Value.int x]) 1) 96)) (v_iv (n_v (vs ++ [Value.int x]) 7))
      simp only [e_1, e_7, q1]
      exact vc_Mo_bestOrder_4_2 (v_iv (n_v vs 3)) (v_iv (n_v vs 4)) (w_ei ws (w_ar ws (n_v vs 0) 96)) (w_fi ws (n_v vs 0) 99) (v_iv (Value.int x)) k3 k4 f0 f3 kz_0_99 ex2
  have nf3 : fc_1 PRD (23, [7], [-1, -1]) ws (vs ++ [Value.int x]) := by
    refine ⟨nf_inA hl rfl, sgq_626 ?_⟩
    · show (-1) * v_iv (n_v (vs ++ [Value.int x]) 7) + 0 ≤ (-1)
      rw [e_7]
      exact vc_Mo_bestOrder_4_3 (v_iv (n_v vs 3)) (v_iv (n_v vs 4)) (w_ei ws (w_ar ws (n_v vs 0) 96)) (w_fi ws (n_v vs 0) 99) (v_iv (Value.int x)) k3 k4 f0 f2 f3 kz_0_99 ex2
  have nf4 : fc_1 PRD (20, [1], [60, 1, 2, 344, 99, 96, 98]) ws (vs ++ [Value.int x]) := by
    refine ⟨nf_inA hl rfl, sgq_1623 ?_⟩
    · show SEB (w_fi ws (n_v (vs ++ [Value.int x]) 1) 99) (w_ei ws (w_ar ws (n_v (vs ++ [Value.int x]) 1) 96)) (w_ei ws (w_ar ws (n_v (vs ++ [Value.int x]) 1) 98))
      simp only [e_1, q1]
      exact vc_Mo_bestOrder_4_4 (v_iv (n_v vs 6)) (w_ei ws (w_ar ws (n_v vs 0) 96)) (w_fi ws (n_v vs 0) 99) (w_ei ws (w_ar ws (n_v vs 0) 98)) f4 kz_0_99
  have nf5 : fc_1 PRD (20, [1, 2], [60, 1, 2, 346, 99, 97, 98]) ws (vs ++ [Value.int x]) := by
    refine ⟨nf_inA hl rfl, sgq_1624 ?_⟩
    · show BSL (w_fi ws (n_v (vs ++ [Value.int x]) 1) 99) (w_ei ws (w_ar ws (n_v (vs ++ [Value.int x]) 1) 97)) (w_ei ws (w_ar ws (n_v (vs ++ [Value.int x]) 1) 98)) (v_iv (n_v (vs ++ [Value.int x]) 2))
      simp only [e_1, e_2, q1]
      exact vc_Mo_bestOrder_4_5 (v_iv (n_v vs 2)) (w_fi ws (n_v vs 0) 99) (w_ei ws (w_ar ws (n_v vs 0) 98)) (w_ei ws (w_ar ws (n_v vs 0) 97)) k2 f5 kz_0_99
  have nf6 : fc_1 PRD (20, [5, 6], [50, 0, 0, 2, 6, 0, 2, 0, 0, 1, 0, 0, 2, 1, 0, 6, 2, 0, 9, 1, 1]) ws (vs ++ [Value.int x]) := by
    refine ⟨nf_inA hl rfl, sgq_1628 ?_⟩
    · show (0 ≤ v_iv (n_v (vs ++ [Value.int x]) 5)) ∧ (v_iv (n_v (vs ++ [Value.int x]) 5) ≤ (9 * v_iv (n_v (vs ++ [Value.int x]) 6)))
      simp only [e_5, e_6]
      exact vc_Mo_bestOrder_4_6 (v_iv (n_v vs 5)) (v_iv (n_v vs 6)) k5 k6
  have nf7 : fc_1 PRD (24, [0, 1], []) ws (vs ++ [Value.int x]) := by
    refine ⟨nf_inA hl rfl, sgq_5 ?_⟩
    · show n_v (vs ++ [Value.int x]) 0 = n_v (vs ++ [Value.int x]) 1
      first | rfl | simp only [e_0, e_1, q1]
  obtain ⟨x0, e0, _, _⟩ := tv_int t4 rfl
  have e1 : v_iv (n_v vs 4) = x0.toInt := by rw [e0]; rfl
  have ho : sy_ofs (vs ++ [Value.int x]) (7, 4, 0, 0) := by
    refine ⟨x, x0, by rw [List.getElem?_append_right (by rw [hl]; decide), hl]; rfl, ?_, ?_, ?_⟩
    · rw [List.getElem?_append_left (by rw [hl]; decide)]; exact n_v_some (by rw [hl]; decide) e0
    · show x0.toInt + 0 ≤ x.toInt; omega
    · show x.toInt ≤ x0.toInt + 0; omega
  exact ⟨(fun _ h => (by cases h)), [Value.int x], ag_one hx, List.forall_mem_cons.mpr ⟨⟨show (20 : Nat) < 100 from by decide, nf0⟩, List.forall_mem_cons.mpr ⟨⟨show (20 : Nat) < 100 from by decide, nf1⟩, List.forall_mem_cons.mpr ⟨⟨show (20 : Nat) < 100 from by decide, nf2⟩, List.forall_mem_cons.mpr ⟨⟨show (23 : Nat) < 100 from by decide, nf3⟩, List.forall_mem_cons.mpr ⟨⟨show (20 : Nat) < 100 from by decide, nf4⟩, List.forall_mem_cons.mpr ⟨⟨show (20 : Nat) < 100 from by decide, nf5⟩, List.forall_mem_cons.mpr ⟨⟨show (20 : Nat) < 100 from by decide, nf6⟩, List.forall_mem_cons.mpr ⟨⟨show (24 : Nat) < 100 from by decide, nf7⟩, (fun _ h => (by cases h))⟩⟩⟩⟩⟩⟩⟩⟩, List.forall_mem_cons.mpr ⟨ho, (fun _ h => (by cases h))⟩⟩
set_option maxHeartbeats 4000000 in
theorem vc_Mo_bestOrder_5_0 (x8 : Int) (members_0 : Int) (k8 : 0 ≤ x8 ∧ x8 ≤ 26) (g0 : x8 = members_0) (kz_0_99 : 0 ≤ members_0 ∧ members_0 ≤ 26) : x8 = members_0 := by
  first
    | omega
set_option maxHeartbeats 4000000 in
theorem vc_Mo_bestOrder_5_1 (x2 : Int) (members_0 : Int) (member_0 : Int → Int) (best_0 : Int → Int) (k2 : 0 ≤ x2 ∧ x2 ≤ 441) (f10 : BSL (members_0) (best_0) (member_0) (x2)) (kz_0_99 : 0 ≤ members_0 ∧ members_0 ≤ 26) : BST (members_0) (best_0) (member_0) := by
  first
    | assumption
    | exact ‹BSL _ _ _ _› (by omega)
set_option maxHeartbeats 4000000 in
theorem vc_Mo_bestOrder_5_2 (x2 : Int) (k2 : 0 ≤ x2 ∧ x2 ≤ 441) : x2 ≤ 999999 := by
  first
    | omega
set_option maxHeartbeats 4000000 in
theorem vc_Mo_bestOrder_5_3 (x6 : Int) (gx : Int) (k6 : (-2) ≤ x6 ∧ x6 ≤ 16777216) (ex2 : gx = x6) : 1 * gx + ((-1) * x6 + 0) ≤ 0 := by
  first
    | omega
set_option maxHeartbeats 4000000 in
theorem vc_Mo_bestOrder_5_4 (x6 : Int) (gx : Int) (k6 : (-2) ≤ x6 ∧ x6 ≤ 16777216) (ex2 : gx = x6) : (-1) * gx + (1 * x6 + 0) ≤ 0 := by
  first
    | omega
set_option maxHeartbeats 4000000 in
theorem vc_Mo_bestOrder_5_5 (x8 : Int) (members_0 : Int) (k8 : 0 ≤ x8 ∧ x8 ≤ 26) (g0 : x8 = members_0) (f6 : members_0 ≤ 7) (kz_0_99 : 0 ≤ members_0 ∧ members_0 ≤ 26) : x8 ≤ 8 := by
  first
    | omega
set_option maxHeartbeats 4000000 in
theorem vc_Mo_bestOrder_5_6 (x6 : Int) (x7 : Int) (x8 : Int) (members_0 : Int) (order_0 : Int → Int) (k8 : 0 ≤ x8 ∧ x8 ≤ 26) (g0 : x8 = members_0) (f5 : DSM (members_0) (order_0)) (kz_0_99 : 0 ≤ members_0 ∧ members_0 ≤ 26) : DIS (order_0) (x8) := by
  first
    | (rw [show x7 = members_0 by omega]; exact ‹DSM _ _›)
    | (rw [show x6 = members_0 by omega]; exact ‹DSM _ _›)
    | (rw [show x8 = members_0 by omega]; exact ‹DSM _ _›)
set_option maxHeartbeats 4000000 in
theorem vc_Mo_bestOrder_5_7 (x4 : Int) (x5 : Int) (x6 : Int) (x7 : Int) (x8 : Int) (members_0 : Int) (order_0 : Int → Int) (gx : Int) (k6 : (-2) ≤ x6 ∧ x6 ≤ 16777216) (k8 : 0 ≤ x8 ∧ x8 ≤ 26) (g0 : x8 = members_0) (f7 : ORQ (members_0) (order_0) (x6)) (kz_0_99 : 0 ≤ members_0 ∧ members_0 ≤ 26) (ex2 : gx = x6) : ORM (order_0) (x8) (gx) := by
  first
    | (have h := ‹ORQ _ _ _›; unfold ORQ at h; unfold ORM at h ⊢; rw [show x7 = members_0 by omega]; omega)
    | (have h := ‹ORQ _ _ _›; unfold ORQ at h; unfold ORM at h ⊢; rw [show x6 = members_0 by omega]; omega)
    | (have h := ‹ORQ _ _ _›; unfold ORQ at h; unfold ORM at h ⊢; rw [show x8 = members_0 by omega]; omega)
    | (rw [show x7 = members_0 by omega, show gx = x5 by omega]; exact ‹ORQ _ _ _›)
    | (rw [show x6 = members_0 by omega, show gx = x4 by omega]; exact ‹ORQ _ _ _›)
    | (rw [show x8 = members_0 by omega, show gx = x4 by omega]; exact ‹ORQ _ _ _›)
set_option maxHeartbeats 4000000 in
theorem vc_Mo_bestOrder_5_8 (x6 : Int) (x7 : Int) (x8 : Int) (members_0 : Int) (order_0 : Int → Int) (member_0 : Int → Int) (k8 : 0 ≤ x8 ∧ x8 ≤ 26) (g0 : x8 = members_0) (f9 : SEB (members_0) (order_0) (member_0)) (kz_0_99 : 0 ≤ members_0 ∧ members_0 ≤ 26) : SEM (order_0) (member_0) (x8) := by
  first
    | (rw [show x7 = members_0 by omega]; exact ‹SEB _ _ _›)
    | (rw [show x6 = members_0 by omega]; exact ‹SEB _ _ _›)
    | (rw [show x8 = members_0 by omega]; exact ‹SEB _ _ _›)
def o_Mo_bestOrder_5 : or_T := (225, 9, [(0, (2, 0, 0, [165])), (2, (0, 0, 441, [])), (6, (0, -2, 16777216, [])), (8, (0, 0, 26, []))], [(9, [8, 1], [99]), (20, [1], [60, 1, 1, 329, 99, 96]), (20, [1], [50, 1, 0, 99, 0, 3, 2, 0, 99, 0, 7]), (20, [1, 6], [60, 1, 1, 330, 99, 96]), (20, [1], [60, 1, 2, 344, 99, 96, 98]), (20, [1, 2], [60, 1, 2, 346, 99, 97, 98]), (24, [0, 1], [])], [], [(0, -2, 16777216, [])], [(20, [8, 1], [50, 1, 0, 1099, 1, 2, 1, 0, 2, 1, 99]), (20, [1], [60, 1, 2, 345, 99, 97, 98]), (20, [2], [50, 0, 0, 0, 2, 1, 0, 0, 999999]), (23, [9, 6], [0, 1, -1]), (23, [9, 6], [0, -1, 1]), (20, [8], [50, 0, 0, 0, 2, 1, 0, 0, 8]), (20, [1, 8], [60, 0, 1, 322, 96]), (20, [1, 8, 9], [60, 0, 1, 323, 96]), (20, [1, 8], [60, 0, 2, 328, 96, 98])], [], [])
theorem oo_Mo_bestOrder_5 {kA : Nat → ClassId} : or_ok PRD kA GG o_Mo_bestOrder_5 := by
  refine or_mk fun A ta ws vs hD hth hl => ?_
  intro t0 r0 t2 k2 t6 k6 t8 k8 f0 f5 f6 f7 f9 f10 f12
  replace f0 := shm_612 f0
  replace f5 := shm_1621 f5
  replace f6 := shm_1617 f6
  replace f7 := shm_1627 f7
  replace f9 := shm_1623 f9
  replace f10 := shm_1624 f10
  replace f12 := shm_5 f12
  have q1 : n_v vs 1 = n_v vs 0 := f12.symm
  simp only [q1] at f0 f5 f6 f7 f9 f10
  have g0 : v_iv (n_v vs 8) = w_fi ws (n_v vs 0) 99 := congrArg v_iv f0
  have kz_0_99 := fdq_158 hD hth r0
  obtain ⟨x, ex, hx⟩ := iv_ex (ta := ta) (lo := (-2)) (hi := 16777216) (z := v_iv (n_v vs 6)) (by omega) (by omega) (by omega) (by omega)
  have ex2 : v_iv (Value.int x) = v_iv (n_v vs 6) := ex
  have ex3 : (-2) ≤ v_iv (Value.int x) ∧ v_iv (Value.int x) ≤ 16777216 := tv_rng hx
  have e_1 : n_v (vs ++ [Value.int x]) 1 = n_v vs 1 := n_v_old (by rw [hl]; decide)
  have e_2 : n_v (vs ++ [Value.int x]) 2 = n_v vs 2 := n_v_old (by rw [hl]; decide)
  have e_6 : n_v (vs ++ [Value.int x]) 6 = n_v vs 6 := n_v_old (by rw [hl]; decide)
  have e_8 : n_v (vs ++ [Value.int x]) 8 = n_v vs 8 := n_v_old (by rw [hl]; decide)
  have e_9 : n_v (vs ++ [Value.int x]) 9 = Value.int x := n_v_new hl
  have nf0 : fc_1 PRD (20, [8, 1], [50, 1, 0, 1099, 1, 2, 1, 0, 2, 1, 99]) ws (vs ++ [Value.int x]) := by
    refine ⟨nf_inA hl rfl, sgq_1629 ?_⟩
    · show v_iv (n_v (vs ++ [Value.int x]) 8) = w_fi ws (n_v (vs ++ [Value.int x]) 1) 99
      simp only [e_1, e_8, q1]
      exact vc_Mo_bestOrder_5_0 (v_iv (n_v vs 8)) (w_fi ws (n_v vs 0) 99) k8 g0 kz_0_99
  have nf1 : fc_1 PRD (20, [1], [60, 1, 2, 345, 99, 97, 98]) ws (vs ++ [Value.int x]) := by
    refine ⟨nf_inA hl rfl, sgq_1626 ?_⟩
    · show BST (w_fi ws (n_v (vs ++ [Value.int x]) 1) 99) (w_ei ws (w_ar ws (n_v (vs ++ [Value.int x]) 1) 97)) (w_ei ws (w_ar ws (n_v (vs ++ [Value.int x]) 1) 98))
      simp only [e_1, q1]
      exact vc_Mo_bestOrder_5_1 (v_iv (n_v vs 2)) (w_fi ws (n_v vs 0) 99) (w_ei ws (w_ar ws (n_v vs 0) 98)) (w_ei ws (w_ar ws (n_v vs 0) 97)) k2 f10 kz_0_99
  have nf2 : fc_1 PRD (20, [2], [50, 0, 0, 0, 2, 1, 0, 0, 999999]) ws (vs ++ [Value.int x]) := by
    refine ⟨nf_inA hl rfl, sgq_1630 ?_⟩
    · show v_iv (n_v (vs ++ [Value.int x]) 2) ≤ 999999
      rw [e_2]
      exact vc_Mo_bestOrder_5_2 (v_iv (n_v vs 2)) k2
  have nf3 : fc_1 PRD (23, [9, 6], [0, 1, -1]) ws (vs ++ [Value.int x]) := by
    refine ⟨nf_inA hl rfl, sgq_7 ?_⟩
    · show 1 * v_iv (n_v (vs ++ [Value.int x]) 9) + ((-1) * v_iv (n_v (vs ++ [Value.int x]) 6) + 0) ≤ 0
      simp only [e_6, e_9]
      exact vc_Mo_bestOrder_5_3 (v_iv (n_v vs 6)) (v_iv (Value.int x)) k6 ex2
  have nf4 : fc_1 PRD (23, [9, 6], [0, -1, 1]) ws (vs ++ [Value.int x]) := by
    refine ⟨nf_inA hl rfl, sgq_22 ?_⟩
    · show (-1) * v_iv (n_v (vs ++ [Value.int x]) 9) + (1 * v_iv (n_v (vs ++ [Value.int x]) 6) + 0) ≤ 0
      simp only [e_6, e_9]
      exact vc_Mo_bestOrder_5_4 (v_iv (n_v vs 6)) (v_iv (Value.int x)) k6 ex2
  have nf5 : fc_1 PRD (20, [8], [50, 0, 0, 0, 2, 1, 0, 0, 8]) ws (vs ++ [Value.int x]) := by
    refine ⟨nf_inA hl rfl, sgq_660 ?_⟩
    · show v_iv (n_v (vs ++ [Value.int x]) 8) ≤ 8
      rw [e_8]
      exact vc_Mo_bestOrder_5_5 (v_iv (n_v vs 8)) (w_fi ws (n_v vs 0) 99) k8 g0 f6 kz_0_99
  have nf6 : fc_1 PRD (20, [1, 8], [60, 0, 1, 322, 96]) ws (vs ++ [Value.int x]) := by
    refine ⟨nf_inA hl rfl, sgq_661 ?_⟩
    · show DIS (w_ei ws (w_ar ws (n_v (vs ++ [Value.int x]) 1) 96)) (v_iv (n_v (vs ++ [Value.int x]) 8))
      simp only [e_1, e_8, q1]
      exact vc_Mo_bestOrder_5_6 (v_iv (n_v vs 6)) (v_iv (n_v vs 7)) (v_iv (n_v vs 8)) (w_fi ws (n_v vs 0) 99) (w_ei ws (w_ar ws (n_v vs 0) 96)) k8 g0 f5 kz_0_99
  have nf7 : fc_1 PRD (20, [1, 8, 9], [60, 0, 1, 323, 96]) ws (vs ++ [Value.int x]) := by
    refine ⟨nf_inA hl rfl, sgq_662 ?_⟩
    · show ORM (w_ei ws (w_ar ws (n_v (vs ++ [Value.int x]) 1) 96)) (v_iv (n_v (vs ++ [Value.int x]) 8)) (v_iv (n_v (vs ++ [Value.int x]) 9))
      simp only [e_1, e_8, e_9, q1]
      exact vc_Mo_bestOrder_5_7 (v_iv (n_v vs 4)) (v_iv (n_v vs 5)) (v_iv (n_v vs 6)) (v_iv (n_v vs 7)) (v_iv (n_v vs 8)) (w_fi ws (n_v vs 0) 99) (w_ei ws (w_ar ws (n_v vs 0) 96)) (v_iv (Value.int x)) k6 k8 g0 f7 kz_0_99 ex2
  have nf8 : fc_1 PRD (20, [1, 8], [60, 0, 2, 328, 96, 98]) ws (vs ++ [Value.int x]) := by
    refine ⟨nf_inA hl rfl, sgq_663 ?_⟩
    · show SEM (w_ei ws (w_ar ws (n_v (vs ++ [Value.int x]) 1) 96)) (w_ei ws (w_ar ws (n_v (vs ++ [Value.int x]) 1) 98)) (v_iv (n_v (vs ++ [Value.int x]) 8))
      simp only [e_1, e_8, q1]
      exact vc_Mo_bestOrder_5_8 (v_iv (n_v vs 6)) (v_iv (n_v vs 7)) (v_iv (n_v vs 8)) (w_fi ws (n_v vs 0) 99) (w_ei ws (w_ar ws (n_v vs 0) 96)) (w_ei ws (w_ar ws (n_v vs 0) 98)) k8 g0 f9 kz_0_99
  exact ⟨(fun _ h => (by cases h)), [Value.int x], ag_one hx, List.forall_mem_cons.mpr ⟨⟨show (20 : Nat) < 100 from by decide, nf0⟩, List.forall_mem_cons.mpr ⟨⟨show (20 : Nat) < 100 from by decide, nf1⟩, List.forall_mem_cons.mpr ⟨⟨show (20 : Nat) < 100 from by decide, nf2⟩, List.forall_mem_cons.mpr ⟨⟨show (23 : Nat) < 100 from by decide, nf3⟩, List.forall_mem_cons.mpr ⟨⟨show (23 : Nat) < 100 from by decide, nf4⟩, List.forall_mem_cons.mpr ⟨⟨show (20 : Nat) < 100 from by decide, nf5⟩, List.forall_mem_cons.mpr ⟨⟨show (20 : Nat) < 100 from by decide, nf6⟩, List.forall_mem_cons.mpr ⟨⟨show (20 : Nat) < 100 from by decide, nf7⟩, List.forall_mem_cons.mpr ⟨⟨show (20 : Nat) < 100 from by decide, nf8⟩, (fun _ h => (by cases h))⟩⟩⟩⟩⟩⟩⟩⟩⟩, (fun _ h => (by cases h))⟩
set_option maxHeartbeats 4000000 in
theorem vc_Mo_bestOrder_6_0 (x6 : Int) (x7 : Int) (x8 : Int) (members_0 : Int) (order_0 : Int → Int) (k8 : 0 ≤ x8 ∧ x8 ≤ 26) (f0 : x8 = members_0) (f13 : DIS (order_0) (x8)) (kz_0_99 : 0 ≤ members_0 ∧ members_0 ≤ 26) : DSM (members_0) (order_0) := by
  first
    | (have h := ‹DIS _ _›; unfold DSM; rw [show members_0 = x7 by omega]; exact h)
    | (have h := ‹DIS _ _›; unfold DSM; rw [show members_0 = x6 by omega]; exact h)
    | (have h := ‹DIS _ _›; unfold DSM; rw [show members_0 = x8 by omega]; exact h)
set_option maxHeartbeats 4000000 in
theorem vc_Mo_bestOrder_6_1 (members_0 : Int) (f8 : members_0 ≤ 7) (kz_0_99 : 0 ≤ members_0 ∧ members_0 ≤ 26) : members_0 ≤ 7 := by
  first
    | omega
set_option maxHeartbeats 4000000 in
theorem vc_Mo_bestOrder_6_2 (x6 : Int) (x7 : Int) (x8 : Int) (x9 : Int) (x10 : Int) (members_0 : Int) (order_0 : Int → Int) (gx : Int) (k6 : (-2) ≤ x6 ∧ x6 ≤ 16777216) (k8 : 0 ≤ x8 ∧ x8 ≤ 26) (k9 : (-2) ≤ x9 ∧ x9 ≤ 16777216) (k10 : 0 ≤ x10 ∧ x10 ≤ 1) (f0 : x8 = members_0) (f3 : 1 * x9 + ((-1) * x6 + 0) ≤ 0) (f4 : (-1) * x9 + (1 * x6 + 0) ≤ 0) (f14 : ORN (order_0) (x8) (x9) (x10)) (kz_0_99 : 0 ≤ members_0 ∧ members_0 ≤ 26) (ex2 : gx = 0 + (1 * x6 + 0)) : ORR (members_0) (order_0) (gx) (x10) := by
  first
    | (have h := ‹ORN _ _ _ _›; intro z; have := h z; rw [show members_0 = x7 by omega]; omega)
    | (have h := ‹ORN _ _ _ _›; intro z; have := h z; rw [show members_0 = x6 by omega]; omega)
    | (have h := ‹ORN _ _ _ _›; intro z; have := h z; rw [show members_0 = x8 by omega]; omega)
set_option maxHeartbeats 4000000 in
theorem vc_Mo_bestOrder_6_3 (x6 : Int) (x9 : Int) (gx : Int) (k6 : (-2) ≤ x6 ∧ x6 ≤ 16777216) (k9 : (-2) ≤ x9 ∧ x9 ≤ 16777216) (f3 : 1 * x9 + ((-1) * x6 + 0) ≤ 0) (f4 : (-1) * x9 + (1 * x6 + 0) ≤ 0) (f9 : (-1) * x6 + 0 ≤ (-1)) (ex2 : gx = 0 + (1 * x6 + 0)) : (-1) * gx + 0 ≤ (-1) := by
  first
    | omega
set_option maxHeartbeats 4000000 in
theorem vc_Mo_bestOrder_6_4 (x6 : Int) (x7 : Int) (x8 : Int) (members_0 : Int) (member_0 : Int → Int) (order_0 : Int → Int) (k8 : 0 ≤ x8 ∧ x8 ≤ 26) (f0 : x8 = members_0) (f15 : SEM (order_0) (member_0) (x8)) (kz_0_99 : 0 ≤ members_0 ∧ members_0 ≤ 26) : SEB (members_0) (order_0) (member_0) := by
  first
    | assumption
    | (have h := ‹SEM _ _ _›; unfold SEB; rw [show members_0 = x7 by omega]; exact h)
    | (have h := ‹SEM _ _ _›; unfold SEB; rw [show members_0 = x6 by omega]; exact h)
    | (have h := ‹SEM _ _ _›; unfold SEB; rw [show members_0 = x8 by omega]; exact h)
set_option maxHeartbeats 4000000 in
theorem vc_Mo_bestOrder_6_5 (members_0 : Int) (best_0 : Int → Int) (member_0 : Int → Int) (f1 : BST (members_0) (best_0) (member_0)) (kz_0_99 : 0 ≤ members_0 ∧ members_0 ≤ 26) : BST (members_0) (best_0) (member_0) := by
  first
    | assumption
    | exact ‹BSL _ _ _ _› (by omega)
set_option maxHeartbeats 4000000 in
theorem vc_Mo_bestOrder_6_6 (x2 : Int) (k2 : 0 ≤ x2 ∧ x2 ≤ 441) (f2 : x2 ≤ 999999) : x2 ≤ 999999 := by
  first
    | omega
def o_Mo_bestOrder_6 : or_T := (229, 11, [(0, (2, 0, 0, [165])), (1, (2, 0, 0, [165])), (2, (0, 0, 441, [])), (4, (0, 0, 441, [])), (5, (0, 0, 48, [])), (6, (0, -2, 16777216, [])), (7, (0, 0, 48, [])), (8, (0, 0, 26, [])), (9, (0, -2, 16777216, [])), (10, (0, 0, 1, []))], [(20, [8, 1], [50, 1, 0, 1099, 1, 2, 1, 0, 2, 1, 99]), (20, [1], [60, 1, 2, 345, 99, 97, 98]), (20, [2], [50, 0, 0, 0, 2, 1, 0, 0, 999999]), (23, [9, 6], [0, 1, -1]), (23, [9, 6], [0, -1, 1]), (20, [8], [50, 0, 0, 0, 2, 1, 0, 0, 8]), (20, [7, 1], [30, 0, 1, 0, 0, -1, 3, 2005001]), (20, [7, 1], [30, 0, -1, 0, 0, 1, 3, 2005001]), (20, [1], [50, 1, 0, 99, 0, 3, 2, 0, 99, 0, 7]), (23, [6], [-1, -1]), (20, [1, 2], [60, 1, 2, 346, 99, 97, 98]), (20, [4, 5], [50, 0, 0, 2, 6, 0, 2, 0, 0, 1, 0, 0, 2, 1, 0, 6, 2, 0, 9, 1, 1]), (24, [0, 1], []), (20, [1, 8], [60, 0, 1, 322, 96]), (20, [1, 8, 9, 10], [60, 0, 1, 324, 96]), (20, [1, 8], [60, 0, 2, 328, 96, 98]), (102, [9], [6901746346790563787434755862277025452451108972170386555162524223799296]), (23, [9, 6], [0, 1, -1]), (23, [9, 6], [0, -1, 1]), (7, [4, 2], [3]), (7, [5, 7], [3]), (23, [6], [-1, -1])], [], [(0, -2, 16777216, [])], [(20, [1], [60, 1, 1, 329, 99, 96]), (20, [1], [50, 1, 0, 99, 0, 3, 2, 0, 99, 0, 7]), (20, [1, 11, 10], [60, 1, 1, 332, 99, 96]), (23, [11], [-1, -1]), (20, [1], [60, 1, 2, 344, 99, 96, 98]), (20, [1], [60, 1, 2, 345, 99, 97, 98]), (20, [2], [50, 0, 0, 0, 2, 1, 0, 0, 999999]), (24, [0, 1], [])], [(11, 6, 0, 0)], [(4, 2, 0, 4294967296), (5, 7, 0, 4294967296)])
theorem oo_Mo_bestOrder_6 {kA : Nat → ClassId} : or_ok PRD kA GG o_Mo_bestOrder_6 := by
  refine or_mk fun A ta ws vs hD hth hl => ?_
  intro t0 r0 t1 r1 t2 k2 t4 k4 t5 k5 t6 k6 t7 k7 t8 k8 t9 k9 t10 k10 d0 d1 f0 f1 f2 f3 f4 f5 f6 f7 f8 f9 f10 f11 f12 f13 f14 f15 ta1 w1 le1 s1 f17 f18 f19 f20 f21
  replace f0 := shm_1629 f0
  replace f1 := shm_1626 f1
  replace f2 := shm_1630 f2
  replace f3 := shm_7 f3
  replace f4 := shm_22 f4
  replace f5 := shm_660 f5
  replace f6 := shm_121 f6
  replace f7 := shm_122 f7
  replace f8 := shm_1617 f8
  replace f9 := shm_626 f9
  replace f10 := shm_1624 f10
  replace f11 := shm_1628 f11
  replace f12 := shm_5 f12
  replace f13 := shm_661 f13
  replace f14 := shm_665 f14
  replace f15 := shm_663 f15
  replace f17 := shm_7 f17
  replace f18 := shm_22 f18
  replace f19 := shm_2 f19
  replace f20 := shm_2 f20
  replace f21 := shm_626 f21
  have q1 : n_v vs 1 = n_v vs 0 := f12.symm
  simp only [q1] at f0 f1 f6 f7 f8 f10 f13 f14 f15
  have cr_0_2 := fdq_10 hD hth r0
  have cr_0_96 := fdq_166 hD hth r0
  have cr_0_97 := fdq_169 hD hth r0
  have cr_0_98 := fdq_157 hD hth r0
  have hK_0_96 := elq_96 hD hth cr_0_96
  have hK_0_97 := elq_99 hD hth cr_0_97
  have hK_0_98 := elq_90 hD hth cr_0_98
  have kz_0_99 := fdq_158 hD hth r0
  obtain ⟨x, ex, hx⟩ := iv_ex (ta := ta) (lo := (-2)) (hi := 16777216) (z := 0 + (1 * v_iv (n_v vs 6) + 0)) (by omega) (by omega) (by omega) (by omega)
  have ex2 : v_iv (Value.int x) = 0 + (1 * v_iv (n_v vs 6) + 0) := ex
  have ex3 : (-2) ≤ v_iv (Value.int x) ∧ v_iv (Value.int x) ≤ 16777216 := tv_rng hx
  have e_0 : n_v (vs ++ [Value.int x]) 0 = n_v vs 0 := n_v_old (by rw [hl]; decide)
  have e_1 : n_v (vs ++ [Value.int x]) 1 = n_v vs 1 := n_v_old (by rw [hl]; decide)
  have e_2 : n_v (vs ++ [Value.int x]) 2 = n_v vs 2 := n_v_old (by rw [hl]; decide)
  have e_10 : n_v (vs ++ [Value.int x]) 10 = n_v vs 10 := n_v_old (by rw [hl]; decide)
  have e_11 : n_v (vs ++ [Value.int x]) 11 = Value.int x := n_v_new hl
  have nf0 : fc_1 PRD (20, [1], [60, 1, 1, 329, 99, 96]) ws (vs ++ [Value.int x]) := by
    refine ⟨nf_inA hl rfl, sgq_1621 ?_⟩
    · show DSM (w_fi ws (n_v (vs ++ [Value.int x]) 1) 99) (w_ei ws (w_ar ws (n_v (vs ++ [Value.int x]) 1) 96))
      simp only [e_1, q1]
      exact vc_Mo_bestOrder_6_0 (v_iv (n_v vs 6)) (v_iv (n_v vs 7)) (v_iv (n_v vs 8)) (w_fi ws (n_v vs 0) 99) (w_ei ws (w_ar ws (n_v vs 0) 96)) k8 f0 f13 kz_0_99
  have nf1 : fc_1 PRD (20, [1], [50, 1, 0, 99, 0, 3, 2, 0, 99, 0, 7]) ws (vs ++ [Value.int x]) := by
    refine ⟨nf_inA hl rfl, sgq_1617 ?_⟩
    · show w_fi ws (n_v (vs ++ [Value.int x]) 1) 99 ≤ 7
      simp only [e_1, q1]
      exact vc_Mo_bestOrder_6_1 (w_fi ws (n_v vs 0) 99) f8 kz_0_99
  have nf2 : fc_1 PRD (20, [1, 11, 10], [60, 1, 1, 332, 99, 96]) ws (vs ++ [Value.int x]) := by
    refine ⟨nf_inA hl rfl, sgq_1631 ?_⟩
    · show ORR (w_fi ws (n_v (vs ++ [Value.int x]) 1) 99) (w_ei ws (w_ar ws (n_v (vs ++ [Value.int x]) 1) 96)) (v_iv (n_v (vs ++ [Value.int x]) 11)) (v_iv (n_v (vs ++ [Value.int x]) 10))
      simp only [e_1, e_10, e_11, q1]
      exact vc_Mo_bestOrder_6_2 (v_iv (n_v vs 6)) (v_iv (n_v vs 7)) (v_iv (n_v vs 8)) (v_iv (n_v vs 9)) (v_iv (n_v vs 10)) (w_fi ws (n_v vs 0) 99) (w_ei ws (w_ar ws (n_v vs 0) 96)) (v_iv (Value.int x)) k6 k8 k9 k10 f0 f3 f4 f14 kz_0_99 ex2
  have nf3 : fc_1 PRD (23, [11], [-1, -1]) ws (vs ++ [Value.int x]) := by
    refine ⟨nf_inA hl rfl, sgq_626 ?_⟩
    · show (-1) * v_iv (n_v (vs ++ [Value.int x]) 11) + 0 ≤ (-1)
      rw [e_11]
      exact vc_Mo_bestOrder_6_3 (v_iv (n_v vs 6)) (v_iv (n_v vs 9)) (v_iv (Value.int x)) k6 k9 f3 f4 f9 ex2
  have nf4 : fc_1 PRD (20, [1], [60, 1, 2, 344, 99, 96, 98]) ws (vs ++ [Value.int x]) := by
    refine ⟨nf_inA hl rfl, sgq_1623 ?_⟩
    · show SEB (w_fi ws (n_v (vs ++ [Value.int x]) 1) 99) (w_ei ws (w_ar ws (n_v (vs ++ [Value.int x]) 1) 96)) (w_ei ws (w_ar ws (n_v (vs ++ [Value.int x]) 1) 98))
      simp only [e_1, q1]
      exact vc_Mo_bestOrder_6_4 (v_iv (n_v vs 6)) (v_iv (n_v vs 7)) (v_iv (n_v vs 8)) (w_fi ws (n_v vs 0) 99) (w_ei ws (w_ar ws (n_v vs 0) 98)) (w_ei ws (w_ar ws (n_v vs 0) 96)) k8 f0 f15 kz_0_99
  have nf5 : fc_1 PRD (20, [1], [60, 1, 2, 345, 99, 97, 98]) ws (vs ++ [Value.int x]) := by
    refine ⟨nf_inA hl rfl, sgq_1626 ?_⟩
    · show BST (w_fi ws (n_v (vs ++ [Value.int x]) 1) 99) (w_ei ws (w_ar ws (n_v (vs ++ [Value.int x]) 1) 97)) (w_ei ws (w_ar ws (n_v (vs ++ [Value.int x]) 1) 98))
      simp only [e_1, q1]
      exact vc_Mo_bestOrder_6_5 (w_fi ws (n_v vs 0) 99) (w_ei ws (w_ar ws (n_v vs 0) 97)) (w_ei ws (w_ar ws (n_v vs 0) 98)) f1 kz_0_99
  have nf6 : fc_1 PRD (20, [2], [50, 0, 0, 0, 2, 1, 0, 0, 999999]) ws (vs ++ [Value.int x]) := by
    refine ⟨nf_inA hl rfl, sgq_1630 ?_⟩
    · show v_iv (n_v (vs ++ [Value.int x]) 2) ≤ 999999
      rw [e_2]
      exact vc_Mo_bestOrder_6_6 (v_iv (n_v vs 2)) k2 f2
  have nf7 : fc_1 PRD (24, [0, 1], []) ws (vs ++ [Value.int x]) := by
    refine ⟨nf_inA hl rfl, sgq_5 ?_⟩
    · show n_v (vs ++ [Value.int x]) 0 = n_v (vs ++ [Value.int x]) 1
      first | rfl | simp only [e_0, e_1, q1]
  obtain ⟨x0, e0, _, _⟩ := tv_int t6 rfl
  have e1 : v_iv (n_v vs 6) = x0.toInt := by rw [e0]; rfl
  have ho : sy_ofs (vs ++ [Value.int x]) (11, 6, 0, 0) := by
    refine ⟨x, x0, by rw [List.getElem?_append_right (by rw [hl]; decide), hl]; rfl, ?_, ?_, ?_⟩
    · rw [List.getElem?_append_left (by rw [hl]; decide)]; exact n_v_some (by rw [hl]; decide) e0
    · show x0.toInt + 0 ≤ x.toInt; omega
    · show x.toInt ≤ x0.toInt + 0; omega
  exact ⟨(fun _ h => (by cases h)), [Value.int x], ag_one hx, List.forall_mem_cons.mpr ⟨⟨show (20 : Nat) < 100 from by decide, nf0⟩, List.forall_mem_cons.mpr ⟨⟨show (20 : Nat) < 100 from by decide, nf1⟩, List.forall_mem_cons.mpr ⟨⟨show (20 : Nat) < 100 from by decide, nf2⟩, List.forall_mem_cons.mpr ⟨⟨show (23 : Nat) < 100 from by decide, nf3⟩, List.forall_mem_cons.mpr ⟨⟨show (20 : Nat) < 100 from by decide, nf4⟩, List.forall_mem_cons.mpr ⟨⟨show (20 : Nat) < 100 from by decide, nf5⟩, List.forall_mem_cons.mpr ⟨⟨show (20 : Nat) < 100 from by decide, nf6⟩, List.forall_mem_cons.mpr ⟨⟨show (24 : Nat) < 100 from by decide, nf7⟩, (fun _ h => (by cases h))⟩⟩⟩⟩⟩⟩⟩⟩, List.forall_mem_cons.mpr ⟨ho, (fun _ h => (by cases h))⟩⟩
set_option maxHeartbeats 4000000 in
theorem vc_Mo_bestOrder_7_0 (order_0 : Int → Int) (members_0 : Int) (f4 : DSM (members_0) (order_0)) (kz_0_99 : 0 ≤ members_0 ∧ members_0 ≤ 26) : DSM (members_0) (order_0) := by
  first
    | assumption
set_option maxHeartbeats 4000000 in
theorem vc_Mo_bestOrder_7_1 (members_0 : Int) (f5 : members_0 ≤ 7) (kz_0_99 : 0 ≤ members_0 ∧ members_0 ≤ 26) : members_0 ≤ 7 := by
  first
    | omega
set_option maxHeartbeats 4000000 in
theorem vc_Mo_bestOrder_7_2 (x6 : Int) (order_0 : Int → Int) (members_0 : Int) (gx : Int) (k6 : (-2) ≤ x6 ∧ x6 ≤ 16777216) (f6 : ORQ (members_0) (order_0) (x6)) (kz_0_99 : 0 ≤ members_0 ∧ members_0 ≤ 26) (ex2 : gx = 0 + (1 * x6 + 0)) : ORQ (members_0) (order_0) (gx) := by
  first
    | assumption
    | exact ‹ORZ _ _ _ _› (by omega)
    | (have h := ‹ORQ _ _ _›; unfold ORQ ORM at h ⊢; omega)
    | (have h := ‹ORZ _ _ _ _› (by omega); unfold ORQ; unfold ORM at h ⊢; omega)
set_option maxHeartbeats 4000000 in
theorem vc_Mo_bestOrder_7_3 (x6 : Int) (gx : Int) (k6 : (-2) ≤ x6 ∧ x6 ≤ 16777216) (f7 : (-1) * x6 + 0 ≤ (-1)) (ex2 : gx = 0 + (1 * x6 + 0)) : (-1) * gx + 0 ≤ (-1) := by
  first
    | omega
set_option maxHeartbeats 4000000 in
theorem vc_Mo_bestOrder_7_4 (x6 : Int) (x7 : Int) (x8 : Int) (order_0 : Int → Int) (members_0 : Int) (member_0 : Int → Int) (f8 : SEB (members_0) (order_0) (member_0)) (kz_0_99 : 0 ≤ members_0 ∧ members_0 ≤ 26) : SEB (members_0) (order_0) (member_0) := by
  first
    | assumption
    | (have h := ‹SEM _ _ _›; unfold SEB; rw [show members_0 = x7 by omega]; exact h)
    | (have h := ‹SEM _ _ _›; unfold SEB; rw [show members_0 = x6 by omega]; exact h)
    | (have h := ‹SEM _ _ _›; unfold SEB; rw [show members_0 = x8 by omega]; exact h)
set_option maxHeartbeats 4000000 in
theorem vc_Mo_bestOrder_7_5 (x8 : Int) (order_0 : Int → Int) (best_0 : Int → Int) (k8 : 0 ≤ x8 ∧ x8 ≤ 0) : CPB (best_0) (order_0) (x8) := by
  first
    | (intro j a b; exfalso; omega)
set_option maxHeartbeats 4000000 in
theorem vc_Mo_bestOrder_7_6 (x4 : Int) (k4 : 0 ≤ x4 ∧ x4 ≤ 441) : x4 ≤ 999999 := by
  first
    | omega
def o_Mo_bestOrder_7 : or_T := (191, 9, [(0, (2, 0, 0, [165])), (1, (2, 0, 0, [165])), (2, (0, 1, 1000000, [])), (4, (0, 0, 441, [])), (5, (0, 0, 48, [])), (6, (0, -2, 16777216, [])), (7, (0, 0, 48, [])), (8, (0, 0, 0, []))], [(7, [4, 2], [2]), (7, [5, 7], [3]), (20, [7, 1], [30, 0, 1, 0, 0, -1, 3, 2005001]), (20, [7, 1], [30, 0, -1, 0, 0, 1, 3, 2005001]), (20, [1], [60, 1, 1, 329, 99, 96]), (20, [1], [50, 1, 0, 99, 0, 3, 2, 0, 99, 0, 7]), (20, [1, 6], [60, 1, 1, 330, 99, 96]), (23, [6], [-1, -1]), (20, [1], [60, 1, 2, 344, 99, 96, 98]), (20, [1, 2], [60, 1, 2, 346, 99, 97, 98]), (20, [4, 5], [50, 0, 0, 2, 6, 0, 2, 0, 0, 1, 0, 0, 2, 1, 0, 6, 2, 0, 9, 1, 1]), (24, [0, 1], [])], [], [(0, -2, 16777216, [])], [(20, [1], [60, 1, 1, 329, 99, 96]), (20, [1], [50, 1, 0, 99, 0, 3, 2, 0, 99, 0, 7]), (20, [1, 9], [60, 1, 1, 330, 99, 96]), (23, [9], [-1, -1]), (20, [1], [60, 1, 2, 344, 99, 96, 98]), (20, [1, 8], [60, 0, 2, 347, 97, 96]), (20, [4], [50, 0, 0, 0, 2, 1, 0, 0, 999999]), (24, [0, 1], [])], [(9, 6, 0, 0)], [(4, 2, -4294967296, -1), (5, 7, 0, 4294967296)])
theorem oo_Mo_bestOrder_7 {kA : Nat → ClassId} : or_ok PRD kA GG o_Mo_bestOrder_7 := by
  refine or_mk fun A ta ws vs hD hth hl => ?_
  intro t0 r0 t1 r1 t2 k2 t4 k4 t5 k5 t6 k6 t7 k7 t8 k8 d0 d1 f0 f1 f2 f3 f4 f5 f6 f7 f8 f9 f10 f11
  replace f0 := shm_6 f0
  replace f1 := shm_2 f1
  replace f2 := shm_121 f2
  replace f3 := shm_122 f3
  replace f4 := shm_1621 f4
  replace f5 := shm_1617 f5
  replace f6 := shm_1627 f6
  replace f7 := shm_626 f7
  replace f8 := shm_1623 f8
  replace f9 := shm_1624 f9
  replace f10 := shm_1628 f10
  replace f11 := shm_5 f11
  have q1 : n_v vs 1 = n_v vs 0 := f11.symm
  simp only [q1] at f2 f3 f4 f5 f6 f8 f9
  have cr_0_2 := fdq_10 hD hth r0
  have cr_0_96 := fdq_166 hD hth r0
  have cr_0_97 := fdq_169 hD hth r0
  have cr_0_98 := fdq_157 hD hth r0
  have hK_0_96 := elq_96 hD hth cr_0_96
  have hK_0_97 := elq_99 hD hth cr_0_97
  have hK_0_98 := elq_90 hD hth cr_0_98
  have kz_0_99 := fdq_158 hD hth r0
  obtain ⟨x, ex, hx⟩ := iv_ex (ta := ta) (lo := (-2)) (hi := 16777216) (z := 0 + (1 * v_iv (n_v vs 6) + 0)) (by omega) (by omega) (by omega) (by omega)
  have ex2 : v_iv (Value.int x) = 0 + (1 * v_iv (n_v vs 6) + 0) := ex
  have ex3 : (-2) ≤ v_iv (Value.int x) ∧ v_iv (Value.int x) ≤ 16777216 := tv_rng hx
  have e_0 : n_v (vs ++ [Value.int x]) 0 = n_v vs 0 := n_v_old (by rw [hl]; decide)
  have e_1 : n_v (vs ++ [Value.int x]) 1 = n_v vs 1 := n_v_old (by rw [hl]; decide)
  have e_4 : n_v (vs ++ [Value.int x]) 4 = n_v vs 4 := n_v_old (by rw [hl]; decide)
  have e_8 : n_v (vs ++ [Value.int x]) 8 = n_v vs 8 := n_v_old (by rw [hl]; decide)
  have e_9 : n_v (vs ++ [Value.int x]) 9 = Value.int x := n_v_new hl
  have nf0 : fc_1 PRD (20, [1], [60, 1, 1, 329, 99, 96]) ws (vs ++ [Value.int x]) := by
    refine ⟨nf_inA hl rfl, sgq_1621 ?_⟩
    · show DSM (w_fi ws (n_v (vs ++ [Value.int x]) 1) 99) (w_ei ws (w_ar ws (n_v (vs ++ [Value.int x]) 1) 96))
      simp only [e_1, q1]
      exact vc_Mo_bestOrder_7_0 (w_ei ws (w_ar ws (n_v vs 0) 96)) (w_fi ws (n_v vs 0) 99) f4 kz_0_99
  have nf1 : fc_1 PRD (20, [1], [50, 1, 0, 99, 0, 3, 2, 0, 99, 0, 7]) ws (vs ++ [Value.int x]) := by
    refine ⟨nf_inA hl rfl, sgq_1617 ?_⟩
    · show w_fi ws (n_v (vs ++ [Value.int x]) 1) 99 ≤ 7
      simp only [e_1, q1]
      exact vc_Mo_bestOrder_7_1 (w_fi ws (n_v vs 0) 99) f5 kz_0_99
  have nf2 : fc_1 PRD (20, [1, 9], [60, 1, 1, 330, 99, 96]) ws (vs ++ [Value.int x]) := by
    refine ⟨nf_inA hl rfl, sgq_1627 ?_⟩
    · show ORQ (w_fi ws (n_v (vs ++ [Value.int x]) 1) 99) (w_ei ws (w_ar ws (n_v (vs ++ [Value.int x]) 1) 96)) (v_iv (n_v (vs ++ [Value.int x]) 9))
      simp only [e_1, e_9, q1]
      exact vc_Mo_bestOrder_7_2 (v_iv (n_v vs 6)) (w_ei ws (w_ar ws (n_v vs 0) 96)) (w_fi ws (n_v vs 0) 99) (v_iv (Value.int x)) k6 f6 kz_0_99 ex2
  have nf3 : fc_1 PRD (23, [9], [-1, -1]) ws (vs ++ [Value.int x]) := by
    refine ⟨nf_inA hl rfl, sgq_626 ?_⟩
    · show (-1) * v_iv (n_v (vs ++ [Value.int x]) 9) + 0 ≤ (-1)
      rw [e_9]
      exact vc_Mo_bestOrder_7_3 (v_iv (n_v vs 6)) (v_iv (Value.int x)) k6 f7 ex2
  have nf4 : fc_1 PRD (20, [1], [60, 1, 2, 344, 99, 96, 98]) ws (vs ++ [Value.int x]) := by
    refine ⟨nf_inA hl rfl, sgq_1623 ?_⟩
    · show SEB (w_fi ws (n_v (vs ++ [Value.int x]) 1) 99) (w_ei ws (w_ar ws (n_v (vs ++ [Value.int x]) 1) 96)) (w_ei ws (w_ar ws (n_v (vs ++ [Value.int x]) 1) 98))
      simp only [e_1, q1]
      exact vc_Mo_bestOrder_7_4 (v_iv (n_v vs 6)) (v_iv (n_v vs 7)) (v_iv (n_v vs 8)) (w_ei ws (w_ar ws (n_v vs 0) 96)) (w_fi ws (n_v vs 0) 99) (w_ei ws (w_ar ws (n_v vs 0) 98)) f8 kz_0_99
  have nf5 : fc_1 PRD (20, [1, 8], [60, 0, 2, 347, 97, 96]) ws (vs ++ [Value.int x]) := by
    refine ⟨nf_inA hl rfl, sgq_1632 ?_⟩
    · show CPB (w_ei ws (w_ar ws (n_v (vs ++ [Value.int x]) 1) 97)) (w_ei ws (w_ar ws (n_v (vs ++ [Value.int x]) 1) 96)) (v_iv (n_v (vs ++ [Value.int x]) 8))
      simp only [e_1, e_8, q1]
      exact vc_Mo_bestOrder_7_5 (v_iv (n_v vs 8)) (w_ei ws (w_ar ws (n_v vs 0) 96)) (w_ei ws (w_ar ws (n_v vs 0) 97)) k8
  have nf6 : fc_1 PRD (20, [4], [50, 0, 0, 0, 2, 1, 0, 0, 999999]) ws (vs ++ [Value.int x]) := by
    refine ⟨nf_inA hl rfl, sgq_1630 ?_⟩
    · show v_iv (n_v (vs ++ [Value.int x]) 4) ≤ 999999
      rw [e_4]
      exact vc_Mo_bestOrder_7_6 (v_iv (n_v vs 4)) k4
  have nf7 : fc_1 PRD (24, [0, 1], []) ws (vs ++ [Value.int x]) := by
    refine ⟨nf_inA hl rfl, sgq_5 ?_⟩
    · show n_v (vs ++ [Value.int x]) 0 = n_v (vs ++ [Value.int x]) 1
      first | rfl | simp only [e_0, e_1, q1]
  obtain ⟨x0, e0, _, _⟩ := tv_int t6 rfl
  have e1 : v_iv (n_v vs 6) = x0.toInt := by rw [e0]; rfl
  have ho : sy_ofs (vs ++ [Value.int x]) (9, 6, 0, 0) := by
    refine ⟨x, x0, by rw [List.getElem?_append_right (by rw [hl]; decide), hl]; rfl, ?_, ?_, ?_⟩
    · rw [List.getElem?_append_left (by rw [hl]; decide)]; exact n_v_some (by rw [hl]; decide) e0
    · show x0.toInt + 0 ≤ x.toInt; omega
    · show x.toInt ≤ x0.toInt + 0; omega
  exact ⟨(fun _ h => (by cases h)), [Value.int x], ag_one hx, List.forall_mem_cons.mpr ⟨⟨show (20 : Nat) < 100 from by decide, nf0⟩, List.forall_mem_cons.mpr ⟨⟨show (20 : Nat) < 100 from by decide, nf1⟩, List.forall_mem_cons.mpr ⟨⟨show (20 : Nat) < 100 from by decide, nf2⟩, List.forall_mem_cons.mpr ⟨⟨show (23 : Nat) < 100 from by decide, nf3⟩, List.forall_mem_cons.mpr ⟨⟨show (20 : Nat) < 100 from by decide, nf4⟩, List.forall_mem_cons.mpr ⟨⟨show (20 : Nat) < 100 from by decide, nf5⟩, List.forall_mem_cons.mpr ⟨⟨show (20 : Nat) < 100 from by decide, nf6⟩, List.forall_mem_cons.mpr ⟨⟨show (24 : Nat) < 100 from by decide, nf7⟩, (fun _ h => (by cases h))⟩⟩⟩⟩⟩⟩⟩⟩, List.forall_mem_cons.mpr ⟨ho, (fun _ h => (by cases h))⟩⟩
set_option maxHeartbeats 4000000 in
theorem vc_Mo_bestOrder_8_0 (x4 : Int) (x5 : Int) (x10 : Int) (k4 : 0 ≤ x4 ∧ x4 ≤ 441) (k5 : 0 ≤ x5 ∧ x5 ≤ 47) (k10 : 1 ≤ x10 ∧ x10 ≤ 48) (d0 : x5 + 1 ≤ x10 ∧ x10 ≤ x5 + 1) (f14 : (0 ≤ x4) ∧ (x4 ≤ (9 * x5))) : (0 ≤ x4) ∧ (x4 ≤ (9 * x10)) := by
  first
    | omega
def o_Mo_bestOrder_8 : or_T := (43, 11, [(4, (0, 0, 441, [])), (5, (0, 0, 47, [])), (10, (0, 1, 48, []))], [(20, [4, 5], [50, 0, 0, 2, 6, 0, 2, 0, 0, 1, 0, 0, 2, 1, 0, 6, 2, 0, 9, 1, 1])], [], [], [(20, [4, 10], [50, 0, 0, 2, 6, 0, 2, 0, 0, 1, 0, 0, 2, 1, 0, 6, 2, 0, 9, 1, 1])], [], [(10, 5, 1, 1)])
theorem oo_Mo_bestOrder_8 {kA : Nat → ClassId} : or_ok PRD kA GG o_Mo_bestOrder_8 := by
  refine or_mk fun A ta ws vs hD hth hl => ?_
  intro t4 k4 t5 k5 t10 k10 d0 f14
  have nf0 : fc_1 PRD (20, [4, 10], [50, 0, 0, 2, 6, 0, 2, 0, 0, 1, 0, 0, 2, 1, 0, 6, 2, 0, 9, 1, 1]) ws (vs) := ⟨nf_in hl rfl, sgq_1628 (vc_Mo_bestOrder_8_0 (v_iv (n_v vs 4)) (v_iv (n_v vs 5)) (v_iv (n_v vs 10)) k4 k5 k10 d0 (shm_1628 f14))⟩
  refine ⟨(fun _ h => (by cases h)), [], trivial, ?_, (fun _ h => (by cases h))⟩
  rw [List.append_nil]
  exact List.forall_mem_cons.mpr ⟨⟨show (20 : Nat) < 100 from by decide, nf0⟩, (fun _ h => (by cases h))⟩
set_option maxHeartbeats 4000000 in
theorem vc_Mo_bestOrder_9_0 (members_0 : Int) (order_0 : Int → Int) (f11 : DSM (members_0) (order_0)) (kz_0_99 : 0 ≤ members_0 ∧ members_0 ≤ 26) : DSM (members_0) (order_0) := by
  first
    | assumption
set_option maxHeartbeats 4000000 in
theorem vc_Mo_bestOrder_9_1 (members_0 : Int) (f12 : members_0 ≤ 7) (kz_0_99 : 0 ≤ members_0 ∧ members_0 ≤ 26) : members_0 ≤ 7 := by
  first
    | omega
set_option maxHeartbeats 4000000 in
theorem vc_Mo_bestOrder_9_2 (x6 : Int) (members_0 : Int) (order_0 : Int → Int) (gx : Int) (k6 : (-2) ≤ x6 ∧ x6 ≤ 16777216) (f13 : ORQ (members_0) (order_0) (x6)) (kz_0_99 : 0 ≤ members_0 ∧ members_0 ≤ 26) (ex2 : gx = 0 + (1 * x6 + 0)) : ORQ (members_0) (order_0) (gx) := by
  first
    | assumption
    | exact ‹ORZ _ _ _ _› (by omega)
    | (have h := ‹ORQ _ _ _›; unfold ORQ ORM at h ⊢; omega)
    | (have h := ‹ORZ _ _ _ _› (by omega); unfold ORQ; unfold ORM at h ⊢; omega)
set_option maxHeartbeats 4000000 in
theorem vc_Mo_bestOrder_9_3 (x6 : Int) (gx : Int) (k6 : (-2) ≤ x6 ∧ x6 ≤ 16777216) (f14 : (-1) * x6 + 0 ≤ (-1)) (ex2 : gx = 0 + (1 * x6 + 0)) : (-1) * gx + 0 ≤ (-1) := by
  first
    | omega
set_option maxHeartbeats 4000000 in
theorem vc_Mo_bestOrder_9_4 (x6 : Int) (x7 : Int) (x8 : Int) (member_0 : Int → Int) (members_0 : Int) (order_0 : Int → Int) (f15 : SEB (members_0) (order_0) (member_0)) (kz_0_99 : 0 ≤ members_0 ∧ members_0 ≤ 26) : SEB (members_0) (order_0) (member_0) := by
  first
    | assumption
    | (have h := ‹SEM _ _ _›; unfold SEB; rw [show members_0 = x7 by omega]; exact h)
    | (have h := ‹SEM _ _ _›; unfold SEB; rw [show members_0 = x6 by omega]; exact h)
    | (have h := ‹SEM _ _ _›; unfold SEB; rw [show members_0 = x8 by omega]; exact h)
set_option maxHeartbeats 4000000 in
theorem vc_Mo_bestOrder_9_5 (x2 : Int) (member_0 : Int → Int) (members_0 : Int) (best_0 : Int → Int) (k2 : 0 ≤ x2 ∧ x2 ≤ 1000000) (f16 : BSL (members_0) (best_0) (member_0) (x2)) (kz_0_99 : 0 ≤ members_0 ∧ members_0 ≤ 26) : BSL (members_0) (best_0) (member_0) (x2) := by
  first
    | assumption
    | (intro z; exfalso; omega)
    | exact fun _ => ‹BST _ _ _›
set_option maxHeartbeats 4000000 in
theorem vc_Mo_bestOrder_9_6 (x4 : Int) (x5 : Int) (k4 : 0 ≤ x4 ∧ x4 ≤ 441) (k5 : 0 ≤ x5 ∧ x5 ≤ 47) (f17 : (0 ≤ x4) ∧ (x4 ≤ (9 * x5))) : (0 ≤ x4) ∧ (x4 ≤ (9 * x5)) := by
  first
    | omega
set_option maxHeartbeats 4000000 in
theorem vc_Mo_bestOrder_9_7 (x5 : Int) (k5 : 0 ≤ x5 ∧ x5 ≤ 47) : x5 ≤ 47 := by
  first
    | omega
def o_Mo_bestOrder_9 : or_T := (90, 15, [(0, (2, 0, 0, [165])), (1, (2, 0, 0, [165])), (2, (0, 0, 1000000, [])), (4, (0, 0, 441, [])), (5, (0, 0, 47, [])), (6, (0, -2, 16777216, [])), (7, (0, 1, 48, [])), (8, (0, 0, 23, [])), (9, (0, 1, 1, [])), (10, (0, 0, 23, [])), (11, (0, 1, 1, []))], [(8, [11], [1]), (20, [1, 10, 11], [60, 1, 1, 380, 99, 98]), (20, [1, 10, 11], [60, 1, 1, 385, 99, 98]), (20, [10, 1, 5], [50, 1, 1, 1005, 1002, 1, 2, 1, 0, 3, 1, 2, 4, 7, 4, 3, 2, 1, 5, 0, 315, 1, 2]), (8, [9], [1]), (20, [1, 8, 9], [60, 1, 1, 380, 99, 98]), (20, [1, 8, 9], [60, 1, 1, 385, 99, 98]), (20, [8, 1, 5], [50, 1, 1, 1005, 1002, 1, 2, 1, 0, 3, 1, 2, 4, 7, 4, 3, 2, 1, 5, 0, 267, 1, 2]), (7, [5, 7], [2]), (20, [7, 1], [30, 0, 1, 0, 0, -1, 3, 2005001]), (20, [7, 1], [30, 0, -1, 0, 0, 1, 3, 2005001]), (20, [1], [60, 1, 1, 329, 99, 96]), (20, [1], [50, 1, 0, 99, 0, 3, 2, 0, 99, 0, 7]), (20, [1, 6], [60, 1, 1, 330, 99, 96]), (23, [6], [-1, -1]), (20, [1], [60, 1, 2, 344, 99, 96, 98]), (20, [1, 2], [60, 1, 2, 346, 99, 97, 98]), (20, [4, 5], [50, 0, 0, 2, 6, 0, 2, 0, 0, 1, 0, 0, 2, 1, 0, 6, 2, 0, 9, 1, 1]), (24, [0, 1], [])], [], [(0, -2, 16777216, [])], [(20, [1], [60, 1, 1, 329, 99, 96]), (20, [1], [50, 1, 0, 99, 0, 3, 2, 0, 99, 0, 7]), (20, [1, 15], [60, 1, 1, 330, 99, 96]), (23, [15], [-1, -1]), (20, [1], [60, 1, 2, 344, 99, 96, 98]), (20, [1, 2], [60, 1, 2, 346, 99, 97, 98]), (20, [4, 5], [50, 0, 0, 2, 6, 0, 2, 0, 0, 1, 0, 0, 2, 1, 0, 6, 2, 0, 9, 1, 1]), (20, [5], [50, 0, 0, 0, 2, 1, 0, 0, 47]), (24, [0, 1], [])], [(15, 6, 0, 0)], [(5, 7, -4294967296, -1)])
theorem oo_Mo_bestOrder_9 {kA : Nat → ClassId} : or_ok PRD kA GG o_Mo_bestOrder_9 := by
  refine or_mk fun A ta ws vs hD hth hl => ?_
  intro t0 r0 t1 r1 t2 k2 t4 k4 t5 k5 t6 k6 t7 k7 t8 k8 t9 k9 t10 k10 t11 k11 d0 f0 f1 f2 f3 f4 f5 f6 f7 f8 f9 f10 f11 f12 f13 f14 f15 f16 f17 f18
  replace f0 := shm_142 f0
  replace f1 := shm_613 f1
  replace f2 := shm_614 f2
  replace f3 := shm_603 f3
  replace f4 := shm_142 f4
  replace f5 := shm_613 f5
  replace f6 := shm_614 f6
  replace f7 := shm_749 f7
  replace f8 := shm_6 f8
  replace f9 := shm_121 f9
  replace f10 := shm_122 f10
  replace f11 := shm_1621 f11
  replace f12 := shm_1617 f12
  replace f13 := shm_1627 f13
  replace f14 := shm_626 f14
  replace f15 := shm_1623 f15
  replace f16 := shm_1624 f16
  replace f17 := shm_1628 f17
  replace f18 := shm_5 f18
  have q1 : n_v vs 1 = n_v vs 0 := f18.symm
  simp only [q1] at f1 f2 f3 f5 f6 f7 f9 f10 f11 f12 f13 f15 f16
  have cr_0_2 := fdq_10 hD hth r0
  have cr_0_96 := fdq_166 hD hth r0
  have cr_0_97 := fdq_169 hD hth r0
  have cr_0_98 := fdq_157 hD hth r0
  have hK_0_96 := elq_96 hD hth cr_0_96
  have hK_0_97 := elq_99 hD hth cr_0_97
  have hK_0_98 := elq_90 hD hth cr_0_98
  have kz_0_99 := fdq_158 hD hth r0
  obtain ⟨x, ex, hx⟩ := iv_ex (ta := ta) (lo := (-2)) (hi := 16777216) (z := 0 + (1 * v_iv (n_v vs 6) + 0)) (by omega) (by omega) (by omega) (by omega)
  have ex2 : v_iv (Value.int x) = 0 + (1 * v_iv (n_v vs 6) + 0) := ex
  have ex3 : (-2) ≤ v_iv (Value.int x) ∧ v_iv (Value.int x) ≤ 16777216 := tv_rng hx
  have e_0 : n_v (vs ++ [Value.int x]) 0 = n_v vs 0 := n_v_old (by rw [hl]; decide)
  have e_1 : n_v (vs ++ [Value.int x]) 1 = n_v vs 1 := n_v_old (by rw [hl]; decide)
  have e_2 : n_v (vs ++ [Value.int x]) 2 = n_v vs 2 := n_v_old (by rw [hl]; decide)
  have e_4 : n_v (vs ++ [Value.int x]) 4 = n_v vs 4 := n_v_old (by rw [hl]; decide)
  have e_5 : n_v (vs ++ [Value.int x]) 5 = n_v vs 5 := n_v_old (by rw [hl]; decide)
  have e_15 : n_v (vs ++ [Value.int x]) 15 = Value.int x := n_v_new hl
  have nf0 : fc_1 PRD (20, [1], [60, 1, 1, 329, 99, 96]) ws (vs ++ [Value.int x]) := by
    refine ⟨nf_inA hl rfl, sgq_1621 ?_⟩
    · show DSM (w_fi ws (n_v (vs ++ [Value.int x]) 1) 99) (w_ei ws (w_ar ws (n_v (vs ++ [Value.int x]) 1) 96))
      simp only [e_1, q1]
      exact vc_Mo_bestOrder_9_0 (w_fi ws (n_v vs 0) 99) (w_ei ws (w_ar ws (n_v vs 0) 96)) f11 kz_0_99
  have nf1 : fc_1 PRD (20, [1], [50, 1, 0, 99, 0, 3, 2, 0, 99, 0, 7]) ws (vs ++ [Value.int x]) := by
    refine ⟨nf_inA hl rfl, sgq_1617 ?_⟩
    · show w_fi ws (n_v (vs ++ [Value.int x]) 1) 99 ≤ 7
      simp only [e_1, q1]
      exact vc_Mo_bestOrder_9_1 (w_fi ws (n_v vs 0) 99) f12 kz_0_99
  have nf2 : fc_1 PRD (20, [1, 15], [60, 1, 1, 330, 99, 96]) ws (vs ++ [Value.int x]) := by
    refine ⟨nf_inA hl rfl, sgq_1627 ?_⟩
    · show ORQ (w_fi ws (n_v (vs ++ [Value.int x]) 1) 99) (w_ei ws (w_ar ws (n_v (vs ++ [Value.int x]) 1) 96)) (v_iv (n_v (vs ++ [Value.int x]) 15))
      simp only [e_1, e_15, q1]
      exact vc_Mo_bestOrder_9_2 (v_iv (n_v vs 6)) (w_fi ws (n_v vs 0) 99) (w_ei ws (w_ar ws (n_v vs 0) 96)) (v_iv (Value.int x)) k6 f13 kz_0_99 ex2
  have nf3 : fc_1 PRD (23, [15], [-1, -1]) ws (vs ++ [Value.int x]) := by
    refine ⟨nf_inA hl rfl, sgq_626 ?_⟩
    · show (-1) * v_iv (n_v (vs ++ [Value.int x]) 15) + 0 ≤ (-1)
      rw [e_15]
      exact vc_Mo_bestOrder_9_3 (v_iv (n_v vs 6)) (v_iv (Value.int x)) k6 f14 ex2
  have nf4 : fc_1 PRD (20, [1], [60, 1, 2, 344, 99, 96, 98]) ws (vs ++ [Value.int x]) := by
    refine ⟨nf_inA hl rfl, sgq_1623 ?_⟩
    · show SEB (w_fi ws (n_v (vs ++ [Value.int x]) 1) 99) (w_ei ws (w_ar ws (n_v (vs ++ [Value.int x]) 1) 96)) (w_ei ws (w_ar ws (n_v (vs ++ [Value.int x]) 1) 98))
      simp only [e_1, q1]
      exact vc_Mo_bestOrder_9_4 (v_iv (n_v vs 6)) (v_iv (n_v vs 7)) (v_iv (n_v vs 8)) (w_ei ws (w_ar ws (n_v vs 0) 98)) (w_fi ws (n_v vs 0) 99) (w_ei ws (w_ar ws (n_v vs 0) 96)) f15 kz_0_99
  have nf5 : fc_1 PRD (20, [1, 2], [60, 1, 2, 346, 99, 97, 98]) ws (vs ++ [Value.int x]) := by
    refine ⟨nf_inA hl rfl, sgq_1624 ?_⟩
    · show BSL (w_fi ws (n_v (vs ++ [Value.int x]) 1) 99) (w_ei ws (w_ar ws (n_v (vs ++ [Value.int x]) 1) 97)) (w_ei ws (w_ar ws (n_v (vs ++ [Value.int x]) 1) 98)) (v_iv (n_v (vs ++ [Value.int x]) 2))
      simp only [e_1, e_2, q1]
      exact vc_Mo_bestOrder_9_5 (v_iv (n_v vs 2)) (w_ei ws (w_ar ws (n_v vs 0) 98)) (w_fi ws (n_v vs 0) 99) (w_ei ws (w_ar ws (n_v vs 0) 97)) k2 f16 kz_0_99
  have nf6 : fc_1 PRD (20, [4, 5], [50, 0, 0, 2, 6, 0, 2, 0, 0, 1, 0, 0, 2, 1, 0, 6, 2, 0, 9, 1, 1]) ws (vs ++ [Value.int x]) := by
    refine ⟨nf_inA hl rfl, sgq_1628 ?_⟩
    · show (0 ≤ v_iv (n_v (vs ++ [Value.int x]) 4)) ∧ (v_iv (n_v (vs ++ [Value.int x]) 4) ≤ (9 * v_iv (n_v (vs ++ [Value.int x]) 5)))
      simp only [e_4, e_5]
      exact vc_Mo_bestOrder_9_6 (v_iv (n_v vs 4)) (v_iv (n_v vs 5)) k4 k5 f17
  have nf7 : fc_1 PRD (20, [5], [50, 0, 0, 0, 2, 1, 0, 0, 47]) ws (vs ++ [Value.int x]) := by
    refine ⟨nf_inA hl rfl, sgq_1633 ?_⟩
    · show v_iv (n_v (vs ++ [Value.int x]) 5) ≤ 47
      rw [e_5]
      exact vc_Mo_bestOrder_9_7 (v_iv (n_v vs 5)) k5
  have nf8 : fc_1 PRD (24, [0, 1], []) ws (vs ++ [Value.int x]) := by
    refine ⟨nf_inA hl rfl, sgq_5 ?_⟩
    · show n_v (vs ++ [Value.int x]) 0 = n_v (vs ++ [Value.int x]) 1
      first | rfl | simp only [e_0, e_1, q1]
  obtain ⟨x0, e0, _, _⟩ := tv_int t6 rfl
  have e1 : v_iv (n_v vs 6) = x0.toInt := by rw [e0]; rfl
  have ho : sy_ofs (vs ++ [Value.int x]) (15, 6, 0, 0) := by
    refine ⟨x, x0, by rw [List.getElem?_append_right (by rw [hl]; decide), hl]; rfl, ?_, ?_, ?_⟩
    · rw [List.getElem?_append_left (by rw [hl]; decide)]; exact n_v_some (by rw [hl]; decide) e0
    · show x0.toInt + 0 ≤ x.toInt; omega
    · show x.toInt ≤ x0.toInt + 0; omega
  exact ⟨(fun _ h => (by cases h)), [Value.int x], ag_one hx, List.forall_mem_cons.mpr ⟨⟨show (20 : Nat) < 100 from by decide, nf0⟩, List.forall_mem_cons.mpr ⟨⟨show (20 : Nat) < 100 from by decide, nf1⟩, List.forall_mem_cons.mpr ⟨⟨show (20 : Nat) < 100 from by decide, nf2⟩, List.forall_mem_cons.mpr ⟨⟨show (23 : Nat) < 100 from by decide, nf3⟩, List.forall_mem_cons.mpr ⟨⟨show (20 : Nat) < 100 from by decide, nf4⟩, List.forall_mem_cons.mpr ⟨⟨show (20 : Nat) < 100 from by decide, nf5⟩, List.forall_mem_cons.mpr ⟨⟨show (20 : Nat) < 100 from by decide, nf6⟩, List.forall_mem_cons.mpr ⟨⟨show (20 : Nat) < 100 from by decide, nf7⟩, List.forall_mem_cons.mpr ⟨⟨show (24 : Nat) < 100 from by decide, nf8⟩, (fun _ h => (by cases h))⟩⟩⟩⟩⟩⟩⟩⟩⟩, List.forall_mem_cons.mpr ⟨ho, (fun _ h => (by cases h))⟩⟩
set_option maxHeartbeats 4000000 in
theorem vc_Mo_bestOrder_10_0 (x4 : Int) (x5 : Int) (x12 : Int) (k4 : 0 ≤ x4 ∧ x4 ≤ 441) (k5 : 0 ≤ x5 ∧ x5 ≤ 47) (k12 : 1 ≤ x12 ∧ x12 ≤ 48) (d0 : x5 + 1 ≤ x12 ∧ x12 ≤ x5 + 1) (f18 : (0 ≤ x4) ∧ (x4 ≤ (9 * x5))) : (0 ≤ x4) ∧ (x4 ≤ (9 * x12)) := by
  first
    | omega
def o_Mo_bestOrder_10 : or_T := (43, 13, [(4, (0, 0, 441, [])), (5, (0, 0, 47, [])), (12, (0, 1, 48, []))], [(20, [4, 5], [50, 0, 0, 2, 6, 0, 2, 0, 0, 1, 0, 0, 2, 1, 0, 6, 2, 0, 9, 1, 1])], [], [], [(20, [4, 12], [50, 0, 0, 2, 6, 0, 2, 0, 0, 1, 0, 0, 2, 1, 0, 6, 2, 0, 9, 1, 1])], [], [(12, 5, 1, 1)])
theorem oo_Mo_bestOrder_10 {kA : Nat → ClassId} : or_ok PRD kA GG o_Mo_bestOrder_10 := by
  refine or_mk fun A ta ws vs hD hth hl => ?_
  intro t4 k4 t5 k5 t12 k12 d0 f18
  have nf0 : fc_1 PRD (20, [4, 12], [50, 0, 0, 2, 6, 0, 2, 0, 0, 1, 0, 0, 2, 1, 0, 6, 2, 0, 9, 1, 1]) ws (vs) := ⟨nf_in hl rfl, sgq_1628 (vc_Mo_bestOrder_10_0 (v_iv (n_v vs 4)) (v_iv (n_v vs 5)) (v_iv (n_v vs 12)) k4 k5 k12 d0 (shm_1628 f18))⟩
  refine ⟨(fun _ h => (by cases h)), [], trivial, ?_, (fun _ h => (by cases h))⟩
  rw [List.append_nil]
  exact List.forall_mem_cons.mpr ⟨⟨show (20 : Nat) < 100 from by decide, nf0⟩, (fun _ h => (by cases h))⟩
set_option maxHeartbeats 4000000 in
theorem vc_Mo_bestOrder_11_r0 (x4 : Int) (x5 : Int) (k4 : 0 ≤ x4 ∧ x4 ≤ 441) (k5 : 0 ≤ x5 ∧ x5 ≤ 47) (f8 : (0 ≤ x4) ∧ (x4 ≤ (9 * x5))) : 0 ≤ x4 ∧ x4 ≤ 432 := by
  first
    | omega
def o_Mo_bestOrder_11 : or_T := (173, 12, [(0, (2, 0, 0, [165])), (1, (2, 0, 0, [165])), (2, (0, 0, 1000000, [])), (4, (0, 0, 441, [])), (5, (0, 0, 47, [])), (8, (0, 0, 26, [])), (9, (0, -2, 16777216, [])), (10, (0, 0, 26, []))], [(7, [8, 10], [3]), (9, [10, 1], [99]), (20, [1], [60, 1, 1, 329, 99, 96]), (20, [1], [50, 1, 0, 99, 0, 3, 2, 0, 99, 0, 7]), (20, [1, 9], [60, 1, 1, 330, 99, 96]), (23, [9], [-1, -1]), (20, [1], [60, 1, 2, 344, 99, 96, 98]), (20, [1, 2], [60, 1, 2, 346, 99, 97, 98]), (20, [4, 5], [50, 0, 0, 2, 6, 0, 2, 0, 0, 1, 0, 0, 2, 1, 0, 6, 2, 0, 9, 1, 1]), (20, [5], [50, 0, 0, 0, 2, 1, 0, 0, 47]), (24, [0, 1], [])], [(4, (0, 0, 432, []))], [], [], [], [(8, 10, 0, 4294967296)])
theorem oo_Mo_bestOrder_11 {kA : Nat → ClassId} : or_ok PRD kA GG o_Mo_bestOrder_11 := by
  refine or_mk fun A ta ws vs hD hth hl => ?_
  intro t0 r0 t1 r1 t2 k2 t4 k4 t5 k5 t8 k8 t9 k9 t10 k10 d0 f0 f1 f2 f3 f4 f5 f6 f7 f8 f9 f10
  have hrf0 : 0 ≤ v_iv (n_v vs 4) ∧ v_iv (n_v vs 4) ≤ 432 := vc_Mo_bestOrder_11_r0 (v_iv (n_v vs 4)) (v_iv (n_v vs 5)) k4 k5 (shm_1628 f8)
  have rf4 : tv_ok ta (0, 0, 432, []) (n_v vs 4) := tv_in t4 (by first | omega | grind) (by first | omega | grind)
  refine ⟨List.forall_mem_cons.mpr ⟨rf4, (fun _ h => (by cases h))⟩, [], trivial, ?_, (fun _ h => (by cases h))⟩
  rw [List.append_nil]
  exact (fun _ h => (by cases h))
set_option maxHeartbeats 4000000 in
theorem vc_Mo_bestOrder_12_0 (members_0 : Int) (order_0 : Int → Int) (f4 : DSM (members_0) (order_0)) (kz_0_99 : 0 ≤ members_0 ∧ members_0 ≤ 26) : DSM (members_0) (order_0) := by
  first
    | assumption
set_option maxHeartbeats 4000000 in
theorem vc_Mo_bestOrder_12_1 (members_0 : Int) (f5 : members_0 ≤ 7) (kz_0_99 : 0 ≤ members_0 ∧ members_0 ≤ 26) : members_0 ≤ 7 := by
  first
    | omega
set_option maxHeartbeats 4000000 in
theorem vc_Mo_bestOrder_12_2 (x9 : Int) (members_0 : Int) (order_0 : Int → Int) (gx : Int) (k9 : (-2) ≤ x9 ∧ x9 ≤ 16777216) (f6 : ORQ (members_0) (order_0) (x9)) (kz_0_99 : 0 ≤ members_0 ∧ members_0 ≤ 26) (ex2 : gx = 0 + (1 * x9 + 0)) : ORQ (members_0) (order_0) (gx) := by
  first
    | assumption
    | exact ‹ORZ _ _ _ _› (by omega)
    | (have h := ‹ORQ _ _ _›; unfold ORQ ORM at h ⊢; omega)
    | (have h := ‹ORZ _ _ _ _› (by omega); unfold ORQ; unfold ORM at h ⊢; omega)
set_option maxHeartbeats 4000000 in
theorem vc_Mo_bestOrder_12_3 (x9 : Int) (gx : Int) (k9 : (-2) ≤ x9 ∧ x9 ≤ 16777216) (f7 : (-1) * x9 + 0 ≤ (-1)) (ex2 : gx = 0 + (1 * x9 + 0)) : (-1) * gx + 0 ≤ (-1) := by
  first
    | omega
set_option maxHeartbeats 4000000 in
theorem vc_Mo_bestOrder_12_4 (x8 : Int) (members_0 : Int) (order_0 : Int → Int) (member_0 : Int → Int) (f8 : SEB (members_0) (order_0) (member_0)) (kz_0_99 : 0 ≤ members_0 ∧ members_0 ≤ 26) : SEB (members_0) (order_0) (member_0) := by
  first
    | assumption
    | (have h := ‹SEM _ _ _›; unfold SEB; rw [show members_0 = x7 by omega]; exact h)
    | (have h := ‹SEM _ _ _›; unfold SEB; rw [show members_0 = x6 by omega]; exact h)
    | (have h := ‹SEM _ _ _›; unfold SEB; rw [show members_0 = x8 by omega]; exact h)
set_option maxHeartbeats 4000000 in
theorem vc_Mo_bestOrder_12_5 (x2 : Int) (members_0 : Int) (member_0 : Int → Int) (best_0 : Int → Int) (k2 : 0 ≤ x2 ∧ x2 ≤ 1000000) (f9 : BSL (members_0) (best_0) (member_0) (x2)) (kz_0_99 : 0 ≤ members_0 ∧ members_0 ≤ 26) : BSL (members_0) (best_0) (member_0) (x2) := by
  first
    | assumption
    | (intro z; exfalso; omega)
    | exact fun _ => ‹BST _ _ _›
set_option maxHeartbeats 4000000 in
theorem vc_Mo_bestOrder_12_6 (x4 : Int) (x5 : Int) (x12 : Int) (x13 : Int) (k4 : 0 ≤ x4 ∧ x4 ≤ 432) (k5 : 0 ≤ x5 ∧ x5 ≤ 47) (k12 : 0 ≤ x12 ∧ x12 ≤ 432) (k13 : 1 ≤ x13 ∧ x13 ≤ 48) (d0 : x5 + 1 ≤ x13 ∧ x13 ≤ x5 + 1) (d1 : x4 + 0 ≤ x12 ∧ x12 ≤ x4 + 0) (f10 : (0 ≤ x4) ∧ (x4 ≤ (9 * x5))) : (0 ≤ x12) ∧ (x12 ≤ (9 * x13)) := by
  first
    | omega
def o_Mo_bestOrder_12 : or_T := (43, 14, [(0, (2, 0, 0, [165])), (1, (2, 0, 0, [165])), (2, (0, 0, 1000000, [])), (4, (0, 0, 432, [])), (5, (0, 0, 47, [])), (8, (0, 0, 26, [])), (9, (0, -2, 16777216, [])), (10, (0, 0, 26, [])), (11, (0, 0, 0, [])), (12, (0, 0, 432, [])), (13, (0, 1, 48, []))], [(6, [13, 5], [1]), (1, [12, 4, 11], []), (7, [8, 10], [3]), (9, [10, 1], [99]), (20, [1], [60, 1, 1, 329, 99, 96]), (20, [1], [50, 1, 0, 99, 0, 3, 2, 0, 99, 0, 7]), (20, [1, 9], [60, 1, 1, 330, 99, 96]), (23, [9], [-1, -1]), (20, [1], [60, 1, 2, 344, 99, 96, 98]), (20, [1, 2], [60, 1, 2, 346, 99, 97, 98]), (20, [4, 5], [50, 0, 0, 2, 6, 0, 2, 0, 0, 1, 0, 0, 2, 1, 0, 6, 2, 0, 9, 1, 1]), (20, [5], [50, 0, 0, 0, 2, 1, 0, 0, 47]), (24, [0, 1], [])], [], [(0, -2, 16777216, [])], [(20, [1], [60, 1, 1, 329, 99, 96]), (20, [1], [50, 1, 0, 99, 0, 3, 2, 0, 99, 0, 7]), (20, [1, 14], [60, 1, 1, 330, 99, 96]), (23, [14], [-1, -1]), (20, [1], [60, 1, 2, 344, 99, 96, 98]), (20, [1, 2], [60, 1, 2, 346, 99, 97, 98]), (20, [12, 13], [50, 0, 0, 2, 6, 0, 2, 0, 0, 1, 0, 0, 2, 1, 0, 6, 2, 0, 9, 1, 1]), (24, [0, 1], [])], [(14, 9, 0, 0)], [(13, 5, 1, 1), (12, 4, 0, 0), (8, 10, 0, 4294967296)])
theorem oo_Mo_bestOrder_12 {kA : Nat → ClassId} : or_ok PRD kA GG o_Mo_bestOrder_12 := by
  refine or_mk fun A ta ws vs hD hth hl => ?_
  intro t0 r0 t1 r1 t2 k2 t4 k4 t5 k5 t8 k8 t9 k9 t10 k10 t11 k11 t12 k12 t13 k13 d0 d1 d2 f0 f1 f2 f3 f4 f5 f6 f7 f8 f9 f10 f11 f12
  replace f0 := shm_4 f0
  replace f1 := shm_12 f1
  replace f2 := shm_2 f2
  replace f3 := shm_612 f3
  replace f4 := shm_1621 f4
  replace f5 := shm_1617 f5
  replace f6 := shm_1627 f6
  replace f7 := shm_626 f7
  replace f8 := shm_1623 f8
  replace f9 := shm_1624 f9
  replace f10 := shm_1628 f10
  replace f11 := shm_1633 f11
  replace f12 := shm_5 f12
  have q1 : n_v vs 1 = n_v vs 0 := f12.symm
  simp only [q1] at f3 f4 f5 f6 f8 f9
  have cr_0_96 := fdq_166 hD hth r0
  have cr_0_97 := fdq_169 hD hth r0
  have cr_0_98 := fdq_157 hD hth r0
  have g3 : v_iv (n_v vs 10) = w_fi ws (n_v vs 0) 99 := congrArg v_iv f3
  have hK_0_96 := elq_96 hD hth cr_0_96
  have hK_0_97 := elq_99 hD hth cr_0_97
  have hK_0_98 := elq_90 hD hth cr_0_98
  have kz_0_99 := fdq_158 hD hth r0
  obtain ⟨x, ex, hx⟩ := iv_ex (ta := ta) (lo := (-2)) (hi := 16777216) (z := 0 + (1 * v_iv (n_v vs 9) + 0)) (by omega) (by omega) (by omega) (by omega)
  have ex2 : v_iv (Value.int x) = 0 + (1 * v_iv (n_v vs 9) + 0) := ex
  have ex3 : (-2) ≤ v_iv (Value.int x) ∧ v_iv (Value.int x) ≤ 16777216 := tv_rng hx
  have e_0 : n_v (vs ++ [Value.int x]) 0 = n_v vs 0 := n_v_old (by rw [hl]; decide)
  have e_1 : n_v (vs ++ [Value.int x]) 1 = n_v vs 1 := n_v_old (by rw [hl]; decide)
  have e_2 : n_v (vs ++ [Value.int x]) 2 = n_v vs 2 := n_v_old (by rw [hl]; decide)
  have e_12 : n_v (vs ++ [Value.int x]) 12 = n_v vs 12 := n_v_old (by rw [hl]; decide)
  have e_13 : n_v (vs ++ [Value.int x]) 13 = n_v vs 13 := n_v_old (by rw [hl]; decide)
  have e_14 : n_v (vs ++ [Value.int x]) 14 = Value.int x := n_v_new hl
  have nf0 : fc_1 PRD (20, [1], [60, 1, 1, 329, 99, 96]) ws (vs ++ [Value.int x]) := by
    refine ⟨nf_inA hl rfl, sgq_1621 ?_⟩
    · show DSM (w_fi ws (n_v (vs ++ [Value.int x]) 1) 99) (w_ei ws (w_ar ws (n_v (vs ++ [Value.int x]) 1) 96))
      simp only [e_1, q1]
      exact vc_Mo_bestOrder_12_0 (w_fi ws (n_v vs 0) 99) (w_ei ws (w_ar ws (n_v vs 0) 96)) f4 kz_0_99
  have nf1 : fc_1 PRD (20, [1], [50, 1, 0, 99, 0, 3, 2, 0, 99, 0, 7]) ws (vs ++ [Value.int x]) := by
    refine ⟨nf_inA hl rfl, sgq_1617 ?_⟩
    · show w_fi ws (n_v (vs ++ [Value.int x]) 1) 99 ≤ 7
      simp only [e_1, q1]
      exact vc_Mo_bestOrder_12_1 (w_fi ws (n_v vs 0) 99) f5 kz_0_99
  have nf2 : fc_1 PRD (20, [1, 14], [60, 1, 1, 330, 99, 96]) ws (vs ++ [Value.int x]) := by
    refine ⟨nf_inA hl rfl, sgq_1627 ?_⟩
    · show ORQ (w_fi ws (n_v (vs ++ [Value.int x]) 1) 99) (w_ei ws (w_ar ws (n_v (vs ++ [Value.int x]) 1) 96)) (v_iv (n_v (vs ++ [Value.int x]) 14))
      simp only [e_1, e_14, q1]
      exact vc_Mo_bestOrder_12_2 (v_iv (n_v vs 9)) (w_fi ws (n_v vs 0) 99) (w_ei ws (w_ar ws (n_v vs 0) 96)) (v_iv (Value.int x)) k9 f6 kz_0_99 ex2
  have nf3 : fc_1 PRD (23, [14], [-1, -1]) ws (vs ++ [Value.int x]) := by
    refine ⟨nf_inA hl rfl, sgq_626 ?_⟩
    · show (-1) * v_iv (n_v (vs ++ [Value.int x]) 14) + 0 ≤ (-1)
      rw [e_14]
      exact vc_Mo_bestOrder_12_3 (v_iv (n_v vs 9)) (v_iv (Value.int x)) k9 f7 ex2
  have nf4 : fc_1 PRD (20, [1], [60, 1, 2, 344, 99, 96, 98]) ws (vs ++ [Value.int x]) := by
    refine ⟨nf_inA hl rfl, sgq_1623 ?_⟩
    · show SEB (w_fi ws (n_v (vs ++ [Value.int x]) 1) 99) (w_ei ws (w_ar ws (n_v (vs ++ [Value.int x]) 1) 96)) (w_ei ws (w_ar ws (n_v (vs ++ [Value.int x]) 1) 98))
      simp only [e_1, q1]
      exact vc_Mo_bestOrder_12_4 (v_iv (n_v vs 8)) (w_fi ws (n_v vs 0) 99) (w_ei ws (w_ar ws (n_v vs 0) 96)) (w_ei ws (w_ar ws (n_v vs 0) 98)) f8 kz_0_99
  have nf5 : fc_1 PRD (20, [1, 2], [60, 1, 2, 346, 99, 97, 98]) ws (vs ++ [Value.int x]) := by
    refine ⟨nf_inA hl rfl, sgq_1624 ?_⟩
    · show BSL (w_fi ws (n_v (vs ++ [Value.int x]) 1) 99) (w_ei ws (w_ar ws (n_v (vs ++ [Value.int x]) 1) 97)) (w_ei ws (w_ar ws (n_v (vs ++ [Value.int x]) 1) 98)) (v_iv (n_v (vs ++ [Value.int x]) 2))
      simp only [e_1, e_2, q1]
      exact vc_Mo_bestOrder_12_5 (v_iv (n_v vs 2)) (w_fi ws (n_v vs 0) 99) (w_ei ws (w_ar ws (n_v vs 0) 98)) (w_ei ws (w_ar ws (n_v vs 0) 97)) k2 f9 kz_0_99
  have nf6 : fc_1 PRD (20, [12, 13], [50, 0, 0, 2, 6, 0, 2, 0, 0, 1, 0, 0, 2, 1, 0, 6, 2, 0, 9, 1, 1]) ws (vs ++ [Value.int x]) := by
    refine ⟨nf_inA hl rfl, sgq_1628 ?_⟩
    · show (0 ≤ v_iv (n_v (vs ++ [Value.int x]) 12)) ∧ (v_iv (n_v (vs ++ [Value.int x]) 12) ≤ (9 * v_iv (n_v (vs ++ [Value.int x]) 13)))
      simp only [e_12, e_13]
      exact vc_Mo_bestOrder_12_6 (v_iv (n_v vs 4)) (v_iv (n_v vs 5)) (v_iv (n_v vs 12)) (v_iv (n_v vs 13)) k4 k5 k12 k13 d0 d1 f10
  have nf7 : fc_1 PRD (24, [0, 1], []) ws (vs ++ [Value.int x]) := by
    refine ⟨nf_inA hl rfl, sgq_5 ?_⟩
    · show n_v (vs ++ [Value.int x]) 0 = n_v (vs ++ [Value.int x]) 1
      first | rfl | simp only [e_0, e_1, q1]
  obtain ⟨x0, e0, _, _⟩ := tv_int t9 rfl
  have e1 : v_iv (n_v vs 9) = x0.toInt := by rw [e0]; rfl
  have ho : sy_ofs (vs ++ [Value.int x]) (14, 9, 0, 0) := by
    refine ⟨x, x0, by rw [List.getElem?_append_right (by rw [hl]; decide), hl]; rfl, ?_, ?_, ?_⟩
    · rw [List.getElem?_append_left (by rw [hl]; decide)]; exact n_v_some (by rw [hl]; decide) e0
    · show x0.toInt + 0 ≤ x.toInt; omega
    · show x.toInt ≤ x0.toInt + 0; omega
  exact ⟨(fun _ h => (by cases h)), [Value.int x], ag_one hx, List.forall_mem_cons.mpr ⟨⟨show (20 : Nat) < 100 from by decide, nf0⟩, List.forall_mem_cons.mpr ⟨⟨show (20 : Nat) < 100 from by decide, nf1⟩, List.forall_mem_cons.mpr ⟨⟨show (20 : Nat) < 100 from by decide, nf2⟩, List.forall_mem_cons.mpr ⟨⟨show (23 : Nat) < 100 from by decide, nf3⟩, List.forall_mem_cons.mpr ⟨⟨show (20 : Nat) < 100 from by decide, nf4⟩, List.forall_mem_cons.mpr ⟨⟨show (20 : Nat) < 100 from by decide, nf5⟩, List.forall_mem_cons.mpr ⟨⟨show (20 : Nat) < 100 from by decide, nf6⟩, List.forall_mem_cons.mpr ⟨⟨show (24 : Nat) < 100 from by decide, nf7⟩, (fun _ h => (by cases h))⟩⟩⟩⟩⟩⟩⟩⟩, List.forall_mem_cons.mpr ⟨ho, (fun _ h => (by cases h))⟩⟩
set_option maxHeartbeats 4000000 in
theorem vc_Mo_bestOrder_13_r0 (x4 : Int) (x5 : Int) (k4 : 0 ≤ x4 ∧ x4 ≤ 441) (k5 : 0 ≤ x5 ∧ x5 ≤ 47) (f8 : (0 ≤ x4) ∧ (x4 ≤ (9 * x5))) : 0 ≤ x4 ∧ x4 ≤ 432 := by
  first
    | omega
def o_Mo_bestOrder_13 : or_T := (173, 12, [(0, (2, 0, 0, [165])), (1, (2, 0, 0, [165])), (2, (0, 0, 1000000, [])), (4, (0, 0, 441, [])), (5, (0, 0, 47, [])), (8, (0, 1, 26, [])), (9, (0, -2, 16777216, [])), (10, (0, 0, 26, []))], [(7, [8, 10], [3]), (9, [10, 1], [99]), (20, [1], [60, 1, 1, 329, 99, 96]), (20, [1], [50, 1, 0, 99, 0, 3, 2, 0, 99, 0, 7]), (20, [1, 9], [60, 1, 1, 330, 99, 96]), (23, [9], [-1, -1]), (20, [1], [60, 1, 2, 344, 99, 96, 98]), (20, [1, 2], [60, 1, 2, 346, 99, 97, 98]), (20, [4, 5], [50, 0, 0, 2, 6, 0, 2, 0, 0, 1, 0, 0, 2, 1, 0, 6, 2, 0, 9, 1, 1]), (20, [5], [50, 0, 0, 0, 2, 1, 0, 0, 47]), (24, [0, 1], [])], [(4, (0, 0, 432, []))], [], [], [], [(8, 10, 0, 4294967296)])
theorem oo_Mo_bestOrder_13 {kA : Nat → ClassId} : or_ok PRD kA GG o_Mo_bestOrder_13 := by
  refine or_mk fun A ta ws vs hD hth hl => ?_
  intro t0 r0 t1 r1 t2 k2 t4 k4 t5 k5 t8 k8 t9 k9 t10 k10 d0 f0 f1 f2 f3 f4 f5 f6 f7 f8 f9 f10
  have hrf0 : 0 ≤ v_iv (n_v vs 4) ∧ v_iv (n_v vs 4) ≤ 432 := vc_Mo_bestOrder_13_r0 (v_iv (n_v vs 4)) (v_iv (n_v vs 5)) k4 k5 (shm_1628 f8)
  have rf4 : tv_ok ta (0, 0, 432, []) (n_v vs 4) := tv_in t4 (by first | omega | grind) (by first | omega | grind)
  refine ⟨List.forall_mem_cons.mpr ⟨rf4, (fun _ h => (by cases h))⟩, [], trivial, ?_, (fun _ h => (by cases h))⟩
  rw [List.append_nil]
  exact (fun _ h => (by cases h))
set_option maxHeartbeats 4000000 in
theorem vc_Mo_bestOrder_14_0 (members_0 : Int) (order_0 : Int → Int) (f4 : DSM (members_0) (order_0)) (kz_0_99 : 0 ≤ members_0 ∧ members_0 ≤ 26) : DSM (members_0) (order_0) := by
  first
    | assumption
set_option maxHeartbeats 4000000 in
theorem vc_Mo_bestOrder_14_1 (members_0 : Int) (f5 : members_0 ≤ 7) (kz_0_99 : 0 ≤ members_0 ∧ members_0 ≤ 26) : members_0 ≤ 7 := by
  first
    | omega
set_option maxHeartbeats 4000000 in
theorem vc_Mo_bestOrder_14_2 (x9 : Int) (members_0 : Int) (order_0 : Int → Int) (gx : Int) (k9 : (-2) ≤ x9 ∧ x9 ≤ 16777216) (f6 : ORQ (members_0) (order_0) (x9)) (kz_0_99 : 0 ≤ members_0 ∧ members_0 ≤ 26) (ex2 : gx = 0 + (1 * x9 + 0)) : ORQ (members_0) (order_0) (gx) := by
  first
    | assumption
    | exact ‹ORZ _ _ _ _› (by omega)
    | (have h := ‹ORQ _ _ _›; unfold ORQ ORM at h ⊢; omega)
    | (have h := ‹ORZ _ _ _ _› (by omega); unfold ORQ; unfold ORM at h ⊢; omega)
set_option maxHeartbeats 4000000 in
theorem vc_Mo_bestOrder_14_3 (x9 : Int) (gx : Int) (k9 : (-2) ≤ x9 ∧ x9 ≤ 16777216) (f7 : (-1) * x9 + 0 ≤ (-1)) (ex2 : gx = 0 + (1 * x9 + 0)) : (-1) * gx + 0 ≤ (-1) := by
  first
    | omega
set_option maxHeartbeats 4000000 in
theorem vc_Mo_bestOrder_14_4 (x8 : Int) (members_0 : Int) (order_0 : Int → Int) (member_0 : Int → Int) (f8 : SEB (members_0) (order_0) (member_0)) (kz_0_99 : 0 ≤ members_0 ∧ members_0 ≤ 26) : SEB (members_0) (order_0) (member_0) := by
  first
    | assumption
    | (have h := ‹SEM _ _ _›; unfold SEB; rw [show members_0 = x7 by omega]; exact h)
    | (have h := ‹SEM _ _ _›; unfold SEB; rw [show members_0 = x6 by omega]; exact h)
    | (have h := ‹SEM _ _ _›; unfold SEB; rw [show members_0 = x8 by omega]; exact h)
set_option maxHeartbeats 4000000 in
theorem vc_Mo_bestOrder_14_5 (x2 : Int) (members_0 : Int) (member_0 : Int → Int) (best_0 : Int → Int) (k2 : 0 ≤ x2 ∧ x2 ≤ 1000000) (f9 : BSL (members_0) (best_0) (member_0) (x2)) (kz_0_99 : 0 ≤ members_0 ∧ members_0 ≤ 26) : BSL (members_0) (best_0) (member_0) (x2) := by
  first
    | assumption
    | (intro z; exfalso; omega)
    | exact fun _ => ‹BST _ _ _›
set_option maxHeartbeats 4000000 in
theorem vc_Mo_bestOrder_14_6 (x4 : Int) (x5 : Int) (x11 : Int) (x12 : Int) (x13 : Int) (k4 : 0 ≤ x4 ∧ x4 ≤ 432) (k5 : 0 ≤ x5 ∧ x5 ≤ 47) (k11 : 0 ≤ x11 ∧ x11 ≤ 9) (k12 : 0 ≤ x12 ∧ x12 ≤ 441) (k13 : 1 ≤ x13 ∧ x13 ≤ 48) (d0 : x5 + 1 ≤ x13 ∧ x13 ≤ x5 + 1) (d2 : x4 + 0 ≤ x12 ∧ x12 ≤ x4 + 9) (f1 : x12 = x4 + x11) (f10 : (0 ≤ x4) ∧ (x4 ≤ (9 * x5))) : (0 ≤ x12) ∧ (x12 ≤ (9 * x13)) := by
  first
    | omega
def o_Mo_bestOrder_14 : or_T := (43, 14, [(0, (2, 0, 0, [165])), (1, (2, 0, 0, [165])), (2, (0, 0, 1000000, [])), (4, (0, 0, 432, [])), (5, (0, 0, 47, [])), (8, (0, 1, 26, [])), (9, (0, -2, 16777216, [])), (10, (0, 0, 26, [])), (11, (0, 0, 9, [])), (12, (0, 0, 441, [])), (13, (0, 1, 48, []))], [(6, [13, 5], [1]), (1, [12, 4, 11], []), (7, [8, 10], [3]), (9, [10, 1], [99]), (20, [1], [60, 1, 1, 329, 99, 96]), (20, [1], [50, 1, 0, 99, 0, 3, 2, 0, 99, 0, 7]), (20, [1, 9], [60, 1, 1, 330, 99, 96]), (23, [9], [-1, -1]), (20, [1], [60, 1, 2, 344, 99, 96, 98]), (20, [1, 2], [60, 1, 2, 346, 99, 97, 98]), (20, [4, 5], [50, 0, 0, 2, 6, 0, 2, 0, 0, 1, 0, 0, 2, 1, 0, 6, 2, 0, 9, 1, 1]), (20, [5], [50, 0, 0, 0, 2, 1, 0, 0, 47]), (24, [0, 1], [])], [], [(0, -2, 16777216, [])], [(20, [1], [60, 1, 1, 329, 99, 96]), (20, [1], [50, 1, 0, 99, 0, 3, 2, 0, 99, 0, 7]), (20, [1, 14], [60, 1, 1, 330, 99, 96]), (23, [14], [-1, -1]), (20, [1], [60, 1, 2, 344, 99, 96, 98]), (20, [1, 2], [60, 1, 2, 346, 99, 97, 98]), (20, [12, 13], [50, 0, 0, 2, 6, 0, 2, 0, 0, 1, 0, 0, 2, 1, 0, 6, 2, 0, 9, 1, 1]), (24, [0, 1], [])], [(14, 9, 0, 0)], [(13, 5, 1, 1), (12, 11, 0, 432), (12, 4, 0, 9), (8, 10, 0, 4294967296)])
theorem oo_Mo_bestOrder_14 {kA : Nat → ClassId} : or_ok PRD kA GG o_Mo_bestOrder_14 := by
  refine or_mk fun A ta ws vs hD hth hl => ?_
  intro t0 r0 t1 r1 t2 k2 t4 k4 t5 k5 t8 k8 t9 k9 t10 k10 t11 k11 t12 k12 t13 k13 d0 d1 d2 d3 f0 f1 f2 f3 f4 f5 f6 f7 f8 f9 f10 f11 f12
  replace f0 := shm_4 f0
  replace f1 := shm_12 f1
  replace f2 := shm_2 f2
  replace f3 := shm_612 f3
  replace f4 := shm_1621 f4
  replace f5 := shm_1617 f5
  replace f6 := shm_1627 f6
  replace f7 := shm_626 f7
  replace f8 := shm_1623 f8
  replace f9 := shm_1624 f9
  replace f10 := shm_1628 f10
  replace f11 := shm_1633 f11
  replace f12 := shm_5 f12
  have q1 : n_v vs 1 = n_v vs 0 := f12.symm
  simp only [q1] at f3 f4 f5 f6 f8 f9
  have cr_0_96 := fdq_166 hD hth r0
  have cr_0_97 := fdq_169 hD hth r0
  have cr_0_98 := fdq_157 hD hth r0
  have g3 : v_iv (n_v vs 10) = w_fi ws (n_v vs 0) 99 := congrArg v_iv f3
  have hK_0_96 := elq_96 hD hth cr_0_96
  have hK_0_97 := elq_99 hD hth cr_0_97
  have hK_0_98 := elq_90 hD hth cr_0_98
  have kz_0_99 := fdq_158 hD hth r0
  obtain ⟨x, ex, hx⟩ := iv_ex (ta := ta) (lo := (-2)) (hi := 16777216) (z := 0 + (1 * v_iv (n_v vs 9) + 0)) (by omega) (by omega) (by omega) (by omega)
  have ex2 : v_iv (Value.int x) = 0 + (1 * v_iv (n_v vs 9) + 0) := ex
  have ex3 : (-2) ≤ v_iv (Value.int x) ∧ v_iv (Value.int x) ≤ 16777216 := tv_rng hx
  have e_0 : n_v (vs ++ [Value.int x]) 0 = n_v vs 0 := n_v_old (by rw [hl]; decide)
  have e_1 : n_v (vs ++ [Value.int x]) 1 = n_v vs 1 := n_v_old (by rw [hl]; decide)
  have e_2 : n_v (vs ++ [Value.int x]) 2 = n_v vs 2 := n_v_old (by rw [hl]; decide)
  have e_12 : n_v (vs ++ [Value.int x]) 12 = n_v vs 12 := n_v_old (by rw [hl]; decide)
  have e_13 : n_v (vs ++ [Value.int x]) 13 = n_v vs 13 := n_v_old (by rw [hl]; decide)
  have e_14 : n_v (vs ++ [Value.int x]) 14 = Value.int x := n_v_new hl
  have nf0 : fc_1 PRD (20, [1], [60, 1, 1, 329, 99, 96]) ws (vs ++ [Value.int x]) := by
    refine ⟨nf_inA hl rfl, sgq_1621 ?_⟩
    · show DSM (w_fi ws (n_v (vs ++ [Value.int x]) 1) 99) (w_ei ws (w_ar ws (n_v (vs ++ [Value.int x]) 1) 96))
      simp only [e_1, q1]
      exact vc_Mo_bestOrder_14_0 (w_fi ws (n_v vs 0) 99) (w_ei ws (w_ar ws (n_v vs 0) 96)) f4 kz_0_99
  have nf1 : fc_1 PRD (20, [1], [50, 1, 0, 99, 0, 3, 2, 0, 99, 0, 7]) ws (vs ++ [Value.int x]) := by
    refine ⟨nf_inA hl rfl, sgq_1617 ?_⟩
    · show w_fi ws (n_v (vs ++ [Value.int x]) 1) 99 ≤ 7
      simp only [e_1, q1]
      exact vc_Mo_bestOrder_14_1 (w_fi ws (n_v vs 0) 99) f5 kz_0_99
  have nf2 : fc_1 PRD (20, [1, 14], [60, 1, 1, 330, 99, 96]) ws (vs ++ [Value.int x]) := by
    refine ⟨nf_inA hl rfl, sgq_1627 ?_⟩
    · show ORQ (w_fi ws (n_v (vs ++ [Value.int x]) 1) 99) (w_ei ws (w_ar ws (n_v (vs ++ [Value.int x]) 1) 96)) (v_iv (n_v (vs ++ [Value.int x]) 14))
      simp only [e_1, e_14, q1]
      exact vc_Mo_bestOrder_14_2 (v_iv (n_v vs 9)) (w_fi ws (n_v vs 0) 99) (w_ei ws (w_ar ws (n_v vs 0) 96)) (v_iv (Value.int x)) k9 f6 kz_0_99 ex2
  have nf3 : fc_1 PRD (23, [14], [-1, -1]) ws (vs ++ [Value.int x]) := by
    refine ⟨nf_inA hl rfl, sgq_626 ?_⟩
    · show (-1) * v_iv (n_v (vs ++ [Value.int x]) 14) + 0 ≤ (-1)
      rw [e_14]
      exact vc_Mo_bestOrder_14_3 (v_iv (n_v vs 9)) (v_iv (Value.int x)) k9 f7 ex2
  have nf4 : fc_1 PRD (20, [1], [60, 1, 2, 344, 99, 96, 98]) ws (vs ++ [Value.int x]) := by
    refine ⟨nf_inA hl rfl, sgq_1623 ?_⟩
    · show SEB (w_fi ws (n_v (vs ++ [Value.int x]) 1) 99) (w_ei ws (w_ar ws (n_v (vs ++ [Value.int x]) 1) 96)) (w_ei ws (w_ar ws (n_v (vs ++ [Value.int x]) 1) 98))
      simp only [e_1, q1]
      exact vc_Mo_bestOrder_14_4 (v_iv (n_v vs 8)) (w_fi ws (n_v vs 0) 99) (w_ei ws (w_ar ws (n_v vs 0) 96)) (w_ei ws (w_ar ws (n_v vs 0) 98)) f8 kz_0_99
  have nf5 : fc_1 PRD (20, [1, 2], [60, 1, 2, 346, 99, 97, 98]) ws (vs ++ [Value.int x]) := by
    refine ⟨nf_inA hl rfl, sgq_1624 ?_⟩
    · show BSL (w_fi ws (n_v (vs ++ [Value.int x]) 1) 99) (w_ei ws (w_ar ws (n_v (vs ++ [Value.int x]) 1) 97)) (w_ei ws (w_ar ws (n_v (vs ++ [Value.int x]) 1) 98)) (v_iv (n_v (vs ++ [Value.int x]) 2))
      simp only [e_1, e_2, q1]
      exact vc_Mo_bestOrder_14_5 (v_iv (n_v vs 2)) (w_fi ws (n_v vs 0) 99) (w_ei ws (w_ar ws (n_v vs 0) 98)) (w_ei ws (w_ar ws (n_v vs 0) 97)) k2 f9 kz_0_99
  have nf6 : fc_1 PRD (20, [12, 13], [50, 0, 0, 2, 6, 0, 2, 0, 0, 1, 0, 0, 2, 1, 0, 6, 2, 0, 9, 1, 1]) ws (vs ++ [Value.int x]) := by
    refine ⟨nf_inA hl rfl, sgq_1628 ?_⟩
    · show (0 ≤ v_iv (n_v (vs ++ [Value.int x]) 12)) ∧ (v_iv (n_v (vs ++ [Value.int x]) 12) ≤ (9 * v_iv (n_v (vs ++ [Value.int x]) 13)))
      simp only [e_12, e_13]
      exact vc_Mo_bestOrder_14_6 (v_iv (n_v vs 4)) (v_iv (n_v vs 5)) (v_iv (n_v vs 11)) (v_iv (n_v vs 12)) (v_iv (n_v vs 13)) k4 k5 k11 k12 k13 d0 d2 f1 f10
  have nf7 : fc_1 PRD (24, [0, 1], []) ws (vs ++ [Value.int x]) := by
    refine ⟨nf_inA hl rfl, sgq_5 ?_⟩
    · show n_v (vs ++ [Value.int x]) 0 = n_v (vs ++ [Value.int x]) 1
      first | rfl | simp only [e_0, e_1, q1]
  obtain ⟨x0, e0, _, _⟩ := tv_int t9 rfl
  have e1 : v_iv (n_v vs 9) = x0.toInt := by rw [e0]; rfl
  have ho : sy_ofs (vs ++ [Value.int x]) (14, 9, 0, 0) := by
    refine ⟨x, x0, by rw [List.getElem?_append_right (by rw [hl]; decide), hl]; rfl, ?_, ?_, ?_⟩
    · rw [List.getElem?_append_left (by rw [hl]; decide)]; exact n_v_some (by rw [hl]; decide) e0
    · show x0.toInt + 0 ≤ x.toInt; omega
    · show x.toInt ≤ x0.toInt + 0; omega
  exact ⟨(fun _ h => (by cases h)), [Value.int x], ag_one hx, List.forall_mem_cons.mpr ⟨⟨show (20 : Nat) < 100 from by decide, nf0⟩, List.forall_mem_cons.mpr ⟨⟨show (20 : Nat) < 100 from by decide, nf1⟩, List.forall_mem_cons.mpr ⟨⟨show (20 : Nat) < 100 from by decide, nf2⟩, List.forall_mem_cons.mpr ⟨⟨show (23 : Nat) < 100 from by decide, nf3⟩, List.forall_mem_cons.mpr ⟨⟨show (20 : Nat) < 100 from by decide, nf4⟩, List.forall_mem_cons.mpr ⟨⟨show (20 : Nat) < 100 from by decide, nf5⟩, List.forall_mem_cons.mpr ⟨⟨show (20 : Nat) < 100 from by decide, nf6⟩, List.forall_mem_cons.mpr ⟨⟨show (24 : Nat) < 100 from by decide, nf7⟩, (fun _ h => (by cases h))⟩⟩⟩⟩⟩⟩⟩⟩, List.forall_mem_cons.mpr ⟨ho, (fun _ h => (by cases h))⟩⟩
set_option maxHeartbeats 4000000 in
theorem vc_Mo_bestOrder_15_0 (x7 : Int) (members_0 : Int) (k7 : 0 ≤ x7 ∧ x7 ≤ 26) (g0 : x7 = members_0) (kz_0_99 : 0 ≤ members_0 ∧ members_0 ≤ 26) : x7 = members_0 := by
  first
    | omega
set_option maxHeartbeats 4000000 in
theorem vc_Mo_bestOrder_15_1 (x5 : Int) (x7 : Int) (members_0 : Int) (order_0 : Int → Int) (member_0 : Int → Int) (best_0 : Int → Int) (k5 : 0 ≤ x5 ∧ x5 ≤ 26) (k7 : 0 ≤ x7 ∧ x7 ≤ 26) (d0 : x7 + 0 ≤ x5 ∧ x5 ≤ x7 + 4294967296) (g0 : x7 = members_0) (f6 : SEB (members_0) (order_0) (member_0)) (f7 : CPB (best_0) (order_0) (x5)) (kz_0_99 : 0 ≤ members_0 ∧ members_0 ≤ 26) : BST (members_0) (best_0) (member_0) := by
  first
    | exact bst_cpb ‹CPB _ _ _› (by omega) ‹SEB _ _ _›
set_option maxHeartbeats 4000000 in
theorem vc_Mo_bestOrder_15_2 (x6 : Int) (gx : Int) (k6 : (-2) ≤ x6 ∧ x6 ≤ 16777216) (ex2 : gx = x6) : 1 * gx + ((-1) * x6 + 0) ≤ 0 := by
  first
    | omega
set_option maxHeartbeats 4000000 in
theorem vc_Mo_bestOrder_15_3 (x6 : Int) (gx : Int) (k6 : (-2) ≤ x6 ∧ x6 ≤ 16777216) (ex2 : gx = x6) : (-1) * gx + (1 * x6 + 0) ≤ 0 := by
  first
    | omega
set_option maxHeartbeats 4000000 in
theorem vc_Mo_bestOrder_15_4 (x7 : Int) (members_0 : Int) (k7 : 0 ≤ x7 ∧ x7 ≤ 26) (g0 : x7 = members_0) (f3 : members_0 ≤ 7) (kz_0_99 : 0 ≤ members_0 ∧ members_0 ≤ 26) : x7 ≤ 8 := by
  first
    | omega
set_option maxHeartbeats 4000000 in
theorem vc_Mo_bestOrder_15_5 (x6 : Int) (x7 : Int) (members_0 : Int) (order_0 : Int → Int) (k7 : 0 ≤ x7 ∧ x7 ≤ 26) (g0 : x7 = members_0) (f2 : DSM (members_0) (order_0)) (kz_0_99 : 0 ≤ members_0 ∧ members_0 ≤ 26) : DIS (order_0) (x7) := by
  first
    | (rw [show x7 = members_0 by omega]; exact ‹DSM _ _›)
    | (rw [show x6 = members_0 by omega]; exact ‹DSM _ _›)
    | (rw [show x8 = members_0 by omega]; exact ‹DSM _ _›)
set_option maxHeartbeats 4000000 in
theorem vc_Mo_bestOrder_15_6 (x5 : Int) (x6 : Int) (x7 : Int) (members_0 : Int) (order_0 : Int → Int) (gx : Int) (k6 : (-2) ≤ x6 ∧ x6 ≤ 16777216) (k7 : 0 ≤ x7 ∧ x7 ≤ 26) (g0 : x7 = members_0) (f4 : ORQ (members_0) (order_0) (x6)) (kz_0_99 : 0 ≤ members_0 ∧ members_0 ≤ 26) (ex2 : gx = x6) : ORM (order_0) (x7) (gx) := by
  first
    | (have h := ‹ORQ _ _ _›; unfold ORQ at h; unfold ORM at h ⊢; rw [show x7 = members_0 by omega]; omega)
    | (have h := ‹ORQ _ _ _›; unfold ORQ at h; unfold ORM at h ⊢; rw [show x6 = members_0 by omega]; omega)
    | (have h := ‹ORQ _ _ _›; unfold ORQ at h; unfold ORM at h ⊢; rw [show x8 = members_0 by omega]; omega)
    | (rw [show x7 = members_0 by omega, show gx = x5 by omega]; exact ‹ORQ _ _ _›)
    | (rw [show x6 = members_0 by omega, show gx = x4 by omega]; exact ‹ORQ _ _ _›)
    | (rw [show x8 = members_0 by omega, show gx = x4 by omega]; exact ‹ORQ _ _ _›)
set_option maxHeartbeats 4000000 in
theorem vc_Mo_bestOrder_15_7 (x6 : Int) (x7 : Int) (members_0 : Int) (order_0 : Int → Int) (member_0 : Int → Int) (k7 : 0 ≤ x7 ∧ x7 ≤ 26) (g0 : x7 = members_0) (f6 : SEB (members_0) (order_0) (member_0)) (kz_0_99 : 0 ≤ members_0 ∧ members_0 ≤ 26) : SEM (order_0) (member_0) (x7) := by
  first
    | (rw [show x7 = members_0 by omega]; exact ‹SEB _ _ _›)
    | (rw [show x6 = members_0 by omega]; exact ‹SEB _ _ _›)
    | (rw [show x8 = members_0 by omega]; exact ‹SEB _ _ _›)
def o_Mo_bestOrder_15 : or_T := (225, 8, [(0, (2, 0, 0, [165])), (5, (0, 0, 26, [])), (6, (0, -2, 16777216, [])), (7, (0, 0, 26, []))], [(9, [7, 1], [99]), (20, [1], [60, 1, 1, 329, 99, 96]), (20, [1], [50, 1, 0, 99, 0, 3, 2, 0, 99, 0, 7]), (20, [1, 6], [60, 1, 1, 330, 99, 96]), (20, [1], [60, 1, 2, 344, 99, 96, 98]), (20, [1, 5], [60, 0, 2, 347, 97, 96]), (24, [0, 1], [])], [], [(0, -2, 16777216, [])], [(20, [7, 1], [50, 1, 0, 1099, 1, 2, 1, 0, 2, 1, 99]), (20, [1], [60, 1, 2, 345, 99, 97, 98]), (23, [8, 6], [0, 1, -1]), (23, [8, 6], [0, -1, 1]), (20, [7], [50, 0, 0, 0, 2, 1, 0, 0, 8]), (20, [1, 7], [60, 0, 1, 322, 96]), (20, [1, 7, 8], [60, 0, 1, 323, 96]), (20, [1, 7], [60, 0, 2, 328, 96, 98])], [], [(5, 7, 0, 4294967296)])
theorem oo_Mo_bestOrder_15 {kA : Nat → ClassId} : or_ok PRD kA GG o_Mo_bestOrder_15 := by
  refine or_mk fun A ta ws vs hD hth hl => ?_
  intro t0 r0 t5 k5 t6 k6 t7 k7 d0 f0 f2 f3 f4 f6 f7 f9
  replace f0 := shm_612 f0
  replace f2 := shm_1621 f2
  replace f3 := shm_1617 f3
  replace f4 := shm_1627 f4
  replace f6 := shm_1623 f6
  replace f7 := shm_1632 f7
  replace f9 := shm_5 f9
  have q1 : n_v vs 1 = n_v vs 0 := f9.symm
  simp only [q1] at f0 f2 f3 f4 f6 f7
  have g0 : v_iv (n_v vs 7) = w_fi ws (n_v vs 0) 99 := congrArg v_iv f0
  have kz_0_99 := fdq_158 hD hth r0
  obtain ⟨x, ex, hx⟩ := iv_ex (ta := ta) (lo := (-2)) (hi := 16777216) (z := v_iv (n_v vs 6)) (by omega) (by omega) (by omega) (by omega)
  have ex2 : v_iv (Value.int x) = v_iv (n_v vs 6) := ex
  have ex3 : (-2) ≤ v_iv (Value.int x) ∧ v_iv (Value.int x) ≤ 16777216 := tv_rng hx
  have e_1 : n_v (vs ++ [Value.int x]) 1 = n_v vs 1 := n_v_old (by rw [hl]; decide)
  have e_6 : n_v (vs ++ [Value.int x]) 6 = n_v vs 6 := n_v_old (by rw [hl]; decide)
  have e_7 : n_v (vs ++ [Value.int x]) 7 = n_v vs 7 := n_v_old (by rw [hl]; decide)
  have e_8 : n_v (vs ++ [Value.int x]) 8 = Value.int x := n_v_new hl
  have nf0 : fc_1 PRD (20, [7, 1], [50, 1, 0, 1099, 1, 2, 1, 0, 2, 1, 99]) ws (vs ++ [Value.int x]) := by
    refine ⟨nf_inA hl rfl, sgq_1629 ?_⟩
    · show v_iv (n_v (vs ++ [Value.int x]) 7) = w_fi ws (n_v (vs ++ [Value.int x]) 1) 99
      simp only [e_1, e_7, q1]
      exact vc_Mo_bestOrder_15_0 (v_iv (n_v vs 7)) (w_fi ws (n_v vs 0) 99) k7 g0 kz_0_99
  have nf1 : fc_1 PRD (20, [1], [60, 1, 2, 345, 99, 97, 98]) ws (vs ++ [Value.int x]) := by
    refine ⟨nf_inA hl rfl, sgq_1626 ?_⟩
    · show BST (w_fi ws (n_v (vs ++ [Value.int x]) 1) 99) (w_ei ws (w_ar ws (n_v (vs ++ [Value.int x]) 1) 97)) (w_ei ws (w_ar ws (n_v (vs ++ [Value.int x]) 1) 98))
      simp only [e_1, q1]
      exact vc_Mo_bestOrder_15_1 (v_iv (n_v vs 5)) (v_iv (n_v vs 7)) (w_fi ws (n_v vs 0) 99) (w_ei ws (w_ar ws (n_v vs 0) 96)) (w_ei ws (w_ar ws (n_v vs 0) 98)) (w_ei ws (w_ar ws (n_v vs 0) 97)) k5 k7 d0 g0 f6 f7 kz_0_99
  have nf2 : fc_1 PRD (23, [8, 6], [0, 1, -1]) ws (vs ++ [Value.int x]) := by
    refine ⟨nf_inA hl rfl, sgq_7 ?_⟩
    · show 1 * v_iv (n_v (vs ++ [Value.int x]) 8) + ((-1) * v_iv (n_v (vs ++ [Value.int x]) 6) + 0) ≤ 0
      simp only [e_6, e_8]
      exact vc_Mo_bestOrder_15_2 (v_iv (n_v vs 6)) (v_iv (Value.int x)) k6 ex2
  have nf3 : fc_1 PRD (23, [8, 6], [0, -1, 1]) ws (vs ++ [Value.int x]) := by
    refine ⟨nf_inA hl rfl, sgq_22 ?_⟩
    · show (-1) * v_iv (n_v (vs ++ [Value.int x]) 8) + (1 * v_iv (n_v (vs ++ [Value.int x]) 6) + 0) ≤ 0
      simp only [e_6, e_8]
      exact vc_Mo_bestOrder_15_3 (v_iv (n_v vs 6)) (v_iv (Value.int x)) k6 ex2
  have nf4 : fc_1 PRD (20, [7], [50, 0, 0, 0, 2, 1, 0, 0, 8]) ws (vs ++ [Value.int x]) := by
    refine ⟨nf_inA hl rfl, sgq_660 ?_⟩
    · show v_iv (n_v (vs ++ [Value.int x]) 7) ≤ 8
      rw [e_7]
      exact vc_Mo_bestOrder_15_4 (v_iv (n_v vs 7)) (w_fi ws (n_v vs 0) 99) k7 g0 f3 kz_0_99
  have nf5 : fc_1 PRD (20, [1, 7], [60, 0, 1, 322, 96]) ws (vs ++ [Value.int x]) := by
    refine ⟨nf_inA hl rfl, sgq_661 ?_⟩
    · show DIS (w_ei ws (w_ar ws (n_v (vs ++ [Value.int x]) 1) 96)) (v_iv (n_v (vs ++ [Value.int x]) 7))
      simp only [e_1, e_7, q1]
      exact vc_Mo_bestOrder_15_5 (v_iv (n_v vs 6)) (v_iv (n_v vs 7)) (w_fi ws (n_v vs 0) 99) (w_ei ws (w_ar ws (n_v vs 0) 96)) k7 g0 f2 kz_0_99
  have nf6 : fc_1 PRD (20, [1, 7, 8], [60, 0, 1, 323, 96]) ws (vs ++ [Value.int x]) := by
    refine ⟨nf_inA hl rfl, sgq_662 ?_⟩
    · show ORM (w_ei ws (w_ar ws (n_v (vs ++ [Value.int x]) 1) 96)) (v_iv (n_v (vs ++ [Value.int x]) 7)) (v_iv (n_v (vs ++ [Value.int x]) 8))
      simp only [e_1, e_7, e_8, q1]
      exact vc_Mo_bestOrder_15_6 (v_iv (n_v vs 5)) (v_iv (n_v vs 6)) (v_iv (n_v vs 7)) (w_fi ws (n_v vs 0) 99) (w_ei ws (w_ar ws (n_v vs 0) 96)) (v_iv (Value.int x)) k6 k7 g0 f4 kz_0_99 ex2
  have nf7 : fc_1 PRD (20, [1, 7], [60, 0, 2, 328, 96, 98]) ws (vs ++ [Value.int x]) := by
    refine ⟨nf_inA hl rfl, sgq_663 ?_⟩
    · show SEM (w_ei ws (w_ar ws (n_v (vs ++ [Value.int x]) 1) 96)) (w_ei ws (w_ar ws (n_v (vs ++ [Value.int x]) 1) 98)) (v_iv (n_v (vs ++ [Value.int x]) 7))
      simp only [e_1, e_7, q1]
      exact vc_Mo_bestOrder_15_7 (v_iv (n_v vs 6)) (v_iv (n_v vs 7)) (w_fi ws (n_v vs 0) 99) (w_ei ws (w_ar ws (n_v vs 0) 96)) (w_ei ws (w_ar ws (n_v vs 0) 98)) k7 g0 f6 kz_0_99
  exact ⟨(fun _ h => (by cases h)), [Value.int x], ag_one hx, List.forall_mem_cons.mpr ⟨⟨show (20 : Nat) < 100 from by decide, nf0⟩, List.forall_mem_cons.mpr ⟨⟨show (20 : Nat) < 100 from by decide, nf1⟩, List.forall_mem_cons.mpr ⟨⟨show (23 : Nat) < 100 from by decide, nf2⟩, List.forall_mem_cons.mpr ⟨⟨show (23 : Nat) < 100 from by decide, nf3⟩, List.forall_mem_cons.mpr ⟨⟨show (20 : Nat) < 100 from by decide, nf4⟩, List.forall_mem_cons.mpr ⟨⟨show (20 : Nat) < 100 from by decide, nf5⟩, List.forall_mem_cons.mpr ⟨⟨show (20 : Nat) < 100 from by decide, nf6⟩, List.forall_mem_cons.mpr ⟨⟨show (20 : Nat) < 100 from by decide, nf7⟩, (fun _ h => (by cases h))⟩⟩⟩⟩⟩⟩⟩⟩, (fun _ h => (by cases h))⟩
set_option maxHeartbeats 4000000 in
theorem vc_Mo_bestOrder_16_0 (x6 : Int) (x7 : Int) (x8 : Int) (members_0 : Int) (order_0 : Int → Int) (k7 : 0 ≤ x7 ∧ x7 ≤ 26) (f0 : x7 = members_0) (f9 : DIS (order_0) (x7)) (kz_0_99 : 0 ≤ members_0 ∧ members_0 ≤ 26) : DSM (members_0) (order_0) := by
  first
    | (have h := ‹DIS _ _›; unfold DSM; rw [show members_0 = x7 by omega]; exact h)
    | (have h := ‹DIS _ _›; unfold DSM; rw [show members_0 = x6 by omega]; exact h)
    | (have h := ‹DIS _ _›; unfold DSM; rw [show members_0 = x8 by omega]; exact h)
set_option maxHeartbeats 4000000 in
theorem vc_Mo_bestOrder_16_1 (members_0 : Int) (f5 : members_0 ≤ 7) (kz_0_99 : 0 ≤ members_0 ∧ members_0 ≤ 26) : members_0 ≤ 7 := by
  first
    | omega
set_option maxHeartbeats 4000000 in
theorem vc_Mo_bestOrder_16_2 (x6 : Int) (x7 : Int) (x8 : Int) (x9 : Int) (members_0 : Int) (order_0 : Int → Int) (gx : Int) (k6 : (-2) ≤ x6 ∧ x6 ≤ 16777216) (k7 : 0 ≤ x7 ∧ x7 ≤ 26) (k8 : (-2) ≤ x8 ∧ x8 ≤ 16777216) (k9 : 0 ≤ x9 ∧ x9 ≤ 1) (f0 : x7 = members_0) (f2 : 1 * x8 + ((-1) * x6 + 0) ≤ 0) (f3 : (-1) * x8 + (1 * x6 + 0) ≤ 0) (f10 : ORN (order_0) (x7) (x8) (x9)) (kz_0_99 : 0 ≤ members_0 ∧ members_0 ≤ 26) (ex2 : gx = 0 + (1 * x6 + 0)) : ORR (members_0) (order_0) (gx) (x9) := by
  first
    | (have h := ‹ORN _ _ _ _›; intro z; have := h z; rw [show members_0 = x7 by omega]; omega)
    | (have h := ‹ORN _ _ _ _›; intro z; have := h z; rw [show members_0 = x6 by omega]; omega)
    | (have h := ‹ORN _ _ _ _›; intro z; have := h z; rw [show members_0 = x8 by omega]; omega)
set_option maxHeartbeats 4000000 in
theorem vc_Mo_bestOrder_16_3 (x6 : Int) (x8 : Int) (gx : Int) (k6 : (-2) ≤ x6 ∧ x6 ≤ 16777216) (k8 : (-2) ≤ x8 ∧ x8 ≤ 16777216) (f2 : 1 * x8 + ((-1) * x6 + 0) ≤ 0) (f3 : (-1) * x8 + (1 * x6 + 0) ≤ 0) (f6 : (-1) * x6 + 0 ≤ (-1)) (ex2 : gx = 0 + (1 * x6 + 0)) : (-1) * gx + 0 ≤ (-1) := by
  first
    | omega
set_option maxHeartbeats 4000000 in
theorem vc_Mo_bestOrder_16_4 (x6 : Int) (x7 : Int) (x8 : Int) (members_0 : Int) (member_0 : Int → Int) (order_0 : Int → Int) (k7 : 0 ≤ x7 ∧ x7 ≤ 26) (f0 : x7 = members_0) (f11 : SEM (order_0) (member_0) (x7)) (kz_0_99 : 0 ≤ members_0 ∧ members_0 ≤ 26) : SEB (members_0) (order_0) (member_0) := by
  first
    | assumption
    | (have h := ‹SEM _ _ _›; unfold SEB; rw [show members_0 = x7 by omega]; exact h)
    | (have h := ‹SEM _ _ _›; unfold SEB; rw [show members_0 = x6 by omega]; exact h)
    | (have h := ‹SEM _ _ _›; unfold SEB; rw [show members_0 = x8 by omega]; exact h)
set_option maxHeartbeats 4000000 in
theorem vc_Mo_bestOrder_16_5 (members_0 : Int) (best_0 : Int → Int) (member_0 : Int → Int) (f1 : BST (members_0) (best_0) (member_0)) (kz_0_99 : 0 ≤ members_0 ∧ members_0 ≤ 26) : BST (members_0) (best_0) (member_0) := by
  first
    | assumption
    | exact ‹BSL _ _ _ _› (by omega)
set_option maxHeartbeats 4000000 in
theorem vc_Mo_bestOrder_16_6 (x2 : Int) (k2 : 0 ≤ x2 ∧ x2 ≤ 441) (f7 : x2 ≤ 999999) : x2 ≤ 999999 := by
  first
    | omega
def o_Mo_bestOrder_16 : or_T := (229, 10, [(0, (2, 0, 0, [165])), (1, (2, 0, 0, [165])), (2, (0, 0, 441, [])), (5, (0, 0, 26, [])), (6, (0, -2, 16777216, [])), (7, (0, 0, 26, [])), (8, (0, -2, 16777216, [])), (9, (0, 0, 1, []))], [(20, [7, 1], [50, 1, 0, 1099, 1, 2, 1, 0, 2, 1, 99]), (20, [1], [60, 1, 2, 345, 99, 97, 98]), (23, [8, 6], [0, 1, -1]), (23, [8, 6], [0, -1, 1]), (20, [7], [50, 0, 0, 0, 2, 1, 0, 0, 8]), (20, [1], [50, 1, 0, 99, 0, 3, 2, 0, 99, 0, 7]), (23, [6], [-1, -1]), (20, [2], [50, 0, 0, 0, 2, 1, 0, 0, 999999]), (24, [0, 1], []), (20, [1, 7], [60, 0, 1, 322, 96]), (20, [1, 7, 8, 9], [60, 0, 1, 324, 96]), (20, [1, 7], [60, 0, 2, 328, 96, 98]), (102, [8], [6901746346790563787434755862277025452451108972170386555162524223799296]), (23, [8, 6], [0, 1, -1]), (23, [8, 6], [0, -1, 1]), (7, [5, 7], [3]), (23, [6], [-1, -1])], [], [(0, -2, 16777216, [])], [(20, [1], [60, 1, 1, 329, 99, 96]), (20, [1], [50, 1, 0, 99, 0, 3, 2, 0, 99, 0, 7]), (20, [1, 10, 9], [60, 1, 1, 332, 99, 96]), (23, [10], [-1, -1]), (20, [1], [60, 1, 2, 344, 99, 96, 98]), (20, [1], [60, 1, 2, 345, 99, 97, 98]), (20, [2], [50, 0, 0, 0, 2, 1, 0, 0, 999999]), (24, [0, 1], [])], [(10, 6, 0, 0)], [(5, 7, 0, 4294967296)])
theorem oo_Mo_bestOrder_16 {kA : Nat → ClassId} : or_ok PRD kA GG o_Mo_bestOrder_16 := by
  refine or_mk fun A ta ws vs hD hth hl => ?_
  intro t0 r0 t1 r1 t2 k2 t5 k5 t6 k6 t7 k7 t8 k8 t9 k9 d0 f0 f1 f2 f3 f4 f5 f6 f7 f8 f9 f10 f11 ta1 w1 le1 s1 f13 f14 f15 f16
  replace f0 := shm_1629 f0
  replace f1 := shm_1626 f1
  replace f2 := shm_7 f2
  replace f3 := shm_22 f3
  replace f4 := shm_660 f4
  replace f5 := shm_1617 f5
  replace f6 := shm_626 f6
  replace f7 := shm_1630 f7
  replace f8 := shm_5 f8
  replace f9 := shm_661 f9
  replace f10 := shm_665 f10
  replace f11 := shm_663 f11
  replace f13 := shm_7 f13
  replace f14 := shm_22 f14
  replace f15 := shm_2 f15
  replace f16 := shm_626 f16
  have q1 : n_v vs 1 = n_v vs 0 := f8.symm
  simp only [q1] at f0 f1 f5 f9 f10 f11
  have cr_0_96 := fdq_166 hD hth r0
  have cr_0_97 := fdq_169 hD hth r0
  have cr_0_98 := fdq_157 hD hth r0
  have hK_0_96 := elq_96 hD hth cr_0_96
  have hK_0_97 := elq_99 hD hth cr_0_97
  have hK_0_98 := elq_90 hD hth cr_0_98
  have kz_0_99 := fdq_158 hD hth r0
  obtain ⟨x, ex, hx⟩ := iv_ex (ta := ta) (lo := (-2)) (hi := 16777216) (z := 0 + (1 * v_iv (n_v vs 6) + 0)) (by omega) (by omega) (by omega) (by omega)
  have ex2 : v_iv (Value.int x) = 0 + (1 * v_iv (n_v vs 6) + 0) := ex
  have ex3 : (-2) ≤ v_iv (Value.int x) ∧ v_iv (Value.int x) ≤ 16777216 := tv_rng hx
  have e_0 : n_v (vs ++ [Value.int x]) 0 = n_v vs 0 := n_v_old (by rw [hl]; decide)
  have e_1 : n_v (vs ++ [Value.int x]) 1 = n_v vs 1 := n_v_old (by rw [hl]; decide)
  have e_2 : n_v (vs ++ [Value.int x]) 2 = n_v vs 2 := n_v_old (by rw [hl]; decide)
  have e_9 : n_v (vs ++ [Value.int x]) 9 = n_v vs 9 := n_v_old (by rw [hl]; decide)
  have e_10 : n_v (vs ++ [Value.int x]) 10 = Value.int x := n_v_new hl
  have nf0 : fc_1 PRD (20, [1], [60, 1, 1, 329, 99, 96]) ws (vs ++ [Value.int x]) := by
    refine ⟨nf_inA hl rfl, sgq_1621 ?_⟩
    · show DSM (w_fi ws (n_v (vs ++ [Value.int x]) 1) 99) (w_ei ws (w_ar ws (n_v (vs ++ [Value.int x]) 1) 96))
      simp only [e_1, q1]
      exact vc_Mo_bestOrder_16_0 (v_iv (n_v vs 6)) (v_iv (n_v vs 7)) (v_iv (n_v vs 8)) (w_fi ws (n_v vs 0) 99) (w_ei ws (w_ar ws (n_v vs 0) 96)) k7 f0 f9 kz_0_99
  have nf1 : fc_1 PRD (20, [1], [50, 1, 0, 99, 0, 3, 2, 0, 99, 0, 7]) ws (vs ++ [Value.int x]) := by
    refine ⟨nf_inA hl rfl, sgq_1617 ?_⟩
    · show w_fi ws (n_v (vs ++ [Value.int x]) 1) 99 ≤ 7
      simp only [e_1, q1]
      exact vc_Mo_bestOrder_16_1 (w_fi ws (n_v vs 0) 99) f5 kz_0_99
  have nf2 : fc_1 PRD (20, [1, 10, 9], [60, 1, 1, 332, 99, 96]) ws (vs ++ [Value.int x]) := by
    refine ⟨nf_inA hl rfl, sgq_1631 ?_⟩
    · show ORR (w_fi ws (n_v (vs ++ [Value.int x]) 1) 99) (w_ei ws (w_ar ws (n_v (vs ++ [Value.int x]) 1) 96)) (v_iv (n_v (vs ++ [Value.int x]) 10)) (v_iv (n_v (vs ++ [Value.int x]) 9))
      simp only [e_1, e_9, e_10, q1]
      exact vc_Mo_bestOrder_16_2 (v_iv (n_v vs 6)) (v_iv (n_v vs 7)) (v_iv (n_v vs 8)) (v_iv (n_v vs 9)) (w_fi ws (n_v vs 0) 99) (w_ei ws (w_ar ws (n_v vs 0) 96)) (v_iv (Value.int x)) k6 k7 k8 k9 f0 f2 f3 f10 kz_0_99 ex2
  have nf3 : fc_1 PRD (23, [10], [-1, -1]) ws (vs ++ [Value.int x]) := by
    refine ⟨nf_inA hl rfl, sgq_626 ?_⟩
    · show (-1) * v_iv (n_v (vs ++ [Value.int x]) 10) + 0 ≤ (-1)
      rw [e_10]
      exact vc_Mo_bestOrder_16_3 (v_iv (n_v vs 6)) (v_iv (n_v vs 8)) (v_iv (Value.int x)) k6 k8 f2 f3 f6 ex2
  have nf4 : fc_1 PRD (20, [1], [60, 1, 2, 344, 99, 96, 98]) ws (vs ++ [Value.int x]) := by
    refine ⟨nf_inA hl rfl, sgq_1623 ?_⟩
    · show SEB (w_fi ws (n_v (vs ++ [Value.int x]) 1) 99) (w_ei ws (w_ar ws (n_v (vs ++ [Value.int x]) 1) 96)) (w_ei ws (w_ar ws (n_v (vs ++ [Value.int x]) 1) 98))
      simp only [e_1, q1]
      exact vc_Mo_bestOrder_16_4 (v_iv (n_v vs 6)) (v_iv (n_v vs 7)) (v_iv (n_v vs 8)) (w_fi ws (n_v vs 0) 99) (w_ei ws (w_ar ws (n_v vs 0) 98)) (w_ei ws (w_ar ws (n_v vs 0) 96)) k7 f0 f11 kz_0_99
  have nf5 : fc_1 PRD (20, [1], [60, 1, 2, 345, 99, 97, 98]) ws (vs ++ [Value.int x]) := by
    refine ⟨nf_inA hl rfl, sgq_1626 ?_⟩
    · show BST (w_fi ws (n_v (vs ++ [Value.int x]) 1) 99) (w_ei ws (w_ar ws (n_v (vs ++ [Value.int x]) 1) 97)) (w_ei ws (w_ar ws (n_v (vs ++ [Value.int x]) 1) 98))
      simp only [e_1, q1]
      exact vc_Mo_bestOrder_16_5 (w_fi ws (n_v vs 0) 99) (w_ei ws (w_ar ws (n_v vs 0) 97)) (w_ei ws (w_ar ws (n_v vs 0) 98)) f1 kz_0_99
  have nf6 : fc_1 PRD (20, [2], [50, 0, 0, 0, 2, 1, 0, 0, 999999]) ws (vs ++ [Value.int x]) := by
    refine ⟨nf_inA hl rfl, sgq_1630 ?_⟩
    · show v_iv (n_v (vs ++ [Value.int x]) 2) ≤ 999999
      rw [e_2]
      exact vc_Mo_bestOrder_16_6 (v_iv (n_v vs 2)) k2 f7
  have nf7 : fc_1 PRD (24, [0, 1], []) ws (vs ++ [Value.int x]) := by
    refine ⟨nf_inA hl rfl, sgq_5 ?_⟩
    · show n_v (vs ++ [Value.int x]) 0 = n_v (vs ++ [Value.int x]) 1
      first | rfl | simp only [e_0, e_1, q1]
  obtain ⟨x0, e0, _, _⟩ := tv_int t6 rfl
  have e1 : v_iv (n_v vs 6) = x0.toInt := by rw [e0]; rfl
  have ho : sy_ofs (vs ++ [Value.int x]) (10, 6, 0, 0) := by
    refine ⟨x, x0, by rw [List.getElem?_append_right (by rw [hl]; decide), hl]; rfl, ?_, ?_, ?_⟩
    · rw [List.getElem?_append_left (by rw [hl]; decide)]; exact n_v_some (by rw [hl]; decide) e0
    · show x0.toInt + 0 ≤ x.toInt; omega
    · show x.toInt ≤ x0.toInt + 0; omega
  exact ⟨(fun _ h => (by cases h)), [Value.int x], ag_one hx, List.forall_mem_cons.mpr ⟨⟨show (20 : Nat) < 100 from by decide, nf0⟩, List.forall_mem_cons.mpr ⟨⟨show (20 : Nat) < 100 from by decide, nf1⟩, List.forall_mem_cons.mpr ⟨⟨show (20 : Nat) < 100 from by decide, nf2⟩, List.forall_mem_cons.mpr ⟨⟨show (23 : Nat) < 100 from by decide, nf3⟩, List.forall_mem_cons.mpr ⟨⟨show (20 : Nat) < 100 from by decide, nf4⟩, List.forall_mem_cons.mpr ⟨⟨show (20 : Nat) < 100 from by decide, nf5⟩, List.forall_mem_cons.mpr ⟨⟨show (20 : Nat) < 100 from by decide, nf6⟩, List.forall_mem_cons.mpr ⟨⟨show (24 : Nat) < 100 from by decide, nf7⟩, (fun _ h => (by cases h))⟩⟩⟩⟩⟩⟩⟩⟩, List.forall_mem_cons.mpr ⟨ho, (fun _ h => (by cases h))⟩⟩
set_option maxHeartbeats 4000000 in
theorem vc_Mo_bestOrder_17_0 (x5 : Int) (x10 : Int) (x11 : Int) (order_0 : Int → Int) (members_0 : Int) (member_0 : Int → Int) (order_1 : Int → Int) (members_1 : Int) (member_1 : Int → Int) (best_1 : Int → Int) (best_0 : Int → Int) (k5 : 0 ≤ x5 ∧ x5 ≤ 25) (k10 : 0 ≤ x10 ∧ x10 ≤ 25) (k11 : 1 ≤ x11 ∧ x11 ≤ 26) (f0 : x11 = x5 + 1) (h9 : x10 = order_1 (x5)) (f19 : CPB (best_1) (order_1) (x5)) (fe_0_99_1 : members_0 = members_1) (hE_0_96_1 : ∀ j : Int, order_0 j = order_1 j) (hE_0_97_1 : ∀ j : Int, 0 ≤ j → (j = x5 → best_0 j = x10) ∧ (j ≠ x5 → best_0 j = best_1 j)) (hE_0_98_1 : ∀ j : Int, member_0 j = member_1 j) (kz_0_99 : 0 ≤ members_0 ∧ members_0 ≤ 26) : CPB (best_0) (order_0) (x11) := by
  subst fe_0_99_1
  have e_hE_0_96_1 := funext hE_0_96_1; subst e_hE_0_96_1
  have e_hE_0_98_1 := funext hE_0_98_1; subst e_hE_0_98_1
  first
    | exact cpb_step ‹CPB _ _ _› (by omega) (by assumption) (by omega) (by omega)
def o_Mo_bestOrder_17 : or_T := (191, 12, [(0, (2, 0, 0, [165])), (5, (0, 0, 25, [])), (8, (2, 0, 0, [233])), (10, (0, 0, 25, [])), (11, (0, 1, 26, []))], [(6, [11, 5], [1]), (24, [0, 1], []), (100, [8, 5, 10], []), (10, [10, 9, 5], []), (9, [9, 1], [96]), (9, [8, 1], [97]), (20, [1, 5], [60, 0, 2, 347, 97, 96])], [], [], [(20, [1, 11], [60, 0, 2, 347, 97, 96])], [], [(11, 5, 1, 1), (5, 7, -4294967296, -1)])
theorem oo_Mo_bestOrder_17 {kA : Nat → ClassId} : or_ok PRD kA GG o_Mo_bestOrder_17 := by
  refine or_mk fun A ta ws vs hD hth hl => ?_
  intro t0 r0 t5 k5 t8 r8 t10 k10 t11 k11 d0 d2 f0 f7 ta1 w1 le1 s1 f9 f10 f11 f19
  replace f0 := shm_4 f0
  replace f7 := shm_5 f7
  have s1 : (∀ b j, w_el ws b j = if b = v_ad (n_v vs 8) ∧ j = (v_iv (n_v vs 5)).toNat then v_iv (n_v vs 10) else w_el w1 b j) ∧ ∀ b k, w_fd ws b k = w_fd w1 b k := s1.2
  replace f9 := shm_107 f9
  replace f10 := shm_666 f10
  replace f11 := shm_672 f11
  replace f19 := shm_1632 f19
  have q1 : n_v vs 1 = n_v vs 0 := f7.symm
  simp only [q1] at f10 f11 f19
  have ar_0_96_1 : w_ar w1 (n_v vs 0) 96 = w_ar ws (n_v vs 0) 96 := congrArg v_ad (s1.2 _ _).symm
  have cr_0_96 := fdq_166 hD hth r0
  have ar_0_97_1 : w_ar w1 (n_v vs 0) 97 = w_ar ws (n_v vs 0) 97 := congrArg v_ad (s1.2 _ _).symm
  have ar_0_98_1 : w_ar w1 (n_v vs 0) 98 = w_ar ws (n_v vs 0) 98 := congrArg v_ad (s1.2 _ _).symm
  have cr_0_98 := fdq_157 hD hth r0
  have ad_9 : v_ad (n_v vs 9) = w_ar ws (n_v vs 0) 96 := (congrArg v_ad f10).trans ar_0_96_1
  have ad_8 : v_ad (n_v vs 8) = w_ar ws (n_v vs 0) 97 := (congrArg v_ad f11).trans ar_0_97_1
  simp only [ad_9] at f9
  have h9 : v_iv (n_v vs 10) = w_ei w1 (w_ar ws (n_v vs 0) 96) (v_iv (n_v vs 5)) := f9
  simp only [ar_0_96_1, ar_0_98_1, ar_0_97_1] at f19
  have fe_0_99_1 : w_fi ws (n_v vs 0) 99 = w_fi w1 (n_v vs 0) 99 := congrArg v_iv (s1.2 _ _)
  have hE_0_96_1 : ∀ j : Int, w_ei ws (w_ar ws (n_v vs 0) 96) j = w_ei w1 (w_ar ws (n_v vs 0) 96) j := el_kp s1.1 r8 cr_0_96 (by decide)
  have hE_0_97_1 : ∀ j : Int, 0 ≤ j → (j = v_iv (n_v vs 5) → w_ei ws (w_ar ws (n_v vs 0) 97) j = v_iv (n_v vs 10)) ∧ (j ≠ v_iv (n_v vs 5) → w_ei ws (w_ar ws (n_v vs 0) 97) j = w_ei w1 (w_ar ws (n_v vs 0) 97) j) := fun j hj => ⟨fun h => by unfold w_ei; rw [s1.1, if_pos ⟨ad_8.symm, by rw [h]⟩], fun h => by unfold w_ei; rw [s1.1, if_neg (fun e => h (by have := e.2; omega))]⟩
  have hE_0_98_1 : ∀ j : Int, w_ei ws (w_ar ws (n_v vs 0) 98) j = w_ei w1 (w_ar ws (n_v vs 0) 98) j := el_kp s1.1 r8 cr_0_98 (by decide)
  have kz_0_99 := fdq_158 hD hth r0
  have nf0 : fc_1 PRD (20, [1, 11], [60, 0, 2, 347, 97, 96]) ws (vs) := by
    refine ⟨nf_in hl rfl, sgq_1632 ?_⟩
    · show CPB (w_ei ws (w_ar ws (n_v vs 1) 97)) (w_ei ws (w_ar ws (n_v vs 1) 96)) (v_iv (n_v vs 11))
      rw [q1]
      exact vc_Mo_bestOrder_17_0 (v_iv (n_v vs 5)) (v_iv (n_v vs 10)) (v_iv (n_v vs 11)) (w_ei ws (w_ar ws (n_v vs 0) 96)) (w_fi ws (n_v vs 0) 99) (w_ei ws (w_ar ws (n_v vs 0) 98)) (w_ei w1 (w_ar ws (n_v vs 0) 96)) (w_fi w1 (n_v vs 0) 99) (w_ei w1 (w_ar ws (n_v vs 0) 98)) (w_ei w1 (w_ar ws (n_v vs 0) 97)) (w_ei ws (w_ar ws (n_v vs 0) 97)) k5 k10 k11 f0 h9 f19 fe_0_99_1 hE_0_96_1 hE_0_97_1 hE_0_98_1 kz_0_99
  refine ⟨(fun _ h => (by cases h)), [], trivial, ?_, (fun _ h => (by cases h))⟩
  rw [List.append_nil]
  exact List.forall_mem_cons.mpr ⟨⟨show (20 : Nat) < 100 from by decide, nf0⟩, (fun _ h => (by cases h))⟩
set_option maxHeartbeats 4000000 in
theorem vc_Mo_bestOrder_18_0 (order_0 : Int → Int) (members_0 : Int) (f0 : DSM (members_0) (order_0)) (kz_0_99 : 0 ≤ members_0 ∧ members_0 ≤ 26) : DSM (members_0) (order_0) := by
  first
    | assumption
set_option maxHeartbeats 4000000 in
theorem vc_Mo_bestOrder_18_1 (members_0 : Int) (f1 : members_0 ≤ 7) (kz_0_99 : 0 ≤ members_0 ∧ members_0 ≤ 26) : members_0 ≤ 7 := by
  first
    | omega
set_option maxHeartbeats 4000000 in
theorem vc_Mo_bestOrder_18_2 (x3 : Int) (x7 : Int) (order_0 : Int → Int) (members_0 : Int) (gx : Int) (k3 : 0 ≤ x3 ∧ x3 ≤ 1) (k7 : (-2) ≤ x7 ∧ x7 ≤ 16777216) (f2 : ORR (members_0) (order_0) (x7) (x3)) (kz_0_99 : 0 ≤ members_0 ∧ members_0 ≤ 26) (ex2 : gx = (-1) + (1 * x7 + 0)) : ORZ (members_0) (order_0) (gx) (x3) := by
  first
    | (intro z
       have h := ‹ORR _ _ _ _› z
       unfold ORM
       omega)
set_option maxHeartbeats 4000000 in
theorem vc_Mo_bestOrder_18_3 (order_0 : Int → Int) (members_0 : Int) (member_0 : Int → Int) (f4 : SEB (members_0) (order_0) (member_0)) (kz_0_99 : 0 ≤ members_0 ∧ members_0 ≤ 26) : SEB (members_0) (order_0) (member_0) := by
  first
    | assumption
set_option maxHeartbeats 4000000 in
theorem vc_Mo_bestOrder_18_4 (x2 : Int) (members_0 : Int) (member_0 : Int → Int) (best_0 : Int → Int) (k2 : 0 ≤ x2 ∧ x2 ≤ 441) (f5 : BST (members_0) (best_0) (member_0)) (kz_0_99 : 0 ≤ members_0 ∧ members_0 ≤ 26) : BSL (members_0) (best_0) (member_0) (x2) := by
  first
    | assumption
    | (intro z; exfalso; omega)
    | exact fun _ => ‹BST _ _ _›
set_option maxHeartbeats 4000000 in
theorem vc_Mo_bestOrder_18_5 (x2 : Int) (x3 : Int) (k2 : 0 ≤ x2 ∧ x2 ≤ 441) (k3 : 0 ≤ x3 ∧ x3 ≤ 1) : (x3 = 1) ∨ (x2 ≤ 999999) := by
  first
    | omega
def o_Mo_bestOrder_18 : or_T := (34, 8, [(0, (2, 0, 0, [165])), (1, (2, 0, 0, [165])), (2, (0, 0, 441, [])), (3, (0, 0, 1, [])), (7, (0, -2, 16777216, []))], [(20, [1], [60, 1, 1, 329, 99, 96]), (20, [1], [50, 1, 0, 99, 0, 3, 2, 0, 99, 0, 7]), (20, [1, 7, 3], [60, 1, 1, 332, 99, 96]), (23, [7], [-1, -1]), (20, [1], [60, 1, 2, 344, 99, 96, 98]), (20, [1], [60, 1, 2, 345, 99, 97, 98]), (20, [2], [50, 0, 0, 0, 2, 1, 0, 0, 999999]), (24, [0, 1], [])], [], [(0, -2, 16777216, [])], [(20, [1], [60, 1, 1, 329, 99, 96]), (20, [1], [50, 1, 0, 99, 0, 3, 2, 0, 99, 0, 7]), (20, [1, 8, 3], [60, 1, 1, 331, 99, 96]), (20, [1], [60, 1, 2, 344, 99, 96, 98]), (20, [1, 2], [60, 1, 2, 346, 99, 97, 98]), (20, [3, 2], [50, 0, 0, 3, 6, 1, 2, 1, 0, 0, 1, 0, 2, 1, 1, 0, 999999]), (24, [0, 1], [])], [(8, 7, -1000000000000, -1)], [])
theorem oo_Mo_bestOrder_18 {kA : Nat → ClassId} : or_ok PRD kA GG o_Mo_bestOrder_18 := by
  refine or_mk fun A ta ws vs hD hth hl => ?_
  intro t0 r0 t1 r1 t2 k2 t3 k3 t7 k7 f0 f1 f2 f3 f4 f5 f6 f7
  replace f0 := shm_1621 f0
  replace f1 := shm_1617 f1
  replace f2 := shm_1631 f2
  replace f3 := shm_626 f3
  replace f4 := shm_1623 f4
  replace f5 := shm_1626 f5
  replace f6 := shm_1630 f6
  replace f7 := shm_5 f7
  have q1 : n_v vs 1 = n_v vs 0 := f7.symm
  simp only [q1] at f0 f1 f2 f4 f5
  have cr_0_96 := fdq_166 hD hth r0
  have cr_0_97 := fdq_169 hD hth r0
  have cr_0_98 := fdq_157 hD hth r0
  have hK_0_96 := elq_96 hD hth cr_0_96
  have hK_0_97 := elq_99 hD hth cr_0_97
  have hK_0_98 := elq_90 hD hth cr_0_98
  have kz_0_99 := fdq_158 hD hth r0
  obtain ⟨x, ex, hx⟩ := iv_ex (ta := ta) (lo := (-2)) (hi := 16777216) (z := (-1) + (1 * v_iv (n_v vs 7) + 0)) (by omega) (by omega) (by omega) (by omega)
  have ex2 : v_iv (Value.int x) = (-1) + (1 * v_iv (n_v vs 7) + 0) := ex
  have ex3 : (-2) ≤ v_iv (Value.int x) ∧ v_iv (Value.int x) ≤ 16777216 := tv_rng hx
  have e_0 : n_v (vs ++ [Value.int x]) 0 = n_v vs 0 := n_v_old (by rw [hl]; decide)
  have e_1 : n_v (vs ++ [Value.int x]) 1 = n_v vs 1 := n_v_old (by rw [hl]; decide)
  have e_2 : n_v (vs ++ [Value.int x]) 2 = n_v vs 2 := n_v_old (by rw [hl]; decide)
  have e_3 : n_v (vs ++ [Value.int x]) 3 = n_v vs 3 := n_v_old (by rw [hl]; decide)
  have e_8 : n_v (vs ++ [Value.int x]) 8 = Value.int x := n_v_new hl
  have nf0 : fc_1 PRD (20, [1], [60, 1, 1, 329, 99, 96]) ws (vs ++ [Value.int x]) := by
    refine ⟨nf_inA hl rfl, sgq_1621 ?_⟩
    · show DSM (w_fi ws (n_v (vs ++ [Value.int x]) 1) 99) (w_ei ws (w_ar ws (n_v (vs ++ [Value.int x]) 1) 96))
      simp only [e_1, q1]
      exact vc_Mo_bestOrder_18_0 (w_ei ws (w_ar ws (n_v vs 0) 96)) (w_fi ws (n_v vs 0) 99) f0 kz_0_99
  have nf1 : fc_1 PRD (20, [1], [50, 1, 0, 99, 0, 3, 2, 0, 99, 0, 7]) ws (vs ++ [Value.int x]) := by
    refine ⟨nf_inA hl rfl, sgq_1617 ?_⟩
    · show w_fi ws (n_v (vs ++ [Value.int x]) 1) 99 ≤ 7
      simp only [e_1, q1]
      exact vc_Mo_bestOrder_18_1 (w_fi ws (n_v vs 0) 99) f1 kz_0_99
  have nf2 : fc_1 PRD (20, [1, 8, 3], [60, 1, 1, 331, 99, 96]) ws (vs ++ [Value.int x]) := by
    refine ⟨nf_inA hl rfl, sgq_1622 ?_⟩
    · show ORZ (w_fi ws (n_v (vs ++ [Value.int x]) 1) 99) (w_ei ws (w_ar ws (n_v (vs ++ [Value.int x]) 1) 96)) (v_iv (n_v (vs ++ [Value.int x]) 8)) (v_iv (n_v (vs ++ [Value.int x]) 3))
      simp only [e_1, e_3, e_8, q1]
      exact vc_Mo_bestOrder_18_2 (v_iv (n_v vs 3)) (v_iv (n_v vs 7)) (w_ei ws (w_ar ws (n_v vs 0) 96)) (w_fi ws (n_v vs 0) 99) (v_iv (Value.int x)) k3 k7 f2 kz_0_99 ex2
  have nf3 : fc_1 PRD (20, [1], [60, 1, 2, 344, 99, 96, 98]) ws (vs ++ [Value.int x]) := by
    refine ⟨nf_inA hl rfl, sgq_1623 ?_⟩
    · show SEB (w_fi ws (n_v (vs ++ [Value.int x]) 1) 99) (w_ei ws (w_ar ws (n_v (vs ++ [Value.int x]) 1) 96)) (w_ei ws (w_ar ws (n_v (vs ++ [Value.int x]) 1) 98))
      simp only [e_1, q1]
      exact vc_Mo_bestOrder_18_3 (w_ei ws (w_ar ws (n_v vs 0) 96)) (w_fi ws (n_v vs 0) 99) (w_ei ws (w_ar ws (n_v vs 0) 98)) f4 kz_0_99
  have nf4 : fc_1 PRD (20, [1, 2], [60, 1, 2, 346, 99, 97, 98]) ws (vs ++ [Value.int x]) := by
    refine ⟨nf_inA hl rfl, sgq_1624 ?_⟩
    · show BSL (w_fi ws (n_v (vs ++ [Value.int x]) 1) 99) (w_ei ws (w_ar ws (n_v (vs ++ [Value.int x]) 1) 97)) (w_ei ws (w_ar ws (n_v (vs ++ [Value.int x]) 1) 98)) (v_iv (n_v (vs ++ [Value.int x]) 2))
      simp only [e_1, e_2, q1]
      exact vc_Mo_bestOrder_18_4 (v_iv (n_v vs 2)) (w_fi ws (n_v vs 0) 99) (w_ei ws (w_ar ws (n_v vs 0) 98)) (w_ei ws (w_ar ws (n_v vs 0) 97)) k2 f5 kz_0_99
  have nf5 : fc_1 PRD (20, [3, 2], [50, 0, 0, 3, 6, 1, 2, 1, 0, 0, 1, 0, 2, 1, 1, 0, 999999]) ws (vs ++ [Value.int x]) := by
    refine ⟨nf_inA hl rfl, sgq_1625 ?_⟩
    · show (v_iv (n_v (vs ++ [Value.int x]) 3) = 1) ∨ (v_iv (n_v (vs ++ [Value.int x]) 2) ≤ 999999)
      simp only [e_2, e_3]
      exact vc_Mo_bestOrder_18_5 (v_iv (n_v vs 2)) (v_iv (n_v vs 3)) k2 k3
  have nf6 : fc_1 PRD (24, [0, 1], []) ws (vs ++ [Value.int x]) := by
    refine ⟨nf_inA hl rfl, sgq_5 ?_⟩
    · show n_v (vs ++ [Value.int x]) 0 = n_v (vs ++ [Value.int x]) 1
      first | rfl | simp only [e_0, e_1, q1]
  obtain ⟨x0, e0, _, _⟩ := tv_int t7 rfl
  have e1 : v_iv (n_v vs 7) = x0.toInt := by rw [e0]; rfl
  have ho : sy_ofs (vs ++ [Value.int x]) (8, 7, -1000000000000, -1) := by
    refine ⟨x, x0, by rw [List.getElem?_append_right (by rw [hl]; decide), hl]; rfl, ?_, ?_, ?_⟩
    · rw [List.getElem?_append_left (by rw [hl]; decide)]; exact n_v_some (by rw [hl]; decide) e0
    · show x0.toInt + (-1000000000000) ≤ x.toInt; omega
    · show x.toInt ≤ x0.toInt + (-1); omega
  exact ⟨(fun _ h => (by cases h)), [Value.int x], ag_one hx, List.forall_mem_cons.mpr ⟨⟨show (20 : Nat) < 100 from by decide, nf0⟩, List.forall_mem_cons.mpr ⟨⟨show (20 : Nat) < 100 from by decide, nf1⟩, List.forall_mem_cons.mpr ⟨⟨show (20 : Nat) < 100 from by decide, nf2⟩, List.forall_mem_cons.mpr ⟨⟨show (20 : Nat) < 100 from by decide, nf3⟩, List.forall_mem_cons.mpr ⟨⟨show (20 : Nat) < 100 from by decide, nf4⟩, List.forall_mem_cons.mpr ⟨⟨show (20 : Nat) < 100 from by decide, nf5⟩, List.forall_mem_cons.mpr ⟨⟨show (24 : Nat) < 100 from by decide, nf6⟩, (fun _ h => (by cases h))⟩⟩⟩⟩⟩⟩⟩, List.forall_mem_cons.mpr ⟨ho, (fun _ h => (by cases h))⟩⟩
def n_Mo_bestOrder_an : List an_T := [(6, [(0, (2, 0, 0, [165])), (1, (0, 1000000, 1000000, [])), (2, (0, 0, 26, []))], [], (0, 0), [(0, 0, 99994), (1, 3, 26), (0, 0, 100000), (0, 0, 0), (0, 0, 0), (0, 0, 0), (0, 0, 0)], [], [], [(2, 0, 0, [165])], 0, [], [(20, [1], [50, 1, 0, 99, 0, 3, 2, 0, 99, 0, 7]), (20, [1], [60, 1, 1, 334, 99, 98]), (20, [1, 3], [60, 0, 2, 336, 96, 98]), (20, [2], [50, 0, 0, 1, 2, 1, 0, 0, 1000000]), (24, [0, 1], [])]), (34, [(0, (2, 0, 0, [165])), (1, (0, 0, 1000000, [])), (2, (0, 0, 1, []))], [], (0, 0), [(0, 0, 99966), (2, 4, (Int.negSucc 1)), (0, 0, 100000), (0, 0, 0), (0, 0, 0), (0, 0, 0), (0, 0, 0)], [(2, 3, (Int.negSucc 999999999999), 999999)], [], [(2, 0, 0, [165])], 0, [(0, (Int.negSucc 1), 16777216, [])], [(20, [1], [60, 1, 1, 329, 99, 96]), (20, [1], [50, 1, 0, 99, 0, 3, 2, 0, 99, 0, 7]), (20, [1, 4, 3], [60, 1, 1, 331, 99, 96]), (20, [1], [60, 1, 2, 344, 99, 96, 98]), (20, [1, 2], [60, 1, 2, 346, 99, 97, 98]), (20, [3, 2], [50, 0, 0, 3, 6, 1, 2, 1, 0, 0, 1, 0, 2, 1, 1, 0, 999999]), (24, [0, 1], [])]), (43, [(0, (2, 0, 0, [165])), (1, (0, 0, 1000000, [])), (2, (0, 1, 1, [])), (3, (0, 0, 441, [])), (4, (0, 0, 48, []))], [], (0, 0), [(0, 0, 99966), (2, 6, (Int.negSucc 1)), (0, 0, 99957), (1, 5, 48), (0, 0, 100000), (0, 0, 0), (0, 0, 0)], [], [], [(2, 0, 0, [165])], 0, [(0, (Int.negSucc 1), 16777216, [])], [(20, [1], [60, 1, 1, 329, 99, 96]), (20, [1], [50, 1, 0, 99, 0, 3, 2, 0, 99, 0, 7]), (20, [1, 6], [60, 1, 1, 330, 99, 96]), (23, [6], [(Int.negSucc 0), (Int.negSucc 0)]), (20, [1], [60, 1, 2, 344, 99, 96, 98]), (20, [1, 2], [60, 1, 2, 346, 99, 97, 98]), (20, [4, 5], [50, 0, 0, 2, 6, 0, 2, 0, 0, 1, 0, 0, 2, 1, 0, 6, 2, 0, 9, 1, 1]), (24, [0, 1], [])]), (90, [(0, (2, 0, 0, [165])), (1, (0, 0, 1000000, [])), (2, (0, 1, 1, [])), (3, (0, 0, 441, [])), (4, (0, 0, 47, [])), (5, (0, 0, 25, [])), (6, (0, 0, 25, [])), (7, (0, 0, 26, []))], [], (0, 0), [(0, 0, 99966), (2, 9, (Int.negSucc 1)), (0, 0, 99957), (1, 5, 48), (0, 0, 99910), (1, 8, 26), (0, 0, 100000)], [(6, 8, (Int.negSucc 999999999999), 0), (7, 8, (Int.negSucc 999999999999), 0)], [], [(2, 0, 0, [165])], 0, [(0, (Int.negSucc 1), 16777216, [])], [(20, [1], [60, 1, 1, 329, 99, 96]), (20, [1], [50, 1, 0, 99, 0, 3, 2, 0, 99, 0, 7]), (20, [1, 9], [60, 1, 1, 330, 99, 96]), (23, [9], [(Int.negSucc 0), (Int.negSucc 0)]), (20, [1], [60, 1, 2, 344, 99, 96, 98]), (20, [1, 2], [60, 1, 2, 346, 99, 97, 98]), (20, [4, 5], [50, 0, 0, 2, 6, 0, 2, 0, 0, 1, 0, 0, 2, 1, 0, 6, 2, 0, 9, 1, 1]), (20, [5], [50, 0, 0, 0, 2, 1, 0, 0, 47]), (24, [0, 1], [])]), (191, [(0, (2, 0, 0, [165])), (1, (0, 0, 441, [])), (2, (0, 1, 1, [])), (3, (0, 0, 441, [])), (4, (0, 0, 26, []))], [], (0, 0), [(0, 0, 99966), (2, 6, (Int.negSucc 1)), (0, 0, 99809), (1, 5, 26), (0, 0, 100000), (0, 0, 0), (0, 0, 0)], [(2, 4, (Int.negSucc 999999999999), 0), (4, 2, (Int.negSucc 999999999999), 0)], [], [(2, 0, 0, [165])], 0, [(0, (Int.negSucc 1), 16777216, [])], [(20, [1], [60, 1, 1, 329, 99, 96]), (20, [1], [50, 1, 0, 99, 0, 3, 2, 0, 99, 0, 7]), (20, [1, 6], [60, 1, 1, 330, 99, 96]), (23, [6], [(Int.negSucc 0), (Int.negSucc 0)]), (20, [1], [60, 1, 2, 344, 99, 96, 98]), (20, [1, 5], [60, 0, 2, 347, 97, 96]), (20, [2], [50, 0, 0, 0, 2, 1, 0, 0, 999999]), (24, [0, 1], [])]), (229, [(0, (2, 0, 0, [165])), (1, (0, 0, 441, [])), (2, (0, 0, 1, [])), (3, (0, 0, 441, [])), (4, (0, 0, 48, []))], [], (0, 0), [(0, 0, 99966), (2, 7, (Int.negSucc 1)), (0, 0, 99771), (0, 0, 0), (0, 0, 0), (0, 0, 0), (0, 0, 0)], [(2, 4, (Int.negSucc 999999999999), 0)], [((0, 99), (0, 0, 26, []))], [(2, 0, 0, [165])], 0, [(0, (Int.negSucc 1), 16777216, [])], [(20, [1], [60, 1, 1, 329, 99, 96]), (20, [1], [50, 1, 0, 99, 0, 3, 2, 0, 99, 0, 7]), (20, [1, 7, 3], [60, 1, 1, 332, 99, 96]), (23, [7], [(Int.negSucc 0), (Int.negSucc 0)]), (20, [1], [60, 1, 2, 344, 99, 96, 98]), (20, [1], [60, 1, 2, 345, 99, 97, 98]), (20, [2], [50, 0, 0, 0, 2, 1, 0, 0, 999999]), (24, [0, 1], [])])]
def t_Mo_bestOrder_ct : ct_L := [(1, 394, e_Mo_tail), (1, 398, e_Mo_head), (1, 401, e_Mo_edges), (1, 737, e_Mo_weight), (1, 807, e_Mo_isMember), (679, 810, e_Mo_nextOrder_at_gm)]
set_option maxRecDepth 100000 in
theorem c_Mo_bestOrder {l : Launch} {D : va_G} {kA : Nat → ClassId} (h_Mo_edges : ct_ok PRD l D kA GG y_Mo_edges z_Mo_edges e_Mo_edges) (h_Mo_head : ct_ok PRD l D kA GG y_Mo_head z_Mo_head e_Mo_head) (h_Mo_isMember : ct_ok PRD l D kA GG y_Mo_isMember z_Mo_isMember e_Mo_isMember) (h_Mo_nextOrder_at_gm : ct_ok PRD l D kA GG y_Mo_nextOrder_at_gm z_Mo_nextOrder_at_gm e_Mo_nextOrder_at_gm) (h_Mo_tail : ct_ok PRD l D kA GG y_Mo_tail z_Mo_tail e_Mo_tail) (h_Mo_weight : ct_ok PRD l D kA GG y_Mo_weight z_Mo_weight e_Mo_weight) : ct_ok PRD l D kA GG y_Mo_bestOrder z_Mo_bestOrder e_Mo_bestOrder := chk_all_ok (FT := [(213, 13, 96), (216, 13, 97), (219, 13, 98), (795, 13, 99)]) (PT := []) (CT := t_Mo_bestOrder_ct) (KT := [(1, 546, .int (1000000), (0, 1000000, 1000000, []))]) (NT := []) (AN := n_Mo_bestOrder_an) (OT := [o_Mo_bestOrder_0, o_Mo_bestOrder_1, o_Mo_bestOrder_2, o_Mo_bestOrder_3, o_Mo_bestOrder_4, o_Mo_bestOrder_5, o_Mo_bestOrder_6, o_Mo_bestOrder_7, o_Mo_bestOrder_8, o_Mo_bestOrder_9, o_Mo_bestOrder_10, o_Mo_bestOrder_11, o_Mo_bestOrder_12, o_Mo_bestOrder_13, o_Mo_bestOrder_14, o_Mo_bestOrder_15, o_Mo_bestOrder_16, o_Mo_bestOrder_17, o_Mo_bestOrder_18]) 7 616 (List.forall_mem_cons.mpr ⟨oo_Mo_bestOrder_0, List.forall_mem_cons.mpr ⟨oo_Mo_bestOrder_1, List.forall_mem_cons.mpr ⟨oo_Mo_bestOrder_2, List.forall_mem_cons.mpr ⟨oo_Mo_bestOrder_3, List.forall_mem_cons.mpr ⟨oo_Mo_bestOrder_4, List.forall_mem_cons.mpr ⟨oo_Mo_bestOrder_5, List.forall_mem_cons.mpr ⟨oo_Mo_bestOrder_6, List.forall_mem_cons.mpr ⟨oo_Mo_bestOrder_7, List.forall_mem_cons.mpr ⟨oo_Mo_bestOrder_8, List.forall_mem_cons.mpr ⟨oo_Mo_bestOrder_9, List.forall_mem_cons.mpr ⟨oo_Mo_bestOrder_10, List.forall_mem_cons.mpr ⟨oo_Mo_bestOrder_11, List.forall_mem_cons.mpr ⟨oo_Mo_bestOrder_12, List.forall_mem_cons.mpr ⟨oo_Mo_bestOrder_13, List.forall_mem_cons.mpr ⟨oo_Mo_bestOrder_14, List.forall_mem_cons.mpr ⟨oo_Mo_bestOrder_15, List.forall_mem_cons.mpr ⟨oo_Mo_bestOrder_16, List.forall_mem_cons.mpr ⟨oo_Mo_bestOrder_17, List.forall_mem_cons.mpr ⟨oo_Mo_bestOrder_18, List.forall_mem_nil _⟩⟩⟩⟩⟩⟩⟩⟩⟩⟩⟩⟩⟩⟩⟩⟩⟩⟩⟩) (by decide +kernel) ⟨List.forall_mem_cons.mpr ⟨gf_Mo_213, List.forall_mem_cons.mpr ⟨gf_Mo_216, List.forall_mem_cons.mpr ⟨gf_Mo_219, List.forall_mem_cons.mpr ⟨gf_Mo_795, List.forall_mem_nil _⟩⟩⟩⟩, List.forall_mem_nil _, List.forall_mem_cons.mpr ⟨cl_virtual (y := y_Mo_tail) (ci := 13) rfl rfl ⟨_, _, rfl⟩ (by decide +kernel) h_Mo_tail wm_3045 wm_9 wm_3042 wm_3044 wv_13_8 ⟨by decide, by decide, by decide +kernel⟩ (by decide), List.forall_mem_cons.mpr ⟨cl_virtual (y := y_Mo_head) (ci := 13) rfl rfl ⟨_, _, rfl⟩ (by decide +kernel) h_Mo_head wm_3049 wm_9 wm_3046 wm_3048 wv_13_9 ⟨by decide, by decide, by decide +kernel⟩ (by decide), List.forall_mem_cons.mpr ⟨cl_virtual (y := y_Mo_edges) (ci := 13) rfl rfl ⟨_, _, rfl⟩ (by decide +kernel) h_Mo_edges wm_3037 wm_9 wm_3034 wm_3036 wv_13_6 ⟨by decide, by decide, by decide +kernel⟩ (by decide), List.forall_mem_cons.mpr ⟨cl_virtual (y := y_Mo_weight) (ci := 13) rfl rfl ⟨_, _, rfl⟩ (by decide +kernel) h_Mo_weight wm_3339 wm_9 wm_3336 wm_3338 wv_17_7 ⟨by decide, by decide, by decide +kernel⟩ (by decide), List.forall_mem_cons.mpr ⟨cl_virtual (y := y_Mo_isMember) (ci := 13) rfl rfl ⟨_, _, rfl⟩ (by decide +kernel) h_Mo_isMember wm_3383 wm_9 wm_3380 wm_3382 wv_17_14 ⟨by decide, by decide, by decide +kernel⟩ (by decide), List.forall_mem_cons.mpr ⟨cl_virtual (y := y_Mo_nextOrder_at_gm) (ci := 13) rfl rfl ⟨_, _, rfl⟩ (by decide +kernel) h_Mo_nextOrder_at_gm wm_2432 wm_9 wm_2429 wm_2431 wv_12_10 ⟨by decide, by decide, by decide +kernel⟩ (by decide), List.forall_mem_nil _⟩⟩⟩⟩⟩⟩, List.forall_mem_cons.mpr ⟨kx_Mo_1_546, List.forall_mem_nil _⟩, List.forall_mem_nil _, GG_pl⟩ (by decide +kernel)

set_option maxHeartbeats 4000000 in
theorem vc_Mo_dropNode_0_0 (x2 : Int) (x4 : Int) (all_0 : Int → Int) (r_0 : Int) (k2 : 0 ≤ x2 ∧ x2 ≤ 48) (k4 : (-1) ≤ x4 ∧ x4 ≤ 47) (d0 : x2 + (-1) ≤ x4 ∧ x4 ≤ x2 + (-1)) (f1 : 1 * x2 + ((-1) * all_0 (r_0 + 1) + 0) ≤ 0) (f2 : (-1) * x2 + (1 * all_0 (r_0 + 1) + 0) ≤ 0) : 1 * x4 + ((-1) * all_0 (r_0 + 1) + 0) ≤ (-1) := by
  first | omega
set_option maxHeartbeats 4000000 in
theorem vc_Mo_dropNode_0_1 (x1 : Int) (x2 : Int) (x3 : Int) (x4 : Int) (all_0 : Int → Int) (r_0 : Int) (k1 : 0 ≤ x1 ∧ x1 ≤ 23) (k2 : 0 ≤ x2 ∧ x2 ≤ 48) (k4 : (-1) ≤ x4 ∧ x4 ≤ 47) (d0 : x2 + (-1) ≤ x4 ∧ x4 ≤ x2 + (-1)) (f1 : 1 * x2 + ((-1) * all_0 (r_0 + 1) + 0) ≤ 0) (f2 : (-1) * x2 + (1 * all_0 (r_0 + 1) + 0) ≤ 0) : NOI (r_0) (all_0) (x4) (x1) := by
  first
    | (intro f a b; exfalso; omega)
    | (have h := ‹NOJ _ _ _ _›
       rw [show x3 = x6 by omega]
       intro f a b; exact h f (by omega) b)
    | (have h := ‹NOI _ _ _ _›
       intro f a b
       by_cases q : f = x4
       · rw [q]; exact fun z => by have := ‹HSP _ _ _ _ _›.2 z; omega
       · exact h f (by omega) b)
def o_Mo_dropNode_0 : or_T := (7, 5, [(1, (0, 0, 23, [])), (2, (0, 0, 48, [])), (4, (0, -1, 47, []))], [(20, [2, 0], [30, 0, 1, 0, 0, -1, 3, 2005001]), (20, [2, 0], [30, 0, -1, 0, 0, 1, 3, 2005001])], [], [], [(20, [4, 0], [30, -1, 1, 0, 0, -1, 3, 2005001]), (20, [0, 4, 1], [60, 1, 1, 210, 5, 2]), (24, [0, 0], [])], [], [(4, 2, -1, -1)])
theorem oo_Mo_dropNode_0 {kA : Nat → ClassId} : or_ok PRD kA GG o_Mo_dropNode_0 := by
  refine or_mk fun A ta ws vs hD hth hl => ?_
  intro t1 k1 t2 k2 t4 k4 d0 f1 f2
  have nf0 : fc_1 PRD (20, [4, 0], [30, -1, 1, 0, 0, -1, 3, 2005001]) ws (vs) := ⟨nf_in hl rfl, sgq_979 (vc_Mo_dropNode_0_0 (v_iv (n_v vs 2)) (v_iv (n_v vs 4)) (w_ei ws (w_ar ws (n_v vs 0) 2)) (w_fi ws (n_v vs 0) 5) k2 k4 d0 (shm_121 f1) (shm_122 f2))⟩
  have nf1 : fc_1 PRD (20, [0, 4, 1], [60, 1, 1, 210, 5, 2]) ws (vs) := ⟨nf_in hl rfl, sgq_982 (vc_Mo_dropNode_0_1 (v_iv (n_v vs 1)) (v_iv (n_v vs 2)) (v_iv (n_v vs 3)) (v_iv (n_v vs 4)) (w_ei ws (w_ar ws (n_v vs 0) 2)) (w_fi ws (n_v vs 0) 5) k1 k2 k4 d0 (shm_121 f1) (shm_122 f2))⟩
  have nf2 : fc_1 PRD (24, [0, 0], []) ws (vs) := by
    refine ⟨nf_in hl rfl, sgq_1 ?_⟩
    · show n_v vs 0 = n_v vs 0
      first | rfl | simp only [true_and]
  refine ⟨(fun _ h => (by cases h)), [], trivial, ?_, (fun _ h => (by cases h))⟩
  rw [List.append_nil]
  exact List.forall_mem_cons.mpr ⟨⟨show (20 : Nat) < 100 from by decide, nf0⟩, List.forall_mem_cons.mpr ⟨⟨show (20 : Nat) < 100 from by decide, nf1⟩, List.forall_mem_cons.mpr ⟨⟨show (24 : Nat) < 100 from by decide, nf2⟩, (fun _ h => (by cases h))⟩⟩⟩
set_option maxHeartbeats 4000000 in
theorem vc_Mo_dropNode_1_0 (x3 : Int) (x4 : Int) (x5 : Int) (all_0 : Int → Int) (r_0 : Int) (now_0 : Int → Int) (latest_0 : Int → Int) (k3 : 0 ≤ x3 ∧ x3 ≤ 23) (k4 : (-1) ≤ x4 ∧ x4 ≤ (-1)) (k5 : 0 ≤ x5 ∧ x5 ≤ 0) (f0 : x4 < 0) (f3 : RWS (r_0) (all_0) (now_0) (latest_0)) (f4 : NDA (r_0) (all_0) (x3)) (f5 : NOI (r_0) (all_0) (x4) (x3)) : DN3 (r_0) (all_0) (now_0) (latest_0) (x3) (x5) := by
  first
    | exact dn3_start ‹RWS _ _ _ _› ‹NDA _ _ _› _ ‹NOI _ _ _ _› (by omega) (by omega)
def o_Mo_dropNode_1 : or_T := (33, 6, [(3, (0, 0, 23, [])), (4, (0, -1, -1, [])), (5, (0, 0, 0, []))], [(8, [4], [2]), (20, [2], [60, 1, 3, 199, 5, 2, 3, 4]), (20, [2, 3], [60, 1, 1, 208, 5, 2]), (20, [2, 4, 3], [60, 1, 1, 210, 5, 2]), (24, [0, 2], [])], [], [], [(20, [2, 3, 5], [60, 1, 3, 214, 5, 2, 3, 4])], [], [])
theorem oo_Mo_dropNode_1 {kA : Nat → ClassId} : or_ok PRD kA GG o_Mo_dropNode_1 := by
  refine or_mk fun A ta ws vs hD hth hl => ?_
  intro t3 k3 t4 k4 t5 k5 f0 f3 f4 f5 f6
  replace f0 := shm_39 f0
  replace f3 := shm_980 f3
  replace f4 := shm_983 f4
  replace f5 := shm_982 f5
  replace f6 := shm_5 f6
  have q2 : n_v vs 2 = n_v vs 0 := f6.symm
  simp only [q2] at f3 f4 f5
  have nf0 : fc_1 PRD (20, [2, 3, 5], [60, 1, 3, 214, 5, 2, 3, 4]) ws (vs) := by
    refine ⟨nf_in hl rfl, sgq_1634 ?_⟩
    · show DN3 (w_fi ws (n_v vs 2) 5) (w_ei ws (w_ar ws (n_v vs 2) 2)) (w_ei ws (w_ar ws (n_v vs 2) 3)) (w_ei ws (w_ar ws (n_v vs 2) 4)) (v_iv (n_v vs 3)) (v_iv (n_v vs 5))
      rw [q2]
      exact vc_Mo_dropNode_1_0 (v_iv (n_v vs 3)) (v_iv (n_v vs 4)) (v_iv (n_v vs 5)) (w_ei ws (w_ar ws (n_v vs 0) 2)) (w_fi ws (n_v vs 0) 5) (w_ei ws (w_ar ws (n_v vs 0) 3)) (w_ei ws (w_ar ws (n_v vs 0) 4)) k3 k4 k5 f0 f3 f4 f5
  refine ⟨(fun _ h => (by cases h)), [], trivial, ?_, (fun _ h => (by cases h))⟩
  rw [List.append_nil]
  exact List.forall_mem_cons.mpr ⟨⟨show (20 : Nat) < 100 from by decide, nf0⟩, (fun _ h => (by cases h))⟩
set_option maxHeartbeats 4000000 in
theorem vc_Mo_dropNode_2_0 (x3 : Int) (gx : Int) (k3 : 0 ≤ x3 ∧ x3 ≤ 23) (ex2 : gx = x3) : 1 * gx + ((-1) * x3 + 0) ≤ 0 := by
  first | omega
set_option maxHeartbeats 4000000 in
theorem vc_Mo_dropNode_2_1 (x3 : Int) (gx : Int) (k3 : 0 ≤ x3 ∧ x3 ≤ 23) (ex2 : gx = x3) : (-1) * gx + (1 * x3 + 0) ≤ 0 := by
  first | omega
set_option maxHeartbeats 4000000 in
theorem vc_Mo_dropNode_2_2 (x4 : Int) (all_0 : Int → Int) (r_0 : Int) (k4 : 0 ≤ x4 ∧ x4 ≤ 47) (f4 : 1 * x4 + ((-1) * all_0 (r_0 + 1) + 0) ≤ (-1)) : 1 * x4 + ((-1) * all_0 (r_0 + 1) + 0) ≤ (-1) := by
  first | omega
set_option maxHeartbeats 4000000 in
theorem vc_Mo_dropNode_2_3 (all_0 : Int → Int) (r_0 : Int) (now_0 : Int → Int) (latest_0 : Int → Int) (f5 : RWS (r_0) (all_0) (now_0) (latest_0)) : RWS (r_0) (all_0) (now_0) (latest_0) := by
  first | assumption
set_option maxHeartbeats 4000000 in
theorem vc_Mo_dropNode_2_4 (x4 : Int) (all_0 : Int → Int) (r_0 : Int) (k4 : 0 ≤ x4 ∧ x4 ≤ 47) (f2 : 0 ≤ x4) (f4 : 1 * x4 + ((-1) * all_0 (r_0 + 1) + 0) ≤ (-1)) : EDA (r_0) (all_0) (x4) := by
  exact ⟨by omega, by omega⟩
set_option maxHeartbeats 4000000 in
theorem vc_Mo_dropNode_2_5 (x3 : Int) (all_0 : Int → Int) (r_0 : Int) (gx : Int) (k3 : 0 ≤ x3 ∧ x3 ≤ 23) (f3 : 1 * x3 + ((-1) * all_0 (r_0 + 0) + 0) ≤ (-1)) (ex2 : gx = x3) : 1 * gx + ((-1) * all_0 (r_0 + 0) + 0) ≤ (-1) := by
  first | omega
set_option maxHeartbeats 4000000 in
theorem vc_Mo_dropNode_2_6 (x3 : Int) (x4 : Int) (all_0 : Int → Int) (r_0 : Int) (gx : Int) (k3 : 0 ≤ x3 ∧ x3 ≤ 23) (k4 : 0 ≤ x4 ∧ x4 ≤ 47) (f7 : NOI (r_0) (all_0) (x4) (x3)) (ex2 : gx = x3) : NOI (r_0) (all_0) (x4) (gx) := by
  rw [ex2]; assumption
set_option maxHeartbeats 4000000 in
theorem vc_Mo_dropNode_2_7 (x3 : Int) (all_0 : Int → Int) (r_0 : Int) (gx : Int) (k3 : 0 ≤ x3 ∧ x3 ≤ 23) (f6 : NDA (r_0) (all_0) (x3)) (ex2 : gx = x3) : NDA (r_0) (all_0) (gx) := by
  rw [ex2]; assumption
def o_Mo_dropNode_2 : or_T := (22, 6, [(3, (0, 0, 23, [])), (4, (0, 0, 47, []))], [(8, [4], [3]), (20, [3, 2], [30, -1, 1, 0, 0, -1, 3, 2005000]), (20, [4, 2], [30, -1, 1, 0, 0, -1, 3, 2005001]), (20, [2], [60, 1, 3, 199, 5, 2, 3, 4]), (20, [2, 3], [60, 1, 1, 208, 5, 2]), (20, [2, 4, 3], [60, 1, 1, 210, 5, 2]), (24, [0, 2], [])], [], [(0, 0, 23, [])], [(23, [6, 3], [0, 1, -1]), (23, [6, 3], [0, -1, 1]), (20, [4, 2], [30, -1, 1, 0, 0, -1, 3, 2005001]), (20, [2], [60, 1, 3, 199, 5, 2, 3, 4]), (20, [2, 4], [60, 1, 1, 209, 5, 2]), (20, [6, 2], [30, -1, 1, 0, 0, -1, 3, 2005000]), (20, [2, 4, 6], [60, 1, 1, 210, 5, 2]), (20, [2, 6], [60, 1, 1, 208, 5, 2])], [], [])
theorem oo_Mo_dropNode_2 {kA : Nat → ClassId} : or_ok PRD kA GG o_Mo_dropNode_2 := by
  refine or_mk fun A ta ws vs hD hth hl => ?_
  intro t3 k3 t4 k4 f2 f3 f4 f5 f6 f7 f8
  replace f2 := shm_32 f2
  replace f3 := shm_269 f3
  replace f4 := shm_979 f4
  replace f5 := shm_980 f5
  replace f6 := shm_983 f6
  replace f7 := shm_982 f7
  replace f8 := shm_5 f8
  have q2 : n_v vs 2 = n_v vs 0 := f8.symm
  simp only [q2] at f3 f4 f5 f6 f7
  obtain ⟨x, ex, hx⟩ := iv_ex (ta := ta) (lo := 0) (hi := 23) (z := v_iv (n_v vs 3)) (by omega) (by omega) (by omega) (by omega)
  have ex2 : v_iv (Value.int x) = v_iv (n_v vs 3) := ex
  have ex3 : 0 ≤ v_iv (Value.int x) ∧ v_iv (Value.int x) ≤ 23 := tv_rng hx
  have e_2 : n_v (vs ++ [Value.int x]) 2 = n_v vs 2 := n_v_old (by rw [hl]; decide)
  have e_3 : n_v (vs ++ [Value.int x]) 3 = n_v vs 3 := n_v_old (by rw [hl]; decide)
  have e_4 : n_v (vs ++ [Value.int x]) 4 = n_v vs 4 := n_v_old (by rw [hl]; decide)
  have e_6 : n_v (vs ++ [Value.int x]) 6 = Value.int x := n_v_new hl
  have nf0 : fc_1 PRD (23, [6, 3], [0, 1, -1]) ws (vs ++ [Value.int x]) := by
    refine ⟨nf_inA hl rfl, sgq_7 ?_⟩
    · show 1 * v_iv (n_v (vs ++ [Value.int x]) 6) + ((-1) * v_iv (n_v (vs ++ [Value.int x]) 3) + 0) ≤ 0
      simp only [e_3, e_6]
      exact vc_Mo_dropNode_2_0 (v_iv (n_v vs 3)) (v_iv (Value.int x)) k3 ex2
  have nf1 : fc_1 PRD (23, [6, 3], [0, -1, 1]) ws (vs ++ [Value.int x]) := by
    refine ⟨nf_inA hl rfl, sgq_22 ?_⟩
    · show (-1) * v_iv (n_v (vs ++ [Value.int x]) 6) + (1 * v_iv (n_v (vs ++ [Value.int x]) 3) + 0) ≤ 0
      simp only [e_3, e_6]
      exact vc_Mo_dropNode_2_1 (v_iv (n_v vs 3)) (v_iv (Value.int x)) k3 ex2
  have nf2 : fc_1 PRD (20, [4, 2], [30, -1, 1, 0, 0, -1, 3, 2005001]) ws (vs ++ [Value.int x]) := by
    refine ⟨nf_inA hl rfl, sgq_979 ?_⟩
    · show 1 * v_iv (n_v (vs ++ [Value.int x]) 4) + ((-1) * w_el ws (w_ar ws (n_v (vs ++ [Value.int x]) 2) 2) (w_fi ws (n_v (vs ++ [Value.int x]) 2) 5 + 1).toNat + 0) ≤ (-1)
      simp only [e_2, e_4, q2]
      exact vc_Mo_dropNode_2_2 (v_iv (n_v vs 4)) (w_ei ws (w_ar ws (n_v vs 0) 2)) (w_fi ws (n_v vs 0) 5) k4 f4
  have nf3 : fc_1 PRD (20, [2], [60, 1, 3, 199, 5, 2, 3, 4]) ws (vs ++ [Value.int x]) := by
    refine ⟨nf_inA hl rfl, sgq_980 ?_⟩
    · show RWS (w_fi ws (n_v (vs ++ [Value.int x]) 2) 5) (w_ei ws (w_ar ws (n_v (vs ++ [Value.int x]) 2) 2)) (w_ei ws (w_ar ws (n_v (vs ++ [Value.int x]) 2) 3)) (w_ei ws (w_ar ws (n_v (vs ++ [Value.int x]) 2) 4))
      simp only [e_2, q2]
      exact vc_Mo_dropNode_2_3 (w_ei ws (w_ar ws (n_v vs 0) 2)) (w_fi ws (n_v vs 0) 5) (w_ei ws (w_ar ws (n_v vs 0) 3)) (w_ei ws (w_ar ws (n_v vs 0) 4)) f5
  have nf4 : fc_1 PRD (20, [2, 4], [60, 1, 1, 209, 5, 2]) ws (vs ++ [Value.int x]) := by
    refine ⟨nf_inA hl rfl, sgq_981 ?_⟩
    · show EDA (w_fi ws (n_v (vs ++ [Value.int x]) 2) 5) (w_ei ws (w_ar ws (n_v (vs ++ [Value.int x]) 2) 2)) (v_iv (n_v (vs ++ [Value.int x]) 4))
      simp only [e_2, e_4, q2]
      exact vc_Mo_dropNode_2_4 (v_iv (n_v vs 4)) (w_ei ws (w_ar ws (n_v vs 0) 2)) (w_fi ws (n_v vs 0) 5) k4 f2 f4
  have nf5 : fc_1 PRD (20, [6, 2], [30, -1, 1, 0, 0, -1, 3, 2005000]) ws (vs ++ [Value.int x]) := by
    refine ⟨nf_inA hl rfl, sgq_269 ?_⟩
    · show 1 * v_iv (n_v (vs ++ [Value.int x]) 6) + ((-1) * w_el ws (w_ar ws (n_v (vs ++ [Value.int x]) 2) 2) (w_fi ws (n_v (vs ++ [Value.int x]) 2) 5 + 0).toNat + 0) ≤ (-1)
      simp only [e_2, e_6, q2]
      exact vc_Mo_dropNode_2_5 (v_iv (n_v vs 3)) (w_ei ws (w_ar ws (n_v vs 0) 2)) (w_fi ws (n_v vs 0) 5) (v_iv (Value.int x)) k3 f3 ex2
  have nf6 : fc_1 PRD (20, [2, 4, 6], [60, 1, 1, 210, 5, 2]) ws (vs ++ [Value.int x]) := by
    refine ⟨nf_inA hl rfl, sgq_982 ?_⟩
    · show NOI (w_fi ws (n_v (vs ++ [Value.int x]) 2) 5) (w_ei ws (w_ar ws (n_v (vs ++ [Value.int x]) 2) 2)) (v_iv (n_v (vs ++ [Value.int x]) 4)) (v_iv (n_v (vs ++ [Value.int x]) 6))
      simp only [e_2, e_4, e_6, q2]
      exact vc_Mo_dropNode_2_6 (v_iv (n_v vs 3)) (v_iv (n_v vs 4)) (w_ei ws (w_ar ws (n_v vs 0) 2)) (w_fi ws (n_v vs 0) 5) (v_iv (Value.int x)) k3 k4 f7 ex2
  have nf7 : fc_1 PRD (20, [2, 6], [60, 1, 1, 208, 5, 2]) ws (vs ++ [Value.int x]) := by
    refine ⟨nf_inA hl rfl, sgq_983 ?_⟩
    · show NDA (w_fi ws (n_v (vs ++ [Value.int x]) 2) 5) (w_ei ws (w_ar ws (n_v (vs ++ [Value.int x]) 2) 2)) (v_iv (n_v (vs ++ [Value.int x]) 6))
      simp only [e_2, e_6, q2]
      exact vc_Mo_dropNode_2_7 (v_iv (n_v vs 3)) (w_ei ws (w_ar ws (n_v vs 0) 2)) (w_fi ws (n_v vs 0) 5) (v_iv (Value.int x)) k3 f6 ex2
  exact ⟨(fun _ h => (by cases h)), [Value.int x], ag_one hx, List.forall_mem_cons.mpr ⟨⟨show (23 : Nat) < 100 from by decide, nf0⟩, List.forall_mem_cons.mpr ⟨⟨show (23 : Nat) < 100 from by decide, nf1⟩, List.forall_mem_cons.mpr ⟨⟨show (20 : Nat) < 100 from by decide, nf2⟩, List.forall_mem_cons.mpr ⟨⟨show (20 : Nat) < 100 from by decide, nf3⟩, List.forall_mem_cons.mpr ⟨⟨show (20 : Nat) < 100 from by decide, nf4⟩, List.forall_mem_cons.mpr ⟨⟨show (20 : Nat) < 100 from by decide, nf5⟩, List.forall_mem_cons.mpr ⟨⟨show (20 : Nat) < 100 from by decide, nf6⟩, List.forall_mem_cons.mpr ⟨⟨show (20 : Nat) < 100 from by decide, nf7⟩, (fun _ h => (by cases h))⟩⟩⟩⟩⟩⟩⟩⟩, (fun _ h => (by cases h))⟩
set_option maxHeartbeats 4000000 in
theorem vc_Mo_dropNode_3_0 (x3 : Int) (x6 : Int) (all_0 : Int → Int) (r_0 : Int) (k3 : 0 ≤ x3 ∧ x3 ≤ 23) (k6 : 0 ≤ x6 ∧ x6 ≤ 23) (f1 : 1 * x6 + ((-1) * x3 + 0) ≤ 0) (f2 : (-1) * x6 + (1 * x3 + 0) ≤ 0) (f6 : 1 * x6 + ((-1) * all_0 (r_0 + 0) + 0) ≤ (-1)) : 1 * x3 + ((-1) * all_0 (r_0 + 0) + 0) ≤ (-1) := by
  first | omega
set_option maxHeartbeats 4000000 in
theorem vc_Mo_dropNode_3_1 (x4 : Int) (x7 : Int) (all_0 : Int → Int) (r_0 : Int) (k4 : 0 ≤ x4 ∧ x4 ≤ 47) (k7 : (-1) ≤ x7 ∧ x7 ≤ 46) (d0 : x4 + (-1) ≤ x7 ∧ x7 ≤ x4 + (-1)) (f4 : 1 * x4 + ((-1) * all_0 (r_0 + 1) + 0) ≤ 0) : 1 * x7 + ((-1) * all_0 (r_0 + 1) + 0) ≤ (-1) := by
  first | omega
set_option maxHeartbeats 4000000 in
theorem vc_Mo_dropNode_3_2 (x3 : Int) (x6 : Int) (all_0 : Int → Int) (r_0 : Int) (k3 : 0 ≤ x3 ∧ x3 ≤ 23) (k6 : 0 ≤ x6 ∧ x6 ≤ 23) (f1 : 1 * x6 + ((-1) * x3 + 0) ≤ 0) (f2 : (-1) * x6 + (1 * x3 + 0) ≤ 0) (f8 : NDA (r_0) (all_0) (x6)) : NDA (r_0) (all_0) (x3) := by
  first
    | assumption
    | (rw [show x3 = x6 by omega]; assumption)
set_option maxHeartbeats 4000000 in
theorem vc_Mo_dropNode_3_3 (x3 : Int) (x4 : Int) (x6 : Int) (x7 : Int) (all_0 : Int → Int) (r_0 : Int) (k3 : 0 ≤ x3 ∧ x3 ≤ 23) (k4 : 0 ≤ x4 ∧ x4 ≤ 47) (k6 : 0 ≤ x6 ∧ x6 ≤ 23) (k7 : (-1) ≤ x7 ∧ x7 ≤ 46) (d0 : x4 + (-1) ≤ x7 ∧ x7 ≤ x4 + (-1)) (f1 : 1 * x6 + ((-1) * x3 + 0) ≤ 0) (f2 : (-1) * x6 + (1 * x3 + 0) ≤ 0) (f7 : NOJ (r_0) (all_0) (x4) (x6)) : NOI (r_0) (all_0) (x7) (x3) := by
  first
    | (intro f a b; exfalso; omega)
    | (have h := ‹NOJ _ _ _ _›
       rw [show x3 = x6 by omega]
       intro f a b; exact h f (by omega) b)
    | (have h := ‹NOI _ _ _ _›
       intro f a b
       by_cases q : f = x4
       · rw [q]; exact fun z => by have := ‹HSP _ _ _ _ _›.2 z; omega
       · exact h f (by omega) b)
def o_Mo_dropNode_3 : or_T := (7, 8, [(3, (0, 0, 23, [])), (4, (0, 0, 47, [])), (6, (0, 0, 23, [])), (7, (0, -1, 46, []))], [(23, [6, 3], [0, 1, -1]), (23, [6, 3], [0, -1, 1]), (24, [0, 2], []), (20, [4, 2], [30, 0, 1, 0, 0, -1, 3, 2005001]), (20, [6, 2], [30, -1, 1, 0, 0, -1, 3, 2005000]), (20, [2, 4, 6], [60, 1, 1, 211, 5, 2]), (20, [2, 6], [60, 1, 1, 208, 5, 2])], [], [], [(20, [3, 2], [30, -1, 1, 0, 0, -1, 3, 2005000]), (20, [7, 2], [30, -1, 1, 0, 0, -1, 3, 2005001]), (20, [2, 3], [60, 1, 1, 208, 5, 2]), (20, [2, 7, 3], [60, 1, 1, 210, 5, 2])], [], [(7, 4, -1, -1)])
theorem oo_Mo_dropNode_3 {kA : Nat → ClassId} : or_ok PRD kA GG o_Mo_dropNode_3 := by
  refine or_mk fun A ta ws vs hD hth hl => ?_
  intro t3 k3 t4 k4 t6 k6 t7 k7 d0 f1 f2 f3 f4 f6 f7 f8
  replace f1 := shm_7 f1
  replace f2 := shm_22 f2
  replace f3 := shm_5 f3
  replace f4 := shm_121 f4
  replace f6 := shm_269 f6
  replace f7 := shm_986 f7
  replace f8 := shm_983 f8
  have q2 : n_v vs 2 = n_v vs 0 := f3.symm
  simp only [q2] at f4 f6 f7 f8
  have nf0 : fc_1 PRD (20, [3, 2], [30, -1, 1, 0, 0, -1, 3, 2005000]) ws (vs) := by
    refine ⟨nf_in hl rfl, sgq_269 ?_⟩
    · show 1 * v_iv (n_v vs 3) + ((-1) * w_el ws (w_ar ws (n_v vs 2) 2) (w_fi ws (n_v vs 2) 5 + 0).toNat + 0) ≤ (-1)
      rw [q2]
      exact vc_Mo_dropNode_3_0 (v_iv (n_v vs 3)) (v_iv (n_v vs 6)) (w_ei ws (w_ar ws (n_v vs 0) 2)) (w_fi ws (n_v vs 0) 5) k3 k6 f1 f2 f6
  have nf1 : fc_1 PRD (20, [7, 2], [30, -1, 1, 0, 0, -1, 3, 2005001]) ws (vs) := by
    refine ⟨nf_in hl rfl, sgq_979 ?_⟩
    · show 1 * v_iv (n_v vs 7) + ((-1) * w_el ws (w_ar ws (n_v vs 2) 2) (w_fi ws (n_v vs 2) 5 + 1).toNat + 0) ≤ (-1)
      rw [q2]
      exact vc_Mo_dropNode_3_1 (v_iv (n_v vs 4)) (v_iv (n_v vs 7)) (w_ei ws (w_ar ws (n_v vs 0) 2)) (w_fi ws (n_v vs 0) 5) k4 k7 d0 f4
  have nf2 : fc_1 PRD (20, [2, 3], [60, 1, 1, 208, 5, 2]) ws (vs) := by
    refine ⟨nf_in hl rfl, sgq_983 ?_⟩
    · show NDA (w_fi ws (n_v vs 2) 5) (w_ei ws (w_ar ws (n_v vs 2) 2)) (v_iv (n_v vs 3))
      rw [q2]
      exact vc_Mo_dropNode_3_2 (v_iv (n_v vs 3)) (v_iv (n_v vs 6)) (w_ei ws (w_ar ws (n_v vs 0) 2)) (w_fi ws (n_v vs 0) 5) k3 k6 f1 f2 f8
  have nf3 : fc_1 PRD (20, [2, 7, 3], [60, 1, 1, 210, 5, 2]) ws (vs) := by
    refine ⟨nf_in hl rfl, sgq_982 ?_⟩
    · show NOI (w_fi ws (n_v vs 2) 5) (w_ei ws (w_ar ws (n_v vs 2) 2)) (v_iv (n_v vs 7)) (v_iv (n_v vs 3))
      rw [q2]
      exact vc_Mo_dropNode_3_3 (v_iv (n_v vs 3)) (v_iv (n_v vs 4)) (v_iv (n_v vs 6)) (v_iv (n_v vs 7)) (w_ei ws (w_ar ws (n_v vs 0) 2)) (w_fi ws (n_v vs 0) 5) k3 k4 k6 k7 d0 f1 f2 f7
  refine ⟨(fun _ h => (by cases h)), [], trivial, ?_, (fun _ h => (by cases h))⟩
  rw [List.append_nil]
  exact List.forall_mem_cons.mpr ⟨⟨show (20 : Nat) < 100 from by decide, nf0⟩, List.forall_mem_cons.mpr ⟨⟨show (20 : Nat) < 100 from by decide, nf1⟩, List.forall_mem_cons.mpr ⟨⟨show (20 : Nat) < 100 from by decide, nf2⟩, List.forall_mem_cons.mpr ⟨⟨show (20 : Nat) < 100 from by decide, nf3⟩, (fun _ h => (by cases h))⟩⟩⟩⟩
set_option maxHeartbeats 4000000 in
theorem vc_Mo_dropNode_4_0 (x4 : Int) (x6 : Int) (all_0 : Int → Int) (r_0 : Int) (k4 : 0 ≤ x4 ∧ x4 ≤ 47) (k6 : (-1) ≤ x6 ∧ x6 ≤ 46) (d0 : x4 + (-1) ≤ x6 ∧ x6 ≤ x4 + (-1)) (f5 : 1 * x4 + ((-1) * all_0 (r_0 + 1) + 0) ≤ (-1)) : 1 * x6 + ((-1) * all_0 (r_0 + 1) + 0) ≤ (-1) := by
  first | omega
set_option maxHeartbeats 4000000 in
theorem vc_Mo_dropNode_4_1 (x3 : Int) (x4 : Int) (x5 : Int) (x6 : Int) (all_0 : Int → Int) (r_0 : Int) (k3 : 0 ≤ x3 ∧ x3 ≤ 23) (k4 : 0 ≤ x4 ∧ x4 ≤ 47) (k5 : 0 ≤ x5 ∧ x5 ≤ 0) (k6 : (-1) ≤ x6 ∧ x6 ≤ 46) (d0 : x4 + (-1) ≤ x6 ∧ x6 ≤ x4 + (-1)) (f2 : HSP (r_0) (all_0) (x4) (x3) (x5)) (f8 : NOI (r_0) (all_0) (x4) (x3)) : NOI (r_0) (all_0) (x6) (x3) := by
  first
    | (intro f a b; exfalso; omega)
    | (have h := ‹NOJ _ _ _ _›
       rw [show x3 = x6 by omega]
       intro f a b; exact h f (by omega) b)
    | (have h := ‹NOI _ _ _ _›
       intro f a b
       by_cases q : f = x4
       · rw [q]; exact fun z => by have := ‹HSP _ _ _ _ _›.2 z; omega
       · exact h f (by omega) b)
def o_Mo_dropNode_4 : or_T := (7, 7, [(3, (0, 0, 23, [])), (4, (0, 0, 47, [])), (5, (0, 0, 0, [])), (6, (0, -1, 46, []))], [(20, [2, 4, 3, 5], [60, 1, 1, 204, 5, 2]), (20, [4, 2], [30, -1, 1, 0, 0, -1, 3, 2005001]), (20, [2, 4, 3], [60, 1, 1, 210, 5, 2]), (24, [0, 2], [])], [], [], [(20, [6, 2], [30, -1, 1, 0, 0, -1, 3, 2005001]), (20, [2, 6, 3], [60, 1, 1, 210, 5, 2])], [], [(6, 4, -1, -1)])
theorem oo_Mo_dropNode_4 {kA : Nat → ClassId} : or_ok PRD kA GG o_Mo_dropNode_4 := by
  refine or_mk fun A ta ws vs hD hth hl => ?_
  intro t3 k3 t4 k4 t5 k5 t6 k6 d0 f2 f5 f8 f9
  replace f2 := shm_1143 f2
  replace f5 := shm_979 f5
  replace f8 := shm_982 f8
  replace f9 := shm_5 f9
  have q2 : n_v vs 2 = n_v vs 0 := f9.symm
  simp only [q2] at f2 f5 f8
  have nf0 : fc_1 PRD (20, [6, 2], [30, -1, 1, 0, 0, -1, 3, 2005001]) ws (vs) := by
    refine ⟨nf_in hl rfl, sgq_979 ?_⟩
    · show 1 * v_iv (n_v vs 6) + ((-1) * w_el ws (w_ar ws (n_v vs 2) 2) (w_fi ws (n_v vs 2) 5 + 1).toNat + 0) ≤ (-1)
      rw [q2]
      exact vc_Mo_dropNode_4_0 (v_iv (n_v vs 4)) (v_iv (n_v vs 6)) (w_ei ws (w_ar ws (n_v vs 0) 2)) (w_fi ws (n_v vs 0) 5) k4 k6 d0 f5
  have nf1 : fc_1 PRD (20, [2, 6, 3], [60, 1, 1, 210, 5, 2]) ws (vs) := by
    refine ⟨nf_in hl rfl, sgq_982 ?_⟩
    · show NOI (w_fi ws (n_v vs 2) 5) (w_ei ws (w_ar ws (n_v vs 2) 2)) (v_iv (n_v vs 6)) (v_iv (n_v vs 3))
      rw [q2]
      exact vc_Mo_dropNode_4_1 (v_iv (n_v vs 3)) (v_iv (n_v vs 4)) (v_iv (n_v vs 5)) (v_iv (n_v vs 6)) (w_ei ws (w_ar ws (n_v vs 0) 2)) (w_fi ws (n_v vs 0) 5) k3 k4 k5 k6 d0 f2 f8
  refine ⟨(fun _ h => (by cases h)), [], trivial, ?_, (fun _ h => (by cases h))⟩
  rw [List.append_nil]
  exact List.forall_mem_cons.mpr ⟨⟨show (20 : Nat) < 100 from by decide, nf0⟩, List.forall_mem_cons.mpr ⟨⟨show (20 : Nat) < 100 from by decide, nf1⟩, (fun _ h => (by cases h))⟩⟩
set_option maxHeartbeats 4000000 in
theorem vc_Mo_dropNode_5_0 (x3 : Int) (x4 : Int) (x5 : Int) (all_0 : Int → Int) (r_0 : Int) (now_0 : Int → Int) (latest_0 : Int → Int) (k3 : 0 ≤ x3 ∧ x3 ≤ 23) (k4 : 0 ≤ x4 ∧ x4 ≤ 48) (k5 : 0 ≤ x5 ∧ x5 ≤ 48) (d0 : x5 + 0 ≤ x4 ∧ x4 ≤ x5 + 4294967296) (f1 : 1 * x5 + ((-1) * all_0 (r_0 + 1) + 0) ≤ 0) (f2 : (-1) * x5 + (1 * all_0 (r_0 + 1) + 0) ≤ 0) (f4 : DN3 (r_0) (all_0) (now_0) (latest_0) (x3) (x4)) : DN5 (r_0) (all_0) (now_0) (latest_0) := by
  first
    | exact dn5_of ‹DN3 _ _ _ _ _ _› (by omega)
def o_Mo_dropNode_5 : or_T := (105, 6, [(3, (0, 0, 23, [])), (4, (0, 0, 48, [])), (5, (0, 0, 48, []))], [(20, [5, 2], [30, 0, 1, 0, 0, -1, 3, 2005001]), (20, [5, 2], [30, 0, -1, 0, 0, 1, 3, 2005001]), (20, [2, 3, 4], [60, 1, 3, 214, 5, 2, 3, 4]), (24, [0, 2], [])], [], [], [(20, [2], [60, 1, 3, 215, 5, 2, 3, 4])], [], [(4, 5, 0, 4294967296)])
theorem oo_Mo_dropNode_5 {kA : Nat → ClassId} : or_ok PRD kA GG o_Mo_dropNode_5 := by
  refine or_mk fun A ta ws vs hD hth hl => ?_
  intro t3 k3 t4 k4 t5 k5 d0 f1 f2 f4 f5
  replace f1 := shm_121 f1
  replace f2 := shm_122 f2
  replace f4 := shm_1634 f4
  replace f5 := shm_5 f5
  have q2 : n_v vs 2 = n_v vs 0 := f5.symm
  simp only [q2] at f1 f2 f4
  have nf0 : fc_1 PRD (20, [2], [60, 1, 3, 215, 5, 2, 3, 4]) ws (vs) := by
    refine ⟨nf_in hl rfl, sgq_1635 ?_⟩
    · show DN5 (w_fi ws (n_v vs 2) 5) (w_ei ws (w_ar ws (n_v vs 2) 2)) (w_ei ws (w_ar ws (n_v vs 2) 3)) (w_ei ws (w_ar ws (n_v vs 2) 4))
      rw [q2]
      exact vc_Mo_dropNode_5_0 (v_iv (n_v vs 3)) (v_iv (n_v vs 4)) (v_iv (n_v vs 5)) (w_ei ws (w_ar ws (n_v vs 0) 2)) (w_fi ws (n_v vs 0) 5) (w_ei ws (w_ar ws (n_v vs 0) 3)) (w_ei ws (w_ar ws (n_v vs 0) 4)) k3 k4 k5 d0 f1 f2 f4
  refine ⟨(fun _ h => (by cases h)), [], trivial, ?_, (fun _ h => (by cases h))⟩
  rw [List.append_nil]
  exact List.forall_mem_cons.mpr ⟨⟨show (20 : Nat) < 100 from by decide, nf0⟩, (fun _ h => (by cases h))⟩
set_option maxHeartbeats 4000000 in
theorem vc_Mo_dropNode_6_0 (x3 : Int) (x4 : Int) (x5 : Int) (x6 : Int) (x7 : Int) (x8 : Int) (all_0 : Int → Int) (r_0 : Int) (now_0 : Int → Int) (latest_0 : Int → Int) (k3 : 0 ≤ x3 ∧ x3 ≤ 23) (k4 : 0 ≤ x4 ∧ x4 ≤ 47) (k5 : 1 ≤ x5 ∧ x5 ≤ 48) (k6 : 0 ≤ x6 ∧ x6 ≤ 23) (k7 : 0 ≤ x7 ∧ x7 ≤ 23) (k8 : 1 ≤ x8 ∧ x8 ≤ 48) (d0 : x4 + 1 ≤ x8 ∧ x8 ≤ x4 + 1) (d1 : x5 + (-4294967296) ≤ x8 ∧ x8 ≤ x5 + 0) (d2 : x3 + (-4294967296) ≤ x7 ∧ x7 ≤ x3 + 0) (d3 : x3 + (-4294967296) ≤ x6 ∧ x6 ≤ x3 + 0) (d4 : x5 + (-4294967296) ≤ x4 ∧ x4 ≤ x5 + (-1)) (f0 : x8 = x4 + 1) (f2 : x7 = all_0 (((r_0 + 315) + x4))) (f4 : x6 = all_0 (((r_0 + 267) + x4))) (f6 : 1 * x5 + ((-1) * all_0 (r_0 + 1) + 0) ≤ 0) (f7 : (-1) * x5 + (1 * all_0 (r_0 + 1) + 0) ≤ 0) (f9 : DN3 (r_0) (all_0) (now_0) (latest_0) (x3) (x4)) : DN3 (r_0) (all_0) (now_0) (latest_0) (x3) (x8) := by
  first
    | exact dn3_step ‹DN3 _ _ _ _ _ _› (by omega) (by omega) (by omega) (Or.inl ⟨by omega, _, _, by assumption, by omega, by omega⟩) (Or.inl ⟨by omega, _, _, by assumption, by omega, by omega⟩)
    | exact dn3_step ‹DN3 _ _ _ _ _ _› (by omega) (by omega) (by omega) (Or.inr ⟨by omega, rfl⟩) (Or.inl ⟨by omega, _, _, by assumption, by omega, by omega⟩)
    | exact dn3_step ‹DN3 _ _ _ _ _ _› (by omega) (by omega) (by omega) (Or.inl ⟨by omega, _, _, by assumption, by omega, by omega⟩) (Or.inr ⟨by omega, rfl⟩)
    | exact dn3_step ‹DN3 _ _ _ _ _ _› (by omega) (by omega) (by omega) (Or.inr ⟨by omega, rfl⟩) (Or.inr ⟨by omega, rfl⟩)
def o_Mo_dropNode_6 : or_T := (33, 9, [(3, (0, 0, 23, [])), (4, (0, 0, 47, [])), (5, (0, 1, 48, [])), (6, (0, 0, 23, [])), (7, (0, 0, 23, [])), (8, (0, 1, 48, []))], [(6, [8, 4], [1]), (20, [7, 2, 4], [50, 1, 1, 1005, 1002, 1, 2, 1, 0, 3, 1, 2, 4, 7, 4, 3, 2, 1, 5, 0, 315, 1, 2]), (20, [6, 2, 4], [50, 1, 1, 1005, 1002, 1, 2, 1, 0, 3, 1, 2, 4, 7, 4, 3, 2, 1, 5, 0, 267, 1, 2]), (20, [5, 2], [30, 0, 1, 0, 0, -1, 3, 2005001]), (20, [5, 2], [30, 0, -1, 0, 0, 1, 3, 2005001]), (20, [2, 3, 4], [60, 1, 3, 214, 5, 2, 3, 4]), (24, [0, 2], [])], [], [], [(20, [2, 3, 8], [60, 1, 3, 214, 5, 2, 3, 4])], [], [(8, 4, 1, 1), (8, 5, -4294967296, 0), (7, 3, -4294967296, 0), (6, 3, -4294967296, 0), (4, 5, -4294967296, -1)])
theorem oo_Mo_dropNode_6 {kA : Nat → ClassId} : or_ok PRD kA GG o_Mo_dropNode_6 := by
  refine or_mk fun A ta ws vs hD hth hl => ?_
  intro t3 k3 t4 k4 t5 k5 t6 k6 t7 k7 t8 k8 d0 d1 d2 d3 d4 f0 f2 f4 f6 f7 f9 f10
  replace f0 := shm_4 f0
  replace f2 := shm_603 f2
  replace f4 := shm_749 f4
  replace f6 := shm_121 f6
  replace f7 := shm_122 f7
  replace f9 := shm_1634 f9
  replace f10 := shm_5 f10
  have q2 : n_v vs 2 = n_v vs 0 := f10.symm
  simp only [q2] at f2 f4 f6 f7 f9
  have nf0 : fc_1 PRD (20, [2, 3, 8], [60, 1, 3, 214, 5, 2, 3, 4]) ws (vs) := by
    refine ⟨nf_in hl rfl, sgq_1634 ?_⟩
    · show DN3 (w_fi ws (n_v vs 2) 5) (w_ei ws (w_ar ws (n_v vs 2) 2)) (w_ei ws (w_ar ws (n_v vs 2) 3)) (w_ei ws (w_ar ws (n_v vs 2) 4)) (v_iv (n_v vs 3)) (v_iv (n_v vs 8))
      rw [q2]
      exact vc_Mo_dropNode_6_0 (v_iv (n_v vs 3)) (v_iv (n_v vs 4)) (v_iv (n_v vs 5)) (v_iv (n_v vs 6)) (v_iv (n_v vs 7)) (v_iv (n_v vs 8)) (w_ei ws (w_ar ws (n_v vs 0) 2)) (w_fi ws (n_v vs 0) 5) (w_ei ws (w_ar ws (n_v vs 0) 3)) (w_ei ws (w_ar ws (n_v vs 0) 4)) k3 k4 k5 k6 k7 k8 d0 d1 d2 d3 d4 f0 f2 f4 f6 f7 f9
  refine ⟨(fun _ h => (by cases h)), [], trivial, ?_, (fun _ h => (by cases h))⟩
  rw [List.append_nil]
  exact List.forall_mem_cons.mpr ⟨⟨show (20 : Nat) < 100 from by decide, nf0⟩, (fun _ h => (by cases h))⟩
def o_Mo_dropNode_7 : or_T := (96, 16, [(0, (2, 0, 0, [165])), (2, (2, 0, 0, [165])), (3, (0, 0, 22, [])), (4, (0, 0, 47, [])), (5, (0, 1, 48, [])), (6, (0, 0, 22, [])), (7, (0, 1, 23, [])), (8, (2, 0, 0, [167])), (9, (0, 0, 66297, [])), (10, (0, 315, 315, [])), (11, (0, 315, 66612, [])), (12, (0, 315, 66659, [])), (13, (0, 0, 23, [])), (14, (0, 1, 1, [])), (15, (0, -1, 22, []))], [(2, [15, 13, 14], []), (10, [13, 8, 12], []), (1, [12, 11, 4], []), (1, [11, 9, 10], []), (9, [9, 2], [5]), (9, [8, 2], [2]), (7, [7, 3], [4]), (20, [7, 2, 4], [50, 1, 1, 1005, 1002, 1, 2, 1, 0, 3, 1, 2, 4, 7, 4, 3, 2, 1, 5, 0, 315, 1, 2]), (7, [6, 3], [5]), (20, [6, 2, 4], [50, 1, 1, 1005, 1002, 1, 2, 1, 0, 3, 1, 2, 4, 7, 4, 3, 2, 1, 5, 0, 267, 1, 2]), (7, [4, 5], [2]), (20, [5, 2], [30, 0, 1, 0, 0, -1, 3, 2005001]), (20, [5, 2], [30, 0, -1, 0, 0, 1, 3, 2005001]), (20, [3, 2], [30, -1, 1, 0, 0, -1, 3, 2005000]), (20, [2, 3, 4], [60, 1, 3, 214, 5, 2, 3, 4]), (24, [0, 2], [])], [(15, (0, 0, 22, []))], [], [], [], [(15, 13, -1, -1), (12, 4, 315, 66612), (12, 5, -4294967296, 66611), (12, 11, 0, 47), (12, 9, 315, 362), (11, 9, 315, 315), (7, 3, 1, 4294967296), (6, 3, -4294967296, 0), (4, 5, -4294967296, -1)])
theorem oo_Mo_dropNode_7 {kA : Nat → ClassId} : or_ok PRD kA GG o_Mo_dropNode_7 := by
  refine or_mk fun A ta ws vs hD hth hl => ?_
  intro t0 r0 t2 r2 t3 k3 t4 k4 t5 k5 t6 k6 t7 k7 t8 r8 t9 k9 t10 k10 t11 k11 t12 k12 t13 k13 t14 k14 t15 k15 d0 d1 d2 d3 d4 d5 d6 d7 d8 f0 f1 f2 f3 f4 f5 f6 f7 f8 f9 f10 f11 f12 f13 f14 f15
  replace f0 := shm_14 f0
  replace f1 := shm_107 f1
  replace f2 := shm_12 f2
  replace f3 := shm_12 f3
  replace f4 := shm_110 f4
  replace f5 := shm_120 f5
  replace f6 := shm_21 f6
  replace f7 := shm_603 f7
  replace f8 := shm_24 f8
  replace f9 := shm_749 f9
  replace f10 := shm_6 f10
  replace f11 := shm_121 f11
  replace f12 := shm_122 f12
  replace f13 := shm_269 f13
  replace f14 := shm_1634 f14
  replace f15 := shm_5 f15
  have q2 : n_v vs 2 = n_v vs 0 := f15.symm
  simp only [q2] at f4 f5 f7 f9 f11 f12 f13 f14
  have cr_0_2 := fdq_10 hD hth r0
  have cr_0_3 := fdq_142 hD hth r0
  have cr_0_4 := fdq_143 hD hth r0
  have ad_8 : v_ad (n_v vs 8) = w_ar ws (n_v vs 0) 2 := congrArg v_ad f5
  simp only [ad_8] at f1
  have h1 : v_iv (n_v vs 13) = w_ei ws (w_ar ws (n_v vs 0) 2) (v_iv (n_v vs 12)) := f1
  have g4 : v_iv (n_v vs 9) = w_fi ws (n_v vs 0) 5 := congrArg v_iv f4
  have cg1_F5_1 : v_iv (n_v vs 12) = w_fi ws (n_v vs 0) 5 + 1 → w_el ws (w_ar ws (n_v vs 0) 2) (v_iv (n_v vs 12)).toNat = w_el ws (w_ar ws (n_v vs 0) 2) (w_fi ws (n_v vs 0) 5 + 1).toNat := fun h => by rw [h]
  have cg1_F5_0 : v_iv (n_v vs 12) = w_fi ws (n_v vs 0) 5 + 0 → w_el ws (w_ar ws (n_v vs 0) 2) (v_iv (n_v vs 12)).toNat = w_el ws (w_ar ws (n_v vs 0) 2) (w_fi ws (n_v vs 0) 5 + 0).toNat := fun h => by rw [h]
  have br_0_2_F5_0_0 : w_ei ws (w_ar ws (n_v vs 0) 2) (w_fi ws (n_v vs 0) 5 + 0) = w_el ws (w_ar ws (n_v vs 0) 2) (w_fi ws (n_v vs 0) 5 + 0).toNat := rfl
  have br_0_2_F5_1_0 : w_ei ws (w_ar ws (n_v vs 0) 2) (w_fi ws (n_v vs 0) 5 + 1) = w_el ws (w_ar ws (n_v vs 0) 2) (w_fi ws (n_v vs 0) 5 + 1).toNat := rfl
  have br_0_2_12_0 : w_ei ws (w_ar ws (n_v vs 0) 2) (v_iv (n_v vs 12)) = w_el ws (w_ar ws (n_v vs 0) 2) (v_iv (n_v vs 12)).toNat := rfl
  have hK_0_3 := elq_80 hD hth cr_0_3
  have hK_0_4 := elq_81 hD hth cr_0_4
  have rf15 : tv_ok ta (0, 0, 22, []) (n_v vs 15) := tv_in t15 (by first | omega | grind) (by first | omega | grind)
  refine ⟨List.forall_mem_cons.mpr ⟨rf15, (fun _ h => (by cases h))⟩, [], trivial, ?_, (fun _ h => (by cases h))⟩
  rw [List.append_nil]
  exact (fun _ h => (by cases h))
set_option maxHeartbeats 4000000 in
theorem vc_Mo_dropNode_8_0 (x3 : Int) (x4 : Int) (x9 : Int) (x11 : Int) (x12 : Int) (x15 : Int) (x16 : Int) (all_1 : Int → Int) (r_1 : Int) (r_0 : Int) (now_1 : Int → Int) (latest_1 : Int → Int) (all_0 : Int → Int) (now_0 : Int → Int) (latest_0 : Int → Int) (k3 : 0 ≤ x3 ∧ x3 ≤ 22) (k4 : 0 ≤ x4 ∧ x4 ≤ 47) (k9 : 0 ≤ x9 ∧ x9 ≤ 66297) (k11 : 315 ≤ x11 ∧ x11 ≤ 66612) (k12 : 315 ≤ x12 ∧ x12 ≤ 66659) (k15 : 0 ≤ x15 ∧ x15 ≤ 22) (k16 : 1 ≤ x16 ∧ x16 ≤ 48) (d0 : x4 + 1 ≤ x16 ∧ x16 ≤ x4 + 1) (d6 : x9 + 315 ≤ x12 ∧ x12 ≤ x9 + 362) (d7 : x9 + 315 ≤ x11 ∧ x11 ≤ x9 + 315) (f5 : x12 = x11 + x4) (g7 : x9 = r_1) (f16 : 1 * x3 + ((-1) * all_1 (r_0 + 0) + 0) ≤ (-1)) (fe_0_5_1 : r_0 = r_1) (hE_0_2_1 : ∀ j : Int, 0 ≤ j → (j = x12 → all_0 j = x15) ∧ (j ≠ x12 → all_0 j = all_1 j)) (hE_0_3_1 : ∀ j : Int, now_0 j = now_1 j) (hE_0_4_1 : ∀ j : Int, latest_0 j = latest_1 j) : 1 * x3 + ((-1) * all_0 (r_0 + 0) + 0) ≤ (-1) := by
  subst fe_0_5_1
  have e_hE_0_3_1 := funext hE_0_3_1; subst e_hE_0_3_1
  have e_hE_0_4_1 := funext hE_0_4_1; subst e_hE_0_4_1
  first
    | omega
    | (have q1 := (hE_0_2_1 (r_0 + 0) (by omega)).2 (by omega)
       have q2 := (hE_0_2_2 (r_0 + 0) (by omega)).2 (by omega)
       omega)
    | (have q1 := (hE_0_2_1 (r_0 + 0) (by omega)).2 (by omega)
       omega)
set_option maxHeartbeats 4000000 in
theorem vc_Mo_dropNode_8_1 (x3 : Int) (x4 : Int) (x5 : Int) (x6 : Int) (x7 : Int) (x9 : Int) (x11 : Int) (x12 : Int) (x13 : Int) (x15 : Int) (x16 : Int) (all_1 : Int → Int) (r_1 : Int) (r_0 : Int) (now_1 : Int → Int) (latest_1 : Int → Int) (all_0 : Int → Int) (now_0 : Int → Int) (latest_0 : Int → Int) (k3 : 0 ≤ x3 ∧ x3 ≤ 22) (k4 : 0 ≤ x4 ∧ x4 ≤ 47) (k5 : 1 ≤ x5 ∧ x5 ≤ 48) (k6 : 0 ≤ x6 ∧ x6 ≤ 22) (k7 : 1 ≤ x7 ∧ x7 ≤ 23) (k9 : 0 ≤ x9 ∧ x9 ≤ 66297) (k11 : 315 ≤ x11 ∧ x11 ≤ 66612) (k12 : 315 ≤ x12 ∧ x12 ≤ 66659) (k13 : 0 ≤ x13 ∧ x13 ≤ 23) (k15 : 0 ≤ x15 ∧ x15 ≤ 22) (k16 : 1 ≤ x16 ∧ x16 ≤ 48) (d0 : x4 + 1 ≤ x16 ∧ x16 ≤ x4 + 1) (d1 : x5 + (-4294967296) ≤ x16 ∧ x16 ≤ x5 + 0) (d2 : x13 + (-1) ≤ x15 ∧ x15 ≤ x13 + (-1)) (d6 : x9 + 315 ≤ x12 ∧ x12 ≤ x9 + 362) (d7 : x9 + 315 ≤ x11 ∧ x11 ≤ x9 + 315) (d8 : x3 + 1 ≤ x7 ∧ x7 ≤ x3 + 4294967296) (d9 : x3 + (-4294967296) ≤ x6 ∧ x6 ≤ x3 + 0) (d10 : x5 + (-4294967296) ≤ x4 ∧ x4 ≤ x5 + (-1)) (f0 : x16 = x4 + 1) (h4 : x13 = all_1 (x12)) (f5 : x12 = x11 + x4) (g7 : x9 = r_1) (f10 : x7 = all_1 (((r_1 + 315) + x4))) (f12 : x6 = all_1 (((r_1 + 267) + x4))) (f14 : 1 * x5 + ((-1) * all_1 (r_0 + 1) + 0) ≤ 0) (f15 : (-1) * x5 + (1 * all_1 (r_0 + 1) + 0) ≤ 0) (f17 : DN3 (r_1) (all_1) (now_1) (latest_1) (x3) (x4)) (fe_0_5_1 : r_0 = r_1) (hE_0_2_1 : ∀ j : Int, 0 ≤ j → (j = x12 → all_0 j = x15) ∧ (j ≠ x12 → all_0 j = all_1 j)) (hE_0_3_1 : ∀ j : Int, now_0 j = now_1 j) (hE_0_4_1 : ∀ j : Int, latest_0 j = latest_1 j) : DN3 (r_0) (all_0) (now_0) (latest_0) (x3) (x16) := by
  subst fe_0_5_1
  have e_hE_0_3_1 := funext hE_0_3_1; subst e_hE_0_3_1
  have e_hE_0_4_1 := funext hE_0_4_1; subst e_hE_0_4_1
  first
    | exact dn3_step ‹DN3 _ _ _ _ _ _› (by omega) (by omega) (by omega) (Or.inl ⟨by omega, _, _, by assumption, by omega, by omega⟩) (Or.inl ⟨by omega, _, _, by assumption, by omega, by omega⟩)
    | exact dn3_step ‹DN3 _ _ _ _ _ _› (by omega) (by omega) (by omega) (Or.inr ⟨by omega, rfl⟩) (Or.inl ⟨by omega, _, _, by assumption, by omega, by omega⟩)
    | exact dn3_step ‹DN3 _ _ _ _ _ _› (by omega) (by omega) (by omega) (Or.inl ⟨by omega, _, _, by assumption, by omega, by omega⟩) (Or.inr ⟨by omega, rfl⟩)
    | exact dn3_step ‹DN3 _ _ _ _ _ _› (by omega) (by omega) (by omega) (Or.inr ⟨by omega, rfl⟩) (Or.inr ⟨by omega, rfl⟩)
def o_Mo_dropNode_8 : or_T := (33, 17, [(0, (2, 0, 0, [165])), (2, (2, 0, 0, [165])), (3, (0, 0, 22, [])), (4, (0, 0, 47, [])), (5, (0, 1, 48, [])), (6, (0, 0, 22, [])), (7, (0, 1, 23, [])), (8, (2, 0, 0, [167])), (9, (0, 0, 66297, [])), (10, (0, 315, 315, [])), (11, (0, 315, 66612, [])), (12, (0, 315, 66659, [])), (13, (0, 0, 23, [])), (14, (0, 1, 1, [])), (15, (0, 0, 22, [])), (16, (0, 1, 48, []))], [(6, [16, 4], [1]), (24, [0, 2], []), (100, [8, 12, 15], []), (2, [15, 13, 14], []), (10, [13, 8, 12], []), (1, [12, 11, 4], []), (1, [11, 9, 10], []), (9, [9, 2], [5]), (9, [8, 2], [2]), (7, [7, 3], [4]), (20, [7, 2, 4], [50, 1, 1, 1005, 1002, 1, 2, 1, 0, 3, 1, 2, 4, 7, 4, 3, 2, 1, 5, 0, 315, 1, 2]), (7, [6, 3], [5]), (20, [6, 2, 4], [50, 1, 1, 1005, 1002, 1, 2, 1, 0, 3, 1, 2, 4, 7, 4, 3, 2, 1, 5, 0, 267, 1, 2]), (7, [4, 5], [2]), (20, [5, 2], [30, 0, 1, 0, 0, -1, 3, 2005001]), (20, [5, 2], [30, 0, -1, 0, 0, 1, 3, 2005001]), (20, [3, 2], [30, -1, 1, 0, 0, -1, 3, 2005000]), (20, [2, 3, 4], [60, 1, 3, 214, 5, 2, 3, 4])], [], [], [(20, [3, 2], [30, -1, 1, 0, 0, -1, 3, 2005000]), (20, [2, 3, 16], [60, 1, 3, 214, 5, 2, 3, 4])], [], [(16, 4, 1, 1), (16, 5, -4294967296, 0), (15, 13, -1, -1), (12, 4, 315, 66612), (12, 5, -4294967296, 66611), (12, 11, 0, 47), (12, 9, 315, 362), (11, 9, 315, 315), (7, 3, 1, 4294967296), (6, 3, -4294967296, 0), (4, 5, -4294967296, -1)])
theorem oo_Mo_dropNode_8 {kA : Nat → ClassId} : or_ok PRD kA GG o_Mo_dropNode_8 := by
  refine or_mk fun A ta ws vs hD hth hl => ?_
  intro t0 r0 t2 r2 t3 k3 t4 k4 t5 k5 t6 k6 t7 k7 t8 r8 t9 k9 t10 k10 t11 k11 t12 k12 t13 k13 t14 k14 t15 k15 t16 k16 d0 d1 d2 d3 d4 d5 d6 d7 d8 d9 d10 f0 f1 ta1 w1 le1 s1 f3 f4 f5 f6 f7 f8 f9 f10 f11 f12 f13 f14 f15 f16 f17
  replace f0 := shm_4 f0
  replace f1 := shm_5 f1
  have s1 : (∀ b j, w_el ws b j = if b = v_ad (n_v vs 8) ∧ j = (v_iv (n_v vs 12)).toNat then v_iv (n_v vs 15) else w_el w1 b j) ∧ ∀ b k, w_fd ws b k = w_fd w1 b k := s1.2
  replace f4 := shm_107 f4
  replace f5 := shm_12 f5
  replace f7 := shm_110 f7
  replace f8 := shm_120 f8
  replace f10 := shm_603 f10
  replace f12 := shm_749 f12
  replace f14 := shm_121 f14
  replace f15 := shm_122 f15
  replace f16 := shm_269 f16
  replace f17 := shm_1634 f17
  have q2 : n_v vs 2 = n_v vs 0 := f1.symm
  simp only [q2] at f7 f8 f10 f12 f14 f15 f16 f17
  have ar_0_2_1 : w_ar w1 (n_v vs 0) 2 = w_ar ws (n_v vs 0) 2 := congrArg v_ad (s1.2 _ _).symm
  have ar_0_3_1 : w_ar w1 (n_v vs 0) 3 = w_ar ws (n_v vs 0) 3 := congrArg v_ad (s1.2 _ _).symm
  have cr_0_3 := fdq_142 hD hth r0
  have ar_0_4_1 : w_ar w1 (n_v vs 0) 4 = w_ar ws (n_v vs 0) 4 := congrArg v_ad (s1.2 _ _).symm
  have cr_0_4 := fdq_143 hD hth r0
  have fi_0_5_1 : w_fi w1 (n_v vs 0) 5 = w_fi ws (n_v vs 0) 5 := by show v_iv (w_fd w1 _ _) = v_iv (w_fd ws _ _); rw [s1.2]
  have ad_8 : v_ad (n_v vs 8) = w_ar ws (n_v vs 0) 2 := (congrArg v_ad f8).trans ar_0_2_1
  simp only [ad_8] at f4
  have h4 : v_iv (n_v vs 13) = w_ei w1 (w_ar ws (n_v vs 0) 2) (v_iv (n_v vs 12)) := f4
  have g7 : v_iv (n_v vs 9) = w_fi w1 (n_v vs 0) 5 := congrArg v_iv f7
  simp only [ar_0_2_1, ar_0_3_1, ar_0_4_1] at f10 f12 f14 f15 f16 f17
  simp only [fi_0_5_1] at f14 f15 f16
  have fe_0_5_1 : w_fi ws (n_v vs 0) 5 = w_fi w1 (n_v vs 0) 5 := congrArg v_iv (s1.2 _ _)
  have hE_0_2_1 : ∀ j : Int, 0 ≤ j → (j = v_iv (n_v vs 12) → w_ei ws (w_ar ws (n_v vs 0) 2) j = v_iv (n_v vs 15)) ∧ (j ≠ v_iv (n_v vs 12) → w_ei ws (w_ar ws (n_v vs 0) 2) j = w_ei w1 (w_ar ws (n_v vs 0) 2) j) := fun j hj => ⟨fun h => by unfold w_ei; rw [s1.1, if_pos ⟨ad_8.symm, by rw [h]⟩], fun h => by unfold w_ei; rw [s1.1, if_neg (fun e => h (by have := e.2; omega))]⟩
  have hE_0_3_1 : ∀ j : Int, w_ei ws (w_ar ws (n_v vs 0) 3) j = w_ei w1 (w_ar ws (n_v vs 0) 3) j := el_kp s1.1 r8 cr_0_3 (by decide)
  have hE_0_4_1 : ∀ j : Int, w_ei ws (w_ar ws (n_v vs 0) 4) j = w_ei w1 (w_ar ws (n_v vs 0) 4) j := el_kp s1.1 r8 cr_0_4 (by decide)
  have nf0 : fc_1 PRD (20, [3, 2], [30, -1, 1, 0, 0, -1, 3, 2005000]) ws (vs) := by
    refine ⟨nf_in hl rfl, sgq_269 ?_⟩
    · show 1 * v_iv (n_v vs 3) + ((-1) * w_el ws (w_ar ws (n_v vs 2) 2) (w_fi ws (n_v vs 2) 5 + 0).toNat + 0) ≤ (-1)
      rw [q2]
      exact vc_Mo_dropNode_8_0 (v_iv (n_v vs 3)) (v_iv (n_v vs 4)) (v_iv (n_v vs 9)) (v_iv (n_v vs 11)) (v_iv (n_v vs 12)) (v_iv (n_v vs 15)) (v_iv (n_v vs 16)) (w_ei w1 (w_ar ws (n_v vs 0) 2)) (w_fi w1 (n_v vs 0) 5) (w_fi ws (n_v vs 0) 5) (w_ei w1 (w_ar ws (n_v vs 0) 3)) (w_ei w1 (w_ar ws (n_v vs 0) 4)) (w_ei ws (w_ar ws (n_v vs 0) 2)) (w_ei ws (w_ar ws (n_v vs 0) 3)) (w_ei ws (w_ar ws (n_v vs 0) 4)) k3 k4 k9 k11 k12 k15 k16 d0 d6 d7 f5 g7 f16 fe_0_5_1 hE_0_2_1 hE_0_3_1 hE_0_4_1
  have nf1 : fc_1 PRD (20, [2, 3, 16], [60, 1, 3, 214, 5, 2, 3, 4]) ws (vs) := by
    refine ⟨nf_in hl rfl, sgq_1634 ?_⟩
    · show DN3 (w_fi ws (n_v vs 2) 5) (w_ei ws (w_ar ws (n_v vs 2) 2)) (w_ei ws (w_ar ws (n_v vs 2) 3)) (w_ei ws (w_ar ws (n_v vs 2) 4)) (v_iv (n_v vs 3)) (v_iv (n_v vs 16))
      rw [q2]
      exact vc_Mo_dropNode_8_1 (v_iv (n_v vs 3)) (v_iv (n_v vs 4)) (v_iv (n_v vs 5)) (v_iv (n_v vs 6)) (v_iv (n_v vs 7)) (v_iv (n_v vs 9)) (v_iv (n_v vs 11)) (v_iv (n_v vs 12)) (v_iv (n_v vs 13)) (v_iv (n_v vs 15)) (v_iv (n_v vs 16)) (w_ei w1 (w_ar ws (n_v vs 0) 2)) (w_fi w1 (n_v vs 0) 5) (w_fi ws (n_v vs 0) 5) (w_ei w1 (w_ar ws (n_v vs 0) 3)) (w_ei w1 (w_ar ws (n_v vs 0) 4)) (w_ei ws (w_ar ws (n_v vs 0) 2)) (w_ei ws (w_ar ws (n_v vs 0) 3)) (w_ei ws (w_ar ws (n_v vs 0) 4)) k3 k4 k5 k6 k7 k9 k11 k12 k13 k15 k16 d0 d1 d2 d6 d7 d8 d9 d10 f0 h4 f5 g7 f10 f12 f14 f15 f17 fe_0_5_1 hE_0_2_1 hE_0_3_1 hE_0_4_1
  refine ⟨(fun _ h => (by cases h)), [], trivial, ?_, (fun _ h => (by cases h))⟩
  rw [List.append_nil]
  exact List.forall_mem_cons.mpr ⟨⟨show (20 : Nat) < 100 from by decide, nf0⟩, List.forall_mem_cons.mpr ⟨⟨show (20 : Nat) < 100 from by decide, nf1⟩, (fun _ h => (by cases h))⟩⟩
def o_Mo_dropNode_9 : or_T := (68, 15, [(0, (2, 0, 0, [165])), (2, (2, 0, 0, [165])), (3, (0, 0, 22, [])), (4, (0, 0, 47, [])), (5, (0, 1, 48, [])), (6, (0, 1, 23, [])), (7, (2, 0, 0, [167])), (8, (0, 0, 66297, [])), (9, (0, 267, 267, [])), (10, (0, 267, 66564, [])), (11, (0, 267, 66611, [])), (12, (0, 0, 23, [])), (13, (0, 1, 1, [])), (14, (0, -1, 22, []))], [(2, [14, 12, 13], []), (10, [12, 7, 11], []), (1, [11, 10, 4], []), (1, [10, 8, 9], []), (9, [8, 2], [5]), (9, [7, 2], [2]), (7, [6, 3], [4]), (20, [6, 2, 4], [50, 1, 1, 1005, 1002, 1, 2, 1, 0, 3, 1, 2, 4, 7, 4, 3, 2, 1, 5, 0, 267, 1, 2]), (7, [4, 5], [2]), (20, [5, 2], [30, 0, 1, 0, 0, -1, 3, 2005001]), (20, [5, 2], [30, 0, -1, 0, 0, 1, 3, 2005001]), (20, [3, 2], [30, -1, 1, 0, 0, -1, 3, 2005000]), (20, [2, 3, 4], [60, 1, 3, 214, 5, 2, 3, 4]), (24, [0, 2], [])], [(14, (0, 0, 22, []))], [], [], [], [(14, 12, -1, -1), (11, 4, 267, 66564), (11, 5, -4294967296, 66563), (11, 10, 0, 47), (11, 8, 267, 314), (10, 8, 267, 267), (6, 3, 1, 4294967296), (4, 5, -4294967296, -1)])
theorem oo_Mo_dropNode_9 {kA : Nat → ClassId} : or_ok PRD kA GG o_Mo_dropNode_9 := by
  refine or_mk fun A ta ws vs hD hth hl => ?_
  intro t0 r0 t2 r2 t3 k3 t4 k4 t5 k5 t6 k6 t7 r7 t8 k8 t9 k9 t10 k10 t11 k11 t12 k12 t13 k13 t14 k14 d0 d1 d2 d3 d4 d5 d6 d7 f0 f1 f2 f3 f4 f5 f6 f7 f8 f9 f10 f11 f12 f13
  replace f0 := shm_14 f0
  replace f1 := shm_107 f1
  replace f2 := shm_12 f2
  replace f3 := shm_12 f3
  replace f4 := shm_110 f4
  replace f5 := shm_120 f5
  replace f6 := shm_21 f6
  replace f7 := shm_749 f7
  replace f8 := shm_6 f8
  replace f9 := shm_121 f9
  replace f10 := shm_122 f10
  replace f11 := shm_269 f11
  replace f12 := shm_1634 f12
  replace f13 := shm_5 f13
  have q2 : n_v vs 2 = n_v vs 0 := f13.symm
  simp only [q2] at f4 f5 f7 f9 f10 f11 f12
  have cr_0_2 := fdq_10 hD hth r0
  have cr_0_3 := fdq_142 hD hth r0
  have cr_0_4 := fdq_143 hD hth r0
  have ad_7 : v_ad (n_v vs 7) = w_ar ws (n_v vs 0) 2 := congrArg v_ad f5
  simp only [ad_7] at f1
  have h1 : v_iv (n_v vs 12) = w_ei ws (w_ar ws (n_v vs 0) 2) (v_iv (n_v vs 11)) := f1
  have g4 : v_iv (n_v vs 8) = w_fi ws (n_v vs 0) 5 := congrArg v_iv f4
  have cg1_F5_1 : v_iv (n_v vs 11) = w_fi ws (n_v vs 0) 5 + 1 → w_el ws (w_ar ws (n_v vs 0) 2) (v_iv (n_v vs 11)).toNat = w_el ws (w_ar ws (n_v vs 0) 2) (w_fi ws (n_v vs 0) 5 + 1).toNat := fun h => by rw [h]
  have cg1_F5_0 : v_iv (n_v vs 11) = w_fi ws (n_v vs 0) 5 + 0 → w_el ws (w_ar ws (n_v vs 0) 2) (v_iv (n_v vs 11)).toNat = w_el ws (w_ar ws (n_v vs 0) 2) (w_fi ws (n_v vs 0) 5 + 0).toNat := fun h => by rw [h]
  have br_0_2_F5_0_0 : w_ei ws (w_ar ws (n_v vs 0) 2) (w_fi ws (n_v vs 0) 5 + 0) = w_el ws (w_ar ws (n_v vs 0) 2) (w_fi ws (n_v vs 0) 5 + 0).toNat := rfl
  have br_0_2_F5_1_0 : w_ei ws (w_ar ws (n_v vs 0) 2) (w_fi ws (n_v vs 0) 5 + 1) = w_el ws (w_ar ws (n_v vs 0) 2) (w_fi ws (n_v vs 0) 5 + 1).toNat := rfl
  have br_0_2_11_0 : w_ei ws (w_ar ws (n_v vs 0) 2) (v_iv (n_v vs 11)) = w_el ws (w_ar ws (n_v vs 0) 2) (v_iv (n_v vs 11)).toNat := rfl
  have hK_0_3 := elq_80 hD hth cr_0_3
  have hK_0_4 := elq_81 hD hth cr_0_4
  have rf14 : tv_ok ta (0, 0, 22, []) (n_v vs 14) := tv_in t14 (by first | omega | grind) (by first | omega | grind)
  refine ⟨List.forall_mem_cons.mpr ⟨rf14, (fun _ h => (by cases h))⟩, [], trivial, ?_, (fun _ h => (by cases h))⟩
  rw [List.append_nil]
  exact (fun _ h => (by cases h))
set_option maxHeartbeats 4000000 in
theorem vc_Mo_dropNode_10_0 (x3 : Int) (x4 : Int) (x8 : Int) (x10 : Int) (x11 : Int) (x14 : Int) (x16 : Int) (all_0 : Int → Int) (r_0 : Int) (all_1 : Int → Int) (r_1 : Int) (now_1 : Int → Int) (latest_1 : Int → Int) (now_0 : Int → Int) (latest_0 : Int → Int) (k3 : 0 ≤ x3 ∧ x3 ≤ 22) (k4 : 0 ≤ x4 ∧ x4 ≤ 47) (k8 : 0 ≤ x8 ∧ x8 ≤ 66297) (k10 : 267 ≤ x10 ∧ x10 ≤ 66564) (k11 : 267 ≤ x11 ∧ x11 ≤ 66611) (k14 : 0 ≤ x14 ∧ x14 ≤ 22) (k16 : 1 ≤ x16 ∧ x16 ≤ 48) (d0 : x4 + 1 ≤ x16 ∧ x16 ≤ x4 + 1) (d6 : x10 + 0 ≤ x11 ∧ x11 ≤ x10 + 47) (d8 : x8 + 267 ≤ x10 ∧ x10 ≤ x8 + 267) (f7 : x11 = x10 + x4) (g9 : x8 = r_1) (f16 : 1 * x3 + ((-1) * all_1 (r_0 + 0) + 0) ≤ (-1)) (fe_0_5_1 : r_0 = r_1) (hE_0_2_1 : ∀ j : Int, 0 ≤ j → (j = x11 → all_0 j = x14) ∧ (j ≠ x11 → all_0 j = all_1 j)) (hE_0_3_1 : ∀ j : Int, now_0 j = now_1 j) (hE_0_4_1 : ∀ j : Int, latest_0 j = latest_1 j) : 1 * x3 + ((-1) * all_0 (r_0 + 0) + 0) ≤ (-1) := by
  subst fe_0_5_1
  have e_hE_0_3_1 := funext hE_0_3_1; subst e_hE_0_3_1
  have e_hE_0_4_1 := funext hE_0_4_1; subst e_hE_0_4_1
  first
    | omega
    | (have q1 := (hE_0_2_1 (r_0 + 0) (by omega)).2 (by omega)
       have q2 := (hE_0_2_2 (r_0 + 0) (by omega)).2 (by omega)
       omega)
    | (have q1 := (hE_0_2_1 (r_0 + 0) (by omega)).2 (by omega)
       omega)
set_option maxHeartbeats 4000000 in
theorem vc_Mo_dropNode_10_1 (x3 : Int) (x4 : Int) (x5 : Int) (x6 : Int) (x8 : Int) (x10 : Int) (x11 : Int) (x12 : Int) (x14 : Int) (x15 : Int) (x16 : Int) (all_0 : Int → Int) (r_0 : Int) (all_1 : Int → Int) (r_1 : Int) (now_1 : Int → Int) (latest_1 : Int → Int) (now_0 : Int → Int) (latest_0 : Int → Int) (k3 : 0 ≤ x3 ∧ x3 ≤ 22) (k4 : 0 ≤ x4 ∧ x4 ≤ 47) (k5 : 1 ≤ x5 ∧ x5 ≤ 48) (k6 : 1 ≤ x6 ∧ x6 ≤ 23) (k8 : 0 ≤ x8 ∧ x8 ≤ 66297) (k10 : 267 ≤ x10 ∧ x10 ≤ 66564) (k11 : 267 ≤ x11 ∧ x11 ≤ 66611) (k12 : 0 ≤ x12 ∧ x12 ≤ 23) (k14 : 0 ≤ x14 ∧ x14 ≤ 22) (k15 : 0 ≤ x15 ∧ x15 ≤ 22) (k16 : 1 ≤ x16 ∧ x16 ≤ 48) (d0 : x4 + 1 ≤ x16 ∧ x16 ≤ x4 + 1) (d1 : x5 + (-4294967296) ≤ x16 ∧ x16 ≤ x5 + 0) (d2 : x3 + (-4294967296) ≤ x15 ∧ x15 ≤ x3 + 0) (d3 : x12 + (-1) ≤ x14 ∧ x14 ≤ x12 + (-1)) (d6 : x10 + 0 ≤ x11 ∧ x11 ≤ x10 + 47) (d8 : x8 + 267 ≤ x10 ∧ x10 ≤ x8 + 267) (d9 : x3 + 1 ≤ x6 ∧ x6 ≤ x3 + 4294967296) (d10 : x5 + (-4294967296) ≤ x4 ∧ x4 ≤ x5 + (-1)) (f0 : x16 = x4 + 1) (f2 : x15 = all_0 (((r_0 + 315) + x4))) (h6 : x12 = all_1 (x11)) (f7 : x11 = x10 + x4) (g9 : x8 = r_1) (f12 : x6 = all_1 (((r_1 + 267) + x4))) (f14 : 1 * x5 + ((-1) * all_1 (r_0 + 1) + 0) ≤ 0) (f15 : (-1) * x5 + (1 * all_1 (r_0 + 1) + 0) ≤ 0) (f17 : DN3 (r_1) (all_1) (now_1) (latest_1) (x3) (x4)) (fe_0_5_1 : r_0 = r_1) (hE_0_2_1 : ∀ j : Int, 0 ≤ j → (j = x11 → all_0 j = x14) ∧ (j ≠ x11 → all_0 j = all_1 j)) (hE_0_3_1 : ∀ j : Int, now_0 j = now_1 j) (hE_0_4_1 : ∀ j : Int, latest_0 j = latest_1 j) : DN3 (r_0) (all_0) (now_0) (latest_0) (x3) (x16) := by
  subst fe_0_5_1
  have e_hE_0_3_1 := funext hE_0_3_1; subst e_hE_0_3_1
  have e_hE_0_4_1 := funext hE_0_4_1; subst e_hE_0_4_1
  first
    | exact dn3_step ‹DN3 _ _ _ _ _ _› (by omega) (by omega) (by omega) (Or.inl ⟨by omega, _, _, by assumption, by omega, by omega⟩) (Or.inl ⟨by omega, _, _, by assumption, by omega, by omega⟩)
    | exact dn3_step ‹DN3 _ _ _ _ _ _› (by omega) (by omega) (by omega) (Or.inr ⟨by omega, rfl⟩) (Or.inl ⟨by omega, _, _, by assumption, by omega, by omega⟩)
    | exact dn3_step ‹DN3 _ _ _ _ _ _› (by omega) (by omega) (by omega) (Or.inl ⟨by omega, _, _, by assumption, by omega, by omega⟩) (Or.inr ⟨by omega, rfl⟩)
    | exact dn3_step ‹DN3 _ _ _ _ _ _› (by omega) (by omega) (by omega) (Or.inr ⟨by omega, rfl⟩) (Or.inr ⟨by omega, rfl⟩)
def o_Mo_dropNode_10 : or_T := (33, 17, [(0, (2, 0, 0, [165])), (2, (2, 0, 0, [165])), (3, (0, 0, 22, [])), (4, (0, 0, 47, [])), (5, (0, 1, 48, [])), (6, (0, 1, 23, [])), (7, (2, 0, 0, [167])), (8, (0, 0, 66297, [])), (9, (0, 267, 267, [])), (10, (0, 267, 66564, [])), (11, (0, 267, 66611, [])), (12, (0, 0, 23, [])), (13, (0, 1, 1, [])), (14, (0, 0, 22, [])), (15, (0, 0, 22, [])), (16, (0, 1, 48, []))], [(6, [16, 4], [1]), (7, [15, 3], [5]), (20, [15, 2, 4], [50, 1, 1, 1005, 1002, 1, 2, 1, 0, 3, 1, 2, 4, 7, 4, 3, 2, 1, 5, 0, 315, 1, 2]), (24, [0, 2], []), (100, [7, 11, 14], []), (2, [14, 12, 13], []), (10, [12, 7, 11], []), (1, [11, 10, 4], []), (1, [10, 8, 9], []), (9, [8, 2], [5]), (9, [7, 2], [2]), (7, [6, 3], [4]), (20, [6, 2, 4], [50, 1, 1, 1005, 1002, 1, 2, 1, 0, 3, 1, 2, 4, 7, 4, 3, 2, 1, 5, 0, 267, 1, 2]), (7, [4, 5], [2]), (20, [5, 2], [30, 0, 1, 0, 0, -1, 3, 2005001]), (20, [5, 2], [30, 0, -1, 0, 0, 1, 3, 2005001]), (20, [3, 2], [30, -1, 1, 0, 0, -1, 3, 2005000]), (20, [2, 3, 4], [60, 1, 3, 214, 5, 2, 3, 4])], [], [], [(20, [3, 2], [30, -1, 1, 0, 0, -1, 3, 2005000]), (20, [2, 3, 16], [60, 1, 3, 214, 5, 2, 3, 4])], [], [(16, 4, 1, 1), (16, 5, -4294967296, 0), (15, 3, -4294967296, 0), (14, 12, -1, -1), (11, 4, 267, 66564), (11, 5, -4294967296, 66563), (11, 10, 0, 47), (11, 8, 267, 314), (10, 8, 267, 267), (6, 3, 1, 4294967296), (4, 5, -4294967296, -1)])
theorem oo_Mo_dropNode_10 {kA : Nat → ClassId} : or_ok PRD kA GG o_Mo_dropNode_10 := by
  refine or_mk fun A ta ws vs hD hth hl => ?_
  intro t0 r0 t2 r2 t3 k3 t4 k4 t5 k5 t6 k6 t7 r7 t8 k8 t9 k9 t10 k10 t11 k11 t12 k12 t13 k13 t14 k14 t15 k15 t16 k16 d0 d1 d2 d3 d4 d5 d6 d7 d8 d9 d10 f0 f1 f2 f3 ta1 w1 le1 s1 f5 f6 f7 f8 f9 f10 f11 f12 f13 f14 f15 f16 f17
  replace f0 := shm_4 f0
  replace f2 := shm_603 f2
  replace f3 := shm_5 f3
  have s1 : (∀ b j, w_el ws b j = if b = v_ad (n_v vs 7) ∧ j = (v_iv (n_v vs 11)).toNat then v_iv (n_v vs 14) else w_el w1 b j) ∧ ∀ b k, w_fd ws b k = w_fd w1 b k := s1.2
  replace f6 := shm_107 f6
  replace f7 := shm_12 f7
  replace f9 := shm_110 f9
  replace f10 := shm_120 f10
  replace f12 := shm_749 f12
  replace f14 := shm_121 f14
  replace f15 := shm_122 f15
  replace f16 := shm_269 f16
  replace f17 := shm_1634 f17
  have q2 : n_v vs 2 = n_v vs 0 := f3.symm
  simp only [q2] at f2 f9 f10 f12 f14 f15 f16 f17
  have ar_0_2_1 : w_ar w1 (n_v vs 0) 2 = w_ar ws (n_v vs 0) 2 := congrArg v_ad (s1.2 _ _).symm
  have ar_0_3_1 : w_ar w1 (n_v vs 0) 3 = w_ar ws (n_v vs 0) 3 := congrArg v_ad (s1.2 _ _).symm
  have cr_0_3 := fdq_142 hD hth r0
  have ar_0_4_1 : w_ar w1 (n_v vs 0) 4 = w_ar ws (n_v vs 0) 4 := congrArg v_ad (s1.2 _ _).symm
  have cr_0_4 := fdq_143 hD hth r0
  have fi_0_5_1 : w_fi w1 (n_v vs 0) 5 = w_fi ws (n_v vs 0) 5 := by show v_iv (w_fd w1 _ _) = v_iv (w_fd ws _ _); rw [s1.2]
  have ad_7 : v_ad (n_v vs 7) = w_ar ws (n_v vs 0) 2 := (congrArg v_ad f10).trans ar_0_2_1
  simp only [ad_7] at f6
  have h6 : v_iv (n_v vs 12) = w_ei w1 (w_ar ws (n_v vs 0) 2) (v_iv (n_v vs 11)) := f6
  have g9 : v_iv (n_v vs 8) = w_fi w1 (n_v vs 0) 5 := congrArg v_iv f9
  simp only [ar_0_2_1, ar_0_3_1, ar_0_4_1] at f12 f14 f15 f16 f17
  simp only [fi_0_5_1] at f14 f15 f16
  have fe_0_5_1 : w_fi ws (n_v vs 0) 5 = w_fi w1 (n_v vs 0) 5 := congrArg v_iv (s1.2 _ _)
  have hE_0_2_1 : ∀ j : Int, 0 ≤ j → (j = v_iv (n_v vs 11) → w_ei ws (w_ar ws (n_v vs 0) 2) j = v_iv (n_v vs 14)) ∧ (j ≠ v_iv (n_v vs 11) → w_ei ws (w_ar ws (n_v vs 0) 2) j = w_ei w1 (w_ar ws (n_v vs 0) 2) j) := fun j hj => ⟨fun h => by unfold w_ei; rw [s1.1, if_pos ⟨ad_7.symm, by rw [h]⟩], fun h => by unfold w_ei; rw [s1.1, if_neg (fun e => h (by have := e.2; omega))]⟩
  have hE_0_3_1 : ∀ j : Int, w_ei ws (w_ar ws (n_v vs 0) 3) j = w_ei w1 (w_ar ws (n_v vs 0) 3) j := el_kp s1.1 r7 cr_0_3 (by decide)
  have hE_0_4_1 : ∀ j : Int, w_ei ws (w_ar ws (n_v vs 0) 4) j = w_ei w1 (w_ar ws (n_v vs 0) 4) j := el_kp s1.1 r7 cr_0_4 (by decide)
  have nf0 : fc_1 PRD (20, [3, 2], [30, -1, 1, 0, 0, -1, 3, 2005000]) ws (vs) := by
    refine ⟨nf_in hl rfl, sgq_269 ?_⟩
    · show 1 * v_iv (n_v vs 3) + ((-1) * w_el ws (w_ar ws (n_v vs 2) 2) (w_fi ws (n_v vs 2) 5 + 0).toNat + 0) ≤ (-1)
      rw [q2]
      exact vc_Mo_dropNode_10_0 (v_iv (n_v vs 3)) (v_iv (n_v vs 4)) (v_iv (n_v vs 8)) (v_iv (n_v vs 10)) (v_iv (n_v vs 11)) (v_iv (n_v vs 14)) (v_iv (n_v vs 16)) (w_ei ws (w_ar ws (n_v vs 0) 2)) (w_fi ws (n_v vs 0) 5) (w_ei w1 (w_ar ws (n_v vs 0) 2)) (w_fi w1 (n_v vs 0) 5) (w_ei w1 (w_ar ws (n_v vs 0) 3)) (w_ei w1 (w_ar ws (n_v vs 0) 4)) (w_ei ws (w_ar ws (n_v vs 0) 3)) (w_ei ws (w_ar ws (n_v vs 0) 4)) k3 k4 k8 k10 k11 k14 k16 d0 d6 d8 f7 g9 f16 fe_0_5_1 hE_0_2_1 hE_0_3_1 hE_0_4_1
  have nf1 : fc_1 PRD (20, [2, 3, 16], [60, 1, 3, 214, 5, 2, 3, 4]) ws (vs) := by
    refine ⟨nf_in hl rfl, sgq_1634 ?_⟩
    · show DN3 (w_fi ws (n_v vs 2) 5) (w_ei ws (w_ar ws (n_v vs 2) 2)) (w_ei ws (w_ar ws (n_v vs 2) 3)) (w_ei ws (w_ar ws (n_v vs 2) 4)) (v_iv (n_v vs 3)) (v_iv (n_v vs 16))
      rw [q2]
      exact vc_Mo_dropNode_10_1 (v_iv (n_v vs 3)) (v_iv (n_v vs 4)) (v_iv (n_v vs 5)) (v_iv (n_v vs 6)) (v_iv (n_v vs 8)) (v_iv (n_v vs 10)) (v_iv (n_v vs 11)) (v_iv (n_v vs 12)) (v_iv (n_v vs 14)) (v_iv (n_v vs 15)) (v_iv (n_v vs 16)) (w_ei ws (w_ar ws (n_v vs 0) 2)) (w_fi ws (n_v vs 0) 5) (w_ei w1 (w_ar ws (n_v vs 0) 2)) (w_fi w1 (n_v vs 0) 5) (w_ei w1 (w_ar ws (n_v vs 0) 3)) (w_ei w1 (w_ar ws (n_v vs 0) 4)) (w_ei ws (w_ar ws (n_v vs 0) 3)) (w_ei ws (w_ar ws (n_v vs 0) 4)) k3 k4 k5 k6 k8 k10 k11 k12 k14 k15 k16 d0 d1 d2 d3 d6 d8 d9 d10 f0 f2 h6 f7 g9 f12 f14 f15 f17 fe_0_5_1 hE_0_2_1 hE_0_3_1 hE_0_4_1
  refine ⟨(fun _ h => (by cases h)), [], trivial, ?_, (fun _ h => (by cases h))⟩
  rw [List.append_nil]
  exact List.forall_mem_cons.mpr ⟨⟨show (20 : Nat) < 100 from by decide, nf0⟩, List.forall_mem_cons.mpr ⟨⟨show (20 : Nat) < 100 from by decide, nf1⟩, (fun _ h => (by cases h))⟩⟩
def o_Mo_dropNode_11 : or_T := (96, 22, [(0, (2, 0, 0, [165])), (2, (2, 0, 0, [165])), (3, (0, 0, 22, [])), (4, (0, 0, 47, [])), (5, (0, 1, 48, [])), (6, (0, 1, 23, [])), (7, (2, 0, 0, [167])), (8, (0, 0, 66297, [])), (9, (0, 267, 267, [])), (10, (0, 267, 66564, [])), (11, (0, 267, 66611, [])), (12, (0, 0, 23, [])), (13, (0, 1, 1, [])), (14, (0, 0, 22, [])), (15, (0, 1, 23, [])), (16, (0, 315, 315, [])), (17, (0, 315, 66612, [])), (18, (0, 315, 66659, [])), (19, (0, 0, 23, [])), (20, (0, 1, 1, [])), (21, (0, -1, 22, []))], [(2, [21, 19, 20], []), (10, [19, 7, 18], []), (1, [18, 17, 4], []), (1, [17, 8, 16], []), (9, [8, 2], [5]), (9, [7, 2], [2]), (7, [15, 3], [4]), (20, [15, 2, 4], [50, 1, 1, 1005, 1002, 1, 2, 1, 0, 3, 1, 2, 4, 7, 4, 3, 2, 1, 5, 0, 315, 1, 2]), (24, [0, 2], []), (100, [7, 11, 14], []), (2, [14, 12, 13], []), (10, [12, 7, 11], []), (1, [11, 10, 4], []), (1, [10, 8, 9], []), (7, [6, 3], [4]), (20, [6, 2, 4], [50, 1, 1, 1005, 1002, 1, 2, 1, 0, 3, 1, 2, 4, 7, 4, 3, 2, 1, 5, 0, 267, 1, 2]), (7, [4, 5], [2]), (20, [5, 2], [30, 0, 1, 0, 0, -1, 3, 2005001]), (20, [5, 2], [30, 0, -1, 0, 0, 1, 3, 2005001]), (20, [3, 2], [30, -1, 1, 0, 0, -1, 3, 2005000]), (20, [2, 3, 4], [60, 1, 3, 214, 5, 2, 3, 4])], [(21, (0, 0, 22, []))], [], [], [], [(21, 19, -1, -1), (18, 4, 315, 66612), (18, 5, -4294967296, 66611), (18, 17, 0, 47), (18, 8, 315, 362), (17, 8, 315, 315), (15, 3, 1, 4294967296), (14, 12, -1, -1), (11, 4, 267, 66564), (11, 5, -4294967296, 66563), (11, 10, 0, 47), (11, 8, 267, 314), (10, 8, 267, 267), (6, 3, 1, 4294967296), (4, 5, -4294967296, -1)])
theorem oo_Mo_dropNode_11 {kA : Nat → ClassId} : or_ok PRD kA GG o_Mo_dropNode_11 := by
  refine or_mk fun A ta ws vs hD hth hl => ?_
  intro t0 r0 t2 r2 t3 k3 t4 k4 t5 k5 t6 k6 t7 r7 t8 k8 t9 k9 t10 k10 t11 k11 t12 k12 t13 k13 t14 k14 t15 k15 t16 k16 t17 k17 t18 k18 t19 k19 t20 k20 t21 k21 d0 d1 d2 d3 d4 d5 d6 d7 d8 d9 d10 d11 d12 d13 d14 f0 f1 f2 f3 f4 f5 f6 f7 f8 ta1 w1 le1 s1 f10 f11 f12 f13 f14 f15 f16 f17 f18 f19 f20
  replace f0 := shm_14 f0
  replace f1 := shm_107 f1
  replace f2 := shm_12 f2
  replace f3 := shm_12 f3
  replace f4 := shm_110 f4
  replace f5 := shm_120 f5
  replace f6 := shm_21 f6
  replace f7 := shm_603 f7
  replace f8 := shm_5 f8
  have s1 : (∀ b j, w_el ws b j = if b = v_ad (n_v vs 7) ∧ j = (v_iv (n_v vs 11)).toNat then v_iv (n_v vs 14) else w_el w1 b j) ∧ ∀ b k, w_fd ws b k = w_fd w1 b k := s1.2
  replace f10 := shm_14 f10
  replace f11 := shm_107 f11
  replace f12 := shm_12 f12
  replace f13 := shm_12 f13
  replace f14 := shm_21 f14
  replace f15 := shm_749 f15
  replace f16 := shm_6 f16
  replace f17 := shm_121 f17
  replace f18 := shm_122 f18
  replace f19 := shm_269 f19
  replace f20 := shm_1634 f20
  have q2 : n_v vs 2 = n_v vs 0 := f8.symm
  simp only [q2] at f4 f5 f7 f15 f17 f18 f19 f20
  have ar_0_2_1 : w_ar w1 (n_v vs 0) 2 = w_ar ws (n_v vs 0) 2 := congrArg v_ad (s1.2 _ _).symm
  have cr_0_2 := fdq_10 hD hth r0
  have ar_0_3_1 : w_ar w1 (n_v vs 0) 3 = w_ar ws (n_v vs 0) 3 := congrArg v_ad (s1.2 _ _).symm
  have cr_0_3 := fdq_142 hD hth r0
  have ar_0_4_1 : w_ar w1 (n_v vs 0) 4 = w_ar ws (n_v vs 0) 4 := congrArg v_ad (s1.2 _ _).symm
  have cr_0_4 := fdq_143 hD hth r0
  have fi_0_5_1 : w_fi w1 (n_v vs 0) 5 = w_fi ws (n_v vs 0) 5 := by show v_iv (w_fd w1 _ _) = v_iv (w_fd ws _ _); rw [s1.2]
  have ad_7 : v_ad (n_v vs 7) = w_ar ws (n_v vs 0) 2 := congrArg v_ad f5
  simp only [ad_7] at f1
  have h1 : v_iv (n_v vs 19) = w_ei ws (w_ar ws (n_v vs 0) 2) (v_iv (n_v vs 18)) := f1
  have g4 : v_iv (n_v vs 8) = w_fi ws (n_v vs 0) 5 := congrArg v_iv f4
  simp only [ad_7] at f11
  have h11 : v_iv (n_v vs 12) = w_ei w1 (w_ar ws (n_v vs 0) 2) (v_iv (n_v vs 11)) := f11
  simp only [ar_0_2_1, ar_0_3_1, ar_0_4_1] at f15 f17 f18 f19 f20
  simp only [fi_0_5_1] at f17 f18 f19
  have cg1_F5_1 : v_iv (n_v vs 18) = w_fi ws (n_v vs 0) 5 + 1 → w_el ws (w_ar ws (n_v vs 0) 2) (v_iv (n_v vs 18)).toNat = w_el ws (w_ar ws (n_v vs 0) 2) (w_fi ws (n_v vs 0) 5 + 1).toNat := fun h => by rw [h]
  have cg1_F5_0 : v_iv (n_v vs 18) = w_fi ws (n_v vs 0) 5 + 0 → w_el ws (w_ar ws (n_v vs 0) 2) (v_iv (n_v vs 18)).toNat = w_el ws (w_ar ws (n_v vs 0) 2) (w_fi ws (n_v vs 0) 5 + 0).toNat := fun h => by rw [h]
  have cg11_F5_1 : v_iv (n_v vs 11) = w_fi ws (n_v vs 0) 5 + 1 → w_el w1 (w_ar ws (n_v vs 0) 2) (v_iv (n_v vs 11)).toNat = w_el w1 (w_ar ws (n_v vs 0) 2) (w_fi ws (n_v vs 0) 5 + 1).toNat := fun h => by rw [h]
  have cg11_F5_0 : v_iv (n_v vs 11) = w_fi ws (n_v vs 0) 5 + 0 → w_el w1 (w_ar ws (n_v vs 0) 2) (v_iv (n_v vs 11)).toNat = w_el w1 (w_ar ws (n_v vs 0) 2) (w_fi ws (n_v vs 0) 5 + 0).toNat := fun h => by rw [h]
  have fe_0_5_1 : w_fi ws (n_v vs 0) 5 = w_fi w1 (n_v vs 0) 5 := congrArg v_iv (s1.2 _ _)
  first | (have ee_0_2_F5_0_1 : w_el ws (w_ar ws (n_v vs 0) 2) (w_fi ws (n_v vs 0) 5 + 0).toNat = w_el w1 (w_ar ws (n_v vs 0) 2) (w_fi ws (n_v vs 0) 5 + 0).toNat := by rw [s1.1, if_neg (fun e => absurd e.2 (by omega))]) | have ee_0_2_F5_0_1 : ((w_fi ws (n_v vs 0) 5 + 0).toNat = (v_iv (n_v vs 11)).toNat → w_el ws (w_ar ws (n_v vs 0) 2) (w_fi ws (n_v vs 0) 5 + 0).toNat = v_iv (n_v vs 14)) ∧ ((w_fi ws (n_v vs 0) 5 + 0).toNat ≠ (v_iv (n_v vs 11)).toNat → w_el ws (w_ar ws (n_v vs 0) 2) (w_fi ws (n_v vs 0) 5 + 0).toNat = w_el w1 (w_ar ws (n_v vs 0) 2) (w_fi ws (n_v vs 0) 5 + 0).toNat) := ⟨fun h => by rw [s1.1, if_pos ⟨ad_7.symm, h⟩], fun h => by rw [s1.1, if_neg (fun e => h e.2)]⟩
  first | (have ee_0_2_F5_1_1 : w_el ws (w_ar ws (n_v vs 0) 2) (w_fi ws (n_v vs 0) 5 + 1).toNat = w_el w1 (w_ar ws (n_v vs 0) 2) (w_fi ws (n_v vs 0) 5 + 1).toNat := by rw [s1.1, if_neg (fun e => absurd e.2 (by omega))]) | have ee_0_2_F5_1_1 : ((w_fi ws (n_v vs 0) 5 + 1).toNat = (v_iv (n_v vs 11)).toNat → w_el ws (w_ar ws (n_v vs 0) 2) (w_fi ws (n_v vs 0) 5 + 1).toNat = v_iv (n_v vs 14)) ∧ ((w_fi ws (n_v vs 0) 5 + 1).toNat ≠ (v_iv (n_v vs 11)).toNat → w_el ws (w_ar ws (n_v vs 0) 2) (w_fi ws (n_v vs 0) 5 + 1).toNat = w_el w1 (w_ar ws (n_v vs 0) 2) (w_fi ws (n_v vs 0) 5 + 1).toNat) := ⟨fun h => by rw [s1.1, if_pos ⟨ad_7.symm, h⟩], fun h => by rw [s1.1, if_neg (fun e => h e.2)]⟩
  have ee_0_2_11_1 : w_el ws (w_ar ws (n_v vs 0) 2) (v_iv (n_v vs 11)).toNat = v_iv (n_v vs 14) := by rw [s1.1, if_pos ⟨ad_7.symm, rfl⟩]
  have ee_0_2_18_1 : ((v_iv (n_v vs 18)).toNat = (v_iv (n_v vs 11)).toNat → w_el ws (w_ar ws (n_v vs 0) 2) (v_iv (n_v vs 18)).toNat = v_iv (n_v vs 14)) ∧ ((v_iv (n_v vs 18)).toNat ≠ (v_iv (n_v vs 11)).toNat → w_el ws (w_ar ws (n_v vs 0) 2) (v_iv (n_v vs 18)).toNat = w_el w1 (w_ar ws (n_v vs 0) 2) (v_iv (n_v vs 18)).toNat) := ⟨fun h => by rw [s1.1, if_pos ⟨ad_7.symm, h⟩], fun h => by rw [s1.1, if_neg (fun e => h e.2)]⟩
  have br_0_2_F5_0_0 : w_ei ws (w_ar ws (n_v vs 0) 2) (w_fi ws (n_v vs 0) 5 + 0) = w_el ws (w_ar ws (n_v vs 0) 2) (w_fi ws (n_v vs 0) 5 + 0).toNat := rfl
  have br_0_2_F5_0_1 : w_ei w1 (w_ar ws (n_v vs 0) 2) (w_fi ws (n_v vs 0) 5 + 0) = w_el w1 (w_ar ws (n_v vs 0) 2) (w_fi ws (n_v vs 0) 5 + 0).toNat := rfl
  have br_0_2_F5_1_0 : w_ei ws (w_ar ws (n_v vs 0) 2) (w_fi ws (n_v vs 0) 5 + 1) = w_el ws (w_ar ws (n_v vs 0) 2) (w_fi ws (n_v vs 0) 5 + 1).toNat := rfl
  have br_0_2_F5_1_1 : w_ei w1 (w_ar ws (n_v vs 0) 2) (w_fi ws (n_v vs 0) 5 + 1) = w_el w1 (w_ar ws (n_v vs 0) 2) (w_fi ws (n_v vs 0) 5 + 1).toNat := rfl
  have br_0_2_11_0 : w_ei ws (w_ar ws (n_v vs 0) 2) (v_iv (n_v vs 11)) = w_el ws (w_ar ws (n_v vs 0) 2) (v_iv (n_v vs 11)).toNat := rfl
  have br_0_2_11_1 : w_ei w1 (w_ar ws (n_v vs 0) 2) (v_iv (n_v vs 11)) = w_el w1 (w_ar ws (n_v vs 0) 2) (v_iv (n_v vs 11)).toNat := rfl
  have br_0_2_18_0 : w_ei ws (w_ar ws (n_v vs 0) 2) (v_iv (n_v vs 18)) = w_el ws (w_ar ws (n_v vs 0) 2) (v_iv (n_v vs 18)).toNat := rfl
  have br_0_2_18_1 : w_ei w1 (w_ar ws (n_v vs 0) 2) (v_iv (n_v vs 18)) = w_el w1 (w_ar ws (n_v vs 0) 2) (v_iv (n_v vs 18)).toNat := rfl
  have hE_0_2_1 : ∀ j : Int, 0 ≤ j → (j = v_iv (n_v vs 11) → w_ei ws (w_ar ws (n_v vs 0) 2) j = v_iv (n_v vs 14)) ∧ (j ≠ v_iv (n_v vs 11) → w_ei ws (w_ar ws (n_v vs 0) 2) j = w_ei w1 (w_ar ws (n_v vs 0) 2) j) := fun j hj => ⟨fun h => by unfold w_ei; rw [s1.1, if_pos ⟨ad_7.symm, by rw [h]⟩], fun h => by unfold w_ei; rw [s1.1, if_neg (fun e => h (by have := e.2; omega))]⟩
  have hE_0_3_1 : ∀ j : Int, w_ei ws (w_ar ws (n_v vs 0) 3) j = w_ei w1 (w_ar ws (n_v vs 0) 3) j := el_kp s1.1 r7 cr_0_3 (by decide)
  have hK_0_3 := elq_80 hD hth cr_0_3
  have hE_0_4_1 : ∀ j : Int, w_ei ws (w_ar ws (n_v vs 0) 4) j = w_ei w1 (w_ar ws (n_v vs 0) 4) j := el_kp s1.1 r7 cr_0_4 (by decide)
  have hK_0_4 := elq_81 hD hth cr_0_4
  have rf21 : tv_ok ta (0, 0, 22, []) (n_v vs 21) := tv_in t21 (by first | omega | grind) (by first | omega | grind)
  refine ⟨List.forall_mem_cons.mpr ⟨rf21, (fun _ h => (by cases h))⟩, [], trivial, ?_, (fun _ h => (by cases h))⟩
  rw [List.append_nil]
  exact (fun _ h => (by cases h))
set_option maxHeartbeats 4000000 in
theorem vc_Mo_dropNode_12_0 (x3 : Int) (x4 : Int) (x8 : Int) (x10 : Int) (x11 : Int) (x14 : Int) (x17 : Int) (x18 : Int) (x21 : Int) (x22 : Int) (all_1 : Int → Int) (r_1 : Int) (all_2 : Int → Int) (r_2 : Int) (r_0 : Int) (now_2 : Int → Int) (latest_2 : Int → Int) (all_0 : Int → Int) (now_0 : Int → Int) (now_1 : Int → Int) (latest_0 : Int → Int) (latest_1 : Int → Int) (k3 : 0 ≤ x3 ∧ x3 ≤ 22) (k4 : 0 ≤ x4 ∧ x4 ≤ 47) (k8 : 0 ≤ x8 ∧ x8 ≤ 66297) (k10 : 267 ≤ x10 ∧ x10 ≤ 66564) (k11 : 267 ≤ x11 ∧ x11 ≤ 66611) (k14 : 0 ≤ x14 ∧ x14 ≤ 22) (k17 : 315 ≤ x17 ∧ x17 ≤ 66612) (k18 : 315 ≤ x18 ∧ x18 ≤ 66659) (k21 : 0 ≤ x21 ∧ x21 ≤ 22) (k22 : 1 ≤ x22 ∧ x22 ≤ 48) (d0 : x4 + 1 ≤ x22 ∧ x22 ≤ x4 + 1) (d3 : x4 + 315 ≤ x18 ∧ x18 ≤ x4 + 66612) (d7 : x8 + 315 ≤ x17 ∧ x17 ≤ x8 + 315) (d12 : x10 + 0 ≤ x11 ∧ x11 ≤ x10 + 47) (d14 : x8 + 267 ≤ x10 ∧ x10 ≤ x8 + 267) (f5 : x18 = x17 + x4) (g7 : x8 = r_1) (f14 : x11 = x10 + x4) (f21 : 1 * x3 + ((-1) * all_2 (r_0 + 0) + 0) ≤ (-1)) (fe_0_5_1 : r_0 = r_1) (fe_0_5_2 : r_1 = r_2) (hE_0_2_1 : ∀ j : Int, 0 ≤ j → (j = x18 → all_0 j = x21) ∧ (j ≠ x18 → all_0 j = all_1 j)) (hE_0_2_2 : ∀ j : Int, 0 ≤ j → (j = x11 → all_1 j = x14) ∧ (j ≠ x11 → all_1 j = all_2 j)) (hE_0_3_1 : ∀ j : Int, now_0 j = now_1 j) (hE_0_3_2 : ∀ j : Int, now_1 j = now_2 j) (hE_0_4_1 : ∀ j : Int, latest_0 j = latest_1 j) (hE_0_4_2 : ∀ j : Int, latest_1 j = latest_2 j) : 1 * x3 + ((-1) * all_0 (r_0 + 0) + 0) ≤ (-1) := by
  subst fe_0_5_1
  subst fe_0_5_2
  have e_hE_0_3_1 := funext hE_0_3_1; subst e_hE_0_3_1
  have e_hE_0_3_2 := funext hE_0_3_2; subst e_hE_0_3_2
  have e_hE_0_4_1 := funext hE_0_4_1; subst e_hE_0_4_1
  have e_hE_0_4_2 := funext hE_0_4_2; subst e_hE_0_4_2
  first
    | omega
    | (have q1 := (hE_0_2_1 (r_0 + 0) (by omega)).2 (by omega)
       have q2 := (hE_0_2_2 (r_0 + 0) (by omega)).2 (by omega)
       omega)
    | (have q1 := (hE_0_2_1 (r_0 + 0) (by omega)).2 (by omega)
       omega)
set_option maxHeartbeats 4000000 in
theorem vc_Mo_dropNode_12_1 (x3 : Int) (x4 : Int) (x5 : Int) (x6 : Int) (x8 : Int) (x10 : Int) (x11 : Int) (x12 : Int) (x14 : Int) (x15 : Int) (x17 : Int) (x18 : Int) (x19 : Int) (x21 : Int) (x22 : Int) (all_1 : Int → Int) (r_1 : Int) (all_2 : Int → Int) (r_2 : Int) (r_0 : Int) (now_2 : Int → Int) (latest_2 : Int → Int) (all_0 : Int → Int) (now_0 : Int → Int) (now_1 : Int → Int) (latest_0 : Int → Int) (latest_1 : Int → Int) (k3 : 0 ≤ x3 ∧ x3 ≤ 22) (k4 : 0 ≤ x4 ∧ x4 ≤ 47) (k5 : 1 ≤ x5 ∧ x5 ≤ 48) (k6 : 1 ≤ x6 ∧ x6 ≤ 23) (k8 : 0 ≤ x8 ∧ x8 ≤ 66297) (k10 : 267 ≤ x10 ∧ x10 ≤ 66564) (k11 : 267 ≤ x11 ∧ x11 ≤ 66611) (k12 : 0 ≤ x12 ∧ x12 ≤ 23) (k14 : 0 ≤ x14 ∧ x14 ≤ 22) (k15 : 1 ≤ x15 ∧ x15 ≤ 23) (k17 : 315 ≤ x17 ∧ x17 ≤ 66612) (k18 : 315 ≤ x18 ∧ x18 ≤ 66659) (k19 : 0 ≤ x19 ∧ x19 ≤ 23) (k21 : 0 ≤ x21 ∧ x21 ≤ 22) (k22 : 1 ≤ x22 ∧ x22 ≤ 48) (d0 : x4 + 1 ≤ x22 ∧ x22 ≤ x4 + 1) (d1 : x5 + (-4294967296) ≤ x22 ∧ x22 ≤ x5 + 0) (d2 : x19 + (-1) ≤ x21 ∧ x21 ≤ x19 + (-1)) (d7 : x8 + 315 ≤ x17 ∧ x17 ≤ x8 + 315) (d8 : x3 + 1 ≤ x15 ∧ x15 ≤ x3 + 4294967296) (d9 : x12 + (-1) ≤ x14 ∧ x14 ≤ x12 + (-1)) (d12 : x10 + 0 ≤ x11 ∧ x11 ≤ x10 + 47) (d14 : x8 + 267 ≤ x10 ∧ x10 ≤ x8 + 267) (d15 : x3 + 1 ≤ x6 ∧ x6 ≤ x3 + 4294967296) (d16 : x5 + (-4294967296) ≤ x4 ∧ x4 ≤ x5 + (-1)) (f0 : x22 = x4 + 1) (h4 : x19 = all_1 (x18)) (f5 : x18 = x17 + x4) (g7 : x8 = r_1) (f10 : x15 = all_1 (((r_1 + 315) + x4))) (h13 : x12 = all_2 (x11)) (f14 : x11 = x10 + x4) (f17 : x6 = all_2 (((r_2 + 267) + x4))) (f19 : 1 * x5 + ((-1) * all_2 (r_0 + 1) + 0) ≤ 0) (f20 : (-1) * x5 + (1 * all_2 (r_0 + 1) + 0) ≤ 0) (f22 : DN3 (r_2) (all_2) (now_2) (latest_2) (x3) (x4)) (fe_0_5_1 : r_0 = r_1) (fe_0_5_2 : r_1 = r_2) (hE_0_2_1 : ∀ j : Int, 0 ≤ j → (j = x18 → all_0 j = x21) ∧ (j ≠ x18 → all_0 j = all_1 j)) (hE_0_2_2 : ∀ j : Int, 0 ≤ j → (j = x11 → all_1 j = x14) ∧ (j ≠ x11 → all_1 j = all_2 j)) (hE_0_3_1 : ∀ j : Int, now_0 j = now_1 j) (hE_0_3_2 : ∀ j : Int, now_1 j = now_2 j) (hE_0_4_1 : ∀ j : Int, latest_0 j = latest_1 j) (hE_0_4_2 : ∀ j : Int, latest_1 j = latest_2 j) : DN3 (r_0) (all_0) (now_0) (latest_0) (x3) (x22) := by
  subst fe_0_5_1
  subst fe_0_5_2
  have e_hE_0_3_1 := funext hE_0_3_1; subst e_hE_0_3_1
  have e_hE_0_3_2 := funext hE_0_3_2; subst e_hE_0_3_2
  have e_hE_0_4_1 := funext hE_0_4_1; subst e_hE_0_4_1
  have e_hE_0_4_2 := funext hE_0_4_2; subst e_hE_0_4_2
  first
    | exact dn3_step ‹DN3 _ _ _ _ _ _› (by omega) (by omega) (by omega) (Or.inl ⟨by omega, _, _, by assumption, by omega, by omega⟩) (Or.inl ⟨by omega, _, _, by assumption, by omega, by omega⟩)
    | exact dn3_step ‹DN3 _ _ _ _ _ _› (by omega) (by omega) (by omega) (Or.inr ⟨by omega, rfl⟩) (Or.inl ⟨by omega, _, _, by assumption, by omega, by omega⟩)
    | exact dn3_step ‹DN3 _ _ _ _ _ _› (by omega) (by omega) (by omega) (Or.inl ⟨by omega, _, _, by assumption, by omega, by omega⟩) (Or.inr ⟨by omega, rfl⟩)
    | exact dn3_step ‹DN3 _ _ _ _ _ _› (by omega) (by omega) (by omega) (Or.inr ⟨by omega, rfl⟩) (Or.inr ⟨by omega, rfl⟩)
def o_Mo_dropNode_12 : or_T := (33, 23, [(0, (2, 0, 0, [165])), (3, (0, 0, 22, [])), (4, (0, 0, 47, [])), (5, (0, 1, 48, [])), (6, (0, 1, 23, [])), (7, (2, 0, 0, [167])), (8, (0, 0, 66297, [])), (10, (0, 267, 66564, [])), (11, (0, 267, 66611, [])), (12, (0, 0, 23, [])), (14, (0, 0, 22, [])), (15, (0, 1, 23, [])), (17, (0, 315, 66612, [])), (18, (0, 315, 66659, [])), (19, (0, 0, 23, [])), (21, (0, 0, 22, [])), (22, (0, 1, 48, []))], [(6, [22, 4], [1]), (24, [0, 2], []), (100, [7, 18, 21], []), (10, [19, 7, 18], []), (1, [18, 17, 4], []), (9, [8, 2], [5]), (9, [7, 2], [2]), (20, [15, 2, 4], [50, 1, 1, 1005, 1002, 1, 2, 1, 0, 3, 1, 2, 4, 7, 4, 3, 2, 1, 5, 0, 315, 1, 2]), (100, [7, 11, 14], []), (10, [12, 7, 11], []), (1, [11, 10, 4], []), (20, [6, 2, 4], [50, 1, 1, 1005, 1002, 1, 2, 1, 0, 3, 1, 2, 4, 7, 4, 3, 2, 1, 5, 0, 267, 1, 2]), (20, [5, 2], [30, 0, 1, 0, 0, -1, 3, 2005001]), (20, [5, 2], [30, 0, -1, 0, 0, 1, 3, 2005001]), (20, [3, 2], [30, -1, 1, 0, 0, -1, 3, 2005000]), (20, [2, 3, 4], [60, 1, 3, 214, 5, 2, 3, 4])], [], [], [(20, [3, 2], [30, -1, 1, 0, 0, -1, 3, 2005000]), (20, [2, 3, 22], [60, 1, 3, 214, 5, 2, 3, 4])], [], [(22, 4, 1, 1), (22, 5, -4294967296, 0), (21, 19, -1, -1), (18, 4, 315, 66612), (18, 5, -4294967296, 66611), (18, 17, 0, 47), (18, 8, 315, 362), (17, 8, 315, 315), (15, 3, 1, 4294967296), (14, 12, -1, -1), (11, 4, 267, 66564), (11, 5, -4294967296, 66563), (11, 10, 0, 47), (11, 8, 267, 314), (10, 8, 267, 267), (6, 3, 1, 4294967296), (4, 5, -4294967296, -1)])
theorem oo_Mo_dropNode_12 {kA : Nat → ClassId} : or_ok PRD kA GG o_Mo_dropNode_12 := by
  refine or_mk fun A ta ws vs hD hth hl => ?_
  intro t0 r0 t3 k3 t4 k4 t5 k5 t6 k6 t7 r7 t8 k8 t10 k10 t11 k11 t12 k12 t14 k14 t15 k15 t17 k17 t18 k18 t19 k19 t21 k21 t22 k22 d0 d1 d2 d3 d4 d5 d6 d7 d8 d9 d10 d11 d12 d13 d14 d15 d16 f0 f1 ta1 w1 le1 s1 f4 f5 f7 f8 f10 ta2 w2 le2 s2 f13 f14 f17 f19 f20 f21 f22
  replace f0 := shm_4 f0
  replace f1 := shm_5 f1
  have s1 : (∀ b j, w_el ws b j = if b = v_ad (n_v vs 7) ∧ j = (v_iv (n_v vs 18)).toNat then v_iv (n_v vs 21) else w_el w1 b j) ∧ ∀ b k, w_fd ws b k = w_fd w1 b k := s1.2
  replace f4 := shm_107 f4
  replace f5 := shm_12 f5
  replace f7 := shm_110 f7
  replace f8 := shm_120 f8
  replace f10 := shm_603 f10
  have s2 : (∀ b j, w_el w1 b j = if b = v_ad (n_v vs 7) ∧ j = (v_iv (n_v vs 11)).toNat then v_iv (n_v vs 14) else w_el w2 b j) ∧ ∀ b k, w_fd w1 b k = w_fd w2 b k := s2.2
  replace f13 := shm_107 f13
  replace f14 := shm_12 f14
  replace f17 := shm_749 f17
  replace f19 := shm_121 f19
  replace f20 := shm_122 f20
  replace f21 := shm_269 f21
  replace f22 := shm_1634 f22
  have q2 : n_v vs 2 = n_v vs 0 := f1.symm
  simp only [q2] at f7 f8 f10 f17 f19 f20 f21 f22
  have ar_0_2_1 : w_ar w1 (n_v vs 0) 2 = w_ar ws (n_v vs 0) 2 := congrArg v_ad (s1.2 _ _).symm
  have ar_0_2_2 : w_ar w2 (n_v vs 0) 2 = w_ar ws (n_v vs 0) 2 := by rw [← ar_0_2_1]; show v_ad (w_fd w2 _ _) = v_ad (w_fd w1 _ _); rw [s2.2]
  have ar_0_3_1 : w_ar w1 (n_v vs 0) 3 = w_ar ws (n_v vs 0) 3 := congrArg v_ad (s1.2 _ _).symm
  have ar_0_3_2 : w_ar w2 (n_v vs 0) 3 = w_ar ws (n_v vs 0) 3 := by rw [← ar_0_3_1]; show v_ad (w_fd w2 _ _) = v_ad (w_fd w1 _ _); rw [s2.2]
  have cr_0_3 := fdq_142 hD hth r0
  have ar_0_4_1 : w_ar w1 (n_v vs 0) 4 = w_ar ws (n_v vs 0) 4 := congrArg v_ad (s1.2 _ _).symm
  have ar_0_4_2 : w_ar w2 (n_v vs 0) 4 = w_ar ws (n_v vs 0) 4 := by rw [← ar_0_4_1]; show v_ad (w_fd w2 _ _) = v_ad (w_fd w1 _ _); rw [s2.2]
  have cr_0_4 := fdq_143 hD hth r0
  have fi_0_5_1 : w_fi w1 (n_v vs 0) 5 = w_fi ws (n_v vs 0) 5 := by show v_iv (w_fd w1 _ _) = v_iv (w_fd ws _ _); rw [s1.2]
  have fi_0_5_2 : w_fi w2 (n_v vs 0) 5 = w_fi ws (n_v vs 0) 5 := by rw [← fi_0_5_1]; show v_iv (w_fd w2 _ _) = v_iv (w_fd w1 _ _); rw [s2.2]
  have ad_7 : v_ad (n_v vs 7) = w_ar ws (n_v vs 0) 2 := (congrArg v_ad f8).trans ar_0_2_1
  simp only [ad_7] at f4
  have h4 : v_iv (n_v vs 19) = w_ei w1 (w_ar ws (n_v vs 0) 2) (v_iv (n_v vs 18)) := f4
  have g7 : v_iv (n_v vs 8) = w_fi w1 (n_v vs 0) 5 := congrArg v_iv f7
  simp only [ar_0_2_1, ad_7] at f10 f13
  have h13 : v_iv (n_v vs 12) = w_ei w2 (w_ar ws (n_v vs 0) 2) (v_iv (n_v vs 11)) := f13
  simp only [ar_0_2_2, ar_0_3_2, ar_0_4_2] at f17 f19 f20 f21 f22
  simp only [fi_0_5_2] at f19 f20 f21
  have fe_0_5_1 : w_fi ws (n_v vs 0) 5 = w_fi w1 (n_v vs 0) 5 := congrArg v_iv (s1.2 _ _)
  have fe_0_5_2 : w_fi w1 (n_v vs 0) 5 = w_fi w2 (n_v vs 0) 5 := congrArg v_iv (s2.2 _ _)
  have hE_0_2_1 : ∀ j : Int, 0 ≤ j → (j = v_iv (n_v vs 18) → w_ei ws (w_ar ws (n_v vs 0) 2) j = v_iv (n_v vs 21)) ∧ (j ≠ v_iv (n_v vs 18) → w_ei ws (w_ar ws (n_v vs 0) 2) j = w_ei w1 (w_ar ws (n_v vs 0) 2) j) := fun j hj => ⟨fun h => by unfold w_ei; rw [s1.1, if_pos ⟨ad_7.symm, by rw [h]⟩], fun h => by unfold w_ei; rw [s1.1, if_neg (fun e => h (by have := e.2; omega))]⟩
  have hE_0_2_2 : ∀ j : Int, 0 ≤ j → (j = v_iv (n_v vs 11) → w_ei w1 (w_ar ws (n_v vs 0) 2) j = v_iv (n_v vs 14)) ∧ (j ≠ v_iv (n_v vs 11) → w_ei w1 (w_ar ws (n_v vs 0) 2) j = w_ei w2 (w_ar ws (n_v vs 0) 2) j) := fun j hj => ⟨fun h => by unfold w_ei; rw [s2.1, if_pos ⟨ad_7.symm, by rw [h]⟩], fun h => by unfold w_ei; rw [s2.1, if_neg (fun e => h (by have := e.2; omega))]⟩
  have hE_0_3_1 : ∀ j : Int, w_ei ws (w_ar ws (n_v vs 0) 3) j = w_ei w1 (w_ar ws (n_v vs 0) 3) j := el_kp s1.1 r7 cr_0_3 (by decide)
  have hE_0_3_2 : ∀ j : Int, w_ei w1 (w_ar ws (n_v vs 0) 3) j = w_ei w2 (w_ar ws (n_v vs 0) 3) j := el_kp s2.1 r7 cr_0_3 (by decide)
  have hE_0_4_1 : ∀ j : Int, w_ei ws (w_ar ws (n_v vs 0) 4) j = w_ei w1 (w_ar ws (n_v vs 0) 4) j := el_kp s1.1 r7 cr_0_4 (by decide)
  have hE_0_4_2 : ∀ j : Int, w_ei w1 (w_ar ws (n_v vs 0) 4) j = w_ei w2 (w_ar ws (n_v vs 0) 4) j := el_kp s2.1 r7 cr_0_4 (by decide)
  have nf0 : fc_1 PRD (20, [3, 2], [30, -1, 1, 0, 0, -1, 3, 2005000]) ws (vs) := by
    refine ⟨nf_in hl rfl, sgq_269 ?_⟩
    · show 1 * v_iv (n_v vs 3) + ((-1) * w_el ws (w_ar ws (n_v vs 2) 2) (w_fi ws (n_v vs 2) 5 + 0).toNat + 0) ≤ (-1)
      rw [q2]
      exact vc_Mo_dropNode_12_0 (v_iv (n_v vs 3)) (v_iv (n_v vs 4)) (v_iv (n_v vs 8)) (v_iv (n_v vs 10)) (v_iv (n_v vs 11)) (v_iv (n_v vs 14)) (v_iv (n_v vs 17)) (v_iv (n_v vs 18)) (v_iv (n_v vs 21)) (v_iv (n_v vs 22)) (w_ei w1 (w_ar ws (n_v vs 0) 2)) (w_fi w1 (n_v vs 0) 5) (w_ei w2 (w_ar ws (n_v vs 0) 2)) (w_fi w2 (n_v vs 0) 5) (w_fi ws (n_v vs 0) 5) (w_ei w2 (w_ar ws (n_v vs 0) 3)) (w_ei w2 (w_ar ws (n_v vs 0) 4)) (w_ei ws (w_ar ws (n_v vs 0) 2)) (w_ei ws (w_ar ws (n_v vs 0) 3)) (w_ei w1 (w_ar ws (n_v vs 0) 3)) (w_ei ws (w_ar ws (n_v vs 0) 4)) (w_ei w1 (w_ar ws (n_v vs 0) 4)) k3 k4 k8 k10 k11 k14 k17 k18 k21 k22 d0 d3 d7 d12 d14 f5 g7 f14 f21 fe_0_5_1 fe_0_5_2 hE_0_2_1 hE_0_2_2 hE_0_3_1 hE_0_3_2 hE_0_4_1 hE_0_4_2
  have nf1 : fc_1 PRD (20, [2, 3, 22], [60, 1, 3, 214, 5, 2, 3, 4]) ws (vs) := by
    refine ⟨nf_in hl rfl, sgq_1634 ?_⟩
    · show DN3 (w_fi ws (n_v vs 2) 5) (w_ei ws (w_ar ws (n_v vs 2) 2)) (w_ei ws (w_ar ws (n_v vs 2) 3)) (w_ei ws (w_ar ws (n_v vs 2) 4)) (v_iv (n_v vs 3)) (v_iv (n_v vs 22))
      rw [q2]
      exact vc_Mo_dropNode_12_1 (v_iv (n_v vs 3)) (v_iv (n_v vs 4)) (v_iv (n_v vs 5)) (v_iv (n_v vs 6)) (v_iv (n_v vs 8)) (v_iv (n_v vs 10)) (v_iv (n_v vs 11)) (v_iv (n_v vs 12)) (v_iv (n_v vs 14)) (v_iv (n_v vs 15)) (v_iv (n_v vs 17)) (v_iv (n_v vs 18)) (v_iv (n_v vs 19)) (v_iv (n_v vs 21)) (v_iv (n_v vs 22)) (w_ei w1 (w_ar ws (n_v vs 0) 2)) (w_fi w1 (n_v vs 0) 5) (w_ei w2 (w_ar ws (n_v vs 0) 2)) (w_fi w2 (n_v vs 0) 5) (w_fi ws (n_v vs 0) 5) (w_ei w2 (w_ar ws (n_v vs 0) 3)) (w_ei w2 (w_ar ws (n_v vs 0) 4)) (w_ei ws (w_ar ws (n_v vs 0) 2)) (w_ei ws (w_ar ws (n_v vs 0) 3)) (w_ei w1 (w_ar ws (n_v vs 0) 3)) (w_ei ws (w_ar ws (n_v vs 0) 4)) (w_ei w1 (w_ar ws (n_v vs 0) 4)) k3 k4 k5 k6 k8 k10 k11 k12 k14 k15 k17 k18 k19 k21 k22 d0 d1 d2 d7 d8 d9 d12 d14 d15 d16 f0 h4 f5 g7 f10 h13 f14 f17 f19 f20 f22 fe_0_5_1 fe_0_5_2 hE_0_2_1 hE_0_2_2 hE_0_3_1 hE_0_3_2 hE_0_4_1 hE_0_4_2
  refine ⟨(fun _ h => (by cases h)), [], trivial, ?_, (fun _ h => (by cases h))⟩
  rw [List.append_nil]
  exact List.forall_mem_cons.mpr ⟨⟨show (20 : Nat) < 100 from by decide, nf0⟩, List.forall_mem_cons.mpr ⟨⟨show (20 : Nat) < 100 from by decide, nf1⟩, (fun _ h => (by cases h))⟩⟩
def o_Mo_dropNode_13 : or_T := (282, 13, [(0, (2, 0, 0, [165])), (2, (2, 0, 0, [165])), (3, (0, 0, 23, [])), (4, (0, 0, 23, [])), (5, (0, 1, 1, [])), (6, (0, 1, 24, [])), (7, (0, 0, 24, [])), (8, (2, 0, 0, [167])), (9, (0, 0, 66297, [])), (10, (0, 0, 24, [])), (11, (0, 1, 1, [])), (12, (0, -1, 23, []))], [(2, [12, 10, 11], []), (10, [10, 8, 9], []), (9, [9, 2], [5]), (9, [8, 2], [2]), (7, [6, 7], [3]), (20, [7, 2], [30, 0, 1, 0, 0, -1, 3, 2005000]), (20, [7, 2], [30, 0, -1, 0, 0, 1, 3, 2005000]), (1, [6, 4, 5], []), (20, [3, 2], [30, -1, 1, 0, 0, -1, 3, 2005000]), (20, [2], [60, 1, 3, 215, 5, 2, 3, 4]), (24, [0, 2], [])], [(12, (0, 0, 23, []))], [], [], [], [(12, 10, -1, -1), (6, 7, 0, 4294967296), (6, 4, 1, 1), (3, 4, -4294967296, 0)])
theorem oo_Mo_dropNode_13 {kA : Nat → ClassId} : or_ok PRD kA GG o_Mo_dropNode_13 := by
  refine or_mk fun A ta ws vs hD hth hl => ?_
  intro t0 r0 t2 r2 t3 k3 t4 k4 t5 k5 t6 k6 t7 k7 t8 r8 t9 k9 t10 k10 t11 k11 t12 k12 d0 d1 d2 d3 f0 f1 f2 f3 f4 f5 f6 f7 f8 f9 f10
  replace f0 := shm_14 f0
  replace f1 := shm_107 f1
  replace f2 := shm_110 f2
  replace f3 := shm_120 f3
  replace f4 := shm_2 f4
  replace f5 := shm_126 f5
  replace f6 := shm_127 f6
  replace f7 := shm_12 f7
  replace f8 := shm_269 f8
  replace f9 := shm_1635 f9
  replace f10 := shm_5 f10
  have q2 : n_v vs 2 = n_v vs 0 := f10.symm
  simp only [q2] at f2 f3 f5 f6 f8 f9
  have cr_0_2 := fdq_10 hD hth r0
  have cr_0_3 := fdq_142 hD hth r0
  have cr_0_4 := fdq_143 hD hth r0
  have ad_8 : v_ad (n_v vs 8) = w_ar ws (n_v vs 0) 2 := congrArg v_ad f3
  simp only [ad_8] at f1
  have h1 : v_iv (n_v vs 10) = w_ei ws (w_ar ws (n_v vs 0) 2) (v_iv (n_v vs 9)) := f1
  have g2 : v_iv (n_v vs 9) = w_fi ws (n_v vs 0) 5 := congrArg v_iv f2
  have cg1_F5_0 : v_iv (n_v vs 9) = w_fi ws (n_v vs 0) 5 + 0 → w_el ws (w_ar ws (n_v vs 0) 2) (v_iv (n_v vs 9)).toNat = w_el ws (w_ar ws (n_v vs 0) 2) (w_fi ws (n_v vs 0) 5 + 0).toNat := fun h => by rw [h]
  have br_0_2_F5_0_0 : w_ei ws (w_ar ws (n_v vs 0) 2) (w_fi ws (n_v vs 0) 5 + 0) = w_el ws (w_ar ws (n_v vs 0) 2) (w_fi ws (n_v vs 0) 5 + 0).toNat := rfl
  have br_0_2_9_0 : w_ei ws (w_ar ws (n_v vs 0) 2) (v_iv (n_v vs 9)) = w_el ws (w_ar ws (n_v vs 0) 2) (v_iv (n_v vs 9)).toNat := rfl
  have hK_0_3 := elq_80 hD hth cr_0_3
  have hK_0_4 := elq_81 hD hth cr_0_4
  have rf12 : tv_ok ta (0, 0, 23, []) (n_v vs 12) := tv_in t12 (by first | omega | grind) (by first | omega | grind)
  refine ⟨List.forall_mem_cons.mpr ⟨rf12, (fun _ h => (by cases h))⟩, [], trivial, ?_, (fun _ h => (by cases h))⟩
  rw [List.append_nil]
  exact (fun _ h => (by cases h))
set_option maxHeartbeats 4000000 in
theorem vc_Mo_dropNode_14_0 (x9 : Int) (x10 : Int) (x12 : Int) (all_1 : Int → Int) (r_1 : Int) (r_0 : Int) (now_1 : Int → Int) (latest_1 : Int → Int) (all_0 : Int → Int) (now_0 : Int → Int) (latest_0 : Int → Int) (k9 : 0 ≤ x9 ∧ x9 ≤ 66297) (k10 : 0 ≤ x10 ∧ x10 ≤ 24) (k12 : 0 ≤ x12 ∧ x12 ≤ 23) (d0 : x10 + (-1) ≤ x12 ∧ x12 ≤ x10 + (-1)) (h3 : x10 = all_1 (x9)) (g4 : x9 = r_1) (f11 : DN5 (r_1) (all_1) (now_1) (latest_1)) (fe_0_5_1 : r_0 = r_1) (hE_0_2_1 : ∀ j : Int, 0 ≤ j → (j = x9 → all_0 j = x12) ∧ (j ≠ x9 → all_0 j = all_1 j)) (hE_0_3_1 : ∀ j : Int, now_0 j = now_1 j) (hE_0_4_1 : ∀ j : Int, latest_0 j = latest_1 j) : RWS (r_0) (all_0) (now_0) (latest_0) := by
  subst fe_0_5_1
  have e_hE_0_3_1 := funext hE_0_3_1; subst e_hE_0_3_1
  have e_hE_0_4_1 := funext hE_0_4_1; subst e_hE_0_4_1
  first
    | exact dn5_end ‹DN5 _ _ _ _› (by assumption) (by omega) (by omega)
def o_Mo_dropNode_14 : or_T := (283, 13, [(0, (2, 0, 0, [165])), (8, (2, 0, 0, [167])), (9, (0, 0, 66297, [])), (10, (0, 0, 24, [])), (12, (0, 0, 23, []))], [(24, [0, 2], []), (100, [8, 9, 12], []), (10, [10, 8, 9], []), (9, [9, 2], [5]), (9, [8, 2], [2]), (20, [2], [60, 1, 3, 215, 5, 2, 3, 4])], [], [], [(20, [0], [60, 1, 3, 199, 5, 2, 3, 4])], [], [(12, 10, -1, -1)])
theorem oo_Mo_dropNode_14 {kA : Nat → ClassId} : or_ok PRD kA GG o_Mo_dropNode_14 := by
  refine or_mk fun A ta ws vs hD hth hl => ?_
  intro t0 r0 t8 r8 t9 k9 t10 k10 t12 k12 d0 f0 ta1 w1 le1 s1 f3 f4 f5 f11
  replace f0 := shm_5 f0
  have s1 : (∀ b j, w_el ws b j = if b = v_ad (n_v vs 8) ∧ j = (v_iv (n_v vs 9)).toNat then v_iv (n_v vs 12) else w_el w1 b j) ∧ ∀ b k, w_fd ws b k = w_fd w1 b k := s1.2
  replace f3 := shm_107 f3
  replace f4 := shm_110 f4
  replace f5 := shm_120 f5
  replace f11 := shm_1635 f11
  have q2 : n_v vs 2 = n_v vs 0 := f0.symm
  simp only [q2] at f4 f5 f11
  have ar_0_2_1 : w_ar w1 (n_v vs 0) 2 = w_ar ws (n_v vs 0) 2 := congrArg v_ad (s1.2 _ _).symm
  have ar_0_3_1 : w_ar w1 (n_v vs 0) 3 = w_ar ws (n_v vs 0) 3 := congrArg v_ad (s1.2 _ _).symm
  have cr_0_3 := fdq_142 hD hth r0
  have ar_0_4_1 : w_ar w1 (n_v vs 0) 4 = w_ar ws (n_v vs 0) 4 := congrArg v_ad (s1.2 _ _).symm
  have cr_0_4 := fdq_143 hD hth r0
  have ad_8 : v_ad (n_v vs 8) = w_ar ws (n_v vs 0) 2 := (congrArg v_ad f5).trans ar_0_2_1
  simp only [ad_8] at f3
  have h3 : v_iv (n_v vs 10) = w_ei w1 (w_ar ws (n_v vs 0) 2) (v_iv (n_v vs 9)) := f3
  have g4 : v_iv (n_v vs 9) = w_fi w1 (n_v vs 0) 5 := congrArg v_iv f4
  simp only [ar_0_2_1, ar_0_3_1, ar_0_4_1] at f11
  have fe_0_5_1 : w_fi ws (n_v vs 0) 5 = w_fi w1 (n_v vs 0) 5 := congrArg v_iv (s1.2 _ _)
  have hE_0_2_1 : ∀ j : Int, 0 ≤ j → (j = v_iv (n_v vs 9) → w_ei ws (w_ar ws (n_v vs 0) 2) j = v_iv (n_v vs 12)) ∧ (j ≠ v_iv (n_v vs 9) → w_ei ws (w_ar ws (n_v vs 0) 2) j = w_ei w1 (w_ar ws (n_v vs 0) 2) j) := fun j hj => ⟨fun h => by unfold w_ei; rw [s1.1, if_pos ⟨ad_8.symm, by rw [h]⟩], fun h => by unfold w_ei; rw [s1.1, if_neg (fun e => h (by have := e.2; omega))]⟩
  have hE_0_3_1 : ∀ j : Int, w_ei ws (w_ar ws (n_v vs 0) 3) j = w_ei w1 (w_ar ws (n_v vs 0) 3) j := el_kp s1.1 r8 cr_0_3 (by decide)
  have hE_0_4_1 : ∀ j : Int, w_ei ws (w_ar ws (n_v vs 0) 4) j = w_ei w1 (w_ar ws (n_v vs 0) 4) j := el_kp s1.1 r8 cr_0_4 (by decide)
  have nf0 : fc_1 PRD (20, [0], [60, 1, 3, 199, 5, 2, 3, 4]) ws (vs) := ⟨nf_in hl rfl, sgq_980 (vc_Mo_dropNode_14_0 (v_iv (n_v vs 9)) (v_iv (n_v vs 10)) (v_iv (n_v vs 12)) (w_ei w1 (w_ar ws (n_v vs 0) 2)) (w_fi w1 (n_v vs 0) 5) (w_fi ws (n_v vs 0) 5) (w_ei w1 (w_ar ws (n_v vs 0) 3)) (w_ei w1 (w_ar ws (n_v vs 0) 4)) (w_ei ws (w_ar ws (n_v vs 0) 2)) (w_ei ws (w_ar ws (n_v vs 0) 3)) (w_ei ws (w_ar ws (n_v vs 0) 4)) k9 k10 k12 d0 h3 g4 f11 fe_0_5_1 hE_0_2_1 hE_0_3_1 hE_0_4_1)⟩
  refine ⟨(fun _ h => (by cases h)), [], trivial, ?_, (fun _ h => (by cases h))⟩
  rw [List.append_nil]
  exact List.forall_mem_cons.mpr ⟨⟨show (20 : Nat) < 100 from by decide, nf0⟩, (fun _ h => (by cases h))⟩
set_option maxHeartbeats 4000000 in
theorem vc_Mo_dropNode_15_0 (x4 : Int) (x6 : Int) (x7 : Int) (all_0 : Int → Int) (r_0 : Int) (k4 : 0 ≤ x4 ∧ x4 ≤ 22) (k6 : 1 ≤ x6 ∧ x6 ≤ 23) (k7 : 2 ≤ x7 ∧ x7 ≤ 24) (d0 : x7 + (-4294967296) ≤ x6 ∧ x6 ≤ x7 + (-1)) (d1 : x4 + 1 ≤ x6 ∧ x6 ≤ x4 + 1) (f1 : 1 * x7 + ((-1) * all_0 (r_0 + 0) + 0) ≤ 0) (f2 : (-1) * x7 + (1 * all_0 (r_0 + 0) + 0) ≤ 0) : (x4 + 2) ≤ all_0 (r_0) := by
  first
    | omega
    | (simp only [Int.add_zero] at *; omega)
    | (have q1 := (hE_0_2_1 (r_0 + 0) (by omega)).2 (by omega)
       omega)
def o_Mo_dropNode_15 : or_T := (117, 9, [(4, (0, 0, 22, [])), (6, (0, 1, 23, [])), (7, (0, 2, 24, []))], [(20, [7, 2], [30, 0, 1, 0, 0, -1, 3, 2005000]), (20, [7, 2], [30, 0, -1, 0, 0, 1, 3, 2005000]), (24, [0, 2], [])], [], [], [(20, [4, 2], [50, 1, 1, 1005, 1002, 0, 6, 4, 2, 1, 0, 0, 2, 3, 1, 2, 2, 1, 5])], [], [(6, 7, -4294967296, -1), (6, 4, 1, 1)])
theorem oo_Mo_dropNode_15 {kA : Nat → ClassId} : or_ok PRD kA GG o_Mo_dropNode_15 := by
  refine or_mk fun A ta ws vs hD hth hl => ?_
  intro t4 k4 t6 k6 t7 k7 d0 d1 f1 f2 f6
  replace f1 := shm_126 f1
  replace f2 := shm_127 f2
  replace f6 := shm_5 f6
  have q2 : n_v vs 2 = n_v vs 0 := f6.symm
  simp only [q2] at f1 f2
  have nf0 : fc_1 PRD (20, [4, 2], [50, 1, 1, 1005, 1002, 0, 6, 4, 2, 1, 0, 0, 2, 3, 1, 2, 2, 1, 5]) ws (vs) := by
    refine ⟨nf_in hl rfl, sgq_1636 ?_⟩
    · show (v_iv (n_v vs 4) + 2) ≤ w_ei ws (w_ar ws (n_v vs 2) 2) (w_fi ws (n_v vs 2) 5)
      rw [q2]
      exact vc_Mo_dropNode_15_0 (v_iv (n_v vs 4)) (v_iv (n_v vs 6)) (v_iv (n_v vs 7)) (w_ei ws (w_ar ws (n_v vs 0) 2)) (w_fi ws (n_v vs 0) 5) k4 k6 k7 d0 d1 f1 f2
  refine ⟨(fun _ h => (by cases h)), [], trivial, ?_, (fun _ h => (by cases h))⟩
  rw [List.append_nil]
  exact List.forall_mem_cons.mpr ⟨⟨show (20 : Nat) < 100 from by decide, nf0⟩, (fun _ h => (by cases h))⟩
set_option maxHeartbeats 4000000 in
theorem vc_Mo_dropNode_16_0 (x3 : Int) (x4 : Int) (x8 : Int) (x10 : Int) (x11 : Int) (x17 : Int) (x19 : Int) (x20 : Int) (x26 : Int) (x28 : Int) (x29 : Int) (x31 : Int) (x32 : Int) (x34 : Int) (x35 : Int) (x36 : Int) (all_1 : Int → Int) (r_1 : Int) (all_2 : Int → Int) (all_3 : Int → Int) (r_0 : Int) (now_3 : Int → Int) (latest_3 : Int → Int) (r_3 : Int) (r_2 : Int) (all_0 : Int → Int) (now_0 : Int → Int) (now_1 : Int → Int) (now_2 : Int → Int) (latest_0 : Int → Int) (latest_1 : Int → Int) (latest_2 : Int → Int) (k3 : 0 ≤ x3 ∧ x3 ≤ 23) (k4 : 0 ≤ x4 ∧ x4 ≤ 22) (k8 : 0 ≤ x8 ∧ x8 ≤ 66297) (k10 : 195 ≤ x10 ∧ x10 ≤ 66492) (k11 : 195 ≤ x11 ∧ x11 ≤ 66514) (k17 : 0 ≤ x17 ∧ x17 ≤ 8) (k19 : 219 ≤ x19 ∧ x19 ≤ 66516) (k20 : 219 ≤ x20 ∧ x20 ≤ 66538) (k26 : 0 ≤ x26 ∧ x26 ≤ 99) (k28 : 243 ≤ x28 ∧ x28 ≤ 66540) (k29 : 243 ≤ x29 ∧ x29 ≤ 66562) (k31 : 243 ≤ x31 ∧ x31 ≤ 66540) (k32 : 243 ≤ x32 ∧ x32 ≤ 66562) (k34 : 244 ≤ x34 ∧ x34 ≤ 66563) (k35 : 0 ≤ x35 ∧ x35 ≤ 7) (k36 : 1 ≤ x36 ∧ x36 ≤ 23) (d0 : x4 + 1 ≤ x36 ∧ x36 ≤ x4 + 1) (d1 : x32 + 1 ≤ x34 ∧ x34 ≤ x32 + 1) (d8 : x8 + 243 ≤ x31 ∧ x31 ≤ x8 + 243) (d12 : x8 + 243 ≤ x28 ∧ x28 ≤ x8 + 243) (d21 : x4 + 219 ≤ x20 ∧ x20 ≤ x4 + 66516) (d24 : x8 + 219 ≤ x19 ∧ x19 ≤ x8 + 219) (d35 : x8 + 195 ≤ x11 ∧ x11 ≤ x8 + 217) (d36 : x8 + 195 ≤ x10 ∧ x10 ≤ x8 + 195) (f5 : x32 = x31 + x4) (g7 : x8 = r_1) (f9 : x29 = x28 + x4) (f16 : x20 = x19 + x4) (f23 : x11 = x10 + x4) (f25 : 1 * x3 + ((-1) * all_3 (r_0 + 0) + 0) ≤ (-1)) (fe_0_5_1 : r_0 = r_1) (fe_0_5_2 : r_1 = r_2) (fe_0_5_3 : r_2 = r_3) (hE_0_2_1 : ∀ j : Int, 0 ≤ j → (j = x29 → all_0 j = x35) ∧ (j ≠ x29 → all_0 j = all_1 j)) (hE_0_2_2 : ∀ j : Int, 0 ≤ j → (j = x20 → all_1 j = x26) ∧ (j ≠ x20 → all_1 j = all_2 j)) (hE_0_2_3 : ∀ j : Int, 0 ≤ j → (j = x11 → all_2 j = x17) ∧ (j ≠ x11 → all_2 j = all_3 j)) (hE_0_3_1 : ∀ j : Int, now_0 j = now_1 j) (hE_0_3_2 : ∀ j : Int, now_1 j = now_2 j) (hE_0_3_3 : ∀ j : Int, now_2 j = now_3 j) (hE_0_4_1 : ∀ j : Int, latest_0 j = latest_1 j) (hE_0_4_2 : ∀ j : Int, latest_1 j = latest_2 j) (hE_0_4_3 : ∀ j : Int, latest_2 j = latest_3 j) : 1 * x3 + ((-1) * all_0 (r_0 + 0) + 0) ≤ (-1) := by
  subst fe_0_5_1
  subst fe_0_5_2
  subst fe_0_5_3
  have e_hE_0_3_1 := funext hE_0_3_1; subst e_hE_0_3_1
  have e_hE_0_3_2 := funext hE_0_3_2; subst e_hE_0_3_2
  have e_hE_0_3_3 := funext hE_0_3_3; subst e_hE_0_3_3
  have e_hE_0_4_1 := funext hE_0_4_1; subst e_hE_0_4_1
  have e_hE_0_4_2 := funext hE_0_4_2; subst e_hE_0_4_2
  have e_hE_0_4_3 := funext hE_0_4_3; subst e_hE_0_4_3
  first
    | omega
    | (have q1 := (hE_0_2_1 (r_0 + 0) (by omega)).2 (by omega)
       have q2 := (hE_0_2_2 (r_0 + 0) (by omega)).2 (by omega)
       have q3 := (hE_0_2_3 (r_0 + 0) (by omega)).2 (by omega)
       omega)
    | (have q1 := (hE_0_2_1 (r_0 + 0) (by omega)).2 (by omega)
       omega)
set_option maxHeartbeats 4000000 in
theorem vc_Mo_dropNode_16_1 (x4 : Int) (x8 : Int) (x10 : Int) (x11 : Int) (x17 : Int) (x19 : Int) (x20 : Int) (x22 : Int) (x23 : Int) (x25 : Int) (x26 : Int) (x28 : Int) (x29 : Int) (x31 : Int) (x32 : Int) (x34 : Int) (x35 : Int) (x36 : Int) (all_1 : Int → Int) (r_1 : Int) (all_2 : Int → Int) (all_3 : Int → Int) (r_0 : Int) (now_3 : Int → Int) (latest_3 : Int → Int) (r_3 : Int) (r_2 : Int) (all_0 : Int → Int) (now_0 : Int → Int) (now_1 : Int → Int) (now_2 : Int → Int) (latest_0 : Int → Int) (latest_1 : Int → Int) (latest_2 : Int → Int) (k4 : 0 ≤ x4 ∧ x4 ≤ 22) (k8 : 0 ≤ x8 ∧ x8 ≤ 66297) (k10 : 195 ≤ x10 ∧ x10 ≤ 66492) (k11 : 195 ≤ x11 ∧ x11 ≤ 66514) (k17 : 0 ≤ x17 ∧ x17 ≤ 8) (k19 : 219 ≤ x19 ∧ x19 ≤ 66516) (k20 : 219 ≤ x20 ∧ x20 ≤ 66538) (k22 : 219 ≤ x22 ∧ x22 ≤ 66516) (k23 : 219 ≤ x23 ∧ x23 ≤ 66538) (k25 : 220 ≤ x25 ∧ x25 ≤ 66539) (k26 : 0 ≤ x26 ∧ x26 ≤ 99) (k28 : 243 ≤ x28 ∧ x28 ≤ 66540) (k29 : 243 ≤ x29 ∧ x29 ≤ 66562) (k31 : 243 ≤ x31 ∧ x31 ≤ 66540) (k32 : 243 ≤ x32 ∧ x32 ≤ 66562) (k34 : 244 ≤ x34 ∧ x34 ≤ 66563) (k35 : 0 ≤ x35 ∧ x35 ≤ 7) (k36 : 1 ≤ x36 ∧ x36 ≤ 23) (d0 : x4 + 1 ≤ x36 ∧ x36 ≤ x4 + 1) (d1 : x32 + 1 ≤ x34 ∧ x34 ≤ x32 + 1) (d8 : x8 + 243 ≤ x31 ∧ x31 ≤ x8 + 243) (d12 : x8 + 243 ≤ x28 ∧ x28 ≤ x8 + 243) (d13 : x23 + 1 ≤ x25 ∧ x25 ≤ x23 + 1) (d20 : x8 + 219 ≤ x22 ∧ x22 ≤ x8 + 219) (d21 : x4 + 219 ≤ x20 ∧ x20 ≤ x4 + 66516) (d24 : x8 + 219 ≤ x19 ∧ x19 ≤ x8 + 219) (d35 : x8 + 195 ≤ x11 ∧ x11 ≤ x8 + 217) (d36 : x8 + 195 ≤ x10 ∧ x10 ≤ x8 + 195) (f5 : x32 = x31 + x4) (g7 : x8 = r_1) (f9 : x29 = x28 + x4) (h12 : x26 = all_2 (x25)) (f14 : x23 = x22 + x4) (f16 : x20 = x19 + x4) (f23 : x11 = x10 + x4) (f26 : DN5 (r_3) (all_3) (now_3) (latest_3)) (f27 : (x4 + 2) ≤ all_3 (r_3)) (fe_0_5_1 : r_0 = r_1) (fe_0_5_2 : r_1 = r_2) (fe_0_5_3 : r_2 = r_3) (hE_0_2_1 : ∀ j : Int, 0 ≤ j → (j = x29 → all_0 j = x35) ∧ (j ≠ x29 → all_0 j = all_1 j)) (hE_0_2_2 : ∀ j : Int, 0 ≤ j → (j = x20 → all_1 j = x26) ∧ (j ≠ x20 → all_1 j = all_2 j)) (hE_0_2_3 : ∀ j : Int, 0 ≤ j → (j = x11 → all_2 j = x17) ∧ (j ≠ x11 → all_2 j = all_3 j)) (hE_0_3_1 : ∀ j : Int, now_0 j = now_1 j) (hE_0_3_2 : ∀ j : Int, now_1 j = now_2 j) (hE_0_3_3 : ∀ j : Int, now_2 j = now_3 j) (hE_0_4_1 : ∀ j : Int, latest_0 j = latest_1 j) (hE_0_4_2 : ∀ j : Int, latest_1 j = latest_2 j) (hE_0_4_3 : ∀ j : Int, latest_2 j = latest_3 j) : DN5 (r_0) (all_0) (now_0) (latest_0) := by
  subst fe_0_5_1
  subst fe_0_5_2
  subst fe_0_5_3
  have e_hE_0_3_1 := funext hE_0_3_1; subst e_hE_0_3_1
  have e_hE_0_3_2 := funext hE_0_3_2; subst e_hE_0_3_2
  have e_hE_0_3_3 := funext hE_0_3_3; subst e_hE_0_3_3
  have e_hE_0_4_1 := funext hE_0_4_1; subst e_hE_0_4_1
  have e_hE_0_4_2 := funext hE_0_4_2; subst e_hE_0_4_2
  have e_hE_0_4_3 := funext hE_0_4_3; subst e_hE_0_4_3
  first
    | (have hr := dn5_r ‹DN5 _ _ _ _›
       exact dn5_off (dn5_two (k := x4) ‹DN5 _ _ _ _› (by assumption) (by omega) (by assumption) (by omega) (by assumption) (by omega) (by omega) (by omega)) (by assumption) (by omega))
def o_Mo_dropNode_16 : or_T := (105, 37, [(0, (2, 0, 0, [165])), (3, (0, 0, 23, [])), (4, (0, 0, 22, [])), (7, (2, 0, 0, [167])), (8, (0, 0, 66297, [])), (10, (0, 195, 66492, [])), (11, (0, 195, 66514, [])), (17, (0, 0, 8, [])), (19, (0, 219, 66516, [])), (20, (0, 219, 66538, [])), (22, (0, 219, 66516, [])), (23, (0, 219, 66538, [])), (25, (0, 220, 66539, [])), (26, (0, 0, 99, [])), (28, (0, 243, 66540, [])), (29, (0, 243, 66562, [])), (31, (0, 243, 66540, [])), (32, (0, 243, 66562, [])), (34, (0, 244, 66563, [])), (35, (0, 0, 7, [])), (36, (0, 1, 23, []))], [(24, [0, 2], []), (100, [7, 29, 35], []), (1, [32, 31, 4], []), (9, [8, 2], [5]), (9, [7, 2], [2]), (1, [29, 28, 4], []), (100, [7, 20, 26], []), (10, [26, 7, 25], []), (1, [23, 22, 4], []), (1, [20, 19, 4], []), (100, [7, 11, 17], []), (1, [11, 10, 4], []), (20, [3, 2], [30, -1, 1, 0, 0, -1, 3, 2005000]), (20, [2], [60, 1, 3, 215, 5, 2, 3, 4]), (20, [4, 2], [50, 1, 1, 1005, 1002, 0, 6, 4, 2, 1, 0, 0, 2, 3, 1, 2, 2, 1, 5])], [], [], [(20, [3, 2], [30, -1, 1, 0, 0, -1, 3, 2005000]), (20, [2], [60, 1, 3, 215, 5, 2, 3, 4])], [], [(36, 4, 1, 1), (34, 32, 1, 1), (31, 8, 243, 243), (29, 4, 243, 66540), (29, 28, 0, 22), (29, 8, 243, 265), (28, 8, 243, 243), (25, 23, 1, 1), (22, 8, 219, 219), (20, 4, 219, 66516), (20, 19, 0, 22), (20, 8, 219, 241), (19, 8, 219, 219), (11, 4, 195, 66492), (11, 10, 0, 22), (11, 8, 195, 217), (10, 8, 195, 195)])
theorem oo_Mo_dropNode_16 {kA : Nat → ClassId} : or_ok PRD kA GG o_Mo_dropNode_16 := by
  refine or_mk fun A ta ws vs hD hth hl => ?_
  intro t0 r0 t3 k3 t4 k4 t7 r7 t8 k8 t10 k10 t11 k11 t17 k17 t19 k19 t20 k20 t22 k22 t23 k23 t25 k25 t26 k26 t28 k28 t29 k29 t31 k31 t32 k32 t34 k34 t35 k35 t36 k36 d0 d1 d8 d9 d10 d11 d12 d13 d20 d21 d22 d23 d24 d33 d34 d35 d36 f1 ta1 w1 le1 s1 f5 f7 f8 f9 ta2 w2 le2 s2 f12 f14 f16 ta3 w3 le3 s3 f23 f25 f26 f27
  replace f1 := shm_5 f1
  have s1 : (∀ b j, w_el ws b j = if b = v_ad (n_v vs 7) ∧ j = (v_iv (n_v vs 29)).toNat then v_iv (n_v vs 35) else w_el w1 b j) ∧ ∀ b k, w_fd ws b k = w_fd w1 b k := s1.2
  replace f5 := shm_12 f5
  replace f7 := shm_110 f7
  replace f8 := shm_120 f8
  replace f9 := shm_12 f9
  have s2 : (∀ b j, w_el w1 b j = if b = v_ad (n_v vs 7) ∧ j = (v_iv (n_v vs 20)).toNat then v_iv (n_v vs 26) else w_el w2 b j) ∧ ∀ b k, w_fd w1 b k = w_fd w2 b k := s2.2
  replace f12 := shm_107 f12
  replace f14 := shm_12 f14
  replace f16 := shm_12 f16
  have s3 : (∀ b j, w_el w2 b j = if b = v_ad (n_v vs 7) ∧ j = (v_iv (n_v vs 11)).toNat then v_iv (n_v vs 17) else w_el w3 b j) ∧ ∀ b k, w_fd w2 b k = w_fd w3 b k := s3.2
  replace f23 := shm_12 f23
  replace f25 := shm_269 f25
  replace f26 := shm_1635 f26
  replace f27 := shm_1636 f27
  have q2 : n_v vs 2 = n_v vs 0 := f1.symm
  simp only [q2] at f7 f8 f25 f26 f27
  have ar_0_2_1 : w_ar w1 (n_v vs 0) 2 = w_ar ws (n_v vs 0) 2 := congrArg v_ad (s1.2 _ _).symm
  have ar_0_2_2 : w_ar w2 (n_v vs 0) 2 = w_ar ws (n_v vs 0) 2 := by rw [← ar_0_2_1]; show v_ad (w_fd w2 _ _) = v_ad (w_fd w1 _ _); rw [s2.2]
  have ar_0_2_3 : w_ar w3 (n_v vs 0) 2 = w_ar ws (n_v vs 0) 2 := by rw [← ar_0_2_2]; show v_ad (w_fd w3 _ _) = v_ad (w_fd w2 _ _); rw [s3.2]
  have ar_0_3_1 : w_ar w1 (n_v vs 0) 3 = w_ar ws (n_v vs 0) 3 := congrArg v_ad (s1.2 _ _).symm
  have ar_0_3_2 : w_ar w2 (n_v vs 0) 3 = w_ar ws (n_v vs 0) 3 := by rw [← ar_0_3_1]; show v_ad (w_fd w2 _ _) = v_ad (w_fd w1 _ _); rw [s2.2]
  have ar_0_3_3 : w_ar w3 (n_v vs 0) 3 = w_ar ws (n_v vs 0) 3 := by rw [← ar_0_3_2]; show v_ad (w_fd w3 _ _) = v_ad (w_fd w2 _ _); rw [s3.2]
  have cr_0_3 := fdq_142 hD hth r0
  have ar_0_4_1 : w_ar w1 (n_v vs 0) 4 = w_ar ws (n_v vs 0) 4 := congrArg v_ad (s1.2 _ _).symm
  have ar_0_4_2 : w_ar w2 (n_v vs 0) 4 = w_ar ws (n_v vs 0) 4 := by rw [← ar_0_4_1]; show v_ad (w_fd w2 _ _) = v_ad (w_fd w1 _ _); rw [s2.2]
  have ar_0_4_3 : w_ar w3 (n_v vs 0) 4 = w_ar ws (n_v vs 0) 4 := by rw [← ar_0_4_2]; show v_ad (w_fd w3 _ _) = v_ad (w_fd w2 _ _); rw [s3.2]
  have cr_0_4 := fdq_143 hD hth r0
  have fi_0_5_1 : w_fi w1 (n_v vs 0) 5 = w_fi ws (n_v vs 0) 5 := by show v_iv (w_fd w1 _ _) = v_iv (w_fd ws _ _); rw [s1.2]
  have fi_0_5_2 : w_fi w2 (n_v vs 0) 5 = w_fi ws (n_v vs 0) 5 := by rw [← fi_0_5_1]; show v_iv (w_fd w2 _ _) = v_iv (w_fd w1 _ _); rw [s2.2]
  have fi_0_5_3 : w_fi w3 (n_v vs 0) 5 = w_fi ws (n_v vs 0) 5 := by rw [← fi_0_5_2]; show v_iv (w_fd w3 _ _) = v_iv (w_fd w2 _ _); rw [s3.2]
  have ad_7 : v_ad (n_v vs 7) = w_ar ws (n_v vs 0) 2 := (congrArg v_ad f8).trans ar_0_2_1
  have g7 : v_iv (n_v vs 8) = w_fi w1 (n_v vs 0) 5 := congrArg v_iv f7
  simp only [ad_7] at f12
  have h12 : v_iv (n_v vs 26) = w_ei w2 (w_ar ws (n_v vs 0) 2) (v_iv (n_v vs 25)) := f12
  simp only [ar_0_2_3, ar_0_3_3, ar_0_4_3] at f25 f26 f27
  simp only [fi_0_5_3] at f25
  have fe_0_5_1 : w_fi ws (n_v vs 0) 5 = w_fi w1 (n_v vs 0) 5 := congrArg v_iv (s1.2 _ _)
  have fe_0_5_2 : w_fi w1 (n_v vs 0) 5 = w_fi w2 (n_v vs 0) 5 := congrArg v_iv (s2.2 _ _)
  have fe_0_5_3 : w_fi w2 (n_v vs 0) 5 = w_fi w3 (n_v vs 0) 5 := congrArg v_iv (s3.2 _ _)
  have hE_0_2_1 : ∀ j : Int, 0 ≤ j → (j = v_iv (n_v vs 29) → w_ei ws (w_ar ws (n_v vs 0) 2) j = v_iv (n_v vs 35)) ∧ (j ≠ v_iv (n_v vs 29) → w_ei ws (w_ar ws (n_v vs 0) 2) j = w_ei w1 (w_ar ws (n_v vs 0) 2) j) := fun j hj => ⟨fun h => by unfold w_ei; rw [s1.1, if_pos ⟨ad_7.symm, by rw [h]⟩], fun h => by unfold w_ei; rw [s1.1, if_neg (fun e => h (by have := e.2; omega))]⟩
  have hE_0_2_2 : ∀ j : Int, 0 ≤ j → (j = v_iv (n_v vs 20) → w_ei w1 (w_ar ws (n_v vs 0) 2) j = v_iv (n_v vs 26)) ∧ (j ≠ v_iv (n_v vs 20) → w_ei w1 (w_ar ws (n_v vs 0) 2) j = w_ei w2 (w_ar ws (n_v vs 0) 2) j) := fun j hj => ⟨fun h => by unfold w_ei; rw [s2.1, if_pos ⟨ad_7.symm, by rw [h]⟩], fun h => by unfold w_ei; rw [s2.1, if_neg (fun e => h (by have := e.2; omega))]⟩
  have hE_0_2_3 : ∀ j : Int, 0 ≤ j → (j = v_iv (n_v vs 11) → w_ei w2 (w_ar ws (n_v vs 0) 2) j = v_iv (n_v vs 17)) ∧ (j ≠ v_iv (n_v vs 11) → w_ei w2 (w_ar ws (n_v vs 0) 2) j = w_ei w3 (w_ar ws (n_v vs 0) 2) j) := fun j hj => ⟨fun h => by unfold w_ei; rw [s3.1, if_pos ⟨ad_7.symm, by rw [h]⟩], fun h => by unfold w_ei; rw [s3.1, if_neg (fun e => h (by have := e.2; omega))]⟩
  have hE_0_3_1 : ∀ j : Int, w_ei ws (w_ar ws (n_v vs 0) 3) j = w_ei w1 (w_ar ws (n_v vs 0) 3) j := el_kp s1.1 r7 cr_0_3 (by decide)
  have hE_0_3_2 : ∀ j : Int, w_ei w1 (w_ar ws (n_v vs 0) 3) j = w_ei w2 (w_ar ws (n_v vs 0) 3) j := el_kp s2.1 r7 cr_0_3 (by decide)
  have hE_0_3_3 : ∀ j : Int, w_ei w2 (w_ar ws (n_v vs 0) 3) j = w_ei w3 (w_ar ws (n_v vs 0) 3) j := el_kp s3.1 r7 cr_0_3 (by decide)
  have hE_0_4_1 : ∀ j : Int, w_ei ws (w_ar ws (n_v vs 0) 4) j = w_ei w1 (w_ar ws (n_v vs 0) 4) j := el_kp s1.1 r7 cr_0_4 (by decide)
  have hE_0_4_2 : ∀ j : Int, w_ei w1 (w_ar ws (n_v vs 0) 4) j = w_ei w2 (w_ar ws (n_v vs 0) 4) j := el_kp s2.1 r7 cr_0_4 (by decide)
  have hE_0_4_3 : ∀ j : Int, w_ei w2 (w_ar ws (n_v vs 0) 4) j = w_ei w3 (w_ar ws (n_v vs 0) 4) j := el_kp s3.1 r7 cr_0_4 (by decide)
  have nf0 : fc_1 PRD (20, [3, 2], [30, -1, 1, 0, 0, -1, 3, 2005000]) ws (vs) := by
    refine ⟨nf_in hl rfl, sgq_269 ?_⟩
    · show 1 * v_iv (n_v vs 3) + ((-1) * w_el ws (w_ar ws (n_v vs 2) 2) (w_fi ws (n_v vs 2) 5 + 0).toNat + 0) ≤ (-1)
      rw [q2]
      exact vc_Mo_dropNode_16_0 (v_iv (n_v vs 3)) (v_iv (n_v vs 4)) (v_iv (n_v vs 8)) (v_iv (n_v vs 10)) (v_iv (n_v vs 11)) (v_iv (n_v vs 17)) (v_iv (n_v vs 19)) (v_iv (n_v vs 20)) (v_iv (n_v vs 26)) (v_iv (n_v vs 28)) (v_iv (n_v vs 29)) (v_iv (n_v vs 31)) (v_iv (n_v vs 32)) (v_iv (n_v vs 34)) (v_iv (n_v vs 35)) (v_iv (n_v vs 36)) (w_ei w1 (w_ar ws (n_v vs 0) 2)) (w_fi w1 (n_v vs 0) 5) (w_ei w2 (w_ar ws (n_v vs 0) 2)) (w_ei w3 (w_ar ws (n_v vs 0) 2)) (w_fi ws (n_v vs 0) 5) (w_ei w3 (w_ar ws (n_v vs 0) 3)) (w_ei w3 (w_ar ws (n_v vs 0) 4)) (w_fi w3 (n_v vs 0) 5) (w_fi w2 (n_v vs 0) 5) (w_ei ws (w_ar ws (n_v vs 0) 2)) (w_ei ws (w_ar ws (n_v vs 0) 3)) (w_ei w1 (w_ar ws (n_v vs 0) 3)) (w_ei w2 (w_ar ws (n_v vs 0) 3)) (w_ei ws (w_ar ws (n_v vs 0) 4)) (w_ei w1 (w_ar ws (n_v vs 0) 4)) (w_ei w2 (w_ar ws (n_v vs 0) 4)) k3 k4 k8 k10 k11 k17 k19 k20 k26 k28 k29 k31 k32 k34 k35 k36 d0 d1 d8 d12 d21 d24 d35 d36 f5 g7 f9 f16 f23 f25 fe_0_5_1 fe_0_5_2 fe_0_5_3 hE_0_2_1 hE_0_2_2 hE_0_2_3 hE_0_3_1 hE_0_3_2 hE_0_3_3 hE_0_4_1 hE_0_4_2 hE_0_4_3
  have nf1 : fc_1 PRD (20, [2], [60, 1, 3, 215, 5, 2, 3, 4]) ws (vs) := by
    refine ⟨nf_in hl rfl, sgq_1635 ?_⟩
    · show DN5 (w_fi ws (n_v vs 2) 5) (w_ei ws (w_ar ws (n_v vs 2) 2)) (w_ei ws (w_ar ws (n_v vs 2) 3)) (w_ei ws (w_ar ws (n_v vs 2) 4))
      rw [q2]
      exact vc_Mo_dropNode_16_1 (v_iv (n_v vs 4)) (v_iv (n_v vs 8)) (v_iv (n_v vs 10)) (v_iv (n_v vs 11)) (v_iv (n_v vs 17)) (v_iv (n_v vs 19)) (v_iv (n_v vs 20)) (v_iv (n_v vs 22)) (v_iv (n_v vs 23)) (v_iv (n_v vs 25)) (v_iv (n_v vs 26)) (v_iv (n_v vs 28)) (v_iv (n_v vs 29)) (v_iv (n_v vs 31)) (v_iv (n_v vs 32)) (v_iv (n_v vs 34)) (v_iv (n_v vs 35)) (v_iv (n_v vs 36)) (w_ei w1 (w_ar ws (n_v vs 0) 2)) (w_fi w1 (n_v vs 0) 5) (w_ei w2 (w_ar ws (n_v vs 0) 2)) (w_ei w3 (w_ar ws (n_v vs 0) 2)) (w_fi ws (n_v vs 0) 5) (w_ei w3 (w_ar ws (n_v vs 0) 3)) (w_ei w3 (w_ar ws (n_v vs 0) 4)) (w_fi w3 (n_v vs 0) 5) (w_fi w2 (n_v vs 0) 5) (w_ei ws (w_ar ws (n_v vs 0) 2)) (w_ei ws (w_ar ws (n_v vs 0) 3)) (w_ei w1 (w_ar ws (n_v vs 0) 3)) (w_ei w2 (w_ar ws (n_v vs 0) 3)) (w_ei ws (w_ar ws (n_v vs 0) 4)) (w_ei w1 (w_ar ws (n_v vs 0) 4)) (w_ei w2 (w_ar ws (n_v vs 0) 4)) k4 k8 k10 k11 k17 k19 k20 k22 k23 k25 k26 k28 k29 k31 k32 k34 k35 k36 d0 d1 d8 d12 d13 d20 d21 d24 d35 d36 f5 g7 f9 h12 f14 f16 f23 f26 f27 fe_0_5_1 fe_0_5_2 fe_0_5_3 hE_0_2_1 hE_0_2_2 hE_0_2_3 hE_0_3_1 hE_0_3_2 hE_0_3_3 hE_0_4_1 hE_0_4_2 hE_0_4_3
  refine ⟨(fun _ h => (by cases h)), [], trivial, ?_, (fun _ h => (by cases h))⟩
  rw [List.append_nil]
  exact List.forall_mem_cons.mpr ⟨⟨show (20 : Nat) < 100 from by decide, nf0⟩, List.forall_mem_cons.mpr ⟨⟨show (20 : Nat) < 100 from by decide, nf1⟩, (fun _ h => (by cases h))⟩⟩
set_option maxHeartbeats 4000000 in
theorem vc_Mo_dropNode_17_0 (x3 : Int) (x4 : Int) (x5 : Int) (x8 : Int) (x10 : Int) (x12 : Int) (x13 : Int) (x14 : Int) (x16 : Int) (x18 : Int) (x19 : Int) (x21 : Int) (x22 : Int) (x23 : Int) (x24 : Int) (all_1 : Int → Int) (r_1 : Int) (r_0 : Int) (now_1 : Int → Int) (latest_1 : Int → Int) (all_0 : Int → Int) (now_0 : Int → Int) (latest_0 : Int → Int) (k3 : 0 ≤ x3 ∧ x3 ≤ 23) (k4 : 0 ≤ x4 ∧ x4 ≤ 22) (k5 : 0 ≤ x5 ∧ x5 ≤ 7) (k8 : 0 ≤ x8 ∧ x8 ≤ 66297) (k10 : 3 ≤ x10 ∧ x10 ≤ 66300) (k12 : 0 ≤ x12 ∧ x12 ≤ 176) (k13 : 3 ≤ x13 ∧ x13 ≤ 66476) (k14 : 3 ≤ x14 ∧ x14 ≤ 66483) (k16 : 3 ≤ x16 ∧ x16 ≤ 66300) (k18 : 0 ≤ x18 ∧ x18 ≤ 176) (k19 : 3 ≤ x19 ∧ x19 ≤ 66476) (k21 : 11 ≤ x21 ∧ x21 ≤ 66484) (k22 : 11 ≤ x22 ∧ x22 ≤ 66491) (k23 : (-1) ≤ x23 ∧ x23 ≤ 255) (k24 : 1 ≤ x24 ∧ x24 ≤ 8) (d0 : x5 + 1 ≤ x24 ∧ x24 ≤ x5 + 1) (d6 : x8 + 11 ≤ x22 ∧ x22 ≤ x8 + 194) (d7 : x19 + 8 ≤ x21 ∧ x21 ≤ x19 + 8) (d8 : x18 + 11 ≤ x21 ∧ x21 ≤ x18 + 66308) (d14 : x8 + 3 ≤ x16 ∧ x16 ≤ x8 + 3) (d23 : x8 + 3 ≤ x10 ∧ x10 ≤ x8 + 3) (f4 : x22 = x21 + x5) (f6 : x19 = x16 + x18) (f7 : x18 = 8 * x4) (g9 : x8 = r_1) (f11 : x14 = x13 + x5) (f12 : x13 = x10 + x12) (f13 : x12 = 8 * x4) (f16 : 1 * x3 + ((-1) * all_1 (r_0 + 0) + 0) ≤ (-1)) (fe_0_5_1 : r_0 = r_1) (hE_0_2_1 : ∀ j : Int, 0 ≤ j → (j = x14 → all_0 j = x23) ∧ (j ≠ x14 → all_0 j = all_1 j)) (hE_0_3_1 : ∀ j : Int, now_0 j = now_1 j) (hE_0_4_1 : ∀ j : Int, latest_0 j = latest_1 j) : 1 * x3 + ((-1) * all_0 (r_0 + 0) + 0) ≤ (-1) := by
  subst fe_0_5_1
  have e_hE_0_3_1 := funext hE_0_3_1; subst e_hE_0_3_1
  have e_hE_0_4_1 := funext hE_0_4_1; subst e_hE_0_4_1
  first
    | omega
    | (simp only [Int.add_zero] at *; omega)
    | (have q1 := (hE_0_2_1 (r_0 + 0) (by omega)).2 (by omega)
       omega)
set_option maxHeartbeats 4000000 in
theorem vc_Mo_dropNode_17_1 (x4 : Int) (x5 : Int) (x8 : Int) (x10 : Int) (x12 : Int) (x13 : Int) (x14 : Int) (x16 : Int) (x18 : Int) (x19 : Int) (x21 : Int) (x22 : Int) (x23 : Int) (x24 : Int) (all_1 : Int → Int) (r_1 : Int) (r_0 : Int) (now_1 : Int → Int) (latest_1 : Int → Int) (all_0 : Int → Int) (now_0 : Int → Int) (latest_0 : Int → Int) (k4 : 0 ≤ x4 ∧ x4 ≤ 22) (k5 : 0 ≤ x5 ∧ x5 ≤ 7) (k8 : 0 ≤ x8 ∧ x8 ≤ 66297) (k10 : 3 ≤ x10 ∧ x10 ≤ 66300) (k12 : 0 ≤ x12 ∧ x12 ≤ 176) (k13 : 3 ≤ x13 ∧ x13 ≤ 66476) (k14 : 3 ≤ x14 ∧ x14 ≤ 66483) (k16 : 3 ≤ x16 ∧ x16 ≤ 66300) (k18 : 0 ≤ x18 ∧ x18 ≤ 176) (k19 : 3 ≤ x19 ∧ x19 ≤ 66476) (k21 : 11 ≤ x21 ∧ x21 ≤ 66484) (k22 : 11 ≤ x22 ∧ x22 ≤ 66491) (k23 : (-1) ≤ x23 ∧ x23 ≤ 255) (k24 : 1 ≤ x24 ∧ x24 ≤ 8) (d0 : x5 + 1 ≤ x24 ∧ x24 ≤ x5 + 1) (d6 : x8 + 11 ≤ x22 ∧ x22 ≤ x8 + 194) (d7 : x19 + 8 ≤ x21 ∧ x21 ≤ x19 + 8) (d8 : x18 + 11 ≤ x21 ∧ x21 ≤ x18 + 66308) (d14 : x8 + 3 ≤ x16 ∧ x16 ≤ x8 + 3) (d23 : x8 + 3 ≤ x10 ∧ x10 ≤ x8 + 3) (f4 : x22 = x21 + x5) (f6 : x19 = x16 + x18) (f7 : x18 = 8 * x4) (g9 : x8 = r_1) (f11 : x14 = x13 + x5) (f12 : x13 = x10 + x12) (f13 : x12 = 8 * x4) (f17 : DN5 (r_1) (all_1) (now_1) (latest_1)) (fe_0_5_1 : r_0 = r_1) (hE_0_2_1 : ∀ j : Int, 0 ≤ j → (j = x14 → all_0 j = x23) ∧ (j ≠ x14 → all_0 j = all_1 j)) (hE_0_3_1 : ∀ j : Int, now_0 j = now_1 j) (hE_0_4_1 : ∀ j : Int, latest_0 j = latest_1 j) : DN5 (r_0) (all_0) (now_0) (latest_0) := by
  subst fe_0_5_1
  have e_hE_0_3_1 := funext hE_0_3_1; subst e_hE_0_3_1
  have e_hE_0_4_1 := funext hE_0_4_1; subst e_hE_0_4_1
  first
    | exact dn5_off ‹DN5 _ _ _ _› (by assumption) (by omega)
set_option maxHeartbeats 4000000 in
theorem vc_Mo_dropNode_17_2 (x4 : Int) (x5 : Int) (x8 : Int) (x10 : Int) (x12 : Int) (x13 : Int) (x14 : Int) (x16 : Int) (x18 : Int) (x19 : Int) (x21 : Int) (x22 : Int) (x23 : Int) (x24 : Int) (all_1 : Int → Int) (r_1 : Int) (r_0 : Int) (now_1 : Int → Int) (latest_1 : Int → Int) (all_0 : Int → Int) (now_0 : Int → Int) (latest_0 : Int → Int) (k4 : 0 ≤ x4 ∧ x4 ≤ 22) (k5 : 0 ≤ x5 ∧ x5 ≤ 7) (k8 : 0 ≤ x8 ∧ x8 ≤ 66297) (k10 : 3 ≤ x10 ∧ x10 ≤ 66300) (k12 : 0 ≤ x12 ∧ x12 ≤ 176) (k13 : 3 ≤ x13 ∧ x13 ≤ 66476) (k14 : 3 ≤ x14 ∧ x14 ≤ 66483) (k16 : 3 ≤ x16 ∧ x16 ≤ 66300) (k18 : 0 ≤ x18 ∧ x18 ≤ 176) (k19 : 3 ≤ x19 ∧ x19 ≤ 66476) (k21 : 11 ≤ x21 ∧ x21 ≤ 66484) (k22 : 11 ≤ x22 ∧ x22 ≤ 66491) (k23 : (-1) ≤ x23 ∧ x23 ≤ 255) (k24 : 1 ≤ x24 ∧ x24 ≤ 8) (d0 : x5 + 1 ≤ x24 ∧ x24 ≤ x5 + 1) (d6 : x8 + 11 ≤ x22 ∧ x22 ≤ x8 + 194) (d7 : x19 + 8 ≤ x21 ∧ x21 ≤ x19 + 8) (d8 : x18 + 11 ≤ x21 ∧ x21 ≤ x18 + 66308) (d14 : x8 + 3 ≤ x16 ∧ x16 ≤ x8 + 3) (d23 : x8 + 3 ≤ x10 ∧ x10 ≤ x8 + 3) (f4 : x22 = x21 + x5) (f6 : x19 = x16 + x18) (f7 : x18 = 8 * x4) (g9 : x8 = r_1) (f11 : x14 = x13 + x5) (f12 : x13 = x10 + x12) (f13 : x12 = 8 * x4) (f17 : DN5 (r_1) (all_1) (now_1) (latest_1)) (f18 : (x4 + 2) ≤ all_1 (r_1)) (fe_0_5_1 : r_0 = r_1) (hE_0_2_1 : ∀ j : Int, 0 ≤ j → (j = x14 → all_0 j = x23) ∧ (j ≠ x14 → all_0 j = all_1 j)) (hE_0_3_1 : ∀ j : Int, now_0 j = now_1 j) (hE_0_4_1 : ∀ j : Int, latest_0 j = latest_1 j) : (x4 + 2) ≤ all_0 (r_0) := by
  subst fe_0_5_1
  have e_hE_0_3_1 := funext hE_0_3_1; subst e_hE_0_3_1
  have e_hE_0_4_1 := funext hE_0_4_1; subst e_hE_0_4_1
  first
    | (have hr := dn5_r ‹DN5 _ _ _ _›
       simp only [Int.add_zero] at *
       have q1 := (hE_0_2_1 r_0 (by omega)).2 (by omega)
       omega)
def o_Mo_dropNode_17 : or_T := (117, 25, [(0, (2, 0, 0, [165])), (3, (0, 0, 23, [])), (4, (0, 0, 22, [])), (5, (0, 0, 7, [])), (7, (2, 0, 0, [167])), (8, (0, 0, 66297, [])), (10, (0, 3, 66300, [])), (11, (0, 8, 8, [])), (12, (0, 0, 176, [])), (13, (0, 3, 66476, [])), (14, (0, 3, 66483, [])), (16, (0, 3, 66300, [])), (17, (0, 8, 8, [])), (18, (0, 0, 176, [])), (19, (0, 3, 66476, [])), (21, (0, 11, 66484, [])), (22, (0, 11, 66491, [])), (23, (0, -1, 255, [])), (24, (0, 1, 8, []))], [(24, [0, 2], []), (100, [7, 14, 23], []), (1, [22, 21, 5], []), (1, [19, 16, 18], []), (3, [18, 17, 4], []), (9, [8, 2], [5]), (9, [7, 2], [2]), (1, [14, 13, 5], []), (1, [13, 10, 12], []), (3, [12, 11, 4], []), (20, [3, 2], [30, -1, 1, 0, 0, -1, 3, 2005000]), (20, [2], [60, 1, 3, 215, 5, 2, 3, 4]), (20, [4, 2], [50, 1, 1, 1005, 1002, 0, 6, 4, 2, 1, 0, 0, 2, 3, 1, 2, 2, 1, 5])], [], [], [(20, [3, 2], [30, -1, 1, 0, 0, -1, 3, 2005000]), (20, [2], [60, 1, 3, 215, 5, 2, 3, 4]), (20, [4, 2], [50, 1, 1, 1005, 1002, 0, 6, 4, 2, 1, 0, 0, 2, 3, 1, 2, 2, 1, 5])], [], [(24, 5, 1, 1), (22, 8, 11, 194), (21, 19, 8, 8), (21, 18, 11, 66308), (16, 8, 3, 3), (14, 5, 3, 66476), (14, 13, 0, 7), (14, 12, 3, 66307), (14, 10, 0, 183), (14, 8, 3, 186), (10, 8, 3, 3)])
theorem oo_Mo_dropNode_17 {kA : Nat → ClassId} : or_ok PRD kA GG o_Mo_dropNode_17 := by
  refine or_mk fun A ta ws vs hD hth hl => ?_
  intro t0 r0 t3 k3 t4 k4 t5 k5 t7 r7 t8 k8 t10 k10 t11 k11 t12 k12 t13 k13 t14 k14 t16 k16 t17 k17 t18 k18 t19 k19 t21 k21 t22 k22 t23 k23 t24 k24 d0 d6 d7 d8 d14 d15 d16 d17 d18 d19 d23 f1 ta1 w1 le1 s1 f4 f6 f7 f9 f10 f11 f12 f13 f16 f17 f18
  replace f1 := shm_5 f1
  have s1 : (∀ b j, w_el ws b j = if b = v_ad (n_v vs 7) ∧ j = (v_iv (n_v vs 14)).toNat then v_iv (n_v vs 23) else w_el w1 b j) ∧ ∀ b k, w_fd ws b k = w_fd w1 b k := s1.2
  replace f4 := shm_12 f4
  replace f6 := shm_12 f6
  replace f7 := shm_38 f7
  rw [show v_iv (n_v vs 17) = 8 from by omega] at f7
  replace f9 := shm_110 f9
  replace f10 := shm_120 f10
  replace f11 := shm_12 f11
  replace f12 := shm_12 f12
  replace f13 := shm_38 f13
  rw [show v_iv (n_v vs 11) = 8 from by omega] at f13
  replace f16 := shm_269 f16
  replace f17 := shm_1635 f17
  replace f18 := shm_1636 f18
  have q2 : n_v vs 2 = n_v vs 0 := f1.symm
  simp only [q2] at f9 f10 f16 f17 f18
  have ar_0_2_1 : w_ar w1 (n_v vs 0) 2 = w_ar ws (n_v vs 0) 2 := congrArg v_ad (s1.2 _ _).symm
  have ar_0_3_1 : w_ar w1 (n_v vs 0) 3 = w_ar ws (n_v vs 0) 3 := congrArg v_ad (s1.2 _ _).symm
  have cr_0_3 := fdq_142 hD hth r0
  have ar_0_4_1 : w_ar w1 (n_v vs 0) 4 = w_ar ws (n_v vs 0) 4 := congrArg v_ad (s1.2 _ _).symm
  have cr_0_4 := fdq_143 hD hth r0
  have fi_0_5_1 : w_fi w1 (n_v vs 0) 5 = w_fi ws (n_v vs 0) 5 := by show v_iv (w_fd w1 _ _) = v_iv (w_fd ws _ _); rw [s1.2]
  have ad_7 : v_ad (n_v vs 7) = w_ar ws (n_v vs 0) 2 := (congrArg v_ad f10).trans ar_0_2_1
  have g9 : v_iv (n_v vs 8) = w_fi w1 (n_v vs 0) 5 := congrArg v_iv f9
  simp only [ar_0_2_1, ar_0_3_1, ar_0_4_1] at f16 f17 f18
  simp only [fi_0_5_1] at f16
  have fe_0_5_1 : w_fi ws (n_v vs 0) 5 = w_fi w1 (n_v vs 0) 5 := congrArg v_iv (s1.2 _ _)
  have hE_0_2_1 : ∀ j : Int, 0 ≤ j → (j = v_iv (n_v vs 14) → w_ei ws (w_ar ws (n_v vs 0) 2) j = v_iv (n_v vs 23)) ∧ (j ≠ v_iv (n_v vs 14) → w_ei ws (w_ar ws (n_v vs 0) 2) j = w_ei w1 (w_ar ws (n_v vs 0) 2) j) := fun j hj => ⟨fun h => by unfold w_ei; rw [s1.1, if_pos ⟨ad_7.symm, by rw [h]⟩], fun h => by unfold w_ei; rw [s1.1, if_neg (fun e => h (by have := e.2; omega))]⟩
  have hE_0_3_1 : ∀ j : Int, w_ei ws (w_ar ws (n_v vs 0) 3) j = w_ei w1 (w_ar ws (n_v vs 0) 3) j := el_kp s1.1 r7 cr_0_3 (by decide)
  have hE_0_4_1 : ∀ j : Int, w_ei ws (w_ar ws (n_v vs 0) 4) j = w_ei w1 (w_ar ws (n_v vs 0) 4) j := el_kp s1.1 r7 cr_0_4 (by decide)
  have nf0 : fc_1 PRD (20, [3, 2], [30, -1, 1, 0, 0, -1, 3, 2005000]) ws (vs) := by
    refine ⟨nf_in hl rfl, sgq_269 ?_⟩
    · show 1 * v_iv (n_v vs 3) + ((-1) * w_el ws (w_ar ws (n_v vs 2) 2) (w_fi ws (n_v vs 2) 5 + 0).toNat + 0) ≤ (-1)
      rw [q2]
      exact vc_Mo_dropNode_17_0 (v_iv (n_v vs 3)) (v_iv (n_v vs 4)) (v_iv (n_v vs 5)) (v_iv (n_v vs 8)) (v_iv (n_v vs 10)) (v_iv (n_v vs 12)) (v_iv (n_v vs 13)) (v_iv (n_v vs 14)) (v_iv (n_v vs 16)) (v_iv (n_v vs 18)) (v_iv (n_v vs 19)) (v_iv (n_v vs 21)) (v_iv (n_v vs 22)) (v_iv (n_v vs 23)) (v_iv (n_v vs 24)) (w_ei w1 (w_ar ws (n_v vs 0) 2)) (w_fi w1 (n_v vs 0) 5) (w_fi ws (n_v vs 0) 5) (w_ei w1 (w_ar ws (n_v vs 0) 3)) (w_ei w1 (w_ar ws (n_v vs 0) 4)) (w_ei ws (w_ar ws (n_v vs 0) 2)) (w_ei ws (w_ar ws (n_v vs 0) 3)) (w_ei ws (w_ar ws (n_v vs 0) 4)) k3 k4 k5 k8 k10 k12 k13 k14 k16 k18 k19 k21 k22 k23 k24 d0 d6 d7 d8 d14 d23 f4 f6 f7 g9 f11 f12 f13 f16 fe_0_5_1 hE_0_2_1 hE_0_3_1 hE_0_4_1
  have nf1 : fc_1 PRD (20, [2], [60, 1, 3, 215, 5, 2, 3, 4]) ws (vs) := by
    refine ⟨nf_in hl rfl, sgq_1635 ?_⟩
    · show DN5 (w_fi ws (n_v vs 2) 5) (w_ei ws (w_ar ws (n_v vs 2) 2)) (w_ei ws (w_ar ws (n_v vs 2) 3)) (w_ei ws (w_ar ws (n_v vs 2) 4))
      rw [q2]
      exact vc_Mo_dropNode_17_1 (v_iv (n_v vs 4)) (v_iv (n_v vs 5)) (v_iv (n_v vs 8)) (v_iv (n_v vs 10)) (v_iv (n_v vs 12)) (v_iv (n_v vs 13)) (v_iv (n_v vs 14)) (v_iv (n_v vs 16)) (v_iv (n_v vs 18)) (v_iv (n_v vs 19)) (v_iv (n_v vs 21)) (v_iv (n_v vs 22)) (v_iv (n_v vs 23)) (v_iv (n_v vs 24)) (w_ei w1 (w_ar ws (n_v vs 0) 2)) (w_fi w1 (n_v vs 0) 5) (w_fi ws (n_v vs 0) 5) (w_ei w1 (w_ar ws (n_v vs 0) 3)) (w_ei w1 (w_ar ws (n_v vs 0) 4)) (w_ei ws (w_ar ws (n_v vs 0) 2)) (w_ei ws (w_ar ws (n_v vs 0) 3)) (w_ei ws (w_ar ws (n_v vs 0) 4)) k4 k5 k8 k10 k12 k13 k14 k16 k18 k19 k21 k22 k23 k24 d0 d6 d7 d8 d14 d23 f4 f6 f7 g9 f11 f12 f13 f17 fe_0_5_1 hE_0_2_1 hE_0_3_1 hE_0_4_1
  have nf2 : fc_1 PRD (20, [4, 2], [50, 1, 1, 1005, 1002, 0, 6, 4, 2, 1, 0, 0, 2, 3, 1, 2, 2, 1, 5]) ws (vs) := by
    refine ⟨nf_in hl rfl, sgq_1636 ?_⟩
    · show (v_iv (n_v vs 4) + 2) ≤ w_ei ws (w_ar ws (n_v vs 2) 2) (w_fi ws (n_v vs 2) 5)
      rw [q2]
      exact vc_Mo_dropNode_17_2 (v_iv (n_v vs 4)) (v_iv (n_v vs 5)) (v_iv (n_v vs 8)) (v_iv (n_v vs 10)) (v_iv (n_v vs 12)) (v_iv (n_v vs 13)) (v_iv (n_v vs 14)) (v_iv (n_v vs 16)) (v_iv (n_v vs 18)) (v_iv (n_v vs 19)) (v_iv (n_v vs 21)) (v_iv (n_v vs 22)) (v_iv (n_v vs 23)) (v_iv (n_v vs 24)) (w_ei w1 (w_ar ws (n_v vs 0) 2)) (w_fi w1 (n_v vs 0) 5) (w_fi ws (n_v vs 0) 5) (w_ei w1 (w_ar ws (n_v vs 0) 3)) (w_ei w1 (w_ar ws (n_v vs 0) 4)) (w_ei ws (w_ar ws (n_v vs 0) 2)) (w_ei ws (w_ar ws (n_v vs 0) 3)) (w_ei ws (w_ar ws (n_v vs 0) 4)) k4 k5 k8 k10 k12 k13 k14 k16 k18 k19 k21 k22 k23 k24 d0 d6 d7 d8 d14 d23 f4 f6 f7 g9 f11 f12 f13 f17 f18 fe_0_5_1 hE_0_2_1 hE_0_3_1 hE_0_4_1
  refine ⟨(fun _ h => (by cases h)), [], trivial, ?_, (fun _ h => (by cases h))⟩
  rw [List.append_nil]
  exact List.forall_mem_cons.mpr ⟨⟨show (20 : Nat) < 100 from by decide, nf0⟩, List.forall_mem_cons.mpr ⟨⟨show (20 : Nat) < 100 from by decide, nf1⟩, List.forall_mem_cons.mpr ⟨⟨show (20 : Nat) < 100 from by decide, nf2⟩, (fun _ h => (by cases h))⟩⟩⟩
def n_Mo_dropNode_an : List an_T := [(7, [(0, (2, 0, 0, [165])), (1, (0, 0, 23, [])), (2, (0, (Int.negSucc 0), 47, []))], [], (0, 0), [(0, 0, 99993), (2, 4, (Int.negSucc 0)), (0, 0, 100000), (0, 0, 0), (0, 0, 0)], [(1, 3, (Int.negSucc 999999999999), 0), (3, 1, (Int.negSucc 999999999999), 0)], [], [(2, 0, 0, [165]), (0, 0, 23, [])], 0, [], [(20, [3, 2], [30, (Int.negSucc 0), 1, 0, 0, (Int.negSucc 0), 3, 2005000]), (20, [4, 2], [30, (Int.negSucc 0), 1, 0, 0, (Int.negSucc 0), 3, 2005001]), (20, [2], [60, 1, 3, 199, 5, 2, 3, 4]), (20, [2, 3], [60, 1, 1, 208, 5, 2]), (20, [2, 4, 3], [60, 1, 1, 210, 5, 2]), (24, [0, 2], [])]), (33, [(0, (2, 0, 0, [165])), (1, (0, 0, 23, [])), (2, (0, 0, 48, []))], [], (0, 0), [(0, 0, 99967), (1, 4, 48), (0, 0, 100000), (0, 0, 0), (0, 0, 0)], [(1, 3, (Int.negSucc 999999999999), 0), (3, 1, (Int.negSucc 999999999999), 0)], [], [(2, 0, 0, [165]), (0, 0, 23, [])], 0, [], [(20, [3, 2], [30, (Int.negSucc 0), 1, 0, 0, (Int.negSucc 0), 3, 2005000]), (20, [2, 3, 4], [60, 1, 3, 214, 5, 2, 3, 4]), (24, [0, 2], [])]), (105, [(0, (2, 0, 0, [165])), (1, (0, 0, 23, [])), (2, (0, 0, 23, []))], [], (0, 0), [(0, 0, 99895), (1, 4, 23), (0, 0, 100000), (0, 0, 0), (0, 0, 0)], [(1, 3, (Int.negSucc 999999999999), 0), (1, 4, (Int.negSucc 999999999999), 0), (3, 1, (Int.negSucc 999999999999), 0), (3, 4, (Int.negSucc 999999999999), 0)], [], [(2, 0, 0, [165]), (0, 0, 23, [])], 0, [], [(20, [3, 2], [30, (Int.negSucc 0), 1, 0, 0, (Int.negSucc 0), 3, 2005000]), (20, [2], [60, 1, 3, 215, 5, 2, 3, 4]), (24, [0, 2], [])]), (117, [(0, (2, 0, 0, [165])), (1, (0, 0, 23, [])), (2, (0, 0, 22, [])), (3, (0, 0, 8, []))], [], (0, 0), [(0, 0, 99895), (1, 4, 23), (0, 0, 99883), (1, 5, 8), (0, 0, 100000)], [(1, 3, (Int.negSucc 999999999999), 0), (1, 4, (Int.negSucc 999999999999), 0), (1, 5, (Int.negSucc 999999999999), 22), (3, 1, (Int.negSucc 999999999999), 0), (3, 4, (Int.negSucc 999999999999), 0), (3, 5, (Int.negSucc 999999999999), 22)], [], [(2, 0, 0, [165]), (0, 0, 23, [])], 0, [], [(20, [3, 2], [30, (Int.negSucc 0), 1, 0, 0, (Int.negSucc 0), 3, 2005000]), (20, [2], [60, 1, 3, 215, 5, 2, 3, 4]), (20, [4, 2], [50, 1, 1, 1005, 1002, 0, 6, 4, 2, 1, 0, 0, 2, 3, 1, 2, 2, 1, 5]), (24, [0, 2], [])])]
def t_Mo_dropNode_ct : ct_L := [(1, 394, e_Mo_tail), (1, 398, e_Mo_head), (1, 401, e_Mo_edges), (1, 405, e_Mo_has), (1, 475, e_Mo_nodes), (70, 536, e_Mo_dropEdge_at_g0)]
set_option maxRecDepth 100000 in
theorem c_Mo_dropNode {l : Launch} {D : va_G} {kA : Nat → ClassId} (h_Mo_dropEdge_at_g0 : ct_ok PRD l D kA GG y_Mo_dropEdge_at_g0 z_Mo_dropEdge_at_g0 e_Mo_dropEdge_at_g0) (h_Mo_edges : ct_ok PRD l D kA GG y_Mo_edges z_Mo_edges e_Mo_edges) (h_Mo_has : ct_ok PRD l D kA GG y_Mo_has z_Mo_has e_Mo_has) (h_Mo_head : ct_ok PRD l D kA GG y_Mo_head z_Mo_head e_Mo_head) (h_Mo_nodes : ct_ok PRD l D kA GG y_Mo_nodes z_Mo_nodes e_Mo_nodes) (h_Mo_tail : ct_ok PRD l D kA GG y_Mo_tail z_Mo_tail e_Mo_tail) : ct_ok PRD l D kA GG y_Mo_dropNode z_Mo_dropNode e_Mo_dropNode := chk_all_ok (FT := [(16, 13, 2), (391, 13, 5)]) (PT := []) (CT := t_Mo_dropNode_ct) (KT := []) (NT := []) (AN := n_Mo_dropNode_an) (OT := [o_Mo_dropNode_0, o_Mo_dropNode_1, o_Mo_dropNode_2, o_Mo_dropNode_3, o_Mo_dropNode_4, o_Mo_dropNode_5, o_Mo_dropNode_6, o_Mo_dropNode_7, o_Mo_dropNode_8, o_Mo_dropNode_9, o_Mo_dropNode_10, o_Mo_dropNode_11, o_Mo_dropNode_12, o_Mo_dropNode_13, o_Mo_dropNode_14, o_Mo_dropNode_15, o_Mo_dropNode_16, o_Mo_dropNode_17]) 5 812 (List.forall_mem_cons.mpr ⟨oo_Mo_dropNode_0, List.forall_mem_cons.mpr ⟨oo_Mo_dropNode_1, List.forall_mem_cons.mpr ⟨oo_Mo_dropNode_2, List.forall_mem_cons.mpr ⟨oo_Mo_dropNode_3, List.forall_mem_cons.mpr ⟨oo_Mo_dropNode_4, List.forall_mem_cons.mpr ⟨oo_Mo_dropNode_5, List.forall_mem_cons.mpr ⟨oo_Mo_dropNode_6, List.forall_mem_cons.mpr ⟨oo_Mo_dropNode_7, List.forall_mem_cons.mpr ⟨oo_Mo_dropNode_8, List.forall_mem_cons.mpr ⟨oo_Mo_dropNode_9, List.forall_mem_cons.mpr ⟨oo_Mo_dropNode_10, List.forall_mem_cons.mpr ⟨oo_Mo_dropNode_11, List.forall_mem_cons.mpr ⟨oo_Mo_dropNode_12, List.forall_mem_cons.mpr ⟨oo_Mo_dropNode_13, List.forall_mem_cons.mpr ⟨oo_Mo_dropNode_14, List.forall_mem_cons.mpr ⟨oo_Mo_dropNode_15, List.forall_mem_cons.mpr ⟨oo_Mo_dropNode_16, List.forall_mem_cons.mpr ⟨oo_Mo_dropNode_17, List.forall_mem_nil _⟩⟩⟩⟩⟩⟩⟩⟩⟩⟩⟩⟩⟩⟩⟩⟩⟩⟩) (by decide +kernel) ⟨List.forall_mem_cons.mpr ⟨gf_Mo_16, List.forall_mem_cons.mpr ⟨gf_Mo_391, List.forall_mem_nil _⟩⟩, List.forall_mem_nil _, List.forall_mem_cons.mpr ⟨cl_virtual (y := y_Mo_tail) (ci := 13) rfl rfl ⟨_, _, rfl⟩ (by decide +kernel) h_Mo_tail wm_3045 wm_9 wm_3042 wm_3044 wv_13_8 ⟨by decide, by decide, by decide +kernel⟩ (by decide), List.forall_mem_cons.mpr ⟨cl_virtual (y := y_Mo_head) (ci := 13) rfl rfl ⟨_, _, rfl⟩ (by decide +kernel) h_Mo_head wm_3049 wm_9 wm_3046 wm_3048 wv_13_9 ⟨by decide, by decide, by decide +kernel⟩ (by decide), List.forall_mem_cons.mpr ⟨cl_virtual (y := y_Mo_edges) (ci := 13) rfl rfl ⟨_, _, rfl⟩ (by decide +kernel) h_Mo_edges wm_3037 wm_9 wm_3034 wm_3036 wv_13_6 ⟨by decide, by decide, by decide +kernel⟩ (by decide), List.forall_mem_cons.mpr ⟨cl_virtual (y := y_Mo_has) (ci := 13) rfl rfl ⟨_, _, rfl⟩ (by decide +kernel) h_Mo_has wm_3041 wm_9 wm_3038 wm_3040 wv_13_7 ⟨by decide, by decide, by decide +kernel⟩ (by decide), List.forall_mem_cons.mpr ⟨cl_virtual (y := y_Mo_nodes) (ci := 13) rfl rfl ⟨_, _, rfl⟩ (by decide +kernel) h_Mo_nodes wm_3025 wm_9 wm_3022 wm_3024 wv_13_3 ⟨by decide, by decide, by decide +kernel⟩ (by decide), List.forall_mem_cons.mpr ⟨cl_virtual (y := y_Mo_dropEdge_at_g0) (ci := 13) rfl rfl ⟨_, _, rfl⟩ (by decide +kernel) h_Mo_dropEdge_at_g0 wm_3103 wm_9 wm_3100 wm_3102 wv_14_5 ⟨by decide, by decide, by decide +kernel⟩ (by decide), List.forall_mem_nil _⟩⟩⟩⟩⟩⟩, List.forall_mem_nil _, List.forall_mem_nil _, GG_pl⟩ (by decide +kernel)

set_option maxHeartbeats 4000000 in
theorem vc_Mo_greedyOrder_0_0 (x1 : Int) (member_0 : Int → Int) (all_0 : Int → Int) (members_0 : Int) (r_0 : Int) (left_0 : Int → Int) (k1 : 0 ≤ x1 ∧ x1 ≤ 0) (f0 : MBN (members_0) (r_0) (member_0) (all_0)) (kz_0_99 : 0 ≤ members_0 ∧ members_0 ≤ 26) : LMB (members_0) (left_0) (member_0) (x1) := by
  first
    | (intro t a b c; exfalso; have := ‹MBN _ _ _ _›.2 t a b; omega)
set_option maxHeartbeats 4000000 in
theorem vc_Mo_greedyOrder_0_1 (x1 : Int) (member_0 : Int → Int) (members_0 : Int) (left_0 : Int → Int) (k1 : 0 ≤ x1 ∧ x1 ≤ 0) (kz_0_99 : 0 ≤ members_0 ∧ members_0 ≤ 26) : LMX (members_0) (left_0) (member_0) (x1) := by
  first
    | (intro v a b; exfalso; omega)
def o_Mo_greedyOrder_0 : or_T := (2, 2, [(0, (2, 0, 0, [165])), (1, (0, 0, 0, []))], [(20, [0], [60, 2, 2, 348, 99, 5, 98, 2])], [], [], [(20, [0, 1], [60, 1, 2, 381, 99, 22, 98]), (20, [0, 1], [60, 1, 2, 386, 99, 22, 98]), (24, [0, 0], [])], [], [])
theorem oo_Mo_greedyOrder_0 {kA : Nat → ClassId} : or_ok PRD kA GG o_Mo_greedyOrder_0 := by
  refine or_mk fun A ta ws vs hD hth hl => ?_
  intro t0 r0 t1 k1 f0
  have kz_0_99 := fdq_158 hD hth r0
  have nf0 : fc_1 PRD (20, [0, 1], [60, 1, 2, 381, 99, 22, 98]) ws (vs) := ⟨nf_in hl rfl, sgq_1638 (vc_Mo_greedyOrder_0_0 (v_iv (n_v vs 1)) (w_ei ws (w_ar ws (n_v vs 0) 98)) (w_ei ws (w_ar ws (n_v vs 0) 2)) (w_fi ws (n_v vs 0) 99) (w_fi ws (n_v vs 0) 5) (w_ei ws (w_ar ws (n_v vs 0) 22)) k1 (shm_1637 f0) kz_0_99)⟩
  have nf1 : fc_1 PRD (20, [0, 1], [60, 1, 2, 386, 99, 22, 98]) ws (vs) := ⟨nf_in hl rfl, sgq_1639 (vc_Mo_greedyOrder_0_1 (v_iv (n_v vs 1)) (w_ei ws (w_ar ws (n_v vs 0) 98)) (w_fi ws (n_v vs 0) 99) (w_ei ws (w_ar ws (n_v vs 0) 22)) k1 kz_0_99)⟩
  have nf2 : fc_1 PRD (24, [0, 0], []) ws (vs) := by
    refine ⟨nf_in hl rfl, sgq_1 ?_⟩
    · show n_v vs 0 = n_v vs 0
      first | rfl | simp only [true_and]
  refine ⟨(fun _ h => (by cases h)), [], trivial, ?_, (fun _ h => (by cases h))⟩
  rw [List.append_nil]
  exact List.forall_mem_cons.mpr ⟨⟨show (20 : Nat) < 100 from by decide, nf0⟩, List.forall_mem_cons.mpr ⟨⟨show (20 : Nat) < 100 from by decide, nf1⟩, List.forall_mem_cons.mpr ⟨⟨show (24 : Nat) < 100 from by decide, nf2⟩, (fun _ h => (by cases h))⟩⟩⟩
set_option maxHeartbeats 4000000 in
theorem vc_Mo_greedyOrder_1_0 (x2 : Int) (x3 : Int) (x4 : Int) (x5 : Int) (x7 : Int) (members_0 : Int) (all_0 : Int → Int) (r_0 : Int) (member_0 : Int → Int) (left_0 : Int → Int) (best_0 : Int → Int) (k2 : 0 ≤ x2 ∧ x2 ≤ 24) (k3 : 0 ≤ x3 ∧ x3 ≤ 24) (k4 : 0 ≤ x4 ∧ x4 ≤ 0) (k5 : 0 ≤ x5 ∧ x5 ≤ 26) (k7 : (-1) ≤ x7 ∧ x7 ≤ 25) (d0 : x5 + (-1) ≤ x7 ∧ x7 ≤ x5 + (-1)) (d1 : x3 + 0 ≤ x2 ∧ x2 ≤ x3 + 4294967296) (g1 : x5 = members_0) (f2 : x3 ≤ x2) (f3 : 1 * x3 + ((-1) * all_0 (r_0 + 0) + 0) ≤ 0) (f4 : (-1) * x3 + (1 * all_0 (r_0 + 0) + 0) ≤ 0) (f5 : MBN (members_0) (r_0) (member_0) (all_0)) (f6 : LMB (members_0) (left_0) (member_0) (x2)) (kz_0_99 : 0 ≤ members_0 ∧ members_0 ≤ 26) : GBE (members_0) (left_0) (best_0) (member_0) (x4) (x7) := by
  try simp only [Int.add_zero] at *
  first
    | exact gbe_start ‹MBN _ _ _ _› ‹LMB _ _ _ _› (by omega) (by omega) (by omega)
set_option maxHeartbeats 4000000 in
theorem vc_Mo_greedyOrder_1_1 (x2 : Int) (x3 : Int) (x4 : Int) (x5 : Int) (x7 : Int) (members_0 : Int) (all_0 : Int → Int) (r_0 : Int) (member_0 : Int → Int) (left_0 : Int → Int) (k2 : 0 ≤ x2 ∧ x2 ≤ 24) (k3 : 0 ≤ x3 ∧ x3 ≤ 24) (k4 : 0 ≤ x4 ∧ x4 ≤ 0) (k5 : 0 ≤ x5 ∧ x5 ≤ 26) (k7 : (-1) ≤ x7 ∧ x7 ≤ 25) (d0 : x5 + (-1) ≤ x7 ∧ x7 ≤ x5 + (-1)) (d1 : x3 + 0 ≤ x2 ∧ x2 ≤ x3 + 4294967296) (g1 : x5 = members_0) (f2 : x3 ≤ x2) (f3 : 1 * x3 + ((-1) * all_0 (r_0 + 0) + 0) ≤ 0) (f4 : (-1) * x3 + (1 * all_0 (r_0 + 0) + 0) ≤ 0) (f7 : LMX (members_0) (left_0) (member_0) (x2)) (kz_0_99 : 0 ≤ members_0 ∧ members_0 ≤ 26) : GLE (r_0) (all_0) (left_0) (x4) (x7) := by
  try simp only [Int.add_zero] at *
  first
    | exact gle_start (n := members_0) (by omega) ‹LMX _ _ _ _› (by omega) (by omega) (by omega)
set_option maxHeartbeats 4000000 in
theorem vc_Mo_greedyOrder_1_2 (x2 : Int) (x3 : Int) (x4 : Int) (x5 : Int) (x7 : Int) (members_0 : Int) (all_0 : Int → Int) (r_0 : Int) (member_0 : Int → Int) (left_0 : Int → Int) (k2 : 0 ≤ x2 ∧ x2 ≤ 24) (k3 : 0 ≤ x3 ∧ x3 ≤ 24) (k4 : 0 ≤ x4 ∧ x4 ≤ 0) (k5 : 0 ≤ x5 ∧ x5 ≤ 26) (k7 : (-1) ≤ x7 ∧ x7 ≤ 25) (d0 : x5 + (-1) ≤ x7 ∧ x7 ≤ x5 + (-1)) (d1 : x3 + 0 ≤ x2 ∧ x2 ≤ x3 + 4294967296) (g1 : x5 = members_0) (f2 : x3 ≤ x2) (f3 : 1 * x3 + ((-1) * all_0 (r_0 + 0) + 0) ≤ 0) (f4 : (-1) * x3 + (1 * all_0 (r_0 + 0) + 0) ≤ 0) (f5 : MBN (members_0) (r_0) (member_0) (all_0)) (f6 : LMB (members_0) (left_0) (member_0) (x2)) (kz_0_99 : 0 ≤ members_0 ∧ members_0 ≤ 26) : GL1 (r_0) (all_0) (left_0) (x4) (x7) := by
  try simp only [Int.add_zero] at *
  first
    | exact gl1_start (n := members_0) (by omega) ‹MBN _ _ _ _› ‹LMB _ _ _ _› (by omega) (by omega) (by omega)
def o_Mo_greedyOrder_1 : or_T := (36, 8, [(0, (2, 0, 0, [165])), (2, (0, 0, 24, [])), (3, (0, 0, 24, [])), (4, (0, 0, 0, [])), (5, (0, 0, 26, [])), (7, (0, -1, 25, []))], [(9, [5, 1], [99]), (7, [2, 3], [3]), (20, [3, 1], [30, 0, 1, 0, 0, -1, 3, 2005000]), (20, [3, 1], [30, 0, -1, 0, 0, 1, 3, 2005000]), (20, [1], [60, 2, 2, 348, 99, 5, 98, 2]), (20, [1, 2], [60, 1, 2, 381, 99, 22, 98]), (20, [1, 2], [60, 1, 2, 386, 99, 22, 98]), (24, [0, 1], [])], [], [], [(20, [1, 4, 7], [60, 1, 3, 387, 99, 22, 97, 98]), (20, [1, 4, 7], [60, 1, 2, 388, 5, 2, 22]), (20, [1, 4, 7], [60, 1, 2, 382, 5, 2, 22])], [], [(7, 5, -1, -1), (2, 3, 0, 4294967296)])
theorem oo_Mo_greedyOrder_1 {kA : Nat → ClassId} : or_ok PRD kA GG o_Mo_greedyOrder_1 := by
  refine or_mk fun A ta ws vs hD hth hl => ?_
  intro t0 r0 t2 k2 t3 k3 t4 k4 t5 k5 t7 k7 d0 d1 f1 f2 f3 f4 f5 f6 f7 f8
  replace f1 := shm_612 f1
  replace f2 := shm_2 f2
  replace f3 := shm_126 f3
  replace f4 := shm_127 f4
  replace f5 := shm_1637 f5
  replace f6 := shm_1638 f6
  replace f7 := shm_1639 f7
  replace f8 := shm_5 f8
  have q1 : n_v vs 1 = n_v vs 0 := f8.symm
  simp only [q1] at f1 f3 f4 f5 f6 f7
  have g1 : v_iv (n_v vs 5) = w_fi ws (n_v vs 0) 99 := congrArg v_iv f1
  have kz_0_99 := fdq_158 hD hth r0
  have nf0 : fc_1 PRD (20, [1, 4, 7], [60, 1, 3, 387, 99, 22, 97, 98]) ws (vs) := by
    refine ⟨nf_in hl rfl, sgq_1640 ?_⟩
    · show GBE (w_fi ws (n_v vs 1) 99) (w_ei ws (w_ar ws (n_v vs 1) 22)) (w_ei ws (w_ar ws (n_v vs 1) 97)) (w_ei ws (w_ar ws (n_v vs 1) 98)) (v_iv (n_v vs 4)) (v_iv (n_v vs 7))
      rw [q1]
      exact vc_Mo_greedyOrder_1_0 (v_iv (n_v vs 2)) (v_iv (n_v vs 3)) (v_iv (n_v vs 4)) (v_iv (n_v vs 5)) (v_iv (n_v vs 7)) (w_fi ws (n_v vs 0) 99) (w_ei ws (w_ar ws (n_v vs 0) 2)) (w_fi ws (n_v vs 0) 5) (w_ei ws (w_ar ws (n_v vs 0) 98)) (w_ei ws (w_ar ws (n_v vs 0) 22)) (w_ei ws (w_ar ws (n_v vs 0) 97)) k2 k3 k4 k5 k7 d0 d1 g1 f2 f3 f4 f5 f6 kz_0_99
  have nf1 : fc_1 PRD (20, [1, 4, 7], [60, 1, 2, 388, 5, 2, 22]) ws (vs) := by
    refine ⟨nf_in hl rfl, sgq_1641 ?_⟩
    · show GLE (w_fi ws (n_v vs 1) 5) (w_ei ws (w_ar ws (n_v vs 1) 2)) (w_ei ws (w_ar ws (n_v vs 1) 22)) (v_iv (n_v vs 4)) (v_iv (n_v vs 7))
      rw [q1]
      exact vc_Mo_greedyOrder_1_1 (v_iv (n_v vs 2)) (v_iv (n_v vs 3)) (v_iv (n_v vs 4)) (v_iv (n_v vs 5)) (v_iv (n_v vs 7)) (w_fi ws (n_v vs 0) 99) (w_ei ws (w_ar ws (n_v vs 0) 2)) (w_fi ws (n_v vs 0) 5) (w_ei ws (w_ar ws (n_v vs 0) 98)) (w_ei ws (w_ar ws (n_v vs 0) 22)) k2 k3 k4 k5 k7 d0 d1 g1 f2 f3 f4 f7 kz_0_99
  have nf2 : fc_1 PRD (20, [1, 4, 7], [60, 1, 2, 382, 5, 2, 22]) ws (vs) := by
    refine ⟨nf_in hl rfl, sgq_1642 ?_⟩
    · show GL1 (w_fi ws (n_v vs 1) 5) (w_ei ws (w_ar ws (n_v vs 1) 2)) (w_ei ws (w_ar ws (n_v vs 1) 22)) (v_iv (n_v vs 4)) (v_iv (n_v vs 7))
      rw [q1]
      exact vc_Mo_greedyOrder_1_2 (v_iv (n_v vs 2)) (v_iv (n_v vs 3)) (v_iv (n_v vs 4)) (v_iv (n_v vs 5)) (v_iv (n_v vs 7)) (w_fi ws (n_v vs 0) 99) (w_ei ws (w_ar ws (n_v vs 0) 2)) (w_fi ws (n_v vs 0) 5) (w_ei ws (w_ar ws (n_v vs 0) 98)) (w_ei ws (w_ar ws (n_v vs 0) 22)) k2 k3 k4 k5 k7 d0 d1 g1 f2 f3 f4 f5 f6 kz_0_99
  refine ⟨(fun _ h => (by cases h)), [], trivial, ?_, (fun _ h => (by cases h))⟩
  rw [List.append_nil]
  exact List.forall_mem_cons.mpr ⟨⟨show (20 : Nat) < 100 from by decide, nf0⟩, List.forall_mem_cons.mpr ⟨⟨show (20 : Nat) < 100 from by decide, nf1⟩, List.forall_mem_cons.mpr ⟨⟨show (20 : Nat) < 100 from by decide, nf2⟩, (fun _ h => (by cases h))⟩⟩⟩
set_option maxHeartbeats 4000000 in
theorem vc_Mo_greedyOrder_2_0 (x2 : Int) (x5 : Int) (x6 : Int) (member_0 : Int → Int) (members_0 : Int) (all_0 : Int → Int) (r_0 : Int) (member_1 : Int → Int) (members_1 : Int) (all_1 : Int → Int) (r_1 : Int) (left_1 : Int → Int) (left_0 : Int → Int) (k2 : 0 ≤ x2 ∧ x2 ≤ 23) (k5 : 0 ≤ x5 ∧ x5 ≤ 1) (k6 : 1 ≤ x6 ∧ x6 ≤ 24) (f0 : x6 = x2 + 1) (f8 : ISM (members_1) (member_1) (x2) (x5)) (f14 : MBN (members_1) (r_1) (member_1) (all_1)) (f15 : LMB (members_1) (left_1) (member_1) (x2)) (fe_0_5_1 : r_0 = r_1) (fe_0_99_1 : members_0 = members_1) (hE_0_2_1 : ∀ j : Int, all_0 j = all_1 j) (hE_0_22_1 : ∀ j : Int, 0 ≤ j → (j = x2 → left_0 j = x5) ∧ (j ≠ x2 → left_0 j = left_1 j)) (hE_0_98_1 : ∀ j : Int, member_0 j = member_1 j) (kz_0_99 : 0 ≤ members_0 ∧ members_0 ≤ 26) : LMB (members_0) (left_0) (member_0) (x6) := by
  subst fe_0_5_1
  subst fe_0_99_1
  have e_hE_0_2_1 := funext hE_0_2_1; subst e_hE_0_2_1
  have e_hE_0_98_1 := funext hE_0_98_1; subst e_hE_0_98_1
  first
    | exact lmb_step ‹LMB _ _ _ _› (by omega) ‹MBN _ _ _ _› (by assumption) (by omega) ‹ISM _ _ _ _› (by omega)
set_option maxHeartbeats 4000000 in
theorem vc_Mo_greedyOrder_2_1 (x2 : Int) (x5 : Int) (x6 : Int) (member_0 : Int → Int) (members_0 : Int) (all_0 : Int → Int) (r_0 : Int) (member_1 : Int → Int) (members_1 : Int) (all_1 : Int → Int) (r_1 : Int) (left_1 : Int → Int) (left_0 : Int → Int) (k2 : 0 ≤ x2 ∧ x2 ≤ 23) (k5 : 0 ≤ x5 ∧ x5 ≤ 1) (k6 : 1 ≤ x6 ∧ x6 ≤ 24) (f0 : x6 = x2 + 1) (f9 : ISX (members_1) (member_1) (x2) (x5)) (f16 : LMX (members_1) (left_1) (member_1) (x2)) (fe_0_5_1 : r_0 = r_1) (fe_0_99_1 : members_0 = members_1) (hE_0_2_1 : ∀ j : Int, all_0 j = all_1 j) (hE_0_22_1 : ∀ j : Int, 0 ≤ j → (j = x2 → left_0 j = x5) ∧ (j ≠ x2 → left_0 j = left_1 j)) (hE_0_98_1 : ∀ j : Int, member_0 j = member_1 j) (kz_0_99 : 0 ≤ members_0 ∧ members_0 ≤ 26) : LMX (members_0) (left_0) (member_0) (x6) := by
  subst fe_0_5_1
  subst fe_0_99_1
  have e_hE_0_2_1 := funext hE_0_2_1; subst e_hE_0_2_1
  have e_hE_0_98_1 := funext hE_0_98_1; subst e_hE_0_98_1
  first
    | exact lmx_step ‹LMX _ _ _ _› (by omega) (by assumption) (by omega) ‹ISX _ _ _ _› (by omega)
def o_Mo_greedyOrder_2 : or_T := (2, 7, [(0, (2, 0, 0, [165])), (2, (0, 0, 23, [])), (4, (2, 0, 0, [177])), (5, (0, 0, 1, [])), (6, (0, 1, 24, []))], [(6, [6, 2], [1]), (24, [0, 1], []), (100, [4, 2, 5], []), (20, [1, 2, 5], [60, 1, 1, 380, 99, 98]), (20, [1, 2, 5], [60, 1, 1, 385, 99, 98]), (9, [4, 1], [22]), (20, [1], [60, 2, 2, 348, 99, 5, 98, 2]), (20, [1, 2], [60, 1, 2, 381, 99, 22, 98]), (20, [1, 2], [60, 1, 2, 386, 99, 22, 98])], [], [], [(20, [1, 6], [60, 1, 2, 381, 99, 22, 98]), (20, [1, 6], [60, 1, 2, 386, 99, 22, 98])], [], [(6, 2, 1, 1), (2, 3, -4294967296, -1)])
theorem oo_Mo_greedyOrder_2 {kA : Nat → ClassId} : or_ok PRD kA GG o_Mo_greedyOrder_2 := by
  refine or_mk fun A ta ws vs hD hth hl => ?_
  intro t0 r0 t2 k2 t4 r4 t5 k5 t6 k6 d0 d2 f0 f6 ta1 w1 le1 s1 f8 f9 f10 f14 f15 f16
  replace f0 := shm_4 f0
  replace f6 := shm_5 f6
  have s1 : (∀ b j, w_el ws b j = if b = v_ad (n_v vs 4) ∧ j = (v_iv (n_v vs 2)).toNat then v_iv (n_v vs 5) else w_el w1 b j) ∧ ∀ b k, w_fd ws b k = w_fd w1 b k := s1.2
  replace f8 := shm_613 f8
  replace f9 := shm_614 f9
  replace f10 := shm_1026 f10
  replace f14 := shm_1637 f14
  replace f15 := shm_1638 f15
  replace f16 := shm_1639 f16
  have q1 : n_v vs 1 = n_v vs 0 := f6.symm
  simp only [q1] at f8 f9 f10 f14 f15 f16
  have ar_0_2_1 : w_ar w1 (n_v vs 0) 2 = w_ar ws (n_v vs 0) 2 := congrArg v_ad (s1.2 _ _).symm
  have cr_0_2 := fdq_10 hD hth r0
  have ar_0_22_1 : w_ar w1 (n_v vs 0) 22 = w_ar ws (n_v vs 0) 22 := congrArg v_ad (s1.2 _ _).symm
  have ar_0_98_1 : w_ar w1 (n_v vs 0) 98 = w_ar ws (n_v vs 0) 98 := congrArg v_ad (s1.2 _ _).symm
  have cr_0_98 := fdq_157 hD hth r0
  have ad_4 : v_ad (n_v vs 4) = w_ar ws (n_v vs 0) 22 := (congrArg v_ad f10).trans ar_0_22_1
  simp only [ar_0_98_1, ar_0_2_1, ar_0_22_1] at f8 f9 f14 f15 f16
  have fe_0_5_1 : w_fi ws (n_v vs 0) 5 = w_fi w1 (n_v vs 0) 5 := congrArg v_iv (s1.2 _ _)
  have fe_0_99_1 : w_fi ws (n_v vs 0) 99 = w_fi w1 (n_v vs 0) 99 := congrArg v_iv (s1.2 _ _)
  have hE_0_2_1 : ∀ j : Int, w_ei ws (w_ar ws (n_v vs 0) 2) j = w_ei w1 (w_ar ws (n_v vs 0) 2) j := el_kp s1.1 r4 cr_0_2 (by decide)
  have hE_0_22_1 : ∀ j : Int, 0 ≤ j → (j = v_iv (n_v vs 2) → w_ei ws (w_ar ws (n_v vs 0) 22) j = v_iv (n_v vs 5)) ∧ (j ≠ v_iv (n_v vs 2) → w_ei ws (w_ar ws (n_v vs 0) 22) j = w_ei w1 (w_ar ws (n_v vs 0) 22) j) := fun j hj => ⟨fun h => by unfold w_ei; rw [s1.1, if_pos ⟨ad_4.symm, by rw [h]⟩], fun h => by unfold w_ei; rw [s1.1, if_neg (fun e => h (by have := e.2; omega))]⟩
  have hE_0_98_1 : ∀ j : Int, w_ei ws (w_ar ws (n_v vs 0) 98) j = w_ei w1 (w_ar ws (n_v vs 0) 98) j := el_kp s1.1 r4 cr_0_98 (by decide)
  have kz_0_99 := fdq_158 hD hth r0
  have nf0 : fc_1 PRD (20, [1, 6], [60, 1, 2, 381, 99, 22, 98]) ws (vs) := by
    refine ⟨nf_in hl rfl, sgq_1638 ?_⟩
    · show LMB (w_fi ws (n_v vs 1) 99) (w_ei ws (w_ar ws (n_v vs 1) 22)) (w_ei ws (w_ar ws (n_v vs 1) 98)) (v_iv (n_v vs 6))
      rw [q1]
      exact vc_Mo_greedyOrder_2_0 (v_iv (n_v vs 2)) (v_iv (n_v vs 5)) (v_iv (n_v vs 6)) (w_ei ws (w_ar ws (n_v vs 0) 98)) (w_fi ws (n_v vs 0) 99) (w_ei ws (w_ar ws (n_v vs 0) 2)) (w_fi ws (n_v vs 0) 5) (w_ei w1 (w_ar ws (n_v vs 0) 98)) (w_fi w1 (n_v vs 0) 99) (w_ei w1 (w_ar ws (n_v vs 0) 2)) (w_fi w1 (n_v vs 0) 5) (w_ei w1 (w_ar ws (n_v vs 0) 22)) (w_ei ws (w_ar ws (n_v vs 0) 22)) k2 k5 k6 f0 f8 f14 f15 fe_0_5_1 fe_0_99_1 hE_0_2_1 hE_0_22_1 hE_0_98_1 kz_0_99
  have nf1 : fc_1 PRD (20, [1, 6], [60, 1, 2, 386, 99, 22, 98]) ws (vs) := by
    refine ⟨nf_in hl rfl, sgq_1639 ?_⟩
    · show LMX (w_fi ws (n_v vs 1) 99) (w_ei ws (w_ar ws (n_v vs 1) 22)) (w_ei ws (w_ar ws (n_v vs 1) 98)) (v_iv (n_v vs 6))
      rw [q1]
      exact vc_Mo_greedyOrder_2_1 (v_iv (n_v vs 2)) (v_iv (n_v vs 5)) (v_iv (n_v vs 6)) (w_ei ws (w_ar ws (n_v vs 0) 98)) (w_fi ws (n_v vs 0) 99) (w_ei ws (w_ar ws (n_v vs 0) 2)) (w_fi ws (n_v vs 0) 5) (w_ei w1 (w_ar ws (n_v vs 0) 98)) (w_fi w1 (n_v vs 0) 99) (w_ei w1 (w_ar ws (n_v vs 0) 2)) (w_fi w1 (n_v vs 0) 5) (w_ei w1 (w_ar ws (n_v vs 0) 22)) (w_ei ws (w_ar ws (n_v vs 0) 22)) k2 k5 k6 f0 f9 f16 fe_0_5_1 fe_0_99_1 hE_0_2_1 hE_0_22_1 hE_0_98_1 kz_0_99
  refine ⟨(fun _ h => (by cases h)), [], trivial, ?_, (fun _ h => (by cases h))⟩
  rw [List.append_nil]
  exact List.forall_mem_cons.mpr ⟨⟨show (20 : Nat) < 100 from by decide, nf0⟩, List.forall_mem_cons.mpr ⟨⟨show (20 : Nat) < 100 from by decide, nf1⟩, (fun _ h => (by cases h))⟩⟩
set_option maxHeartbeats 4000000 in
theorem vc_Mo_greedyOrder_3_0 (x2 : Int) (x3 : Int) (member_0 : Int → Int) (all_0 : Int → Int) (members_0 : Int) (r_0 : Int) (left_0 : Int → Int) (best_0 : Int → Int) (k2 : 0 ≤ x2 ∧ x2 ≤ 26) (k3 : (-1) ≤ x3 ∧ x3 ≤ 25) (f0 : x3 < x2) (f1 : MBN (members_0) (r_0) (member_0) (all_0)) (f2 : GBE (members_0) (left_0) (best_0) (member_0) (x2) (x3)) (f3 : GLE (r_0) (all_0) (left_0) (x2) (x3)) (kz_0_99 : 0 ≤ members_0 ∧ members_0 ≤ 26) : BST (members_0) (best_0) (member_0) := by
  exact gle_end ‹GLE _ _ _ _ _› ‹GBE _ _ _ _ _ _› ‹MBN _ _ _ _› (by omega)
def o_Mo_greedyOrder_3 : or_T := (301, 4, [(0, (2, 0, 0, [165])), (2, (0, 0, 26, [])), (3, (0, -1, 25, []))], [(7, [2, 3], [4]), (20, [1], [60, 2, 2, 348, 99, 5, 98, 2]), (20, [1, 2, 3], [60, 1, 3, 387, 99, 22, 97, 98]), (20, [1, 2, 3], [60, 1, 2, 388, 5, 2, 22]), (24, [0, 1], [])], [], [], [(20, [0], [60, 1, 2, 345, 99, 97, 98])], [], [])
theorem oo_Mo_greedyOrder_3 {kA : Nat → ClassId} : or_ok PRD kA GG o_Mo_greedyOrder_3 := by
  refine or_mk fun A ta ws vs hD hth hl => ?_
  intro t0 r0 t2 k2 t3 k3 f0 f1 f2 f3 f5
  replace f1 := shm_1637 f1
  replace f2 := shm_1640 f2
  replace f3 := shm_1641 f3
  replace f5 := shm_5 f5
  have q1 : n_v vs 1 = n_v vs 0 := f5.symm
  simp only [q1] at f1 f2 f3
  have kz_0_99 := fdq_158 hD hth r0
  have nf0 : fc_1 PRD (20, [0], [60, 1, 2, 345, 99, 97, 98]) ws (vs) := ⟨nf_in hl rfl, sgq_1626 (vc_Mo_greedyOrder_3_0 (v_iv (n_v vs 2)) (v_iv (n_v vs 3)) (w_ei ws (w_ar ws (n_v vs 0) 98)) (w_ei ws (w_ar ws (n_v vs 0) 2)) (w_fi ws (n_v vs 0) 99) (w_fi ws (n_v vs 0) 5) (w_ei ws (w_ar ws (n_v vs 0) 22)) (w_ei ws (w_ar ws (n_v vs 0) 97)) k2 k3 (shm_21 f0) f1 f2 f3 kz_0_99)⟩
  refine ⟨(fun _ h => (by cases h)), [], trivial, ?_, (fun _ h => (by cases h))⟩
  rw [List.append_nil]
  exact List.forall_mem_cons.mpr ⟨⟨show (20 : Nat) < 100 from by decide, nf0⟩, (fun _ h => (by cases h))⟩
set_option maxHeartbeats 4000000 in
theorem vc_Mo_greedyOrder_4_0 (x2 : Int) (x3 : Int) (k2 : 0 ≤ x2 ∧ x2 ≤ 25) (k3 : 0 ≤ x3 ∧ x3 ≤ 25) (f0 : x2 ≤ x3) : x2 ≤ x3 := by
  omega
set_option maxHeartbeats 4000000 in
theorem vc_Mo_greedyOrder_4_1 (x6 : Int) (x8 : Int) (all_0 : Int → Int) (r_0 : Int) (left_0 : Int → Int) (k6 : (-1) ≤ x6 ∧ x6 ≤ (-1)) (k8 : 0 ≤ x8 ∧ x8 ≤ 0) : GL2 (r_0) (all_0) (left_0) (x6) (x8) := by
  try simp only [Int.add_zero] at *
  first
    | exact Or.inr ⟨by omega, fun v a b => by omega⟩
set_option maxHeartbeats 4000000 in
theorem vc_Mo_greedyOrder_4_2 (x4 : Int) (all_0 : Int → Int) (r_0 : Int) (left_0 : Int → Int) (k4 : (-1) ≤ x4 ∧ x4 ≤ (-1)) : GL3 (r_0) (all_0) (left_0) (x4) := by
  try simp only [Int.add_zero] at *
  first
    | assumption
    | exact Or.inl (by omega)
    | exact Or.inr ⟨by omega, by omega⟩
set_option maxHeartbeats 4000000 in
theorem vc_Mo_greedyOrder_4_3 (x5 : Int) (all_0 : Int → Int) (r_0 : Int) (left_0 : Int → Int) (k5 : (-1) ≤ x5 ∧ x5 ≤ (-1)) : GL3 (r_0) (all_0) (left_0) (x5) := by
  try simp only [Int.add_zero] at *
  first
    | assumption
    | exact Or.inl (by omega)
    | exact Or.inr ⟨by omega, by omega⟩
def o_Mo_greedyOrder_4 : or_T := (55, 9, [(2, (0, 0, 25, [])), (3, (0, 0, 25, [])), (4, (0, -1, -1, [])), (5, (0, -1, -1, [])), (6, (0, -1, -1, [])), (8, (0, 0, 0, []))], [(7, [2, 3], [5]), (24, [0, 1], [])], [], [], [(20, [2, 3], [50, 0, 0, 0, 2, 1, 0, 1, 1]), (20, [1, 6, 8], [60, 1, 2, 383, 5, 2, 22]), (20, [1, 4], [60, 1, 2, 384, 5, 2, 22]), (20, [1, 5], [60, 1, 2, 384, 5, 2, 22])], [], [])
theorem oo_Mo_greedyOrder_4 {kA : Nat → ClassId} : or_ok PRD kA GG o_Mo_greedyOrder_4 := by
  refine or_mk fun A ta ws vs hD hth hl => ?_
  intro t2 k2 t3 k3 t4 k4 t5 k5 t6 k6 t8 k8 f0 f5
  replace f0 := shm_24 f0
  replace f5 := shm_5 f5
  have q1 : n_v vs 1 = n_v vs 0 := f5.symm
  have nf0 : fc_1 PRD (20, [2, 3], [50, 0, 0, 0, 2, 1, 0, 1, 1]) ws (vs) := ⟨nf_in hl rfl, sgq_360 (vc_Mo_greedyOrder_4_0 (v_iv (n_v vs 2)) (v_iv (n_v vs 3)) k2 k3 f0)⟩
  have nf1 : fc_1 PRD (20, [1, 6, 8], [60, 1, 2, 383, 5, 2, 22]) ws (vs) := by
    refine ⟨nf_in hl rfl, sgq_1643 ?_⟩
    · show GL2 (w_fi ws (n_v vs 1) 5) (w_ei ws (w_ar ws (n_v vs 1) 2)) (w_ei ws (w_ar ws (n_v vs 1) 22)) (v_iv (n_v vs 6)) (v_iv (n_v vs 8))
      rw [q1]
      exact vc_Mo_greedyOrder_4_1 (v_iv (n_v vs 6)) (v_iv (n_v vs 8)) (w_ei ws (w_ar ws (n_v vs 0) 2)) (w_fi ws (n_v vs 0) 5) (w_ei ws (w_ar ws (n_v vs 0) 22)) k6 k8
  have nf2 : fc_1 PRD (20, [1, 4], [60, 1, 2, 384, 5, 2, 22]) ws (vs) := by
    refine ⟨nf_in hl rfl, sgq_1644 ?_⟩
    · show GL3 (w_fi ws (n_v vs 1) 5) (w_ei ws (w_ar ws (n_v vs 1) 2)) (w_ei ws (w_ar ws (n_v vs 1) 22)) (v_iv (n_v vs 4))
      rw [q1]
      exact vc_Mo_greedyOrder_4_2 (v_iv (n_v vs 4)) (w_ei ws (w_ar ws (n_v vs 0) 2)) (w_fi ws (n_v vs 0) 5) (w_ei ws (w_ar ws (n_v vs 0) 22)) k4
  have nf3 : fc_1 PRD (20, [1, 5], [60, 1, 2, 384, 5, 2, 22]) ws (vs) := by
    refine ⟨nf_in hl rfl, sgq_1644 ?_⟩
    · show GL3 (w_fi ws (n_v vs 1) 5) (w_ei ws (w_ar ws (n_v vs 1) 2)) (w_ei ws (w_ar ws (n_v vs 1) 22)) (v_iv (n_v vs 5))
      rw [q1]
      exact vc_Mo_greedyOrder_4_3 (v_iv (n_v vs 5)) (w_ei ws (w_ar ws (n_v vs 0) 2)) (w_fi ws (n_v vs 0) 5) (w_ei ws (w_ar ws (n_v vs 0) 22)) k5
  refine ⟨(fun _ h => (by cases h)), [], trivial, ?_, (fun _ h => (by cases h))⟩
  rw [List.append_nil]
  exact List.forall_mem_cons.mpr ⟨⟨show (20 : Nat) < 100 from by decide, nf0⟩, List.forall_mem_cons.mpr ⟨⟨show (20 : Nat) < 100 from by decide, nf1⟩, List.forall_mem_cons.mpr ⟨⟨show (20 : Nat) < 100 from by decide, nf2⟩, List.forall_mem_cons.mpr ⟨⟨show (20 : Nat) < 100 from by decide, nf3⟩, (fun _ h => (by cases h))⟩⟩⟩⟩
set_option maxHeartbeats 4000000 in
theorem vc_Mo_greedyOrder_5_r0 (x2 : Int) (x3 : Int) (x6 : Int) (x8 : Int) (x9 : Int) (all_0 : Int → Int) (r_0 : Int) (left_0 : Int → Int) (k2 : 0 ≤ x2 ∧ x2 ≤ 25) (k3 : 0 ≤ x3 ∧ x3 ≤ 25) (k6 : (-1) ≤ x6 ∧ x6 ≤ 23) (k8 : 0 ≤ x8 ∧ x8 ≤ 24) (k9 : 0 ≤ x9 ∧ x9 ≤ 24) (d0 : x9 + 0 ≤ x8 ∧ x8 ≤ x9 + 4294967296) (f3 : x9 ≤ x8) (f4 : 1 * x9 + ((-1) * all_0 (r_0 + 0) + 0) ≤ 0) (f5 : (-1) * x9 + (1 * all_0 (r_0 + 0) + 0) ≤ 0) (f9 : GL1 (r_0) (all_0) (left_0) (x2) (x3)) (f10 : x2 ≤ x3) (f11 : GL2 (r_0) (all_0) (left_0) (x6) (x8)) : 0 ≤ x6 ∧ x6 ≤ 23 := by
  try simp only [Int.add_zero] at *
  first
    | (have h := gl1_ex ‹GL1 _ _ _ _ _› (by omega) ‹GL2 _ _ _ _ _› (by omega); omega)
def o_Mo_greedyOrder_5 : or_T := (267, 11, [(0, (2, 0, 0, [165])), (1, (2, 0, 0, [165])), (2, (0, 0, 25, [])), (3, (0, 0, 25, [])), (4, (0, -1, -1, [])), (5, (0, -1, -1, [])), (6, (0, -1, 23, [])), (8, (0, 0, 24, [])), (9, (0, 0, 24, [])), (10, (2, 0, 0, [177]))], [(9, [10, 1], [22]), (8, [5], [2]), (8, [4], [2]), (7, [8, 9], [3]), (20, [9, 1], [30, 0, 1, 0, 0, -1, 3, 2005000]), (20, [9, 1], [30, 0, -1, 0, 0, 1, 3, 2005000]), (20, [1], [60, 2, 2, 348, 99, 5, 98, 2]), (20, [1, 2, 3], [60, 1, 3, 387, 99, 22, 97, 98]), (20, [1, 2, 3], [60, 1, 2, 388, 5, 2, 22]), (20, [1, 2, 3], [60, 1, 2, 382, 5, 2, 22]), (20, [2, 3], [50, 0, 0, 0, 2, 1, 0, 1, 1]), (20, [1, 6, 8], [60, 1, 2, 383, 5, 2, 22]), (20, [1, 4], [60, 1, 2, 384, 5, 2, 22]), (20, [1, 5], [60, 1, 2, 384, 5, 2, 22]), (24, [0, 1], [])], [(6, (0, 0, 23, []))], [], [], [], [(8, 9, 0, 4294967296), (2, 3, -4294967296, 0), (6, 8, -4294967296, -1)])
theorem oo_Mo_greedyOrder_5 {kA : Nat → ClassId} : or_ok PRD kA GG o_Mo_greedyOrder_5 := by
  refine or_mk fun A ta ws vs hD hth hl => ?_
  intro t0 r0 t1 r1 t2 k2 t3 k3 t4 k4 t5 k5 t6 k6 t8 k8 t9 k9 t10 r10 d0 d1 d2 f0 f1 f2 f3 f4 f5 f6 f7 f8 f9 f10 f11 f12 f13 f14
  replace f4 := shm_126 f4
  replace f5 := shm_127 f5
  replace f9 := shm_1642 f9
  replace f11 := shm_1643 f11
  replace f14 := shm_5 f14
  have q1 : n_v vs 1 = n_v vs 0 := f14.symm
  simp only [q1] at f4 f5 f9 f11
  have hrf0 : 0 ≤ v_iv (n_v vs 6) ∧ v_iv (n_v vs 6) ≤ 23 := vc_Mo_greedyOrder_5_r0 (v_iv (n_v vs 2)) (v_iv (n_v vs 3)) (v_iv (n_v vs 6)) (v_iv (n_v vs 8)) (v_iv (n_v vs 9)) (w_ei ws (w_ar ws (n_v vs 0) 2)) (w_fi ws (n_v vs 0) 5) (w_ei ws (w_ar ws (n_v vs 0) 22)) k2 k3 k6 k8 k9 d0 (shm_2 f3) f4 f5 f9 (shm_360 f10) f11
  have rf6 : tv_ok ta (0, 0, 23, []) (n_v vs 6) := tv_in t6 (by first | omega | grind) (by first | omega | grind)
  refine ⟨List.forall_mem_cons.mpr ⟨rf6, (fun _ h => (by cases h))⟩, [], trivial, ?_, (fun _ h => (by cases h))⟩
  rw [List.append_nil]
  exact (fun _ h => (by cases h))
set_option maxHeartbeats 4000000 in
theorem vc_Mo_greedyOrder_6_0 (x2 : Int) (x3 : Int) (x6 : Int) (x11 : Int) (x13 : Int) (all_0 : Int → Int) (r_0 : Int) (member_0 : Int → Int) (members_0 : Int) (all_1 : Int → Int) (member_1 : Int → Int) (members_1 : Int) (r_1 : Int) (all_2 : Int → Int) (member_2 : Int → Int) (members_2 : Int) (r_2 : Int) (left_2 : Int → Int) (best_2 : Int → Int) (left_0 : Int → Int) (left_1 : Int → Int) (best_0 : Int → Int) (best_1 : Int → Int) (k2 : 0 ≤ x2 ∧ x2 ≤ 25) (k3 : 0 ≤ x3 ∧ x3 ≤ 25) (k6 : 0 ≤ x6 ∧ x6 ≤ 23) (k11 : 0 ≤ x11 ∧ x11 ≤ 0) (k13 : 1 ≤ x13 ∧ x13 ≤ 26) (f0 : x13 = x2 + 1) (f20 : MBN (members_2) (r_2) (member_2) (all_2)) (f21 : GBE (members_2) (left_2) (best_2) (member_2) (x2) (x3)) (f24 : x2 ≤ x3) (fe_0_5_1 : r_0 = r_1) (fe_0_99_1 : members_0 = members_1) (fe_0_5_2 : r_1 = r_2) (fe_0_99_2 : members_1 = members_2) (hE_0_2_1 : ∀ j : Int, all_0 j = all_1 j) (hE_0_2_2 : ∀ j : Int, all_1 j = all_2 j) (hE_0_22_1 : ∀ j : Int, left_0 j = left_1 j) (hE_0_22_2 : ∀ j : Int, 0 ≤ j → (j = x6 → left_1 j = x11) ∧ (j ≠ x6 → left_1 j = left_2 j)) (hE_0_97_1 : ∀ j : Int, 0 ≤ j → (j = x2 → best_0 j = x6) ∧ (j ≠ x2 → best_0 j = best_1 j)) (hE_0_97_2 : ∀ j : Int, best_1 j = best_2 j) (hE_0_98_1 : ∀ j : Int, member_0 j = member_1 j) (hE_0_98_2 : ∀ j : Int, member_1 j = member_2 j) (kz_0_99 : 0 ≤ members_0 ∧ members_0 ≤ 26) : GBE (members_0) (left_0) (best_0) (member_0) (x13) (x3) := by
  subst fe_0_5_1
  subst fe_0_99_1
  subst fe_0_5_2
  subst fe_0_99_2
  have e_hE_0_2_1 := funext hE_0_2_1; subst e_hE_0_2_1
  have e_hE_0_2_2 := funext hE_0_2_2; subst e_hE_0_2_2
  have e_hE_0_22_1 := funext hE_0_22_1; subst e_hE_0_22_1
  have e_hE_0_97_2 := funext hE_0_97_2; subst e_hE_0_97_2
  have e_hE_0_98_1 := funext hE_0_98_1; subst e_hE_0_98_1
  have e_hE_0_98_2 := funext hE_0_98_2; subst e_hE_0_98_2
  try simp only [Int.add_zero] at *
  first
    | exact gbe_step ‹GBE _ _ _ _ _ _› ‹MBN _ _ _ _› (by omega) (by assumption) rfl (by omega) (by assumption) rfl (Or.inr ⟨rfl, by omega, rfl⟩)
    | exact gbe_step ‹GBE _ _ _ _ _ _› ‹MBN _ _ _ _› (by omega) (by assumption) rfl (by omega) (by assumption) rfl (Or.inl ⟨rfl, by omega, rfl⟩)
set_option maxHeartbeats 4000000 in
theorem vc_Mo_greedyOrder_6_1 (x2 : Int) (x3 : Int) (x4 : Int) (x5 : Int) (x6 : Int) (x8 : Int) (x9 : Int) (x11 : Int) (x13 : Int) (all_0 : Int → Int) (r_0 : Int) (member_0 : Int → Int) (members_0 : Int) (all_1 : Int → Int) (member_1 : Int → Int) (members_1 : Int) (r_1 : Int) (all_2 : Int → Int) (member_2 : Int → Int) (members_2 : Int) (r_2 : Int) (left_2 : Int → Int) (best_2 : Int → Int) (left_0 : Int → Int) (left_1 : Int → Int) (best_1 : Int → Int) (k2 : 0 ≤ x2 ∧ x2 ≤ 25) (k3 : 0 ≤ x3 ∧ x3 ≤ 25) (k6 : 0 ≤ x6 ∧ x6 ≤ 23) (k8 : 0 ≤ x8 ∧ x8 ≤ 24) (k9 : 0 ≤ x9 ∧ x9 ≤ 24) (k11 : 0 ≤ x11 ∧ x11 ≤ 0) (k13 : 1 ≤ x13 ∧ x13 ≤ 26) (d0 : x2 + 1 ≤ x13 ∧ x13 ≤ x2 + 1) (d2 : x9 + 0 ≤ x8 ∧ x8 ≤ x9 + 4294967296) (f1 : 1 * x9 + ((-1) * all_0 (r_0 + 0) + 0) ≤ 0) (f2 : (-1) * x9 + (1 * all_0 (r_0 + 0) + 0) ≤ 0) (f17 : x9 ≤ x8) (f22 : GLE (r_2) (all_2) (left_2) (x2) (x3)) (f23 : GL1 (r_2) (all_2) (left_2) (x2) (x3)) (f24 : x2 ≤ x3) (f25 : GL2 (r_2) (all_2) (left_2) (x6) (x8)) (fe_0_5_1 : r_0 = r_1) (fe_0_99_1 : members_0 = members_1) (fe_0_5_2 : r_1 = r_2) (fe_0_99_2 : members_1 = members_2) (hE_0_2_1 : ∀ j : Int, all_0 j = all_1 j) (hE_0_2_2 : ∀ j : Int, all_1 j = all_2 j) (hE_0_22_1 : ∀ j : Int, left_0 j = left_1 j) (hE_0_22_2 : ∀ j : Int, 0 ≤ j → (j = x6 → left_1 j = x11) ∧ (j ≠ x6 → left_1 j = left_2 j)) (hE_0_97_2 : ∀ j : Int, best_1 j = best_2 j) (hE_0_98_1 : ∀ j : Int, member_0 j = member_1 j) (hE_0_98_2 : ∀ j : Int, member_1 j = member_2 j) (kz_0_99 : 0 ≤ members_0 ∧ members_0 ≤ 26) : GLE (r_0) (all_0) (left_0) (x13) (x3) := by
  subst fe_0_5_1
  subst fe_0_99_1
  subst fe_0_5_2
  subst fe_0_99_2
  have e_hE_0_2_1 := funext hE_0_2_1; subst e_hE_0_2_1
  have e_hE_0_2_2 := funext hE_0_2_2; subst e_hE_0_2_2
  have e_hE_0_22_1 := funext hE_0_22_1; subst e_hE_0_22_1
  have e_hE_0_97_2 := funext hE_0_97_2; subst e_hE_0_97_2
  have e_hE_0_98_1 := funext hE_0_98_1; subst e_hE_0_98_1
  have e_hE_0_98_2 := funext hE_0_98_2; subst e_hE_0_98_2
  try simp only [Int.add_zero] at *
  first
    | exact gle_step ‹GLE _ _ _ _ _› (gl1_ex ‹GL1 _ _ _ _ _› (by omega) ‹GL2 _ _ _ _ _› (by omega)) (by assumption) (by omega) (by omega) (by omega)
set_option maxHeartbeats 4000000 in
theorem vc_Mo_greedyOrder_6_2 (x2 : Int) (x3 : Int) (x4 : Int) (x5 : Int) (x6 : Int) (x8 : Int) (x9 : Int) (x11 : Int) (x13 : Int) (all_0 : Int → Int) (r_0 : Int) (member_0 : Int → Int) (members_0 : Int) (all_1 : Int → Int) (member_1 : Int → Int) (members_1 : Int) (r_1 : Int) (all_2 : Int → Int) (member_2 : Int → Int) (members_2 : Int) (r_2 : Int) (left_2 : Int → Int) (best_2 : Int → Int) (left_0 : Int → Int) (left_1 : Int → Int) (best_1 : Int → Int) (k2 : 0 ≤ x2 ∧ x2 ≤ 25) (k3 : 0 ≤ x3 ∧ x3 ≤ 25) (k6 : 0 ≤ x6 ∧ x6 ≤ 23) (k8 : 0 ≤ x8 ∧ x8 ≤ 24) (k9 : 0 ≤ x9 ∧ x9 ≤ 24) (k11 : 0 ≤ x11 ∧ x11 ≤ 0) (k13 : 1 ≤ x13 ∧ x13 ≤ 26) (d0 : x2 + 1 ≤ x13 ∧ x13 ≤ x2 + 1) (d2 : x9 + 0 ≤ x8 ∧ x8 ≤ x9 + 4294967296) (f1 : 1 * x9 + ((-1) * all_0 (r_0 + 0) + 0) ≤ 0) (f2 : (-1) * x9 + (1 * all_0 (r_0 + 0) + 0) ≤ 0) (f17 : x9 ≤ x8) (f23 : GL1 (r_2) (all_2) (left_2) (x2) (x3)) (f24 : x2 ≤ x3) (f25 : GL2 (r_2) (all_2) (left_2) (x6) (x8)) (fe_0_5_1 : r_0 = r_1) (fe_0_99_1 : members_0 = members_1) (fe_0_5_2 : r_1 = r_2) (fe_0_99_2 : members_1 = members_2) (hE_0_2_1 : ∀ j : Int, all_0 j = all_1 j) (hE_0_2_2 : ∀ j : Int, all_1 j = all_2 j) (hE_0_22_1 : ∀ j : Int, left_0 j = left_1 j) (hE_0_22_2 : ∀ j : Int, 0 ≤ j → (j = x6 → left_1 j = x11) ∧ (j ≠ x6 → left_1 j = left_2 j)) (hE_0_97_2 : ∀ j : Int, best_1 j = best_2 j) (hE_0_98_1 : ∀ j : Int, member_0 j = member_1 j) (hE_0_98_2 : ∀ j : Int, member_1 j = member_2 j) (kz_0_99 : 0 ≤ members_0 ∧ members_0 ≤ 26) : GL1 (r_0) (all_0) (left_0) (x13) (x3) := by
  subst fe_0_5_1
  subst fe_0_99_1
  subst fe_0_5_2
  subst fe_0_99_2
  have e_hE_0_2_1 := funext hE_0_2_1; subst e_hE_0_2_1
  have e_hE_0_2_2 := funext hE_0_2_2; subst e_hE_0_2_2
  have e_hE_0_22_1 := funext hE_0_22_1; subst e_hE_0_22_1
  have e_hE_0_97_2 := funext hE_0_97_2; subst e_hE_0_97_2
  have e_hE_0_98_1 := funext hE_0_98_1; subst e_hE_0_98_1
  have e_hE_0_98_2 := funext hE_0_98_2; subst e_hE_0_98_2
  try simp only [Int.add_zero] at *
  first
    | exact gl1_step ‹GL1 _ _ _ _ _› (gl1_ex ‹GL1 _ _ _ _ _› (by omega) ‹GL2 _ _ _ _ _› (by omega)) (by assumption) (by omega) (by omega) (by omega)
def o_Mo_greedyOrder_6 : or_T := (36, 14, [(0, (2, 0, 0, [165])), (1, (2, 0, 0, [165])), (2, (0, 0, 25, [])), (3, (0, 0, 25, [])), (4, (0, -1, -1, [])), (5, (0, -1, -1, [])), (6, (0, 0, 23, [])), (8, (0, 0, 24, [])), (9, (0, 0, 24, [])), (10, (2, 0, 0, [177])), (11, (0, 0, 0, [])), (12, (2, 0, 0, [233])), (13, (0, 1, 26, []))], [(6, [13, 2], [1]), (20, [9, 1], [30, 0, 1, 0, 0, -1, 3, 2005000]), (20, [9, 1], [30, 0, -1, 0, 0, 1, 3, 2005000]), (20, [1], [60, 2, 2, 348, 99, 5, 98, 2]), (20, [2, 3], [50, 0, 0, 0, 2, 1, 0, 1, 1]), (24, [0, 1], []), (100, [12, 2, 6], []), (9, [12, 1], [97]), (8, [4], [2]), (20, [9, 1], [30, 0, 1, 0, 0, -1, 3, 2005000]), (20, [9, 1], [30, 0, -1, 0, 0, 1, 3, 2005000]), (20, [1], [60, 2, 2, 348, 99, 5, 98, 2]), (20, [2, 3], [50, 0, 0, 0, 2, 1, 0, 1, 1]), (100, [10, 6, 11], []), (9, [10, 1], [22]), (8, [5], [2]), (8, [4], [2]), (7, [8, 9], [3]), (20, [9, 1], [30, 0, 1, 0, 0, -1, 3, 2005000]), (20, [9, 1], [30, 0, -1, 0, 0, 1, 3, 2005000]), (20, [1], [60, 2, 2, 348, 99, 5, 98, 2]), (20, [1, 2, 3], [60, 1, 3, 387, 99, 22, 97, 98]), (20, [1, 2, 3], [60, 1, 2, 388, 5, 2, 22]), (20, [1, 2, 3], [60, 1, 2, 382, 5, 2, 22]), (20, [2, 3], [50, 0, 0, 0, 2, 1, 0, 1, 1]), (20, [1, 6, 8], [60, 1, 2, 383, 5, 2, 22]), (20, [1, 4], [60, 1, 2, 384, 5, 2, 22]), (20, [1, 5], [60, 1, 2, 384, 5, 2, 22])], [], [], [(20, [1, 13, 3], [60, 1, 3, 387, 99, 22, 97, 98]), (20, [1, 13, 3], [60, 1, 2, 388, 5, 2, 22]), (20, [1, 13, 3], [60, 1, 2, 382, 5, 2, 22])], [], [(13, 2, 1, 1), (13, 3, -4294967296, 1), (8, 9, 0, 4294967296), (2, 3, -4294967296, 0), (6, 8, -4294967296, -1)])
theorem oo_Mo_greedyOrder_6 {kA : Nat → ClassId} : or_ok PRD kA GG o_Mo_greedyOrder_6 := by
  refine or_mk fun A ta ws vs hD hth hl => ?_
  intro t0 r0 t1 r1 t2 k2 t3 k3 t4 k4 t5 k5 t6 k6 t8 k8 t9 k9 t10 r10 t11 k11 t12 r12 t13 k13 d0 d1 d2 d3 d4 f0 f1 f2 f3 f4 f5 ta1 w1 le1 s1 f7 f8 f9 f10 f11 f12 ta2 w2 le2 s2 f14 f15 f16 f17 f18 f19 f20 f21 f22 f23 f24 f25 f26 f27
  replace f0 := shm_4 f0
  replace f1 := shm_126 f1
  replace f2 := shm_127 f2
  replace f5 := shm_5 f5
  have s1 : (∀ b j, w_el ws b j = if b = v_ad (n_v vs 12) ∧ j = (v_iv (n_v vs 2)).toNat then v_iv (n_v vs 6) else w_el w1 b j) ∧ ∀ b k, w_fd ws b k = w_fd w1 b k := s1.2
  replace f7 := shm_672 f7
  have s2 : (∀ b j, w_el w1 b j = if b = v_ad (n_v vs 10) ∧ j = (v_iv (n_v vs 6)).toNat then v_iv (n_v vs 11) else w_el w2 b j) ∧ ∀ b k, w_fd w1 b k = w_fd w2 b k := s2.2
  replace f14 := shm_1026 f14
  replace f17 := shm_2 f17
  replace f20 := shm_1637 f20
  replace f21 := shm_1640 f21
  replace f22 := shm_1641 f22
  replace f23 := shm_1642 f23
  replace f24 := shm_360 f24
  replace f25 := shm_1643 f25
  have q1 : n_v vs 1 = n_v vs 0 := f5.symm
  simp only [q1] at f1 f2 f7 f14 f20 f21 f22 f23 f25
  have ar_0_2_1 : w_ar w1 (n_v vs 0) 2 = w_ar ws (n_v vs 0) 2 := congrArg v_ad (s1.2 _ _).symm
  have ar_0_2_2 : w_ar w2 (n_v vs 0) 2 = w_ar ws (n_v vs 0) 2 := by rw [← ar_0_2_1]; show v_ad (w_fd w2 _ _) = v_ad (w_fd w1 _ _); rw [s2.2]
  have cr_0_2 := fdq_10 hD hth r0
  have ar_0_22_1 : w_ar w1 (n_v vs 0) 22 = w_ar ws (n_v vs 0) 22 := congrArg v_ad (s1.2 _ _).symm
  have ar_0_22_2 : w_ar w2 (n_v vs 0) 22 = w_ar ws (n_v vs 0) 22 := by rw [← ar_0_22_1]; show v_ad (w_fd w2 _ _) = v_ad (w_fd w1 _ _); rw [s2.2]
  have cr_0_22 := fdq_240 hD hth r0
  have ar_0_97_1 : w_ar w1 (n_v vs 0) 97 = w_ar ws (n_v vs 0) 97 := congrArg v_ad (s1.2 _ _).symm
  have ar_0_97_2 : w_ar w2 (n_v vs 0) 97 = w_ar ws (n_v vs 0) 97 := by rw [← ar_0_97_1]; show v_ad (w_fd w2 _ _) = v_ad (w_fd w1 _ _); rw [s2.2]
  have cr_0_97 := fdq_169 hD hth r0
  have ar_0_98_1 : w_ar w1 (n_v vs 0) 98 = w_ar ws (n_v vs 0) 98 := congrArg v_ad (s1.2 _ _).symm
  have ar_0_98_2 : w_ar w2 (n_v vs 0) 98 = w_ar ws (n_v vs 0) 98 := by rw [← ar_0_98_1]; show v_ad (w_fd w2 _ _) = v_ad (w_fd w1 _ _); rw [s2.2]
  have cr_0_98 := fdq_157 hD hth r0
  have ad_12 : v_ad (n_v vs 12) = w_ar ws (n_v vs 0) 97 := (congrArg v_ad f7).trans ar_0_97_1
  have ad_10 : v_ad (n_v vs 10) = w_ar ws (n_v vs 0) 22 := (congrArg v_ad f14).trans ar_0_22_2
  simp only [ar_0_2_1, ar_0_98_1, ar_0_2_2, ar_0_98_2, ar_0_22_2, ar_0_97_2] at f20 f21 f22 f23 f25
  have fe_0_5_1 : w_fi ws (n_v vs 0) 5 = w_fi w1 (n_v vs 0) 5 := congrArg v_iv (s1.2 _ _)
  have fe_0_99_1 : w_fi ws (n_v vs 0) 99 = w_fi w1 (n_v vs 0) 99 := congrArg v_iv (s1.2 _ _)
  have fe_0_5_2 : w_fi w1 (n_v vs 0) 5 = w_fi w2 (n_v vs 0) 5 := congrArg v_iv (s2.2 _ _)
  have fe_0_99_2 : w_fi w1 (n_v vs 0) 99 = w_fi w2 (n_v vs 0) 99 := congrArg v_iv (s2.2 _ _)
  have hE_0_2_1 : ∀ j : Int, w_ei ws (w_ar ws (n_v vs 0) 2) j = w_ei w1 (w_ar ws (n_v vs 0) 2) j := el_kp s1.1 r12 cr_0_2 (by decide)
  have hE_0_2_2 : ∀ j : Int, w_ei w1 (w_ar ws (n_v vs 0) 2) j = w_ei w2 (w_ar ws (n_v vs 0) 2) j := el_kp s2.1 r10 cr_0_2 (by decide)
  have hE_0_22_1 : ∀ j : Int, w_ei ws (w_ar ws (n_v vs 0) 22) j = w_ei w1 (w_ar ws (n_v vs 0) 22) j := el_kp s1.1 r12 cr_0_22 (by decide)
  have hE_0_22_2 : ∀ j : Int, 0 ≤ j → (j = v_iv (n_v vs 6) → w_ei w1 (w_ar ws (n_v vs 0) 22) j = v_iv (n_v vs 11)) ∧ (j ≠ v_iv (n_v vs 6) → w_ei w1 (w_ar ws (n_v vs 0) 22) j = w_ei w2 (w_ar ws (n_v vs 0) 22) j) := fun j hj => ⟨fun h => by unfold w_ei; rw [s2.1, if_pos ⟨ad_10.symm, by rw [h]⟩], fun h => by unfold w_ei; rw [s2.1, if_neg (fun e => h (by have := e.2; omega))]⟩
  have hE_0_97_1 : ∀ j : Int, 0 ≤ j → (j = v_iv (n_v vs 2) → w_ei ws (w_ar ws (n_v vs 0) 97) j = v_iv (n_v vs 6)) ∧ (j ≠ v_iv (n_v vs 2) → w_ei ws (w_ar ws (n_v vs 0) 97) j = w_ei w1 (w_ar ws (n_v vs 0) 97) j) := fun j hj => ⟨fun h => by unfold w_ei; rw [s1.1, if_pos ⟨ad_12.symm, by rw [h]⟩], fun h => by unfold w_ei; rw [s1.1, if_neg (fun e => h (by have := e.2; omega))]⟩
  have hE_0_97_2 : ∀ j : Int, w_ei w1 (w_ar ws (n_v vs 0) 97) j = w_ei w2 (w_ar ws (n_v vs 0) 97) j := el_kp s2.1 r10 cr_0_97 (by decide)
  have hE_0_98_1 : ∀ j : Int, w_ei ws (w_ar ws (n_v vs 0) 98) j = w_ei w1 (w_ar ws (n_v vs 0) 98) j := el_kp s1.1 r12 cr_0_98 (by decide)
  have hE_0_98_2 : ∀ j : Int, w_ei w1 (w_ar ws (n_v vs 0) 98) j = w_ei w2 (w_ar ws (n_v vs 0) 98) j := el_kp s2.1 r10 cr_0_98 (by decide)
  have kz_0_99 := fdq_158 hD hth r0
  have nf0 : fc_1 PRD (20, [1, 13, 3], [60, 1, 3, 387, 99, 22, 97, 98]) ws (vs) := by
    refine ⟨nf_in hl rfl, sgq_1640 ?_⟩
    · show GBE (w_fi ws (n_v vs 1) 99) (w_ei ws (w_ar ws (n_v vs 1) 22)) (w_ei ws (w_ar ws (n_v vs 1) 97)) (w_ei ws (w_ar ws (n_v vs 1) 98)) (v_iv (n_v vs 13)) (v_iv (n_v vs 3))
      rw [q1]
      exact vc_Mo_greedyOrder_6_0 (v_iv (n_v vs 2)) (v_iv (n_v vs 3)) (v_iv (n_v vs 6)) (v_iv (n_v vs 11)) (v_iv (n_v vs 13)) (w_ei ws (w_ar ws (n_v vs 0) 2)) (w_fi ws (n_v vs 0) 5) (w_ei ws (w_ar ws (n_v vs 0) 98)) (w_fi ws (n_v vs 0) 99) (w_ei w1 (w_ar ws (n_v vs 0) 2)) (w_ei w1 (w_ar ws (n_v vs 0) 98)) (w_fi w1 (n_v vs 0) 99) (w_fi w1 (n_v vs 0) 5) (w_ei w2 (w_ar ws (n_v vs 0) 2)) (w_ei w2 (w_ar ws (n_v vs 0) 98)) (w_fi w2 (n_v vs 0) 99) (w_fi w2 (n_v vs 0) 5) (w_ei w2 (w_ar ws (n_v vs 0) 22)) (w_ei w2 (w_ar ws (n_v vs 0) 97)) (w_ei ws (w_ar ws (n_v vs 0) 22)) (w_ei w1 (w_ar ws (n_v vs 0) 22)) (w_ei ws (w_ar ws (n_v vs 0) 97)) (w_ei w1 (w_ar ws (n_v vs 0) 97)) k2 k3 k6 k11 k13 f0 f20 f21 f24 fe_0_5_1 fe_0_99_1 fe_0_5_2 fe_0_99_2 hE_0_2_1 hE_0_2_2 hE_0_22_1 hE_0_22_2 hE_0_97_1 hE_0_97_2 hE_0_98_1 hE_0_98_2 kz_0_99
  have nf1 : fc_1 PRD (20, [1, 13, 3], [60, 1, 2, 388, 5, 2, 22]) ws (vs) := by
    refine ⟨nf_in hl rfl, sgq_1641 ?_⟩
    · show GLE (w_fi ws (n_v vs 1) 5) (w_ei ws (w_ar ws (n_v vs 1) 2)) (w_ei ws (w_ar ws (n_v vs 1) 22)) (v_iv (n_v vs 13)) (v_iv (n_v vs 3))
      rw [q1]
      exact vc_Mo_greedyOrder_6_1 (v_iv (n_v vs 2)) (v_iv (n_v vs 3)) (v_iv (n_v vs 4)) (v_iv (n_v vs 5)) (v_iv (n_v vs 6)) (v_iv (n_v vs 8)) (v_iv (n_v vs 9)) (v_iv (n_v vs 11)) (v_iv (n_v vs 13)) (w_ei ws (w_ar ws (n_v vs 0) 2)) (w_fi ws (n_v vs 0) 5) (w_ei ws (w_ar ws (n_v vs 0) 98)) (w_fi ws (n_v vs 0) 99) (w_ei w1 (w_ar ws (n_v vs 0) 2)) (w_ei w1 (w_ar ws (n_v vs 0) 98)) (w_fi w1 (n_v vs 0) 99) (w_fi w1 (n_v vs 0) 5) (w_ei w2 (w_ar ws (n_v vs 0) 2)) (w_ei w2 (w_ar ws (n_v vs 0) 98)) (w_fi w2 (n_v vs 0) 99) (w_fi w2 (n_v vs 0) 5) (w_ei w2 (w_ar ws (n_v vs 0) 22)) (w_ei w2 (w_ar ws (n_v vs 0) 97)) (w_ei ws (w_ar ws (n_v vs 0) 22)) (w_ei w1 (w_ar ws (n_v vs 0) 22)) (w_ei w1 (w_ar ws (n_v vs 0) 97)) k2 k3 k6 k8 k9 k11 k13 d0 d2 f1 f2 f17 f22 f23 f24 f25 fe_0_5_1 fe_0_99_1 fe_0_5_2 fe_0_99_2 hE_0_2_1 hE_0_2_2 hE_0_22_1 hE_0_22_2 hE_0_97_2 hE_0_98_1 hE_0_98_2 kz_0_99
  have nf2 : fc_1 PRD (20, [1, 13, 3], [60, 1, 2, 382, 5, 2, 22]) ws (vs) := by
    refine ⟨nf_in hl rfl, sgq_1642 ?_⟩
    · show GL1 (w_fi ws (n_v vs 1) 5) (w_ei ws (w_ar ws (n_v vs 1) 2)) (w_ei ws (w_ar ws (n_v vs 1) 22)) (v_iv (n_v vs 13)) (v_iv (n_v vs 3))
      rw [q1]
      exact vc_Mo_greedyOrder_6_2 (v_iv (n_v vs 2)) (v_iv (n_v vs 3)) (v_iv (n_v vs 4)) (v_iv (n_v vs 5)) (v_iv (n_v vs 6)) (v_iv (n_v vs 8)) (v_iv (n_v vs 9)) (v_iv (n_v vs 11)) (v_iv (n_v vs 13)) (w_ei ws (w_ar ws (n_v vs 0) 2)) (w_fi ws (n_v vs 0) 5) (w_ei ws (w_ar ws (n_v vs 0) 98)) (w_fi ws (n_v vs 0) 99) (w_ei w1 (w_ar ws (n_v vs 0) 2)) (w_ei w1 (w_ar ws (n_v vs 0) 98)) (w_fi w1 (n_v vs 0) 99) (w_fi w1 (n_v vs 0) 5) (w_ei w2 (w_ar ws (n_v vs 0) 2)) (w_ei w2 (w_ar ws (n_v vs 0) 98)) (w_fi w2 (n_v vs 0) 99) (w_fi w2 (n_v vs 0) 5) (w_ei w2 (w_ar ws (n_v vs 0) 22)) (w_ei w2 (w_ar ws (n_v vs 0) 97)) (w_ei ws (w_ar ws (n_v vs 0) 22)) (w_ei w1 (w_ar ws (n_v vs 0) 22)) (w_ei w1 (w_ar ws (n_v vs 0) 97)) k2 k3 k6 k8 k9 k11 k13 d0 d2 f1 f2 f17 f23 f24 f25 fe_0_5_1 fe_0_99_1 fe_0_5_2 fe_0_99_2 hE_0_2_1 hE_0_2_2 hE_0_22_1 hE_0_22_2 hE_0_97_2 hE_0_98_1 hE_0_98_2 kz_0_99
  refine ⟨(fun _ h => (by cases h)), [], trivial, ?_, (fun _ h => (by cases h))⟩
  rw [List.append_nil]
  exact List.forall_mem_cons.mpr ⟨⟨show (20 : Nat) < 100 from by decide, nf0⟩, List.forall_mem_cons.mpr ⟨⟨show (20 : Nat) < 100 from by decide, nf1⟩, List.forall_mem_cons.mpr ⟨⟨show (20 : Nat) < 100 from by decide, nf2⟩, (fun _ h => (by cases h))⟩⟩⟩
end
section

set_option maxHeartbeats 4000000 in
theorem vc_Mo_greedyOrder_7_0 (x2 : Int) (x3 : Int) (x5 : Int) (x11 : Int) (x13 : Int) (all_0 : Int → Int) (r_0 : Int) (member_0 : Int → Int) (members_0 : Int) (all_1 : Int → Int) (member_1 : Int → Int) (members_1 : Int) (r_1 : Int) (all_2 : Int → Int) (member_2 : Int → Int) (members_2 : Int) (r_2 : Int) (left_2 : Int → Int) (best_2 : Int → Int) (left_0 : Int → Int) (left_1 : Int → Int) (best_0 : Int → Int) (best_1 : Int → Int) (k2 : 0 ≤ x2 ∧ x2 ≤ 25) (k3 : 0 ≤ x3 ∧ x3 ≤ 25) (k5 : 0 ≤ x5 ∧ x5 ≤ 23) (k11 : 0 ≤ x11 ∧ x11 ≤ 0) (k13 : 1 ≤ x13 ∧ x13 ≤ 26) (f0 : x13 = x2 + 1) (f20 : MBN (members_2) (r_2) (member_2) (all_2)) (f21 : GBE (members_2) (left_2) (best_2) (member_2) (x2) (x3)) (f24 : x2 ≤ x3) (fe_0_5_1 : r_0 = r_1) (fe_0_99_1 : members_0 = members_1) (fe_0_5_2 : r_1 = r_2) (fe_0_99_2 : members_1 = members_2) (hE_0_2_1 : ∀ j : Int, all_0 j = all_1 j) (hE_0_2_2 : ∀ j : Int, all_1 j = all_2 j) (hE_0_22_1 : ∀ j : Int, left_0 j = left_1 j) (hE_0_22_2 : ∀ j : Int, 0 ≤ j → (j = x5 → left_1 j = x11) ∧ (j ≠ x5 → left_1 j = left_2 j)) (hE_0_97_1 : ∀ j : Int, 0 ≤ j → (j = x2 → best_0 j = x5) ∧ (j ≠ x2 → best_0 j = best_1 j)) (hE_0_97_2 : ∀ j : Int, best_1 j = best_2 j) (hE_0_98_1 : ∀ j : Int, member_0 j = member_1 j) (hE_0_98_2 : ∀ j : Int, member_1 j = member_2 j) (kz_0_99 : 0 ≤ members_0 ∧ members_0 ≤ 26) : GBE (members_0) (left_0) (best_0) (member_0) (x13) (x3) := by
  subst fe_0_5_1
  subst fe_0_99_1
  subst fe_0_5_2
  subst fe_0_99_2
  have e_hE_0_2_1 := funext hE_0_2_1; subst e_hE_0_2_1
  have e_hE_0_2_2 := funext hE_0_2_2; subst e_hE_0_2_2
  have e_hE_0_22_1 := funext hE_0_22_1; subst e_hE_0_22_1
  have e_hE_0_97_2 := funext hE_0_97_2; subst e_hE_0_97_2
  have e_hE_0_98_1 := funext hE_0_98_1; subst e_hE_0_98_1
  have e_hE_0_98_2 := funext hE_0_98_2; subst e_hE_0_98_2
  try simp only [Int.add_zero] at *
  first
    | exact gbe_step ‹GBE _ _ _ _ _ _› ‹MBN _ _ _ _› (by omega) (by assumption) rfl (by omega) (by assumption) rfl (Or.inr ⟨rfl, by omega, rfl⟩)
    | exact gbe_step ‹GBE _ _ _ _ _ _› ‹MBN _ _ _ _› (by omega) (by assumption) rfl (by omega) (by assumption) rfl (Or.inl ⟨rfl, by omega, rfl⟩)
set_option maxHeartbeats 4000000 in
theorem vc_Mo_greedyOrder_7_1 (x2 : Int) (x3 : Int) (x4 : Int) (x5 : Int) (x11 : Int) (x13 : Int) (all_0 : Int → Int) (r_0 : Int) (member_0 : Int → Int) (members_0 : Int) (all_1 : Int → Int) (member_1 : Int → Int) (members_1 : Int) (r_1 : Int) (all_2 : Int → Int) (member_2 : Int → Int) (members_2 : Int) (r_2 : Int) (left_2 : Int → Int) (best_2 : Int → Int) (left_0 : Int → Int) (left_1 : Int → Int) (best_1 : Int → Int) (k2 : 0 ≤ x2 ∧ x2 ≤ 25) (k3 : 0 ≤ x3 ∧ x3 ≤ 25) (k5 : 0 ≤ x5 ∧ x5 ≤ 23) (k11 : 0 ≤ x11 ∧ x11 ≤ 0) (k13 : 1 ≤ x13 ∧ x13 ≤ 26) (d0 : x2 + 1 ≤ x13 ∧ x13 ≤ x2 + 1) (f15 : 0 ≤ x5) (f22 : GLE (r_2) (all_2) (left_2) (x2) (x3)) (f27 : GL3 (r_2) (all_2) (left_2) (x5)) (fe_0_5_1 : r_0 = r_1) (fe_0_99_1 : members_0 = members_1) (fe_0_5_2 : r_1 = r_2) (fe_0_99_2 : members_1 = members_2) (hE_0_2_1 : ∀ j : Int, all_0 j = all_1 j) (hE_0_2_2 : ∀ j : Int, all_1 j = all_2 j) (hE_0_22_1 : ∀ j : Int, left_0 j = left_1 j) (hE_0_22_2 : ∀ j : Int, 0 ≤ j → (j = x5 → left_1 j = x11) ∧ (j ≠ x5 → left_1 j = left_2 j)) (hE_0_97_2 : ∀ j : Int, best_1 j = best_2 j) (hE_0_98_1 : ∀ j : Int, member_0 j = member_1 j) (hE_0_98_2 : ∀ j : Int, member_1 j = member_2 j) (kz_0_99 : 0 ≤ members_0 ∧ members_0 ≤ 26) : GLE (r_0) (all_0) (left_0) (x13) (x3) := by
  subst fe_0_5_1
  subst fe_0_99_1
  subst fe_0_5_2
  subst fe_0_99_2
  have e_hE_0_2_1 := funext hE_0_2_1; subst e_hE_0_2_1
  have e_hE_0_2_2 := funext hE_0_2_2; subst e_hE_0_2_2
  have e_hE_0_22_1 := funext hE_0_22_1; subst e_hE_0_22_1
  have e_hE_0_97_2 := funext hE_0_97_2; subst e_hE_0_97_2
  have e_hE_0_98_1 := funext hE_0_98_1; subst e_hE_0_98_1
  have e_hE_0_98_2 := funext hE_0_98_2; subst e_hE_0_98_2
  try simp only [Int.add_zero] at *
  first
    | exact gle_step ‹GLE _ _ _ _ _› (gl3_of (x := x4) (by assumption) (by omega)) (by assumption) (by omega) (by omega) (by omega)
    | exact gle_step ‹GLE _ _ _ _ _› (gl3_of (x := x5) (by assumption) (by omega)) (by assumption) (by omega) (by omega) (by omega)
set_option maxHeartbeats 4000000 in
theorem vc_Mo_greedyOrder_7_2 (x2 : Int) (x3 : Int) (x4 : Int) (x5 : Int) (x11 : Int) (x13 : Int) (all_0 : Int → Int) (r_0 : Int) (member_0 : Int → Int) (members_0 : Int) (all_1 : Int → Int) (member_1 : Int → Int) (members_1 : Int) (r_1 : Int) (all_2 : Int → Int) (member_2 : Int → Int) (members_2 : Int) (r_2 : Int) (left_2 : Int → Int) (best_2 : Int → Int) (left_0 : Int → Int) (left_1 : Int → Int) (best_1 : Int → Int) (k2 : 0 ≤ x2 ∧ x2 ≤ 25) (k3 : 0 ≤ x3 ∧ x3 ≤ 25) (k5 : 0 ≤ x5 ∧ x5 ≤ 23) (k11 : 0 ≤ x11 ∧ x11 ≤ 0) (k13 : 1 ≤ x13 ∧ x13 ≤ 26) (d0 : x2 + 1 ≤ x13 ∧ x13 ≤ x2 + 1) (f15 : 0 ≤ x5) (f23 : GL1 (r_2) (all_2) (left_2) (x2) (x3)) (f27 : GL3 (r_2) (all_2) (left_2) (x5)) (fe_0_5_1 : r_0 = r_1) (fe_0_99_1 : members_0 = members_1) (fe_0_5_2 : r_1 = r_2) (fe_0_99_2 : members_1 = members_2) (hE_0_2_1 : ∀ j : Int, all_0 j = all_1 j) (hE_0_2_2 : ∀ j : Int, all_1 j = all_2 j) (hE_0_22_1 : ∀ j : Int, left_0 j = left_1 j) (hE_0_22_2 : ∀ j : Int, 0 ≤ j → (j = x5 → left_1 j = x11) ∧ (j ≠ x5 → left_1 j = left_2 j)) (hE_0_97_2 : ∀ j : Int, best_1 j = best_2 j) (hE_0_98_1 : ∀ j : Int, member_0 j = member_1 j) (hE_0_98_2 : ∀ j : Int, member_1 j = member_2 j) (kz_0_99 : 0 ≤ members_0 ∧ members_0 ≤ 26) : GL1 (r_0) (all_0) (left_0) (x13) (x3) := by
  subst fe_0_5_1
  subst fe_0_99_1
  subst fe_0_5_2
  subst fe_0_99_2
  have e_hE_0_2_1 := funext hE_0_2_1; subst e_hE_0_2_1
  have e_hE_0_2_2 := funext hE_0_2_2; subst e_hE_0_2_2
  have e_hE_0_22_1 := funext hE_0_22_1; subst e_hE_0_22_1
  have e_hE_0_97_2 := funext hE_0_97_2; subst e_hE_0_97_2
  have e_hE_0_98_1 := funext hE_0_98_1; subst e_hE_0_98_1
  have e_hE_0_98_2 := funext hE_0_98_2; subst e_hE_0_98_2
  try simp only [Int.add_zero] at *
  first
    | exact gl1_step ‹GL1 _ _ _ _ _› (gl3_of (x := x4) (by assumption) (by omega)) (by assumption) (by omega) (by omega) (by omega)
    | exact gl1_step ‹GL1 _ _ _ _ _› (gl3_of (x := x5) (by assumption) (by omega)) (by assumption) (by omega) (by omega) (by omega)
def o_Mo_greedyOrder_7 : or_T := (36, 14, [(0, (2, 0, 0, [165])), (1, (2, 0, 0, [165])), (2, (0, 0, 25, [])), (3, (0, 0, 25, [])), (4, (0, -1, -1, [])), (5, (0, 0, 23, [])), (6, (0, -1, 23, [])), (8, (0, 1, 24, [])), (9, (0, 0, 24, [])), (10, (2, 0, 0, [177])), (11, (0, 0, 0, [])), (12, (2, 0, 0, [233])), (13, (0, 1, 26, []))], [(6, [13, 2], [1]), (20, [9, 1], [30, 0, 1, 0, 0, -1, 3, 2005000]), (20, [9, 1], [30, 0, -1, 0, 0, 1, 3, 2005000]), (20, [1], [60, 2, 2, 348, 99, 5, 98, 2]), (20, [2, 3], [50, 0, 0, 0, 2, 1, 0, 1, 1]), (24, [0, 1], []), (100, [12, 2, 5], []), (9, [12, 1], [97]), (8, [4], [2]), (20, [9, 1], [30, 0, 1, 0, 0, -1, 3, 2005000]), (20, [9, 1], [30, 0, -1, 0, 0, 1, 3, 2005000]), (20, [1], [60, 2, 2, 348, 99, 5, 98, 2]), (20, [2, 3], [50, 0, 0, 0, 2, 1, 0, 1, 1]), (100, [10, 5, 11], []), (9, [10, 1], [22]), (8, [5], [3]), (8, [4], [2]), (7, [8, 9], [3]), (20, [9, 1], [30, 0, 1, 0, 0, -1, 3, 2005000]), (20, [9, 1], [30, 0, -1, 0, 0, 1, 3, 2005000]), (20, [1], [60, 2, 2, 348, 99, 5, 98, 2]), (20, [1, 2, 3], [60, 1, 3, 387, 99, 22, 97, 98]), (20, [1, 2, 3], [60, 1, 2, 388, 5, 2, 22]), (20, [1, 2, 3], [60, 1, 2, 382, 5, 2, 22]), (20, [2, 3], [50, 0, 0, 0, 2, 1, 0, 1, 1]), (20, [1, 6, 8], [60, 1, 2, 383, 5, 2, 22]), (20, [1, 4], [60, 1, 2, 384, 5, 2, 22]), (20, [1, 5], [60, 1, 2, 384, 5, 2, 22])], [], [], [(20, [1, 13, 3], [60, 1, 3, 387, 99, 22, 97, 98]), (20, [1, 13, 3], [60, 1, 2, 388, 5, 2, 22]), (20, [1, 13, 3], [60, 1, 2, 382, 5, 2, 22])], [], [(13, 2, 1, 1), (13, 3, -4294967296, 1), (8, 9, 0, 4294967296), (2, 3, -4294967296, 0), (5, 8, -4294967296, -1), (6, 8, -4294967296, -1)])
theorem oo_Mo_greedyOrder_7 {kA : Nat → ClassId} : or_ok PRD kA GG o_Mo_greedyOrder_7 := by
  refine or_mk fun A ta ws vs hD hth hl => ?_
  intro t0 r0 t1 r1 t2 k2 t3 k3 t4 k4 t5 k5 t6 k6 t8 k8 t9 k9 t10 r10 t11 k11 t12 r12 t13 k13 d0 d1 d2 d3 d4 d5 f0 f1 f2 f3 f4 f5 ta1 w1 le1 s1 f7 f8 f9 f10 f11 f12 ta2 w2 le2 s2 f14 f15 f16 f17 f18 f19 f20 f21 f22 f23 f24 f25 f26 f27
  replace f0 := shm_4 f0
  replace f5 := shm_5 f5
  have s1 : (∀ b j, w_el ws b j = if b = v_ad (n_v vs 12) ∧ j = (v_iv (n_v vs 2)).toNat then v_iv (n_v vs 5) else w_el w1 b j) ∧ ∀ b k, w_fd ws b k = w_fd w1 b k := s1.2
  replace f7 := shm_672 f7
  have s2 : (∀ b j, w_el w1 b j = if b = v_ad (n_v vs 10) ∧ j = (v_iv (n_v vs 5)).toNat then v_iv (n_v vs 11) else w_el w2 b j) ∧ ∀ b k, w_fd w1 b k = w_fd w2 b k := s2.2
  replace f14 := shm_1026 f14
  replace f15 := shm_32 f15
  replace f20 := shm_1637 f20
  replace f21 := shm_1640 f21
  replace f22 := shm_1641 f22
  replace f23 := shm_1642 f23
  replace f24 := shm_360 f24
  replace f27 := shm_1644 f27
  have q1 : n_v vs 1 = n_v vs 0 := f5.symm
  simp only [q1] at f7 f14 f20 f21 f22 f23 f27
  have ar_0_2_1 : w_ar w1 (n_v vs 0) 2 = w_ar ws (n_v vs 0) 2 := congrArg v_ad (s1.2 _ _).symm
  have ar_0_2_2 : w_ar w2 (n_v vs 0) 2 = w_ar ws (n_v vs 0) 2 := by rw [← ar_0_2_1]; show v_ad (w_fd w2 _ _) = v_ad (w_fd w1 _ _); rw [s2.2]
  have cr_0_2 := fdq_10 hD hth r0
  have ar_0_22_1 : w_ar w1 (n_v vs 0) 22 = w_ar ws (n_v vs 0) 22 := congrArg v_ad (s1.2 _ _).symm
  have ar_0_22_2 : w_ar w2 (n_v vs 0) 22 = w_ar ws (n_v vs 0) 22 := by rw [← ar_0_22_1]; show v_ad (w_fd w2 _ _) = v_ad (w_fd w1 _ _); rw [s2.2]
  have cr_0_22 := fdq_240 hD hth r0
  have ar_0_97_1 : w_ar w1 (n_v vs 0) 97 = w_ar ws (n_v vs 0) 97 := congrArg v_ad (s1.2 _ _).symm
  have ar_0_97_2 : w_ar w2 (n_v vs 0) 97 = w_ar ws (n_v vs 0) 97 := by rw [← ar_0_97_1]; show v_ad (w_fd w2 _ _) = v_ad (w_fd w1 _ _); rw [s2.2]
  have cr_0_97 := fdq_169 hD hth r0
  have ar_0_98_1 : w_ar w1 (n_v vs 0) 98 = w_ar ws (n_v vs 0) 98 := congrArg v_ad (s1.2 _ _).symm
  have ar_0_98_2 : w_ar w2 (n_v vs 0) 98 = w_ar ws (n_v vs 0) 98 := by rw [← ar_0_98_1]; show v_ad (w_fd w2 _ _) = v_ad (w_fd w1 _ _); rw [s2.2]
  have cr_0_98 := fdq_157 hD hth r0
  have ad_12 : v_ad (n_v vs 12) = w_ar ws (n_v vs 0) 97 := (congrArg v_ad f7).trans ar_0_97_1
  have ad_10 : v_ad (n_v vs 10) = w_ar ws (n_v vs 0) 22 := (congrArg v_ad f14).trans ar_0_22_2
  simp only [ar_0_2_1, ar_0_98_1, ar_0_2_2, ar_0_98_2, ar_0_22_2, ar_0_97_2] at f20 f21 f22 f23 f27
  have fe_0_5_1 : w_fi ws (n_v vs 0) 5 = w_fi w1 (n_v vs 0) 5 := congrArg v_iv (s1.2 _ _)
  have fe_0_99_1 : w_fi ws (n_v vs 0) 99 = w_fi w1 (n_v vs 0) 99 := congrArg v_iv (s1.2 _ _)
  have fe_0_5_2 : w_fi w1 (n_v vs 0) 5 = w_fi w2 (n_v vs 0) 5 := congrArg v_iv (s2.2 _ _)
  have fe_0_99_2 : w_fi w1 (n_v vs 0) 99 = w_fi w2 (n_v vs 0) 99 := congrArg v_iv (s2.2 _ _)
  have hE_0_2_1 : ∀ j : Int, w_ei ws (w_ar ws (n_v vs 0) 2) j = w_ei w1 (w_ar ws (n_v vs 0) 2) j := el_kp s1.1 r12 cr_0_2 (by decide)
  have hE_0_2_2 : ∀ j : Int, w_ei w1 (w_ar ws (n_v vs 0) 2) j = w_ei w2 (w_ar ws (n_v vs 0) 2) j := el_kp s2.1 r10 cr_0_2 (by decide)
  have hE_0_22_1 : ∀ j : Int, w_ei ws (w_ar ws (n_v vs 0) 22) j = w_ei w1 (w_ar ws (n_v vs 0) 22) j := el_kp s1.1 r12 cr_0_22 (by decide)
  have hE_0_22_2 : ∀ j : Int, 0 ≤ j → (j = v_iv (n_v vs 5) → w_ei w1 (w_ar ws (n_v vs 0) 22) j = v_iv (n_v vs 11)) ∧ (j ≠ v_iv (n_v vs 5) → w_ei w1 (w_ar ws (n_v vs 0) 22) j = w_ei w2 (w_ar ws (n_v vs 0) 22) j) := fun j hj => ⟨fun h => by unfold w_ei; rw [s2.1, if_pos ⟨ad_10.symm, by rw [h]⟩], fun h => by unfold w_ei; rw [s2.1, if_neg (fun e => h (by have := e.2; omega))]⟩
  have hE_0_97_1 : ∀ j : Int, 0 ≤ j → (j = v_iv (n_v vs 2) → w_ei ws (w_ar ws (n_v vs 0) 97) j = v_iv (n_v vs 5)) ∧ (j ≠ v_iv (n_v vs 2) → w_ei ws (w_ar ws (n_v vs 0) 97) j = w_ei w1 (w_ar ws (n_v vs 0) 97) j) := fun j hj => ⟨fun h => by unfold w_ei; rw [s1.1, if_pos ⟨ad_12.symm, by rw [h]⟩], fun h => by unfold w_ei; rw [s1.1, if_neg (fun e => h (by have := e.2; omega))]⟩
  have hE_0_97_2 : ∀ j : Int, w_ei w1 (w_ar ws (n_v vs 0) 97) j = w_ei w2 (w_ar ws (n_v vs 0) 97) j := el_kp s2.1 r10 cr_0_97 (by decide)
  have hE_0_98_1 : ∀ j : Int, w_ei ws (w_ar ws (n_v vs 0) 98) j = w_ei w1 (w_ar ws (n_v vs 0) 98) j := el_kp s1.1 r12 cr_0_98 (by decide)
  have hE_0_98_2 : ∀ j : Int, w_ei w1 (w_ar ws (n_v vs 0) 98) j = w_ei w2 (w_ar ws (n_v vs 0) 98) j := el_kp s2.1 r10 cr_0_98 (by decide)
  have kz_0_99 := fdq_158 hD hth r0
  have nf0 : fc_1 PRD (20, [1, 13, 3], [60, 1, 3, 387, 99, 22, 97, 98]) ws (vs) := by
    refine ⟨nf_in hl rfl, sgq_1640 ?_⟩
    · show GBE (w_fi ws (n_v vs 1) 99) (w_ei ws (w_ar ws (n_v vs 1) 22)) (w_ei ws (w_ar ws (n_v vs 1) 97)) (w_ei ws (w_ar ws (n_v vs 1) 98)) (v_iv (n_v vs 13)) (v_iv (n_v vs 3))
      rw [q1]
      exact vc_Mo_greedyOrder_7_0 (v_iv (n_v vs 2)) (v_iv (n_v vs 3)) (v_iv (n_v vs 5)) (v_iv (n_v vs 11)) (v_iv (n_v vs 13)) (w_ei ws (w_ar ws (n_v vs 0) 2)) (w_fi ws (n_v vs 0) 5) (w_ei ws (w_ar ws (n_v vs 0) 98)) (w_fi ws (n_v vs 0) 99) (w_ei w1 (w_ar ws (n_v vs 0) 2)) (w_ei w1 (w_ar ws (n_v vs 0) 98)) (w_fi w1 (n_v vs 0) 99) (w_fi w1 (n_v vs 0) 5) (w_ei w2 (w_ar ws (n_v vs 0) 2)) (w_ei w2 (w_ar ws (n_v vs 0) 98)) (w_fi w2 (n_v vs 0) 99) (w_fi w2 (n_v vs 0) 5) (w_ei w2 (w_ar ws (n_v vs 0) 22)) (w_ei w2 (w_ar ws (n_v vs 0) 97)) (w_ei ws (w_ar ws (n_v vs 0) 22)) (w_ei w1 (w_ar ws (n_v vs 0) 22)) (w_ei ws (w_ar ws (n_v vs 0) 97)) (w_ei w1 (w_ar ws (n_v vs 0) 97)) k2 k3 k5 k11 k13 f0 f20 f21 f24 fe_0_5_1 fe_0_99_1 fe_0_5_2 fe_0_99_2 hE_0_2_1 hE_0_2_2 hE_0_22_1 hE_0_22_2 hE_0_97_1 hE_0_97_2 hE_0_98_1 hE_0_98_2 kz_0_99
  have nf1 : fc_1 PRD (20, [1, 13, 3], [60, 1, 2, 388, 5, 2, 22]) ws (vs) := by
    refine ⟨nf_in hl rfl, sgq_1641 ?_⟩
    · show GLE (w_fi ws (n_v vs 1) 5) (w_ei ws (w_ar ws (n_v vs 1) 2)) (w_ei ws (w_ar ws (n_v vs 1) 22)) (v_iv (n_v vs 13)) (v_iv (n_v vs 3))
      rw [q1]
      exact vc_Mo_greedyOrder_7_1 (v_iv (n_v vs 2)) (v_iv (n_v vs 3)) (v_iv (n_v vs 4)) (v_iv (n_v vs 5)) (v_iv (n_v vs 11)) (v_iv (n_v vs 13)) (w_ei ws (w_ar ws (n_v vs 0) 2)) (w_fi ws (n_v vs 0) 5) (w_ei ws (w_ar ws (n_v vs 0) 98)) (w_fi ws (n_v vs 0) 99) (w_ei w1 (w_ar ws (n_v vs 0) 2)) (w_ei w1 (w_ar ws (n_v vs 0) 98)) (w_fi w1 (n_v vs 0) 99) (w_fi w1 (n_v vs 0) 5) (w_ei w2 (w_ar ws (n_v vs 0) 2)) (w_ei w2 (w_ar ws (n_v vs 0) 98)) (w_fi w2 (n_v vs 0) 99) (w_fi w2 (n_v vs 0) 5) (w_ei w2 (w_ar ws (n_v vs 0) 22)) (w_ei w2 (w_ar ws (n_v vs 0) 97)) (w_ei ws (w_ar ws (n_v vs 0) 22)) (w_ei w1 (w_ar ws (n_v vs 0) 22)) (w_ei w1 (w_ar ws (n_v vs 0) 97)) k2 k3 k5 k11 k13 d0 f15 f22 f27 fe_0_5_1 fe_0_99_1 fe_0_5_2 fe_0_99_2 hE_0_2_1 hE_0_2_2 hE_0_22_1 hE_0_22_2 hE_0_97_2 hE_0_98_1 hE_0_98_2 kz_0_99
  have nf2 : fc_1 PRD (20, [1, 13, 3], [60, 1, 2, 382, 5, 2, 22]) ws (vs) := by
    refine ⟨nf_in hl rfl, sgq_1642 ?_⟩
    · show GL1 (w_fi ws (n_v vs 1) 5) (w_ei ws (w_ar ws (n_v vs 1) 2)) (w_ei ws (w_ar ws (n_v vs 1) 22)) (v_iv (n_v vs 13)) (v_iv (n_v vs 3))
      rw [q1]
      exact vc_Mo_greedyOrder_7_2 (v_iv (n_v vs 2)) (v_iv (n_v vs 3)) (v_iv (n_v vs 4)) (v_iv (n_v vs 5)) (v_iv (n_v vs 11)) (v_iv (n_v vs 13)) (w_ei ws (w_ar ws (n_v vs 0) 2)) (w_fi ws (n_v vs 0) 5) (w_ei ws (w_ar ws (n_v vs 0) 98)) (w_fi ws (n_v vs 0) 99) (w_ei w1 (w_ar ws (n_v vs 0) 2)) (w_ei w1 (w_ar ws (n_v vs 0) 98)) (w_fi w1 (n_v vs 0) 99) (w_fi w1 (n_v vs 0) 5) (w_ei w2 (w_ar ws (n_v vs 0) 2)) (w_ei w2 (w_ar ws (n_v vs 0) 98)) (w_fi w2 (n_v vs 0) 99) (w_fi w2 (n_v vs 0) 5) (w_ei w2 (w_ar ws (n_v vs 0) 22)) (w_ei w2 (w_ar ws (n_v vs 0) 97)) (w_ei ws (w_ar ws (n_v vs 0) 22)) (w_ei w1 (w_ar ws (n_v vs 0) 22)) (w_ei w1 (w_ar ws (n_v vs 0) 97)) k2 k3 k5 k11 k13 d0 f15 f23 f27 fe_0_5_1 fe_0_99_1 fe_0_5_2 fe_0_99_2 hE_0_2_1 hE_0_2_2 hE_0_22_1 hE_0_22_2 hE_0_97_2 hE_0_98_1 hE_0_98_2 kz_0_99
  refine ⟨(fun _ h => (by cases h)), [], trivial, ?_, (fun _ h => (by cases h))⟩
  rw [List.append_nil]
  exact List.forall_mem_cons.mpr ⟨⟨show (20 : Nat) < 100 from by decide, nf0⟩, List.forall_mem_cons.mpr ⟨⟨show (20 : Nat) < 100 from by decide, nf1⟩, List.forall_mem_cons.mpr ⟨⟨show (20 : Nat) < 100 from by decide, nf2⟩, (fun _ h => (by cases h))⟩⟩⟩
set_option maxHeartbeats 4000000 in
theorem vc_Mo_greedyOrder_8_0 (x2 : Int) (x3 : Int) (x4 : Int) (x11 : Int) (x13 : Int) (all_0 : Int → Int) (r_0 : Int) (member_0 : Int → Int) (members_0 : Int) (all_1 : Int → Int) (member_1 : Int → Int) (members_1 : Int) (r_1 : Int) (all_2 : Int → Int) (member_2 : Int → Int) (members_2 : Int) (r_2 : Int) (left_2 : Int → Int) (best_2 : Int → Int) (left_0 : Int → Int) (left_1 : Int → Int) (best_0 : Int → Int) (best_1 : Int → Int) (k2 : 0 ≤ x2 ∧ x2 ≤ 25) (k3 : 0 ≤ x3 ∧ x3 ≤ 25) (k4 : 0 ≤ x4 ∧ x4 ≤ 23) (k11 : 0 ≤ x11 ∧ x11 ≤ 0) (k13 : (-1) ≤ x13 ∧ x13 ≤ 24) (d0 : x3 + (-1) ≤ x13 ∧ x13 ≤ x3 + (-1)) (f19 : MBN (members_2) (r_2) (member_2) (all_2)) (f20 : GBE (members_2) (left_2) (best_2) (member_2) (x2) (x3)) (f23 : x2 ≤ x3) (fe_0_5_1 : r_0 = r_1) (fe_0_99_1 : members_0 = members_1) (fe_0_5_2 : r_1 = r_2) (fe_0_99_2 : members_1 = members_2) (hE_0_2_1 : ∀ j : Int, all_0 j = all_1 j) (hE_0_2_2 : ∀ j : Int, all_1 j = all_2 j) (hE_0_22_1 : ∀ j : Int, left_0 j = left_1 j) (hE_0_22_2 : ∀ j : Int, 0 ≤ j → (j = x4 → left_1 j = x11) ∧ (j ≠ x4 → left_1 j = left_2 j)) (hE_0_97_1 : ∀ j : Int, 0 ≤ j → (j = x3 → best_0 j = x4) ∧ (j ≠ x3 → best_0 j = best_1 j)) (hE_0_97_2 : ∀ j : Int, best_1 j = best_2 j) (hE_0_98_1 : ∀ j : Int, member_0 j = member_1 j) (hE_0_98_2 : ∀ j : Int, member_1 j = member_2 j) (kz_0_99 : 0 ≤ members_0 ∧ members_0 ≤ 26) : GBE (members_0) (left_0) (best_0) (member_0) (x2) (x13) := by
  subst fe_0_5_1
  subst fe_0_99_1
  subst fe_0_5_2
  subst fe_0_99_2
  have e_hE_0_2_1 := funext hE_0_2_1; subst e_hE_0_2_1
  have e_hE_0_2_2 := funext hE_0_2_2; subst e_hE_0_2_2
  have e_hE_0_22_1 := funext hE_0_22_1; subst e_hE_0_22_1
  have e_hE_0_97_2 := funext hE_0_97_2; subst e_hE_0_97_2
  have e_hE_0_98_1 := funext hE_0_98_1; subst e_hE_0_98_1
  have e_hE_0_98_2 := funext hE_0_98_2; subst e_hE_0_98_2
  try simp only [Int.add_zero] at *
  first
    | exact gbe_step ‹GBE _ _ _ _ _ _› ‹MBN _ _ _ _› (by omega) (by assumption) rfl (by omega) (by assumption) rfl (Or.inr ⟨rfl, by omega, rfl⟩)
    | exact gbe_step ‹GBE _ _ _ _ _ _› ‹MBN _ _ _ _› (by omega) (by assumption) rfl (by omega) (by assumption) rfl (Or.inl ⟨rfl, by omega, rfl⟩)
set_option maxHeartbeats 4000000 in
theorem vc_Mo_greedyOrder_8_1 (x2 : Int) (x3 : Int) (x4 : Int) (x5 : Int) (x11 : Int) (x13 : Int) (all_0 : Int → Int) (r_0 : Int) (member_0 : Int → Int) (members_0 : Int) (all_1 : Int → Int) (member_1 : Int → Int) (members_1 : Int) (r_1 : Int) (all_2 : Int → Int) (member_2 : Int → Int) (members_2 : Int) (r_2 : Int) (left_2 : Int → Int) (best_2 : Int → Int) (left_0 : Int → Int) (left_1 : Int → Int) (best_1 : Int → Int) (k2 : 0 ≤ x2 ∧ x2 ≤ 25) (k3 : 0 ≤ x3 ∧ x3 ≤ 25) (k4 : 0 ≤ x4 ∧ x4 ≤ 23) (k11 : 0 ≤ x11 ∧ x11 ≤ 0) (k13 : (-1) ≤ x13 ∧ x13 ≤ 24) (d0 : x3 + (-1) ≤ x13 ∧ x13 ≤ x3 + (-1)) (f15 : 0 ≤ x4) (f21 : GLE (r_2) (all_2) (left_2) (x2) (x3)) (f25 : GL3 (r_2) (all_2) (left_2) (x4)) (fe_0_5_1 : r_0 = r_1) (fe_0_99_1 : members_0 = members_1) (fe_0_5_2 : r_1 = r_2) (fe_0_99_2 : members_1 = members_2) (hE_0_2_1 : ∀ j : Int, all_0 j = all_1 j) (hE_0_2_2 : ∀ j : Int, all_1 j = all_2 j) (hE_0_22_1 : ∀ j : Int, left_0 j = left_1 j) (hE_0_22_2 : ∀ j : Int, 0 ≤ j → (j = x4 → left_1 j = x11) ∧ (j ≠ x4 → left_1 j = left_2 j)) (hE_0_97_2 : ∀ j : Int, best_1 j = best_2 j) (hE_0_98_1 : ∀ j : Int, member_0 j = member_1 j) (hE_0_98_2 : ∀ j : Int, member_1 j = member_2 j) (kz_0_99 : 0 ≤ members_0 ∧ members_0 ≤ 26) : GLE (r_0) (all_0) (left_0) (x2) (x13) := by
  subst fe_0_5_1
  subst fe_0_99_1
  subst fe_0_5_2
  subst fe_0_99_2
  have e_hE_0_2_1 := funext hE_0_2_1; subst e_hE_0_2_1
  have e_hE_0_2_2 := funext hE_0_2_2; subst e_hE_0_2_2
  have e_hE_0_22_1 := funext hE_0_22_1; subst e_hE_0_22_1
  have e_hE_0_97_2 := funext hE_0_97_2; subst e_hE_0_97_2
  have e_hE_0_98_1 := funext hE_0_98_1; subst e_hE_0_98_1
  have e_hE_0_98_2 := funext hE_0_98_2; subst e_hE_0_98_2
  try simp only [Int.add_zero] at *
  first
    | exact gle_step ‹GLE _ _ _ _ _› (gl3_of (x := x4) (by assumption) (by omega)) (by assumption) (by omega) (by omega) (by omega)
    | exact gle_step ‹GLE _ _ _ _ _› (gl3_of (x := x5) (by assumption) (by omega)) (by assumption) (by omega) (by omega) (by omega)
set_option maxHeartbeats 4000000 in
theorem vc_Mo_greedyOrder_8_2 (x2 : Int) (x3 : Int) (x4 : Int) (x5 : Int) (x11 : Int) (x13 : Int) (all_0 : Int → Int) (r_0 : Int) (member_0 : Int → Int) (members_0 : Int) (all_1 : Int → Int) (member_1 : Int → Int) (members_1 : Int) (r_1 : Int) (all_2 : Int → Int) (member_2 : Int → Int) (members_2 : Int) (r_2 : Int) (left_2 : Int → Int) (best_2 : Int → Int) (left_0 : Int → Int) (left_1 : Int → Int) (best_1 : Int → Int) (k2 : 0 ≤ x2 ∧ x2 ≤ 25) (k3 : 0 ≤ x3 ∧ x3 ≤ 25) (k4 : 0 ≤ x4 ∧ x4 ≤ 23) (k11 : 0 ≤ x11 ∧ x11 ≤ 0) (k13 : (-1) ≤ x13 ∧ x13 ≤ 24) (d0 : x3 + (-1) ≤ x13 ∧ x13 ≤ x3 + (-1)) (f15 : 0 ≤ x4) (f22 : GL1 (r_2) (all_2) (left_2) (x2) (x3)) (f25 : GL3 (r_2) (all_2) (left_2) (x4)) (fe_0_5_1 : r_0 = r_1) (fe_0_99_1 : members_0 = members_1) (fe_0_5_2 : r_1 = r_2) (fe_0_99_2 : members_1 = members_2) (hE_0_2_1 : ∀ j : Int, all_0 j = all_1 j) (hE_0_2_2 : ∀ j : Int, all_1 j = all_2 j) (hE_0_22_1 : ∀ j : Int, left_0 j = left_1 j) (hE_0_22_2 : ∀ j : Int, 0 ≤ j → (j = x4 → left_1 j = x11) ∧ (j ≠ x4 → left_1 j = left_2 j)) (hE_0_97_2 : ∀ j : Int, best_1 j = best_2 j) (hE_0_98_1 : ∀ j : Int, member_0 j = member_1 j) (hE_0_98_2 : ∀ j : Int, member_1 j = member_2 j) (kz_0_99 : 0 ≤ members_0 ∧ members_0 ≤ 26) : GL1 (r_0) (all_0) (left_0) (x2) (x13) := by
  subst fe_0_5_1
  subst fe_0_99_1
  subst fe_0_5_2
  subst fe_0_99_2
  have e_hE_0_2_1 := funext hE_0_2_1; subst e_hE_0_2_1
  have e_hE_0_2_2 := funext hE_0_2_2; subst e_hE_0_2_2
  have e_hE_0_22_1 := funext hE_0_22_1; subst e_hE_0_22_1
  have e_hE_0_97_2 := funext hE_0_97_2; subst e_hE_0_97_2
  have e_hE_0_98_1 := funext hE_0_98_1; subst e_hE_0_98_1
  have e_hE_0_98_2 := funext hE_0_98_2; subst e_hE_0_98_2
  try simp only [Int.add_zero] at *
  first
    | exact gl1_step ‹GL1 _ _ _ _ _› (gl3_of (x := x4) (by assumption) (by omega)) (by assumption) (by omega) (by omega) (by omega)
    | exact gl1_step ‹GL1 _ _ _ _ _› (gl3_of (x := x5) (by assumption) (by omega)) (by assumption) (by omega) (by omega) (by omega)
def o_Mo_greedyOrder_8 : or_T := (36, 14, [(0, (2, 0, 0, [165])), (1, (2, 0, 0, [165])), (2, (0, 0, 25, [])), (3, (0, 0, 25, [])), (4, (0, 0, 23, [])), (5, (0, -1, 23, [])), (6, (0, -1, 23, [])), (8, (0, 1, 24, [])), (9, (0, 0, 24, [])), (10, (2, 0, 0, [177])), (11, (0, 0, 0, [])), (12, (2, 0, 0, [233])), (13, (0, -1, 24, []))], [(6, [13, 3], [-1]), (20, [9, 1], [30, 0, 1, 0, 0, -1, 3, 2005000]), (20, [9, 1], [30, 0, -1, 0, 0, 1, 3, 2005000]), (20, [1], [60, 2, 2, 348, 99, 5, 98, 2]), (20, [2, 3], [50, 0, 0, 0, 2, 1, 0, 1, 1]), (24, [0, 1], []), (100, [12, 3, 4], []), (9, [12, 1], [97]), (8, [4], [3]), (20, [9, 1], [30, 0, 1, 0, 0, -1, 3, 2005000]), (20, [9, 1], [30, 0, -1, 0, 0, 1, 3, 2005000]), (20, [1], [60, 2, 2, 348, 99, 5, 98, 2]), (20, [2, 3], [50, 0, 0, 0, 2, 1, 0, 1, 1]), (100, [10, 4, 11], []), (9, [10, 1], [22]), (8, [4], [3]), (7, [8, 9], [3]), (20, [9, 1], [30, 0, 1, 0, 0, -1, 3, 2005000]), (20, [9, 1], [30, 0, -1, 0, 0, 1, 3, 2005000]), (20, [1], [60, 2, 2, 348, 99, 5, 98, 2]), (20, [1, 2, 3], [60, 1, 3, 387, 99, 22, 97, 98]), (20, [1, 2, 3], [60, 1, 2, 388, 5, 2, 22]), (20, [1, 2, 3], [60, 1, 2, 382, 5, 2, 22]), (20, [2, 3], [50, 0, 0, 0, 2, 1, 0, 1, 1]), (20, [1, 6, 8], [60, 1, 2, 383, 5, 2, 22]), (20, [1, 4], [60, 1, 2, 384, 5, 2, 22]), (20, [1, 5], [60, 1, 2, 384, 5, 2, 22])], [], [], [(20, [1, 2, 13], [60, 1, 3, 387, 99, 22, 97, 98]), (20, [1, 2, 13], [60, 1, 2, 388, 5, 2, 22]), (20, [1, 2, 13], [60, 1, 2, 382, 5, 2, 22])], [], [(13, 3, -1, -1), (8, 9, 0, 4294967296), (2, 3, -4294967296, 0), (4, 8, -4294967296, -1), (5, 8, -4294967296, -1), (6, 8, -4294967296, -1)])
theorem oo_Mo_greedyOrder_8 {kA : Nat → ClassId} : or_ok PRD kA GG o_Mo_greedyOrder_8 := by
  refine or_mk fun A ta ws vs hD hth hl => ?_
  intro t0 r0 t1 r1 t2 k2 t3 k3 t4 k4 t5 k5 t6 k6 t8 k8 t9 k9 t10 r10 t11 k11 t12 r12 t13 k13 d0 d1 d2 d3 d4 d5 f0 f1 f2 f3 f4 f5 ta1 w1 le1 s1 f7 f8 f9 f10 f11 f12 ta2 w2 le2 s2 f14 f15 f16 f17 f18 f19 f20 f21 f22 f23 f24 f25 f26
  replace f5 := shm_5 f5
  have s1 : (∀ b j, w_el ws b j = if b = v_ad (n_v vs 12) ∧ j = (v_iv (n_v vs 3)).toNat then v_iv (n_v vs 4) else w_el w1 b j) ∧ ∀ b k, w_fd ws b k = w_fd w1 b k := s1.2
  replace f7 := shm_672 f7
  have s2 : (∀ b j, w_el w1 b j = if b = v_ad (n_v vs 10) ∧ j = (v_iv (n_v vs 4)).toNat then v_iv (n_v vs 11) else w_el w2 b j) ∧ ∀ b k, w_fd w1 b k = w_fd w2 b k := s2.2
  replace f14 := shm_1026 f14
  replace f15 := shm_32 f15
  replace f19 := shm_1637 f19
  replace f20 := shm_1640 f20
  replace f21 := shm_1641 f21
  replace f22 := shm_1642 f22
  replace f23 := shm_360 f23
  replace f25 := shm_1644 f25
  have q1 : n_v vs 1 = n_v vs 0 := f5.symm
  simp only [q1] at f7 f14 f19 f20 f21 f22 f25
  have ar_0_2_1 : w_ar w1 (n_v vs 0) 2 = w_ar ws (n_v vs 0) 2 := congrArg v_ad (s1.2 _ _).symm
  have ar_0_2_2 : w_ar w2 (n_v vs 0) 2 = w_ar ws (n_v vs 0) 2 := by rw [← ar_0_2_1]; show v_ad (w_fd w2 _ _) = v_ad (w_fd w1 _ _); rw [s2.2]
  have cr_0_2 := fdq_10 hD hth r0
  have ar_0_22_1 : w_ar w1 (n_v vs 0) 22 = w_ar ws (n_v vs 0) 22 := congrArg v_ad (s1.2 _ _).symm
  have ar_0_22_2 : w_ar w2 (n_v vs 0) 22 = w_ar ws (n_v vs 0) 22 := by rw [← ar_0_22_1]; show v_ad (w_fd w2 _ _) = v_ad (w_fd w1 _ _); rw [s2.2]
  have cr_0_22 := fdq_240 hD hth r0
  have ar_0_97_1 : w_ar w1 (n_v vs 0) 97 = w_ar ws (n_v vs 0) 97 := congrArg v_ad (s1.2 _ _).symm
  have ar_0_97_2 : w_ar w2 (n_v vs 0) 97 = w_ar ws (n_v vs 0) 97 := by rw [← ar_0_97_1]; show v_ad (w_fd w2 _ _) = v_ad (w_fd w1 _ _); rw [s2.2]
  have cr_0_97 := fdq_169 hD hth r0
  have ar_0_98_1 : w_ar w1 (n_v vs 0) 98 = w_ar ws (n_v vs 0) 98 := congrArg v_ad (s1.2 _ _).symm
  have ar_0_98_2 : w_ar w2 (n_v vs 0) 98 = w_ar ws (n_v vs 0) 98 := by rw [← ar_0_98_1]; show v_ad (w_fd w2 _ _) = v_ad (w_fd w1 _ _); rw [s2.2]
  have cr_0_98 := fdq_157 hD hth r0
  have ad_12 : v_ad (n_v vs 12) = w_ar ws (n_v vs 0) 97 := (congrArg v_ad f7).trans ar_0_97_1
  have ad_10 : v_ad (n_v vs 10) = w_ar ws (n_v vs 0) 22 := (congrArg v_ad f14).trans ar_0_22_2
  simp only [ar_0_2_1, ar_0_98_1, ar_0_2_2, ar_0_98_2, ar_0_22_2, ar_0_97_2] at f19 f20 f21 f22 f25
  have fe_0_5_1 : w_fi ws (n_v vs 0) 5 = w_fi w1 (n_v vs 0) 5 := congrArg v_iv (s1.2 _ _)
  have fe_0_99_1 : w_fi ws (n_v vs 0) 99 = w_fi w1 (n_v vs 0) 99 := congrArg v_iv (s1.2 _ _)
  have fe_0_5_2 : w_fi w1 (n_v vs 0) 5 = w_fi w2 (n_v vs 0) 5 := congrArg v_iv (s2.2 _ _)
  have fe_0_99_2 : w_fi w1 (n_v vs 0) 99 = w_fi w2 (n_v vs 0) 99 := congrArg v_iv (s2.2 _ _)
  have hE_0_2_1 : ∀ j : Int, w_ei ws (w_ar ws (n_v vs 0) 2) j = w_ei w1 (w_ar ws (n_v vs 0) 2) j := el_kp s1.1 r12 cr_0_2 (by decide)
  have hE_0_2_2 : ∀ j : Int, w_ei w1 (w_ar ws (n_v vs 0) 2) j = w_ei w2 (w_ar ws (n_v vs 0) 2) j := el_kp s2.1 r10 cr_0_2 (by decide)
  have hE_0_22_1 : ∀ j : Int, w_ei ws (w_ar ws (n_v vs 0) 22) j = w_ei w1 (w_ar ws (n_v vs 0) 22) j := el_kp s1.1 r12 cr_0_22 (by decide)
  have hE_0_22_2 : ∀ j : Int, 0 ≤ j → (j = v_iv (n_v vs 4) → w_ei w1 (w_ar ws (n_v vs 0) 22) j = v_iv (n_v vs 11)) ∧ (j ≠ v_iv (n_v vs 4) → w_ei w1 (w_ar ws (n_v vs 0) 22) j = w_ei w2 (w_ar ws (n_v vs 0) 22) j) := fun j hj => ⟨fun h => by unfold w_ei; rw [s2.1, if_pos ⟨ad_10.symm, by rw [h]⟩], fun h => by unfold w_ei; rw [s2.1, if_neg (fun e => h (by have := e.2; omega))]⟩
  have hE_0_97_1 : ∀ j : Int, 0 ≤ j → (j = v_iv (n_v vs 3) → w_ei ws (w_ar ws (n_v vs 0) 97) j = v_iv (n_v vs 4)) ∧ (j ≠ v_iv (n_v vs 3) → w_ei ws (w_ar ws (n_v vs 0) 97) j = w_ei w1 (w_ar ws (n_v vs 0) 97) j) := fun j hj => ⟨fun h => by unfold w_ei; rw [s1.1, if_pos ⟨ad_12.symm, by rw [h]⟩], fun h => by unfold w_ei; rw [s1.1, if_neg (fun e => h (by have := e.2; omega))]⟩
  have hE_0_97_2 : ∀ j : Int, w_ei w1 (w_ar ws (n_v vs 0) 97) j = w_ei w2 (w_ar ws (n_v vs 0) 97) j := el_kp s2.1 r10 cr_0_97 (by decide)
  have hE_0_98_1 : ∀ j : Int, w_ei ws (w_ar ws (n_v vs 0) 98) j = w_ei w1 (w_ar ws (n_v vs 0) 98) j := el_kp s1.1 r12 cr_0_98 (by decide)
  have hE_0_98_2 : ∀ j : Int, w_ei w1 (w_ar ws (n_v vs 0) 98) j = w_ei w2 (w_ar ws (n_v vs 0) 98) j := el_kp s2.1 r10 cr_0_98 (by decide)
  have kz_0_99 := fdq_158 hD hth r0
  have nf0 : fc_1 PRD (20, [1, 2, 13], [60, 1, 3, 387, 99, 22, 97, 98]) ws (vs) := by
    refine ⟨nf_in hl rfl, sgq_1640 ?_⟩
    · show GBE (w_fi ws (n_v vs 1) 99) (w_ei ws (w_ar ws (n_v vs 1) 22)) (w_ei ws (w_ar ws (n_v vs 1) 97)) (w_ei ws (w_ar ws (n_v vs 1) 98)) (v_iv (n_v vs 2)) (v_iv (n_v vs 13))
      rw [q1]
      exact vc_Mo_greedyOrder_8_0 (v_iv (n_v vs 2)) (v_iv (n_v vs 3)) (v_iv (n_v vs 4)) (v_iv (n_v vs 11)) (v_iv (n_v vs 13)) (w_ei ws (w_ar ws (n_v vs 0) 2)) (w_fi ws (n_v vs 0) 5) (w_ei ws (w_ar ws (n_v vs 0) 98)) (w_fi ws (n_v vs 0) 99) (w_ei w1 (w_ar ws (n_v vs 0) 2)) (w_ei w1 (w_ar ws (n_v vs 0) 98)) (w_fi w1 (n_v vs 0) 99) (w_fi w1 (n_v vs 0) 5) (w_ei w2 (w_ar ws (n_v vs 0) 2)) (w_ei w2 (w_ar ws (n_v vs 0) 98)) (w_fi w2 (n_v vs 0) 99) (w_fi w2 (n_v vs 0) 5) (w_ei w2 (w_ar ws (n_v vs 0) 22)) (w_ei w2 (w_ar ws (n_v vs 0) 97)) (w_ei ws (w_ar ws (n_v vs 0) 22)) (w_ei w1 (w_ar ws (n_v vs 0) 22)) (w_ei ws (w_ar ws (n_v vs 0) 97)) (w_ei w1 (w_ar ws (n_v vs 0) 97)) k2 k3 k4 k11 k13 d0 f19 f20 f23 fe_0_5_1 fe_0_99_1 fe_0_5_2 fe_0_99_2 hE_0_2_1 hE_0_2_2 hE_0_22_1 hE_0_22_2 hE_0_97_1 hE_0_97_2 hE_0_98_1 hE_0_98_2 kz_0_99
  have nf1 : fc_1 PRD (20, [1, 2, 13], [60, 1, 2, 388, 5, 2, 22]) ws (vs) := by
    refine ⟨nf_in hl rfl, sgq_1641 ?_⟩
    · show GLE (w_fi ws (n_v vs 1) 5) (w_ei ws (w_ar ws (n_v vs 1) 2)) (w_ei ws (w_ar ws (n_v vs 1) 22)) (v_iv (n_v vs 2)) (v_iv (n_v vs 13))
      rw [q1]
      exact vc_Mo_greedyOrder_8_1 (v_iv (n_v vs 2)) (v_iv (n_v vs 3)) (v_iv (n_v vs 4)) (v_iv (n_v vs 5)) (v_iv (n_v vs 11)) (v_iv (n_v vs 13)) (w_ei ws (w_ar ws (n_v vs 0) 2)) (w_fi ws (n_v vs 0) 5) (w_ei ws (w_ar ws (n_v vs 0) 98)) (w_fi ws (n_v vs 0) 99) (w_ei w1 (w_ar ws (n_v vs 0) 2)) (w_ei w1 (w_ar ws (n_v vs 0) 98)) (w_fi w1 (n_v vs 0) 99) (w_fi w1 (n_v vs 0) 5) (w_ei w2 (w_ar ws (n_v vs 0) 2)) (w_ei w2 (w_ar ws (n_v vs 0) 98)) (w_fi w2 (n_v vs 0) 99) (w_fi w2 (n_v vs 0) 5) (w_ei w2 (w_ar ws (n_v vs 0) 22)) (w_ei w2 (w_ar ws (n_v vs 0) 97)) (w_ei ws (w_ar ws (n_v vs 0) 22)) (w_ei w1 (w_ar ws (n_v vs 0) 22)) (w_ei w1 (w_ar ws (n_v vs 0) 97)) k2 k3 k4 k11 k13 d0 f15 f21 f25 fe_0_5_1 fe_0_99_1 fe_0_5_2 fe_0_99_2 hE_0_2_1 hE_0_2_2 hE_0_22_1 hE_0_22_2 hE_0_97_2 hE_0_98_1 hE_0_98_2 kz_0_99
  have nf2 : fc_1 PRD (20, [1, 2, 13], [60, 1, 2, 382, 5, 2, 22]) ws (vs) := by
    refine ⟨nf_in hl rfl, sgq_1642 ?_⟩
    · show GL1 (w_fi ws (n_v vs 1) 5) (w_ei ws (w_ar ws (n_v vs 1) 2)) (w_ei ws (w_ar ws (n_v vs 1) 22)) (v_iv (n_v vs 2)) (v_iv (n_v vs 13))
      rw [q1]
      exact vc_Mo_greedyOrder_8_2 (v_iv (n_v vs 2)) (v_iv (n_v vs 3)) (v_iv (n_v vs 4)) (v_iv (n_v vs 5)) (v_iv (n_v vs 11)) (v_iv (n_v vs 13)) (w_ei ws (w_ar ws (n_v vs 0) 2)) (w_fi ws (n_v vs 0) 5) (w_ei ws (w_ar ws (n_v vs 0) 98)) (w_fi ws (n_v vs 0) 99) (w_ei w1 (w_ar ws (n_v vs 0) 2)) (w_ei w1 (w_ar ws (n_v vs 0) 98)) (w_fi w1 (n_v vs 0) 99) (w_fi w1 (n_v vs 0) 5) (w_ei w2 (w_ar ws (n_v vs 0) 2)) (w_ei w2 (w_ar ws (n_v vs 0) 98)) (w_fi w2 (n_v vs 0) 99) (w_fi w2 (n_v vs 0) 5) (w_ei w2 (w_ar ws (n_v vs 0) 22)) (w_ei w2 (w_ar ws (n_v vs 0) 97)) (w_ei ws (w_ar ws (n_v vs 0) 22)) (w_ei w1 (w_ar ws (n_v vs 0) 22)) (w_ei w1 (w_ar ws (n_v vs 0) 97)) k2 k3 k4 k11 k13 d0 f15 f22 f25 fe_0_5_1 fe_0_99_1 fe_0_5_2 fe_0_99_2 hE_0_2_1 hE_0_2_2 hE_0_22_1 hE_0_22_2 hE_0_97_2 hE_0_98_1 hE_0_98_2 kz_0_99
  refine ⟨(fun _ h => (by cases h)), [], trivial, ?_, (fun _ h => (by cases h))⟩
  rw [List.append_nil]
  exact List.forall_mem_cons.mpr ⟨⟨show (20 : Nat) < 100 from by decide, nf0⟩, List.forall_mem_cons.mpr ⟨⟨show (20 : Nat) < 100 from by decide, nf1⟩, List.forall_mem_cons.mpr ⟨⟨show (20 : Nat) < 100 from by decide, nf2⟩, (fun _ h => (by cases h))⟩⟩⟩
set_option maxHeartbeats 4000000 in
theorem vc_Mo_greedyOrder_9_0 (x8 : Int) (x9 : Int) (x11 : Int) (left_0 : Int → Int) (all_0 : Int → Int) (r_0 : Int) (k8 : 0 ≤ x8 ∧ x8 ≤ 23) (k9 : 1 ≤ x9 ∧ x9 ≤ 24) (k11 : 1 ≤ x11 ∧ x11 ≤ 1) (d0 : x9 + (-4294967296) ≤ x8 ∧ x8 ≤ x9 + (-1)) (h1 : x11 = left_0 (x8)) (f4 : 1 * x9 + ((-1) * all_0 (r_0 + 0) + 0) ≤ 0) (f5 : (-1) * x9 + (1 * all_0 (r_0 + 0) + 0) ≤ 0) : GL3 (r_0) (all_0) (left_0) (x8) := by
  try simp only [Int.add_zero] at *
  first
    | assumption
    | exact Or.inl (by omega)
    | exact Or.inr ⟨by omega, by omega⟩
def o_Mo_greedyOrder_9 : or_T := (92, 17, [(8, (0, 0, 23, [])), (9, (0, 1, 24, [])), (11, (0, 1, 1, []))], [(10, [11, 10, 8], []), (9, [10, 1], [22]), (20, [9, 1], [30, 0, 1, 0, 0, -1, 3, 2005000]), (20, [9, 1], [30, 0, -1, 0, 0, 1, 3, 2005000]), (24, [0, 1], [])], [], [], [(20, [1, 8], [60, 1, 2, 384, 5, 2, 22])], [], [(8, 9, -4294967296, -1)])
theorem oo_Mo_greedyOrder_9 {kA : Nat → ClassId} : or_ok PRD kA GG o_Mo_greedyOrder_9 := by
  refine or_mk fun A ta ws vs hD hth hl => ?_
  intro t8 k8 t9 k9 t11 k11 d0 f1 f2 f4 f5 f14
  replace f1 := shm_107 f1
  replace f2 := shm_1026 f2
  replace f4 := shm_126 f4
  replace f5 := shm_127 f5
  replace f14 := shm_5 f14
  have q1 : n_v vs 1 = n_v vs 0 := f14.symm
  simp only [q1] at f2 f4 f5
  have ad_10 : v_ad (n_v vs 10) = w_ar ws (n_v vs 0) 22 := congrArg v_ad f2
  simp only [ad_10] at f1
  have h1 : v_iv (n_v vs 11) = w_ei ws (w_ar ws (n_v vs 0) 22) (v_iv (n_v vs 8)) := f1
  have nf0 : fc_1 PRD (20, [1, 8], [60, 1, 2, 384, 5, 2, 22]) ws (vs) := by
    refine ⟨nf_in hl rfl, sgq_1644 ?_⟩
    · show GL3 (w_fi ws (n_v vs 1) 5) (w_ei ws (w_ar ws (n_v vs 1) 2)) (w_ei ws (w_ar ws (n_v vs 1) 22)) (v_iv (n_v vs 8))
      rw [q1]
      exact vc_Mo_greedyOrder_9_0 (v_iv (n_v vs 8)) (v_iv (n_v vs 9)) (v_iv (n_v vs 11)) (w_ei ws (w_ar ws (n_v vs 0) 22)) (w_ei ws (w_ar ws (n_v vs 0) 2)) (w_fi ws (n_v vs 0) 5) k8 k9 k11 d0 h1 f4 f5
  refine ⟨(fun _ h => (by cases h)), [], trivial, ?_, (fun _ h => (by cases h))⟩
  rw [List.append_nil]
  exact List.forall_mem_cons.mpr ⟨⟨show (20 : Nat) < 100 from by decide, nf0⟩, (fun _ h => (by cases h))⟩
set_option maxHeartbeats 4000000 in
theorem vc_Mo_greedyOrder_10_0 (x6 : Int) (x8 : Int) (x11 : Int) (x12 : Int) (left_0 : Int → Int) (all_0 : Int → Int) (r_0 : Int) (k6 : (-1) ≤ x6 ∧ x6 ≤ 22) (k8 : 0 ≤ x8 ∧ x8 ≤ 23) (k11 : 0 ≤ x11 ∧ x11 ≤ 0) (k12 : 1 ≤ x12 ∧ x12 ≤ 24) (f0 : x12 = x8 + 1) (h2 : x11 = left_0 (x8)) (f12 : GL2 (r_0) (all_0) (left_0) (x6) (x8)) : GL2 (r_0) (all_0) (left_0) (x6) (x12) := by
  try simp only [Int.add_zero] at *
  first
    | exact gl2_skip ‹GL2 _ _ _ _ _› (by omega) (Or.inl (by omega))
    | exact gl2_skip ‹GL2 _ _ _ _ _› (by omega) (Or.inr (by omega))
def o_Mo_greedyOrder_10 : or_T := (55, 13, [(6, (0, -1, 22, [])), (8, (0, 0, 23, [])), (11, (0, 0, 0, [])), (12, (0, 1, 24, []))], [(6, [12, 8], [1]), (10, [11, 10, 8], []), (9, [10, 1], [22]), (20, [1, 6, 8], [60, 1, 2, 383, 5, 2, 22]), (24, [0, 1], [])], [], [], [(20, [1, 6, 12], [60, 1, 2, 383, 5, 2, 22])], [], [])
theorem oo_Mo_greedyOrder_10 {kA : Nat → ClassId} : or_ok PRD kA GG o_Mo_greedyOrder_10 := by
  refine or_mk fun A ta ws vs hD hth hl => ?_
  intro t6 k6 t8 k8 t11 k11 t12 k12 f0 f2 f3 f12 f15
  replace f0 := shm_4 f0
  replace f2 := shm_107 f2
  replace f3 := shm_1026 f3
  replace f12 := shm_1643 f12
  replace f15 := shm_5 f15
  have q1 : n_v vs 1 = n_v vs 0 := f15.symm
  simp only [q1] at f3 f12
  have ad_10 : v_ad (n_v vs 10) = w_ar ws (n_v vs 0) 22 := congrArg v_ad f3
  simp only [ad_10] at f2
  have h2 : v_iv (n_v vs 11) = w_ei ws (w_ar ws (n_v vs 0) 22) (v_iv (n_v vs 8)) := f2
  have nf0 : fc_1 PRD (20, [1, 6, 12], [60, 1, 2, 383, 5, 2, 22]) ws (vs) := by
    refine ⟨nf_in hl rfl, sgq_1643 ?_⟩
    · show GL2 (w_fi ws (n_v vs 1) 5) (w_ei ws (w_ar ws (n_v vs 1) 2)) (w_ei ws (w_ar ws (n_v vs 1) 22)) (v_iv (n_v vs 6)) (v_iv (n_v vs 12))
      rw [q1]
      exact vc_Mo_greedyOrder_10_0 (v_iv (n_v vs 6)) (v_iv (n_v vs 8)) (v_iv (n_v vs 11)) (v_iv (n_v vs 12)) (w_ei ws (w_ar ws (n_v vs 0) 22)) (w_ei ws (w_ar ws (n_v vs 0) 2)) (w_fi ws (n_v vs 0) 5) k6 k8 k11 k12 f0 h2 f12
  refine ⟨(fun _ h => (by cases h)), [], trivial, ?_, (fun _ h => (by cases h))⟩
  rw [List.append_nil]
  exact List.forall_mem_cons.mpr ⟨⟨show (20 : Nat) < 100 from by decide, nf0⟩, (fun _ h => (by cases h))⟩
set_option maxHeartbeats 4000000 in
theorem vc_Mo_greedyOrder_11_0 (x8 : Int) (x16 : Int) (all_0 : Int → Int) (r_0 : Int) (left_0 : Int → Int) (k8 : 0 ≤ x8 ∧ x8 ≤ 23) (k16 : 1 ≤ x16 ∧ x16 ≤ 24) (d0 : x8 + 1 ≤ x16 ∧ x16 ≤ x8 + 1) (f13 : GL3 (r_0) (all_0) (left_0) (x8)) : GL2 (r_0) (all_0) (left_0) (x8) (x16) := by
  try simp only [Int.add_zero] at *
  first
    | exact Or.inl (gl3_of (x := x8) (by assumption) (by omega))
def o_Mo_greedyOrder_11 : or_T := (55, 17, [(0, (2, 0, 0, [165])), (1, (2, 0, 0, [165])), (2, (0, 0, 25, [])), (3, (0, 0, 25, [])), (4, (0, -1, 22, [])), (5, (0, -1, 22, [])), (6, (0, -1, -1, [])), (8, (0, 0, 23, [])), (13, (0, 1, 48, [])), (14, (0, 0, 48, [])), (16, (0, 1, 24, []))], [(6, [16, 8], [1]), (8, [6], [2]), (7, [13, 14], [3]), (20, [14, 1], [30, 0, 1, 0, 0, -1, 3, 2005001]), (20, [14, 1], [30, 0, -1, 0, 0, 1, 3, 2005001]), (20, [1], [60, 2, 2, 348, 99, 5, 98, 2]), (20, [1, 2, 3], [60, 1, 3, 387, 99, 22, 97, 98]), (20, [1, 2, 3], [60, 1, 2, 388, 5, 2, 22]), (20, [1, 2, 3], [60, 1, 2, 382, 5, 2, 22]), (20, [2, 3], [50, 0, 0, 0, 2, 1, 0, 1, 1]), (20, [1, 6, 8], [60, 1, 2, 383, 5, 2, 22]), (20, [1, 4], [60, 1, 2, 384, 5, 2, 22]), (20, [1, 5], [60, 1, 2, 384, 5, 2, 22]), (20, [1, 8], [60, 1, 2, 384, 5, 2, 22]), (24, [0, 1], [])], [], [], [(20, [1, 8, 16], [60, 1, 2, 383, 5, 2, 22])], [], [(16, 8, 1, 1), (13, 14, 0, 4294967296), (2, 3, -4294967296, 0), (4, 8, -4294967296, -1), (5, 8, -4294967296, -1)])
theorem oo_Mo_greedyOrder_11 {kA : Nat → ClassId} : or_ok PRD kA GG o_Mo_greedyOrder_11 := by
  refine or_mk fun A ta ws vs hD hth hl => ?_
  intro t0 r0 t1 r1 t2 k2 t3 k3 t4 k4 t5 k5 t6 k6 t8 k8 t13 k13 t14 k14 t16 k16 d0 d1 d2 d3 d4 f0 f1 f2 f3 f4 f5 f6 f7 f8 f9 f10 f11 f12 f13 f14
  replace f13 := shm_1644 f13
  replace f14 := shm_5 f14
  have q1 : n_v vs 1 = n_v vs 0 := f14.symm
  simp only [q1] at f13
  have nf0 : fc_1 PRD (20, [1, 8, 16], [60, 1, 2, 383, 5, 2, 22]) ws (vs) := by
    refine ⟨nf_in hl rfl, sgq_1643 ?_⟩
    · show GL2 (w_fi ws (n_v vs 1) 5) (w_ei ws (w_ar ws (n_v vs 1) 2)) (w_ei ws (w_ar ws (n_v vs 1) 22)) (v_iv (n_v vs 8)) (v_iv (n_v vs 16))
      rw [q1]
      exact vc_Mo_greedyOrder_11_0 (v_iv (n_v vs 8)) (v_iv (n_v vs 16)) (w_ei ws (w_ar ws (n_v vs 0) 2)) (w_fi ws (n_v vs 0) 5) (w_ei ws (w_ar ws (n_v vs 0) 22)) k8 k16 d0 f13
  refine ⟨(fun _ h => (by cases h)), [], trivial, ?_, (fun _ h => (by cases h))⟩
  rw [List.append_nil]
  exact List.forall_mem_cons.mpr ⟨⟨show (20 : Nat) < 100 from by decide, nf0⟩, (fun _ h => (by cases h))⟩
set_option maxHeartbeats 4000000 in
theorem vc_Mo_greedyOrder_12_0 (x6 : Int) (x8 : Int) (x16 : Int) (all_0 : Int → Int) (r_0 : Int) (left_0 : Int → Int) (k6 : 0 ≤ x6 ∧ x6 ≤ 22) (k8 : 1 ≤ x8 ∧ x8 ≤ 23) (k16 : 2 ≤ x16 ∧ x16 ≤ 24) (f0 : x16 = x8 + 1) (f1 : 0 ≤ x6) (f10 : GL2 (r_0) (all_0) (left_0) (x6) (x8)) : GL2 (r_0) (all_0) (left_0) (x6) (x16) := by
  try simp only [Int.add_zero] at *
  first
    | exact gl2_skip ‹GL2 _ _ _ _ _› (by omega) (Or.inl (by omega))
    | exact gl2_skip ‹GL2 _ _ _ _ _› (by omega) (Or.inr (by omega))
def o_Mo_greedyOrder_12 : or_T := (55, 17, [(0, (2, 0, 0, [165])), (1, (2, 0, 0, [165])), (2, (0, 0, 25, [])), (3, (0, 0, 25, [])), (4, (0, -1, 22, [])), (5, (0, -1, 22, [])), (6, (0, 0, 22, [])), (8, (0, 1, 23, [])), (13, (0, 1, 48, [])), (14, (0, 0, 48, [])), (16, (0, 2, 24, []))], [(6, [16, 8], [1]), (8, [6], [3]), (7, [13, 14], [3]), (20, [14, 1], [30, 0, 1, 0, 0, -1, 3, 2005001]), (20, [14, 1], [30, 0, -1, 0, 0, 1, 3, 2005001]), (20, [1], [60, 2, 2, 348, 99, 5, 98, 2]), (20, [1, 2, 3], [60, 1, 3, 387, 99, 22, 97, 98]), (20, [1, 2, 3], [60, 1, 2, 388, 5, 2, 22]), (20, [1, 2, 3], [60, 1, 2, 382, 5, 2, 22]), (20, [2, 3], [50, 0, 0, 0, 2, 1, 0, 1, 1]), (20, [1, 6, 8], [60, 1, 2, 383, 5, 2, 22]), (20, [1, 4], [60, 1, 2, 384, 5, 2, 22]), (20, [1, 5], [60, 1, 2, 384, 5, 2, 22]), (20, [1, 8], [60, 1, 2, 384, 5, 2, 22]), (24, [0, 1], [])], [], [], [(20, [1, 6, 16], [60, 1, 2, 383, 5, 2, 22])], [], [(16, 8, 1, 1), (13, 14, 0, 4294967296), (2, 3, -4294967296, 0), (4, 8, -4294967296, -1), (5, 8, -4294967296, -1), (6, 8, -4294967296, -1)])
theorem oo_Mo_greedyOrder_12 {kA : Nat → ClassId} : or_ok PRD kA GG o_Mo_greedyOrder_12 := by
  refine or_mk fun A ta ws vs hD hth hl => ?_
  intro t0 r0 t1 r1 t2 k2 t3 k3 t4 k4 t5 k5 t6 k6 t8 k8 t13 k13 t14 k14 t16 k16 d0 d1 d2 d3 d4 d5 f0 f1 f2 f3 f4 f5 f6 f7 f8 f9 f10 f11 f12 f13 f14
  replace f0 := shm_4 f0
  replace f1 := shm_32 f1
  replace f10 := shm_1643 f10
  replace f14 := shm_5 f14
  have q1 : n_v vs 1 = n_v vs 0 := f14.symm
  simp only [q1] at f10
  have nf0 : fc_1 PRD (20, [1, 6, 16], [60, 1, 2, 383, 5, 2, 22]) ws (vs) := by
    refine ⟨nf_in hl rfl, sgq_1643 ?_⟩
    · show GL2 (w_fi ws (n_v vs 1) 5) (w_ei ws (w_ar ws (n_v vs 1) 2)) (w_ei ws (w_ar ws (n_v vs 1) 22)) (v_iv (n_v vs 6)) (v_iv (n_v vs 16))
      rw [q1]
      exact vc_Mo_greedyOrder_12_0 (v_iv (n_v vs 6)) (v_iv (n_v vs 8)) (v_iv (n_v vs 16)) (w_ei ws (w_ar ws (n_v vs 0) 2)) (w_fi ws (n_v vs 0) 5) (w_ei ws (w_ar ws (n_v vs 0) 22)) k6 k8 k16 f0 f1 f10
  refine ⟨(fun _ h => (by cases h)), [], trivial, ?_, (fun _ h => (by cases h))⟩
  rw [List.append_nil]
  exact List.forall_mem_cons.mpr ⟨⟨show (20 : Nat) < 100 from by decide, nf0⟩, (fun _ h => (by cases h))⟩
set_option maxHeartbeats 4000000 in
theorem vc_Mo_greedyOrder_13_0 (x8 : Int) (x17 : Int) (all_0 : Int → Int) (r_0 : Int) (left_0 : Int → Int) (k8 : 1 ≤ x8 ∧ x8 ≤ 23) (k17 : 2 ≤ x17 ∧ x17 ≤ 24) (d0 : x8 + 1 ≤ x17 ∧ x17 ≤ x8 + 1) (f13 : GL3 (r_0) (all_0) (left_0) (x8)) : GL2 (r_0) (all_0) (left_0) (x8) (x17) := by
  try simp only [Int.add_zero] at *
  first
    | exact Or.inl (gl3_of (x := x8) (by assumption) (by omega))
def o_Mo_greedyOrder_13 : or_T := (55, 18, [(0, (2, 0, 0, [165])), (1, (2, 0, 0, [165])), (2, (0, 0, 25, [])), (3, (0, 0, 25, [])), (4, (0, -1, 22, [])), (5, (0, -1, 22, [])), (6, (0, 0, 22, [])), (8, (0, 1, 23, [])), (13, (0, 1, 48, [])), (14, (0, 0, 48, [])), (17, (0, 2, 24, []))], [(6, [17, 8], [1]), (8, [6], [3]), (7, [13, 14], [3]), (20, [14, 1], [30, 0, 1, 0, 0, -1, 3, 2005001]), (20, [14, 1], [30, 0, -1, 0, 0, 1, 3, 2005001]), (20, [1], [60, 2, 2, 348, 99, 5, 98, 2]), (20, [1, 2, 3], [60, 1, 3, 387, 99, 22, 97, 98]), (20, [1, 2, 3], [60, 1, 2, 388, 5, 2, 22]), (20, [1, 2, 3], [60, 1, 2, 382, 5, 2, 22]), (20, [2, 3], [50, 0, 0, 0, 2, 1, 0, 1, 1]), (20, [1, 6, 8], [60, 1, 2, 383, 5, 2, 22]), (20, [1, 4], [60, 1, 2, 384, 5, 2, 22]), (20, [1, 5], [60, 1, 2, 384, 5, 2, 22]), (20, [1, 8], [60, 1, 2, 384, 5, 2, 22]), (24, [0, 1], [])], [], [], [(20, [1, 8, 17], [60, 1, 2, 383, 5, 2, 22])], [], [(17, 8, 1, 1), (13, 14, 0, 4294967296), (2, 3, -4294967296, 0), (4, 8, -4294967296, -1), (5, 8, -4294967296, -1), (6, 8, -4294967296, -1)])
theorem oo_Mo_greedyOrder_13 {kA : Nat → ClassId} : or_ok PRD kA GG o_Mo_greedyOrder_13 := by
  refine or_mk fun A ta ws vs hD hth hl => ?_
  intro t0 r0 t1 r1 t2 k2 t3 k3 t4 k4 t5 k5 t6 k6 t8 k8 t13 k13 t14 k14 t17 k17 d0 d1 d2 d3 d4 d5 f0 f1 f2 f3 f4 f5 f6 f7 f8 f9 f10 f11 f12 f13 f14
  replace f13 := shm_1644 f13
  replace f14 := shm_5 f14
  have q1 : n_v vs 1 = n_v vs 0 := f14.symm
  simp only [q1] at f13
  have nf0 : fc_1 PRD (20, [1, 8, 17], [60, 1, 2, 383, 5, 2, 22]) ws (vs) := by
    refine ⟨nf_in hl rfl, sgq_1643 ?_⟩
    · show GL2 (w_fi ws (n_v vs 1) 5) (w_ei ws (w_ar ws (n_v vs 1) 2)) (w_ei ws (w_ar ws (n_v vs 1) 22)) (v_iv (n_v vs 8)) (v_iv (n_v vs 17))
      rw [q1]
      exact vc_Mo_greedyOrder_13_0 (v_iv (n_v vs 8)) (v_iv (n_v vs 17)) (w_ei ws (w_ar ws (n_v vs 0) 2)) (w_fi ws (n_v vs 0) 5) (w_ei ws (w_ar ws (n_v vs 0) 22)) k8 k17 d0 f13
  refine ⟨(fun _ h => (by cases h)), [], trivial, ?_, (fun _ h => (by cases h))⟩
  rw [List.append_nil]
  exact List.forall_mem_cons.mpr ⟨⟨show (20 : Nat) < 100 from by decide, nf0⟩, (fun _ h => (by cases h))⟩
set_option maxHeartbeats 4000000 in
theorem vc_Mo_greedyOrder_14_0 (x8 : Int) (x16 : Int) (all_0 : Int → Int) (r_0 : Int) (left_0 : Int → Int) (k8 : 1 ≤ x8 ∧ x8 ≤ 23) (k16 : 2 ≤ x16 ∧ x16 ≤ 24) (d0 : x8 + 1 ≤ x16 ∧ x16 ≤ x8 + 1) (f14 : GL3 (r_0) (all_0) (left_0) (x8)) : GL2 (r_0) (all_0) (left_0) (x8) (x16) := by
  try simp only [Int.add_zero] at *
  first
    | exact Or.inl (gl3_of (x := x8) (by assumption) (by omega))
def o_Mo_greedyOrder_14 : or_T := (55, 17, [(0, (2, 0, 0, [165])), (1, (2, 0, 0, [165])), (2, (0, 0, 25, [])), (3, (0, 0, 25, [])), (4, (0, -1, 22, [])), (5, (0, 0, 22, [])), (6, (0, -1, -1, [])), (8, (0, 1, 23, [])), (13, (0, 1, 48, [])), (14, (0, 0, 48, [])), (16, (0, 2, 24, []))], [(6, [16, 8], [1]), (8, [6], [2]), (8, [5], [3]), (7, [13, 14], [3]), (20, [14, 1], [30, 0, 1, 0, 0, -1, 3, 2005001]), (20, [14, 1], [30, 0, -1, 0, 0, 1, 3, 2005001]), (20, [1], [60, 2, 2, 348, 99, 5, 98, 2]), (20, [1, 2, 3], [60, 1, 3, 387, 99, 22, 97, 98]), (20, [1, 2, 3], [60, 1, 2, 388, 5, 2, 22]), (20, [1, 2, 3], [60, 1, 2, 382, 5, 2, 22]), (20, [2, 3], [50, 0, 0, 0, 2, 1, 0, 1, 1]), (20, [1, 6, 8], [60, 1, 2, 383, 5, 2, 22]), (20, [1, 4], [60, 1, 2, 384, 5, 2, 22]), (20, [1, 5], [60, 1, 2, 384, 5, 2, 22]), (20, [1, 8], [60, 1, 2, 384, 5, 2, 22]), (24, [0, 1], [])], [], [], [(20, [1, 8, 16], [60, 1, 2, 383, 5, 2, 22])], [], [(16, 8, 1, 1), (13, 14, 0, 4294967296), (2, 3, -4294967296, 0), (4, 8, -4294967296, -1), (5, 8, -4294967296, -1)])
theorem oo_Mo_greedyOrder_14 {kA : Nat → ClassId} : or_ok PRD kA GG o_Mo_greedyOrder_14 := by
  refine or_mk fun A ta ws vs hD hth hl => ?_
  intro t0 r0 t1 r1 t2 k2 t3 k3 t4 k4 t5 k5 t6 k6 t8 k8 t13 k13 t14 k14 t16 k16 d0 d1 d2 d3 d4 f0 f1 f2 f3 f4 f5 f6 f7 f8 f9 f10 f11 f12 f13 f14 f15
  replace f14 := shm_1644 f14
  replace f15 := shm_5 f15
  have q1 : n_v vs 1 = n_v vs 0 := f15.symm
  simp only [q1] at f14
  have nf0 : fc_1 PRD (20, [1, 8, 16], [60, 1, 2, 383, 5, 2, 22]) ws (vs) := by
    refine ⟨nf_in hl rfl, sgq_1643 ?_⟩
    · show GL2 (w_fi ws (n_v vs 1) 5) (w_ei ws (w_ar ws (n_v vs 1) 2)) (w_ei ws (w_ar ws (n_v vs 1) 22)) (v_iv (n_v vs 8)) (v_iv (n_v vs 16))
      rw [q1]
      exact vc_Mo_greedyOrder_14_0 (v_iv (n_v vs 8)) (v_iv (n_v vs 16)) (w_ei ws (w_ar ws (n_v vs 0) 2)) (w_fi ws (n_v vs 0) 5) (w_ei ws (w_ar ws (n_v vs 0) 22)) k8 k16 d0 f14
  refine ⟨(fun _ h => (by cases h)), [], trivial, ?_, (fun _ h => (by cases h))⟩
  rw [List.append_nil]
  exact List.forall_mem_cons.mpr ⟨⟨show (20 : Nat) < 100 from by decide, nf0⟩, (fun _ h => (by cases h))⟩
set_option maxHeartbeats 4000000 in
theorem vc_Mo_greedyOrder_15_0 (x6 : Int) (x8 : Int) (x16 : Int) (all_0 : Int → Int) (r_0 : Int) (left_0 : Int → Int) (k6 : 0 ≤ x6 ∧ x6 ≤ 22) (k8 : 1 ≤ x8 ∧ x8 ≤ 23) (k16 : 2 ≤ x16 ∧ x16 ≤ 24) (f0 : x16 = x8 + 1) (f1 : 0 ≤ x6) (f11 : GL2 (r_0) (all_0) (left_0) (x6) (x8)) : GL2 (r_0) (all_0) (left_0) (x6) (x16) := by
  try simp only [Int.add_zero] at *
  first
    | exact gl2_skip ‹GL2 _ _ _ _ _› (by omega) (Or.inl (by omega))
    | exact gl2_skip ‹GL2 _ _ _ _ _› (by omega) (Or.inr (by omega))
def o_Mo_greedyOrder_15 : or_T := (55, 17, [(0, (2, 0, 0, [165])), (1, (2, 0, 0, [165])), (2, (0, 0, 25, [])), (3, (0, 0, 25, [])), (4, (0, -1, 22, [])), (5, (0, 0, 22, [])), (6, (0, 0, 22, [])), (8, (0, 1, 23, [])), (13, (0, 1, 48, [])), (14, (0, 0, 48, [])), (16, (0, 2, 24, []))], [(6, [16, 8], [1]), (8, [6], [3]), (8, [5], [3]), (7, [13, 14], [3]), (20, [14, 1], [30, 0, 1, 0, 0, -1, 3, 2005001]), (20, [14, 1], [30, 0, -1, 0, 0, 1, 3, 2005001]), (20, [1], [60, 2, 2, 348, 99, 5, 98, 2]), (20, [1, 2, 3], [60, 1, 3, 387, 99, 22, 97, 98]), (20, [1, 2, 3], [60, 1, 2, 388, 5, 2, 22]), (20, [1, 2, 3], [60, 1, 2, 382, 5, 2, 22]), (20, [2, 3], [50, 0, 0, 0, 2, 1, 0, 1, 1]), (20, [1, 6, 8], [60, 1, 2, 383, 5, 2, 22]), (20, [1, 4], [60, 1, 2, 384, 5, 2, 22]), (20, [1, 5], [60, 1, 2, 384, 5, 2, 22]), (20, [1, 8], [60, 1, 2, 384, 5, 2, 22]), (24, [0, 1], [])], [], [], [(20, [1, 6, 16], [60, 1, 2, 383, 5, 2, 22])], [], [(16, 8, 1, 1), (13, 14, 0, 4294967296), (2, 3, -4294967296, 0), (4, 8, -4294967296, -1), (5, 8, -4294967296, -1), (6, 8, -4294967296, -1)])
theorem oo_Mo_greedyOrder_15 {kA : Nat → ClassId} : or_ok PRD kA GG o_Mo_greedyOrder_15 := by
  refine or_mk fun A ta ws vs hD hth hl => ?_
  intro t0 r0 t1 r1 t2 k2 t3 k3 t4 k4 t5 k5 t6 k6 t8 k8 t13 k13 t14 k14 t16 k16 d0 d1 d2 d3 d4 d5 f0 f1 f2 f3 f4 f5 f6 f7 f8 f9 f10 f11 f12 f13 f14 f15
  replace f0 := shm_4 f0
  replace f1 := shm_32 f1
  replace f11 := shm_1643 f11
  replace f15 := shm_5 f15
  have q1 : n_v vs 1 = n_v vs 0 := f15.symm
  simp only [q1] at f11
  have nf0 : fc_1 PRD (20, [1, 6, 16], [60, 1, 2, 383, 5, 2, 22]) ws (vs) := by
    refine ⟨nf_in hl rfl, sgq_1643 ?_⟩
    · show GL2 (w_fi ws (n_v vs 1) 5) (w_ei ws (w_ar ws (n_v vs 1) 2)) (w_ei ws (w_ar ws (n_v vs 1) 22)) (v_iv (n_v vs 6)) (v_iv (n_v vs 16))
      rw [q1]
      exact vc_Mo_greedyOrder_15_0 (v_iv (n_v vs 6)) (v_iv (n_v vs 8)) (v_iv (n_v vs 16)) (w_ei ws (w_ar ws (n_v vs 0) 2)) (w_fi ws (n_v vs 0) 5) (w_ei ws (w_ar ws (n_v vs 0) 22)) k6 k8 k16 f0 f1 f11
  refine ⟨(fun _ h => (by cases h)), [], trivial, ?_, (fun _ h => (by cases h))⟩
  rw [List.append_nil]
  exact List.forall_mem_cons.mpr ⟨⟨show (20 : Nat) < 100 from by decide, nf0⟩, (fun _ h => (by cases h))⟩
set_option maxHeartbeats 4000000 in
theorem vc_Mo_greedyOrder_16_0 (x8 : Int) (x17 : Int) (all_0 : Int → Int) (r_0 : Int) (left_0 : Int → Int) (k8 : 1 ≤ x8 ∧ x8 ≤ 23) (k17 : 2 ≤ x17 ∧ x17 ≤ 24) (d0 : x8 + 1 ≤ x17 ∧ x17 ≤ x8 + 1) (f14 : GL3 (r_0) (all_0) (left_0) (x8)) : GL2 (r_0) (all_0) (left_0) (x8) (x17) := by
  try simp only [Int.add_zero] at *
  first
    | exact Or.inl (gl3_of (x := x8) (by assumption) (by omega))
def o_Mo_greedyOrder_16 : or_T := (55, 18, [(0, (2, 0, 0, [165])), (1, (2, 0, 0, [165])), (2, (0, 0, 25, [])), (3, (0, 0, 25, [])), (4, (0, -1, 22, [])), (5, (0, 0, 22, [])), (6, (0, 0, 22, [])), (8, (0, 1, 23, [])), (13, (0, 1, 48, [])), (14, (0, 0, 48, [])), (17, (0, 2, 24, []))], [(6, [17, 8], [1]), (8, [6], [3]), (8, [5], [3]), (7, [13, 14], [3]), (20, [14, 1], [30, 0, 1, 0, 0, -1, 3, 2005001]), (20, [14, 1], [30, 0, -1, 0, 0, 1, 3, 2005001]), (20, [1], [60, 2, 2, 348, 99, 5, 98, 2]), (20, [1, 2, 3], [60, 1, 3, 387, 99, 22, 97, 98]), (20, [1, 2, 3], [60, 1, 2, 388, 5, 2, 22]), (20, [1, 2, 3], [60, 1, 2, 382, 5, 2, 22]), (20, [2, 3], [50, 0, 0, 0, 2, 1, 0, 1, 1]), (20, [1, 6, 8], [60, 1, 2, 383, 5, 2, 22]), (20, [1, 4], [60, 1, 2, 384, 5, 2, 22]), (20, [1, 5], [60, 1, 2, 384, 5, 2, 22]), (20, [1, 8], [60, 1, 2, 384, 5, 2, 22]), (24, [0, 1], [])], [], [], [(20, [1, 8, 17], [60, 1, 2, 383, 5, 2, 22])], [], [(17, 8, 1, 1), (13, 14, 0, 4294967296), (2, 3, -4294967296, 0), (4, 8, -4294967296, -1), (5, 8, -4294967296, -1), (6, 8, -4294967296, -1)])
theorem oo_Mo_greedyOrder_16 {kA : Nat → ClassId} : or_ok PRD kA GG o_Mo_greedyOrder_16 := by
  refine or_mk fun A ta ws vs hD hth hl => ?_
  intro t0 r0 t1 r1 t2 k2 t3 k3 t4 k4 t5 k5 t6 k6 t8 k8 t13 k13 t14 k14 t17 k17 d0 d1 d2 d3 d4 d5 f0 f1 f2 f3 f4 f5 f6 f7 f8 f9 f10 f11 f12 f13 f14 f15
  replace f14 := shm_1644 f14
  replace f15 := shm_5 f15
  have q1 : n_v vs 1 = n_v vs 0 := f15.symm
  simp only [q1] at f14
  have nf0 : fc_1 PRD (20, [1, 8, 17], [60, 1, 2, 383, 5, 2, 22]) ws (vs) := by
    refine ⟨nf_in hl rfl, sgq_1643 ?_⟩
    · show GL2 (w_fi ws (n_v vs 1) 5) (w_ei ws (w_ar ws (n_v vs 1) 2)) (w_ei ws (w_ar ws (n_v vs 1) 22)) (v_iv (n_v vs 8)) (v_iv (n_v vs 17))
      rw [q1]
      exact vc_Mo_greedyOrder_16_0 (v_iv (n_v vs 8)) (v_iv (n_v vs 17)) (w_ei ws (w_ar ws (n_v vs 0) 2)) (w_fi ws (n_v vs 0) 5) (w_ei ws (w_ar ws (n_v vs 0) 22)) k8 k17 d0 f14
  refine ⟨(fun _ h => (by cases h)), [], trivial, ?_, (fun _ h => (by cases h))⟩
  rw [List.append_nil]
  exact List.forall_mem_cons.mpr ⟨⟨show (20 : Nat) < 100 from by decide, nf0⟩, (fun _ h => (by cases h))⟩
set_option maxHeartbeats 4000000 in
theorem vc_Mo_greedyOrder_17_0 (x8 : Int) (x16 : Int) (all_0 : Int → Int) (r_0 : Int) (left_0 : Int → Int) (k8 : 0 ≤ x8 ∧ x8 ≤ 23) (k16 : 1 ≤ x16 ∧ x16 ≤ 24) (d0 : x8 + 1 ≤ x16 ∧ x16 ≤ x8 + 1) (f14 : GL3 (r_0) (all_0) (left_0) (x8)) : GL2 (r_0) (all_0) (left_0) (x8) (x16) := by
  try simp only [Int.add_zero] at *
  first
    | exact Or.inl (gl3_of (x := x8) (by assumption) (by omega))
def o_Mo_greedyOrder_17 : or_T := (55, 17, [(0, (2, 0, 0, [165])), (1, (2, 0, 0, [165])), (2, (0, 0, 25, [])), (3, (0, 0, 25, [])), (4, (0, -1, 22, [])), (5, (0, -1, -1, [])), (6, (0, -1, -1, [])), (8, (0, 0, 23, [])), (13, (0, 1, 48, [])), (14, (0, 0, 48, [])), (16, (0, 1, 24, []))], [(6, [16, 8], [1]), (8, [6], [2]), (8, [5], [2]), (7, [13, 14], [3]), (20, [14, 1], [30, 0, 1, 0, 0, -1, 3, 2005001]), (20, [14, 1], [30, 0, -1, 0, 0, 1, 3, 2005001]), (20, [1], [60, 2, 2, 348, 99, 5, 98, 2]), (20, [1, 2, 3], [60, 1, 3, 387, 99, 22, 97, 98]), (20, [1, 2, 3], [60, 1, 2, 388, 5, 2, 22]), (20, [1, 2, 3], [60, 1, 2, 382, 5, 2, 22]), (20, [2, 3], [50, 0, 0, 0, 2, 1, 0, 1, 1]), (20, [1, 6, 8], [60, 1, 2, 383, 5, 2, 22]), (20, [1, 4], [60, 1, 2, 384, 5, 2, 22]), (20, [1, 5], [60, 1, 2, 384, 5, 2, 22]), (20, [1, 8], [60, 1, 2, 384, 5, 2, 22]), (24, [0, 1], [])], [], [], [(20, [1, 8, 16], [60, 1, 2, 383, 5, 2, 22])], [], [(16, 8, 1, 1), (13, 14, 0, 4294967296), (2, 3, -4294967296, 0), (4, 8, -4294967296, -1)])
theorem oo_Mo_greedyOrder_17 {kA : Nat → ClassId} : or_ok PRD kA GG o_Mo_greedyOrder_17 := by
  refine or_mk fun A ta ws vs hD hth hl => ?_
  intro t0 r0 t1 r1 t2 k2 t3 k3 t4 k4 t5 k5 t6 k6 t8 k8 t13 k13 t14 k14 t16 k16 d0 d1 d2 d3 f0 f1 f2 f3 f4 f5 f6 f7 f8 f9 f10 f11 f12 f13 f14 f15
  replace f14 := shm_1644 f14
  replace f15 := shm_5 f15
  have q1 : n_v vs 1 = n_v vs 0 := f15.symm
  simp only [q1] at f14
  have nf0 : fc_1 PRD (20, [1, 8, 16], [60, 1, 2, 383, 5, 2, 22]) ws (vs) := by
    refine ⟨nf_in hl rfl, sgq_1643 ?_⟩
    · show GL2 (w_fi ws (n_v vs 1) 5) (w_ei ws (w_ar ws (n_v vs 1) 2)) (w_ei ws (w_ar ws (n_v vs 1) 22)) (v_iv (n_v vs 8)) (v_iv (n_v vs 16))
      rw [q1]
      exact vc_Mo_greedyOrder_17_0 (v_iv (n_v vs 8)) (v_iv (n_v vs 16)) (w_ei ws (w_ar ws (n_v vs 0) 2)) (w_fi ws (n_v vs 0) 5) (w_ei ws (w_ar ws (n_v vs 0) 22)) k8 k16 d0 f14
  refine ⟨(fun _ h => (by cases h)), [], trivial, ?_, (fun _ h => (by cases h))⟩
  rw [List.append_nil]
  exact List.forall_mem_cons.mpr ⟨⟨show (20 : Nat) < 100 from by decide, nf0⟩, (fun _ h => (by cases h))⟩
set_option maxHeartbeats 4000000 in
theorem vc_Mo_greedyOrder_18_0 (x6 : Int) (x8 : Int) (x16 : Int) (all_0 : Int → Int) (r_0 : Int) (left_0 : Int → Int) (k6 : 0 ≤ x6 ∧ x6 ≤ 22) (k8 : 1 ≤ x8 ∧ x8 ≤ 23) (k16 : 2 ≤ x16 ∧ x16 ≤ 24) (f0 : x16 = x8 + 1) (f1 : 0 ≤ x6) (f11 : GL2 (r_0) (all_0) (left_0) (x6) (x8)) : GL2 (r_0) (all_0) (left_0) (x6) (x16) := by
  try simp only [Int.add_zero] at *
  first
    | exact gl2_skip ‹GL2 _ _ _ _ _› (by omega) (Or.inl (by omega))
    | exact gl2_skip ‹GL2 _ _ _ _ _› (by omega) (Or.inr (by omega))
def o_Mo_greedyOrder_18 : or_T := (55, 17, [(0, (2, 0, 0, [165])), (1, (2, 0, 0, [165])), (2, (0, 0, 25, [])), (3, (0, 0, 25, [])), (4, (0, -1, 22, [])), (5, (0, -1, -1, [])), (6, (0, 0, 22, [])), (8, (0, 1, 23, [])), (13, (0, 1, 48, [])), (14, (0, 0, 48, [])), (16, (0, 2, 24, []))], [(6, [16, 8], [1]), (8, [6], [3]), (8, [5], [2]), (7, [13, 14], [3]), (20, [14, 1], [30, 0, 1, 0, 0, -1, 3, 2005001]), (20, [14, 1], [30, 0, -1, 0, 0, 1, 3, 2005001]), (20, [1], [60, 2, 2, 348, 99, 5, 98, 2]), (20, [1, 2, 3], [60, 1, 3, 387, 99, 22, 97, 98]), (20, [1, 2, 3], [60, 1, 2, 388, 5, 2, 22]), (20, [1, 2, 3], [60, 1, 2, 382, 5, 2, 22]), (20, [2, 3], [50, 0, 0, 0, 2, 1, 0, 1, 1]), (20, [1, 6, 8], [60, 1, 2, 383, 5, 2, 22]), (20, [1, 4], [60, 1, 2, 384, 5, 2, 22]), (20, [1, 5], [60, 1, 2, 384, 5, 2, 22]), (20, [1, 8], [60, 1, 2, 384, 5, 2, 22]), (24, [0, 1], [])], [], [], [(20, [1, 6, 16], [60, 1, 2, 383, 5, 2, 22])], [], [(16, 8, 1, 1), (13, 14, 0, 4294967296), (2, 3, -4294967296, 0), (4, 8, -4294967296, -1), (6, 8, -4294967296, -1)])
theorem oo_Mo_greedyOrder_18 {kA : Nat → ClassId} : or_ok PRD kA GG o_Mo_greedyOrder_18 := by
  refine or_mk fun A ta ws vs hD hth hl => ?_
  intro t0 r0 t1 r1 t2 k2 t3 k3 t4 k4 t5 k5 t6 k6 t8 k8 t13 k13 t14 k14 t16 k16 d0 d1 d2 d3 d4 f0 f1 f2 f3 f4 f5 f6 f7 f8 f9 f10 f11 f12 f13 f14 f15
  replace f0 := shm_4 f0
  replace f1 := shm_32 f1
  replace f11 := shm_1643 f11
  replace f15 := shm_5 f15
  have q1 : n_v vs 1 = n_v vs 0 := f15.symm
  simp only [q1] at f11
  have nf0 : fc_1 PRD (20, [1, 6, 16], [60, 1, 2, 383, 5, 2, 22]) ws (vs) := by
    refine ⟨nf_in hl rfl, sgq_1643 ?_⟩
    · show GL2 (w_fi ws (n_v vs 1) 5) (w_ei ws (w_ar ws (n_v vs 1) 2)) (w_ei ws (w_ar ws (n_v vs 1) 22)) (v_iv (n_v vs 6)) (v_iv (n_v vs 16))
      rw [q1]
      exact vc_Mo_greedyOrder_18_0 (v_iv (n_v vs 6)) (v_iv (n_v vs 8)) (v_iv (n_v vs 16)) (w_ei ws (w_ar ws (n_v vs 0) 2)) (w_fi ws (n_v vs 0) 5) (w_ei ws (w_ar ws (n_v vs 0) 22)) k6 k8 k16 f0 f1 f11
  refine ⟨(fun _ h => (by cases h)), [], trivial, ?_, (fun _ h => (by cases h))⟩
  rw [List.append_nil]
  exact List.forall_mem_cons.mpr ⟨⟨show (20 : Nat) < 100 from by decide, nf0⟩, (fun _ h => (by cases h))⟩
set_option maxHeartbeats 4000000 in
theorem vc_Mo_greedyOrder_19_0 (x8 : Int) (x17 : Int) (all_0 : Int → Int) (r_0 : Int) (left_0 : Int → Int) (k8 : 1 ≤ x8 ∧ x8 ≤ 23) (k17 : 2 ≤ x17 ∧ x17 ≤ 24) (d0 : x8 + 1 ≤ x17 ∧ x17 ≤ x8 + 1) (f14 : GL3 (r_0) (all_0) (left_0) (x8)) : GL2 (r_0) (all_0) (left_0) (x8) (x17) := by
  try simp only [Int.add_zero] at *
  first
    | exact Or.inl (gl3_of (x := x8) (by assumption) (by omega))
def o_Mo_greedyOrder_19 : or_T := (55, 18, [(0, (2, 0, 0, [165])), (1, (2, 0, 0, [165])), (2, (0, 0, 25, [])), (3, (0, 0, 25, [])), (4, (0, -1, 22, [])), (5, (0, -1, -1, [])), (6, (0, 0, 22, [])), (8, (0, 1, 23, [])), (13, (0, 1, 48, [])), (14, (0, 0, 48, [])), (17, (0, 2, 24, []))], [(6, [17, 8], [1]), (8, [6], [3]), (8, [5], [2]), (7, [13, 14], [3]), (20, [14, 1], [30, 0, 1, 0, 0, -1, 3, 2005001]), (20, [14, 1], [30, 0, -1, 0, 0, 1, 3, 2005001]), (20, [1], [60, 2, 2, 348, 99, 5, 98, 2]), (20, [1, 2, 3], [60, 1, 3, 387, 99, 22, 97, 98]), (20, [1, 2, 3], [60, 1, 2, 388, 5, 2, 22]), (20, [1, 2, 3], [60, 1, 2, 382, 5, 2, 22]), (20, [2, 3], [50, 0, 0, 0, 2, 1, 0, 1, 1]), (20, [1, 6, 8], [60, 1, 2, 383, 5, 2, 22]), (20, [1, 4], [60, 1, 2, 384, 5, 2, 22]), (20, [1, 5], [60, 1, 2, 384, 5, 2, 22]), (20, [1, 8], [60, 1, 2, 384, 5, 2, 22]), (24, [0, 1], [])], [], [], [(20, [1, 8, 17], [60, 1, 2, 383, 5, 2, 22])], [], [(17, 8, 1, 1), (13, 14, 0, 4294967296), (2, 3, -4294967296, 0), (4, 8, -4294967296, -1), (6, 8, -4294967296, -1)])
theorem oo_Mo_greedyOrder_19 {kA : Nat → ClassId} : or_ok PRD kA GG o_Mo_greedyOrder_19 := by
  refine or_mk fun A ta ws vs hD hth hl => ?_
  intro t0 r0 t1 r1 t2 k2 t3 k3 t4 k4 t5 k5 t6 k6 t8 k8 t13 k13 t14 k14 t17 k17 d0 d1 d2 d3 d4 f0 f1 f2 f3 f4 f5 f6 f7 f8 f9 f10 f11 f12 f13 f14 f15
  replace f14 := shm_1644 f14
  replace f15 := shm_5 f15
  have q1 : n_v vs 1 = n_v vs 0 := f15.symm
  simp only [q1] at f14
  have nf0 : fc_1 PRD (20, [1, 8, 17], [60, 1, 2, 383, 5, 2, 22]) ws (vs) := by
    refine ⟨nf_in hl rfl, sgq_1643 ?_⟩
    · show GL2 (w_fi ws (n_v vs 1) 5) (w_ei ws (w_ar ws (n_v vs 1) 2)) (w_ei ws (w_ar ws (n_v vs 1) 22)) (v_iv (n_v vs 8)) (v_iv (n_v vs 17))
      rw [q1]
      exact vc_Mo_greedyOrder_19_0 (v_iv (n_v vs 8)) (v_iv (n_v vs 17)) (w_ei ws (w_ar ws (n_v vs 0) 2)) (w_fi ws (n_v vs 0) 5) (w_ei ws (w_ar ws (n_v vs 0) 22)) k8 k17 d0 f14
  refine ⟨(fun _ h => (by cases h)), [], trivial, ?_, (fun _ h => (by cases h))⟩
  rw [List.append_nil]
  exact List.forall_mem_cons.mpr ⟨⟨show (20 : Nat) < 100 from by decide, nf0⟩, (fun _ h => (by cases h))⟩
set_option maxHeartbeats 4000000 in
theorem vc_Mo_greedyOrder_20_0 (x8 : Int) (x16 : Int) (all_0 : Int → Int) (r_0 : Int) (left_0 : Int → Int) (k8 : 1 ≤ x8 ∧ x8 ≤ 23) (k16 : 2 ≤ x16 ∧ x16 ≤ 24) (d0 : x8 + 1 ≤ x16 ∧ x16 ≤ x8 + 1) (f14 : GL3 (r_0) (all_0) (left_0) (x8)) : GL2 (r_0) (all_0) (left_0) (x8) (x16) := by
  try simp only [Int.add_zero] at *
  first
    | exact Or.inl (gl3_of (x := x8) (by assumption) (by omega))
def o_Mo_greedyOrder_20 : or_T := (55, 17, [(0, (2, 0, 0, [165])), (1, (2, 0, 0, [165])), (2, (0, 0, 25, [])), (3, (0, 0, 25, [])), (4, (0, -1, 22, [])), (5, (0, 0, 22, [])), (6, (0, -1, -1, [])), (8, (0, 1, 23, [])), (13, (0, 0, 48, [])), (14, (0, 0, 48, [])), (16, (0, 2, 24, []))], [(6, [16, 8], [1]), (8, [6], [2]), (8, [5], [3]), (7, [13, 14], [3]), (20, [14, 1], [30, 0, 1, 0, 0, -1, 3, 2005001]), (20, [14, 1], [30, 0, -1, 0, 0, 1, 3, 2005001]), (20, [1], [60, 2, 2, 348, 99, 5, 98, 2]), (20, [1, 2, 3], [60, 1, 3, 387, 99, 22, 97, 98]), (20, [1, 2, 3], [60, 1, 2, 388, 5, 2, 22]), (20, [1, 2, 3], [60, 1, 2, 382, 5, 2, 22]), (20, [2, 3], [50, 0, 0, 0, 2, 1, 0, 1, 1]), (20, [1, 6, 8], [60, 1, 2, 383, 5, 2, 22]), (20, [1, 4], [60, 1, 2, 384, 5, 2, 22]), (20, [1, 5], [60, 1, 2, 384, 5, 2, 22]), (20, [1, 8], [60, 1, 2, 384, 5, 2, 22]), (24, [0, 1], [])], [], [], [(20, [1, 8, 16], [60, 1, 2, 383, 5, 2, 22])], [], [(16, 8, 1, 1), (13, 14, 0, 4294967296), (2, 3, -4294967296, 0), (4, 8, -4294967296, -1), (5, 8, -4294967296, -1)])
theorem oo_Mo_greedyOrder_20 {kA : Nat → ClassId} : or_ok PRD kA GG o_Mo_greedyOrder_20 := by
  refine or_mk fun A ta ws vs hD hth hl => ?_
  intro t0 r0 t1 r1 t2 k2 t3 k3 t4 k4 t5 k5 t6 k6 t8 k8 t13 k13 t14 k14 t16 k16 d0 d1 d2 d3 d4 f0 f1 f2 f3 f4 f5 f6 f7 f8 f9 f10 f11 f12 f13 f14 f15
  replace f14 := shm_1644 f14
  replace f15 := shm_5 f15
  have q1 : n_v vs 1 = n_v vs 0 := f15.symm
  simp only [q1] at f14
  have nf0 : fc_1 PRD (20, [1, 8, 16], [60, 1, 2, 383, 5, 2, 22]) ws (vs) := by
    refine ⟨nf_in hl rfl, sgq_1643 ?_⟩
    · show GL2 (w_fi ws (n_v vs 1) 5) (w_ei ws (w_ar ws (n_v vs 1) 2)) (w_ei ws (w_ar ws (n_v vs 1) 22)) (v_iv (n_v vs 8)) (v_iv (n_v vs 16))
      rw [q1]
      exact vc_Mo_greedyOrder_20_0 (v_iv (n_v vs 8)) (v_iv (n_v vs 16)) (w_ei ws (w_ar ws (n_v vs 0) 2)) (w_fi ws (n_v vs 0) 5) (w_ei ws (w_ar ws (n_v vs 0) 22)) k8 k16 d0 f14
  refine ⟨(fun _ h => (by cases h)), [], trivial, ?_, (fun _ h => (by cases h))⟩
  rw [List.append_nil]
  exact List.forall_mem_cons.mpr ⟨⟨show (20 : Nat) < 100 from by decide, nf0⟩, (fun _ h => (by cases h))⟩
set_option maxHeartbeats 4000000 in
theorem vc_Mo_greedyOrder_21_0 (x6 : Int) (x8 : Int) (x16 : Int) (all_0 : Int → Int) (r_0 : Int) (left_0 : Int → Int) (k6 : 0 ≤ x6 ∧ x6 ≤ 22) (k8 : 1 ≤ x8 ∧ x8 ≤ 23) (k16 : 2 ≤ x16 ∧ x16 ≤ 24) (f0 : x16 = x8 + 1) (f1 : 0 ≤ x6) (f11 : GL2 (r_0) (all_0) (left_0) (x6) (x8)) : GL2 (r_0) (all_0) (left_0) (x6) (x16) := by
  try simp only [Int.add_zero] at *
  first
    | exact gl2_skip ‹GL2 _ _ _ _ _› (by omega) (Or.inl (by omega))
    | exact gl2_skip ‹GL2 _ _ _ _ _› (by omega) (Or.inr (by omega))
def o_Mo_greedyOrder_21 : or_T := (55, 17, [(0, (2, 0, 0, [165])), (1, (2, 0, 0, [165])), (2, (0, 0, 25, [])), (3, (0, 0, 25, [])), (4, (0, -1, 22, [])), (5, (0, 0, 22, [])), (6, (0, 0, 22, [])), (8, (0, 1, 23, [])), (13, (0, 0, 48, [])), (14, (0, 0, 48, [])), (16, (0, 2, 24, []))], [(6, [16, 8], [1]), (8, [6], [3]), (8, [5], [3]), (7, [13, 14], [3]), (20, [14, 1], [30, 0, 1, 0, 0, -1, 3, 2005001]), (20, [14, 1], [30, 0, -1, 0, 0, 1, 3, 2005001]), (20, [1], [60, 2, 2, 348, 99, 5, 98, 2]), (20, [1, 2, 3], [60, 1, 3, 387, 99, 22, 97, 98]), (20, [1, 2, 3], [60, 1, 2, 388, 5, 2, 22]), (20, [1, 2, 3], [60, 1, 2, 382, 5, 2, 22]), (20, [2, 3], [50, 0, 0, 0, 2, 1, 0, 1, 1]), (20, [1, 6, 8], [60, 1, 2, 383, 5, 2, 22]), (20, [1, 4], [60, 1, 2, 384, 5, 2, 22]), (20, [1, 5], [60, 1, 2, 384, 5, 2, 22]), (20, [1, 8], [60, 1, 2, 384, 5, 2, 22]), (24, [0, 1], [])], [], [], [(20, [1, 6, 16], [60, 1, 2, 383, 5, 2, 22])], [], [(16, 8, 1, 1), (13, 14, 0, 4294967296), (2, 3, -4294967296, 0), (4, 8, -4294967296, -1), (5, 8, -4294967296, -1), (6, 8, -4294967296, -1)])
theorem oo_Mo_greedyOrder_21 {kA : Nat → ClassId} : or_ok PRD kA GG o_Mo_greedyOrder_21 := by
  refine or_mk fun A ta ws vs hD hth hl => ?_
  intro t0 r0 t1 r1 t2 k2 t3 k3 t4 k4 t5 k5 t6 k6 t8 k8 t13 k13 t14 k14 t16 k16 d0 d1 d2 d3 d4 d5 f0 f1 f2 f3 f4 f5 f6 f7 f8 f9 f10 f11 f12 f13 f14 f15
  replace f0 := shm_4 f0
  replace f1 := shm_32 f1
  replace f11 := shm_1643 f11
  replace f15 := shm_5 f15
  have q1 : n_v vs 1 = n_v vs 0 := f15.symm
  simp only [q1] at f11
  have nf0 : fc_1 PRD (20, [1, 6, 16], [60, 1, 2, 383, 5, 2, 22]) ws (vs) := by
    refine ⟨nf_in hl rfl, sgq_1643 ?_⟩
    · show GL2 (w_fi ws (n_v vs 1) 5) (w_ei ws (w_ar ws (n_v vs 1) 2)) (w_ei ws (w_ar ws (n_v vs 1) 22)) (v_iv (n_v vs 6)) (v_iv (n_v vs 16))
      rw [q1]
      exact vc_Mo_greedyOrder_21_0 (v_iv (n_v vs 6)) (v_iv (n_v vs 8)) (v_iv (n_v vs 16)) (w_ei ws (w_ar ws (n_v vs 0) 2)) (w_fi ws (n_v vs 0) 5) (w_ei ws (w_ar ws (n_v vs 0) 22)) k6 k8 k16 f0 f1 f11
  refine ⟨(fun _ h => (by cases h)), [], trivial, ?_, (fun _ h => (by cases h))⟩
  rw [List.append_nil]
  exact List.forall_mem_cons.mpr ⟨⟨show (20 : Nat) < 100 from by decide, nf0⟩, (fun _ h => (by cases h))⟩
set_option maxHeartbeats 4000000 in
theorem vc_Mo_greedyOrder_22_0 (x8 : Int) (x17 : Int) (all_0 : Int → Int) (r_0 : Int) (left_0 : Int → Int) (k8 : 1 ≤ x8 ∧ x8 ≤ 23) (k17 : 2 ≤ x17 ∧ x17 ≤ 24) (d0 : x8 + 1 ≤ x17 ∧ x17 ≤ x8 + 1) (f14 : GL3 (r_0) (all_0) (left_0) (x8)) : GL2 (r_0) (all_0) (left_0) (x8) (x17) := by
  try simp only [Int.add_zero] at *
  first
    | exact Or.inl (gl3_of (x := x8) (by assumption) (by omega))
def o_Mo_greedyOrder_22 : or_T := (55, 18, [(0, (2, 0, 0, [165])), (1, (2, 0, 0, [165])), (2, (0, 0, 25, [])), (3, (0, 0, 25, [])), (4, (0, -1, 22, [])), (5, (0, 0, 22, [])), (6, (0, 0, 22, [])), (8, (0, 1, 23, [])), (13, (0, 0, 48, [])), (14, (0, 0, 48, [])), (17, (0, 2, 24, []))], [(6, [17, 8], [1]), (8, [6], [3]), (8, [5], [3]), (7, [13, 14], [3]), (20, [14, 1], [30, 0, 1, 0, 0, -1, 3, 2005001]), (20, [14, 1], [30, 0, -1, 0, 0, 1, 3, 2005001]), (20, [1], [60, 2, 2, 348, 99, 5, 98, 2]), (20, [1, 2, 3], [60, 1, 3, 387, 99, 22, 97, 98]), (20, [1, 2, 3], [60, 1, 2, 388, 5, 2, 22]), (20, [1, 2, 3], [60, 1, 2, 382, 5, 2, 22]), (20, [2, 3], [50, 0, 0, 0, 2, 1, 0, 1, 1]), (20, [1, 6, 8], [60, 1, 2, 383, 5, 2, 22]), (20, [1, 4], [60, 1, 2, 384, 5, 2, 22]), (20, [1, 5], [60, 1, 2, 384, 5, 2, 22]), (20, [1, 8], [60, 1, 2, 384, 5, 2, 22]), (24, [0, 1], [])], [], [], [(20, [1, 8, 17], [60, 1, 2, 383, 5, 2, 22])], [], [(17, 8, 1, 1), (13, 14, 0, 4294967296), (2, 3, -4294967296, 0), (4, 8, -4294967296, -1), (5, 8, -4294967296, -1), (6, 8, -4294967296, -1)])
theorem oo_Mo_greedyOrder_22 {kA : Nat → ClassId} : or_ok PRD kA GG o_Mo_greedyOrder_22 := by
  refine or_mk fun A ta ws vs hD hth hl => ?_
  intro t0 r0 t1 r1 t2 k2 t3 k3 t4 k4 t5 k5 t6 k6 t8 k8 t13 k13 t14 k14 t17 k17 d0 d1 d2 d3 d4 d5 f0 f1 f2 f3 f4 f5 f6 f7 f8 f9 f10 f11 f12 f13 f14 f15
  replace f14 := shm_1644 f14
  replace f15 := shm_5 f15
  have q1 : n_v vs 1 = n_v vs 0 := f15.symm
  simp only [q1] at f14
  have nf0 : fc_1 PRD (20, [1, 8, 17], [60, 1, 2, 383, 5, 2, 22]) ws (vs) := by
    refine ⟨nf_in hl rfl, sgq_1643 ?_⟩
    · show GL2 (w_fi ws (n_v vs 1) 5) (w_ei ws (w_ar ws (n_v vs 1) 2)) (w_ei ws (w_ar ws (n_v vs 1) 22)) (v_iv (n_v vs 8)) (v_iv (n_v vs 17))
      rw [q1]
      exact vc_Mo_greedyOrder_22_0 (v_iv (n_v vs 8)) (v_iv (n_v vs 17)) (w_ei ws (w_ar ws (n_v vs 0) 2)) (w_fi ws (n_v vs 0) 5) (w_ei ws (w_ar ws (n_v vs 0) 22)) k8 k17 d0 f14
  refine ⟨(fun _ h => (by cases h)), [], trivial, ?_, (fun _ h => (by cases h))⟩
  rw [List.append_nil]
  exact List.forall_mem_cons.mpr ⟨⟨show (20 : Nat) < 100 from by decide, nf0⟩, (fun _ h => (by cases h))⟩
set_option maxHeartbeats 4000000 in
theorem vc_Mo_greedyOrder_23_0 (x8 : Int) (x16 : Int) (all_0 : Int → Int) (r_0 : Int) (left_0 : Int → Int) (k8 : 0 ≤ x8 ∧ x8 ≤ 23) (k16 : 1 ≤ x16 ∧ x16 ≤ 24) (d0 : x8 + 1 ≤ x16 ∧ x16 ≤ x8 + 1) (f14 : GL3 (r_0) (all_0) (left_0) (x8)) : GL2 (r_0) (all_0) (left_0) (x8) (x16) := by
  try simp only [Int.add_zero] at *
  first
    | exact Or.inl (gl3_of (x := x8) (by assumption) (by omega))
def o_Mo_greedyOrder_23 : or_T := (55, 17, [(0, (2, 0, 0, [165])), (1, (2, 0, 0, [165])), (2, (0, 0, 25, [])), (3, (0, 0, 25, [])), (4, (0, -1, 22, [])), (5, (0, -1, -1, [])), (6, (0, -1, -1, [])), (8, (0, 0, 23, [])), (13, (0, 0, 48, [])), (14, (0, 0, 48, [])), (16, (0, 1, 24, []))], [(6, [16, 8], [1]), (8, [6], [2]), (8, [5], [2]), (7, [13, 14], [3]), (20, [14, 1], [30, 0, 1, 0, 0, -1, 3, 2005001]), (20, [14, 1], [30, 0, -1, 0, 0, 1, 3, 2005001]), (20, [1], [60, 2, 2, 348, 99, 5, 98, 2]), (20, [1, 2, 3], [60, 1, 3, 387, 99, 22, 97, 98]), (20, [1, 2, 3], [60, 1, 2, 388, 5, 2, 22]), (20, [1, 2, 3], [60, 1, 2, 382, 5, 2, 22]), (20, [2, 3], [50, 0, 0, 0, 2, 1, 0, 1, 1]), (20, [1, 6, 8], [60, 1, 2, 383, 5, 2, 22]), (20, [1, 4], [60, 1, 2, 384, 5, 2, 22]), (20, [1, 5], [60, 1, 2, 384, 5, 2, 22]), (20, [1, 8], [60, 1, 2, 384, 5, 2, 22]), (24, [0, 1], [])], [], [], [(20, [1, 8, 16], [60, 1, 2, 383, 5, 2, 22])], [], [(16, 8, 1, 1), (13, 14, 0, 4294967296), (2, 3, -4294967296, 0), (4, 8, -4294967296, -1)])
theorem oo_Mo_greedyOrder_23 {kA : Nat → ClassId} : or_ok PRD kA GG o_Mo_greedyOrder_23 := by
  refine or_mk fun A ta ws vs hD hth hl => ?_
  intro t0 r0 t1 r1 t2 k2 t3 k3 t4 k4 t5 k5 t6 k6 t8 k8 t13 k13 t14 k14 t16 k16 d0 d1 d2 d3 f0 f1 f2 f3 f4 f5 f6 f7 f8 f9 f10 f11 f12 f13 f14 f15
  replace f14 := shm_1644 f14
  replace f15 := shm_5 f15
  have q1 : n_v vs 1 = n_v vs 0 := f15.symm
  simp only [q1] at f14
  have nf0 : fc_1 PRD (20, [1, 8, 16], [60, 1, 2, 383, 5, 2, 22]) ws (vs) := by
    refine ⟨nf_in hl rfl, sgq_1643 ?_⟩
    · show GL2 (w_fi ws (n_v vs 1) 5) (w_ei ws (w_ar ws (n_v vs 1) 2)) (w_ei ws (w_ar ws (n_v vs 1) 22)) (v_iv (n_v vs 8)) (v_iv (n_v vs 16))
      rw [q1]
      exact vc_Mo_greedyOrder_23_0 (v_iv (n_v vs 8)) (v_iv (n_v vs 16)) (w_ei ws (w_ar ws (n_v vs 0) 2)) (w_fi ws (n_v vs 0) 5) (w_ei ws (w_ar ws (n_v vs 0) 22)) k8 k16 d0 f14
  refine ⟨(fun _ h => (by cases h)), [], trivial, ?_, (fun _ h => (by cases h))⟩
  rw [List.append_nil]
  exact List.forall_mem_cons.mpr ⟨⟨show (20 : Nat) < 100 from by decide, nf0⟩, (fun _ h => (by cases h))⟩
set_option maxHeartbeats 4000000 in
theorem vc_Mo_greedyOrder_24_0 (x6 : Int) (x8 : Int) (x16 : Int) (all_0 : Int → Int) (r_0 : Int) (left_0 : Int → Int) (k6 : 0 ≤ x6 ∧ x6 ≤ 22) (k8 : 1 ≤ x8 ∧ x8 ≤ 23) (k16 : 2 ≤ x16 ∧ x16 ≤ 24) (f0 : x16 = x8 + 1) (f1 : 0 ≤ x6) (f11 : GL2 (r_0) (all_0) (left_0) (x6) (x8)) : GL2 (r_0) (all_0) (left_0) (x6) (x16) := by
  try simp only [Int.add_zero] at *
  first
    | exact gl2_skip ‹GL2 _ _ _ _ _› (by omega) (Or.inl (by omega))
    | exact gl2_skip ‹GL2 _ _ _ _ _› (by omega) (Or.inr (by omega))
def o_Mo_greedyOrder_24 : or_T := (55, 17, [(0, (2, 0, 0, [165])), (1, (2, 0, 0, [165])), (2, (0, 0, 25, [])), (3, (0, 0, 25, [])), (4, (0, -1, 22, [])), (5, (0, -1, -1, [])), (6, (0, 0, 22, [])), (8, (0, 1, 23, [])), (13, (0, 0, 48, [])), (14, (0, 0, 48, [])), (16, (0, 2, 24, []))], [(6, [16, 8], [1]), (8, [6], [3]), (8, [5], [2]), (7, [13, 14], [3]), (20, [14, 1], [30, 0, 1, 0, 0, -1, 3, 2005001]), (20, [14, 1], [30, 0, -1, 0, 0, 1, 3, 2005001]), (20, [1], [60, 2, 2, 348, 99, 5, 98, 2]), (20, [1, 2, 3], [60, 1, 3, 387, 99, 22, 97, 98]), (20, [1, 2, 3], [60, 1, 2, 388, 5, 2, 22]), (20, [1, 2, 3], [60, 1, 2, 382, 5, 2, 22]), (20, [2, 3], [50, 0, 0, 0, 2, 1, 0, 1, 1]), (20, [1, 6, 8], [60, 1, 2, 383, 5, 2, 22]), (20, [1, 4], [60, 1, 2, 384, 5, 2, 22]), (20, [1, 5], [60, 1, 2, 384, 5, 2, 22]), (20, [1, 8], [60, 1, 2, 384, 5, 2, 22]), (24, [0, 1], [])], [], [], [(20, [1, 6, 16], [60, 1, 2, 383, 5, 2, 22])], [], [(16, 8, 1, 1), (13, 14, 0, 4294967296), (2, 3, -4294967296, 0), (4, 8, -4294967296, -1), (6, 8, -4294967296, -1)])
theorem oo_Mo_greedyOrder_24 {kA : Nat → ClassId} : or_ok PRD kA GG o_Mo_greedyOrder_24 := by
  refine or_mk fun A ta ws vs hD hth hl => ?_
  intro t0 r0 t1 r1 t2 k2 t3 k3 t4 k4 t5 k5 t6 k6 t8 k8 t13 k13 t14 k14 t16 k16 d0 d1 d2 d3 d4 f0 f1 f2 f3 f4 f5 f6 f7 f8 f9 f10 f11 f12 f13 f14 f15
  replace f0 := shm_4 f0
  replace f1 := shm_32 f1
  replace f11 := shm_1643 f11
  replace f15 := shm_5 f15
  have q1 : n_v vs 1 = n_v vs 0 := f15.symm
  simp only [q1] at f11
  have nf0 : fc_1 PRD (20, [1, 6, 16], [60, 1, 2, 383, 5, 2, 22]) ws (vs) := by
    refine ⟨nf_in hl rfl, sgq_1643 ?_⟩
    · show GL2 (w_fi ws (n_v vs 1) 5) (w_ei ws (w_ar ws (n_v vs 1) 2)) (w_ei ws (w_ar ws (n_v vs 1) 22)) (v_iv (n_v vs 6)) (v_iv (n_v vs 16))
      rw [q1]
      exact vc_Mo_greedyOrder_24_0 (v_iv (n_v vs 6)) (v_iv (n_v vs 8)) (v_iv (n_v vs 16)) (w_ei ws (w_ar ws (n_v vs 0) 2)) (w_fi ws (n_v vs 0) 5) (w_ei ws (w_ar ws (n_v vs 0) 22)) k6 k8 k16 f0 f1 f11
  refine ⟨(fun _ h => (by cases h)), [], trivial, ?_, (fun _ h => (by cases h))⟩
  rw [List.append_nil]
  exact List.forall_mem_cons.mpr ⟨⟨show (20 : Nat) < 100 from by decide, nf0⟩, (fun _ h => (by cases h))⟩
set_option maxHeartbeats 4000000 in
theorem vc_Mo_greedyOrder_25_0 (x8 : Int) (x17 : Int) (all_0 : Int → Int) (r_0 : Int) (left_0 : Int → Int) (k8 : 1 ≤ x8 ∧ x8 ≤ 23) (k17 : 2 ≤ x17 ∧ x17 ≤ 24) (d0 : x8 + 1 ≤ x17 ∧ x17 ≤ x8 + 1) (f14 : GL3 (r_0) (all_0) (left_0) (x8)) : GL2 (r_0) (all_0) (left_0) (x8) (x17) := by
  try simp only [Int.add_zero] at *
  first
    | exact Or.inl (gl3_of (x := x8) (by assumption) (by omega))
def o_Mo_greedyOrder_25 : or_T := (55, 18, [(0, (2, 0, 0, [165])), (1, (2, 0, 0, [165])), (2, (0, 0, 25, [])), (3, (0, 0, 25, [])), (4, (0, -1, 22, [])), (5, (0, -1, -1, [])), (6, (0, 0, 22, [])), (8, (0, 1, 23, [])), (13, (0, 0, 48, [])), (14, (0, 0, 48, [])), (17, (0, 2, 24, []))], [(6, [17, 8], [1]), (8, [6], [3]), (8, [5], [2]), (7, [13, 14], [3]), (20, [14, 1], [30, 0, 1, 0, 0, -1, 3, 2005001]), (20, [14, 1], [30, 0, -1, 0, 0, 1, 3, 2005001]), (20, [1], [60, 2, 2, 348, 99, 5, 98, 2]), (20, [1, 2, 3], [60, 1, 3, 387, 99, 22, 97, 98]), (20, [1, 2, 3], [60, 1, 2, 388, 5, 2, 22]), (20, [1, 2, 3], [60, 1, 2, 382, 5, 2, 22]), (20, [2, 3], [50, 0, 0, 0, 2, 1, 0, 1, 1]), (20, [1, 6, 8], [60, 1, 2, 383, 5, 2, 22]), (20, [1, 4], [60, 1, 2, 384, 5, 2, 22]), (20, [1, 5], [60, 1, 2, 384, 5, 2, 22]), (20, [1, 8], [60, 1, 2, 384, 5, 2, 22]), (24, [0, 1], [])], [], [], [(20, [1, 8, 17], [60, 1, 2, 383, 5, 2, 22])], [], [(17, 8, 1, 1), (13, 14, 0, 4294967296), (2, 3, -4294967296, 0), (4, 8, -4294967296, -1), (6, 8, -4294967296, -1)])
theorem oo_Mo_greedyOrder_25 {kA : Nat → ClassId} : or_ok PRD kA GG o_Mo_greedyOrder_25 := by
  refine or_mk fun A ta ws vs hD hth hl => ?_
  intro t0 r0 t1 r1 t2 k2 t3 k3 t4 k4 t5 k5 t6 k6 t8 k8 t13 k13 t14 k14 t17 k17 d0 d1 d2 d3 d4 f0 f1 f2 f3 f4 f5 f6 f7 f8 f9 f10 f11 f12 f13 f14 f15
  replace f14 := shm_1644 f14
  replace f15 := shm_5 f15
  have q1 : n_v vs 1 = n_v vs 0 := f15.symm
  simp only [q1] at f14
  have nf0 : fc_1 PRD (20, [1, 8, 17], [60, 1, 2, 383, 5, 2, 22]) ws (vs) := by
    refine ⟨nf_in hl rfl, sgq_1643 ?_⟩
    · show GL2 (w_fi ws (n_v vs 1) 5) (w_ei ws (w_ar ws (n_v vs 1) 2)) (w_ei ws (w_ar ws (n_v vs 1) 22)) (v_iv (n_v vs 8)) (v_iv (n_v vs 17))
      rw [q1]
      exact vc_Mo_greedyOrder_25_0 (v_iv (n_v vs 8)) (v_iv (n_v vs 17)) (w_ei ws (w_ar ws (n_v vs 0) 2)) (w_fi ws (n_v vs 0) 5) (w_ei ws (w_ar ws (n_v vs 0) 22)) k8 k17 d0 f14
  refine ⟨(fun _ h => (by cases h)), [], trivial, ?_, (fun _ h => (by cases h))⟩
  rw [List.append_nil]
  exact List.forall_mem_cons.mpr ⟨⟨show (20 : Nat) < 100 from by decide, nf0⟩, (fun _ h => (by cases h))⟩
def n_Mo_greedyOrder_an : List an_T := [(2, [(0, (2, 0, 0, [165])), (1, (0, 0, 24, []))], [], (0, 0), [(0, 0, 99998), (1, 2, 24), (0, 0, 100000), (0, 0, 0), (0, 0, 0), (0, 0, 0), (0, 0, 0), (0, 0, 0)], [], [], [(2, 0, 0, [165])], 0, [], [(20, [1], [60, 2, 2, 348, 99, 5, 98, 2]), (20, [1, 2], [60, 1, 2, 381, 99, 22, 98]), (20, [1, 2], [60, 1, 2, 386, 99, 22, 98]), (24, [0, 1], [])]), (36, [(0, (2, 0, 0, [165])), (1, (0, 0, 26, [])), (2, (0, (Int.negSucc 0), 25, []))], [], (0, 0), [(0, 0, 99964), (1, 2, 26), (2, 3, (Int.negSucc 0)), (0, 0, 100000), (0, 0, 0), (0, 0, 0), (0, 0, 0), (0, 0, 0)], [(2, 3, (Int.negSucc 999999999999), 1)], [], [(2, 0, 0, [165])], 0, [], [(20, [1], [60, 2, 2, 348, 99, 5, 98, 2]), (20, [1, 2, 3], [60, 1, 3, 387, 99, 22, 97, 98]), (20, [1, 2, 3], [60, 1, 2, 388, 5, 2, 22]), (20, [1, 2, 3], [60, 1, 2, 382, 5, 2, 22]), (24, [0, 1], [])]), (55, [(0, (2, 0, 0, [165])), (1, (0, 0, 25, [])), (2, (0, 0, 25, [])), (3, (0, (Int.negSucc 0), 23, [])), (4, (0, (Int.negSucc 0), 23, [])), (5, (0, (Int.negSucc 0), 23, [])), (6, (0, (Int.negSucc 2147483647), 2147483647, [])), (7, (0, 0, 24, []))], [], (0, 0), [(0, 0, 99964), (1, 2, 26), (2, 3, (Int.negSucc 0)), (0, 0, 99945), (1, 8, 24), (0, 0, 100000), (0, 0, 0), (0, 0, 0)], [(2, 3, (Int.negSucc 999999999999), 0), (4, 8, (Int.negSucc 999999999999), (Int.negSucc 0)), (5, 8, (Int.negSucc 999999999999), (Int.negSucc 0)), (6, 8, (Int.negSucc 999999999999), (Int.negSucc 0))], [], [(2, 0, 0, [165])], 0, [], [(20, [1], [60, 2, 2, 348, 99, 5, 98, 2]), (20, [1, 2, 3], [60, 1, 3, 387, 99, 22, 97, 98]), (20, [1, 2, 3], [60, 1, 2, 388, 5, 2, 22]), (20, [1, 2, 3], [60, 1, 2, 382, 5, 2, 22]), (20, [2, 3], [50, 0, 0, 0, 2, 1, 0, 1, 1]), (20, [1, 6, 8], [60, 1, 2, 383, 5, 2, 22]), (20, [1, 4], [60, 1, 2, 384, 5, 2, 22]), (20, [1, 5], [60, 1, 2, 384, 5, 2, 22]), (24, [0, 1], [])]), (92, [(0, (2, 0, 0, [165])), (1, (0, 0, 25, [])), (2, (0, 0, 25, [])), (3, (0, (Int.negSucc 0), 22, [])), (4, (0, (Int.negSucc 0), 22, [])), (5, (0, (Int.negSucc 0), 22, [])), (6, (0, (Int.negSucc 2147483647), 2147483647, [])), (7, (0, 0, 23, [])), (8, (0, (Int.negSucc 2147483647), 2147483647, [])), (9, (0, (Int.negSucc 2147483647), 2147483647, [])), (10, (0, 0, 48, [])), (11, (0, 0, 48, [])), (12, (0, 0, 48, []))], [], (0, 0), [(0, 0, 99964), (1, 2, 26), (2, 3, (Int.negSucc 0)), (0, 0, 99945), (1, 8, 24), (0, 0, 99908), (1, 13, 48), (0, 0, 100000)], [(2, 3, (Int.negSucc 999999999999), 0), (4, 8, (Int.negSucc 999999999999), (Int.negSucc 0)), (5, 8, (Int.negSucc 999999999999), (Int.negSucc 0)), (6, 8, (Int.negSucc 999999999999), (Int.negSucc 0)), (11, 13, (Int.negSucc 999999999999), 0), (12, 13, (Int.negSucc 999999999999), 0)], [], [(2, 0, 0, [165])], 0, [], [(20, [1], [60, 2, 2, 348, 99, 5, 98, 2]), (20, [1, 2, 3], [60, 1, 3, 387, 99, 22, 97, 98]), (20, [1, 2, 3], [60, 1, 2, 388, 5, 2, 22]), (20, [1, 2, 3], [60, 1, 2, 382, 5, 2, 22]), (20, [2, 3], [50, 0, 0, 0, 2, 1, 0, 1, 1]), (20, [1, 6, 8], [60, 1, 2, 383, 5, 2, 22]), (20, [1, 4], [60, 1, 2, 384, 5, 2, 22]), (20, [1, 5], [60, 1, 2, 384, 5, 2, 22]), (20, [1, 8], [60, 1, 2, 384, 5, 2, 22]), (24, [0, 1], [])])]
def t_Mo_greedyOrder_ct : ct_L := [(1, 394, e_Mo_tail), (1, 398, e_Mo_head), (1, 401, e_Mo_edges), (1, 475, e_Mo_nodes), (1, 737, e_Mo_weight), (1, 807, e_Mo_isMember)]
end
