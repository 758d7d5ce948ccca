set_option maxHeartbeats 4000000 in
theorem vc_Mo_backFrom_0_r0 (x1 : Int) (x2 : Int) (x3 : Int) (x5 : Int) (x7 : Int) (x8 : Int) (wide_0 : Int) (barredPoint_0 : Int → Int) (costOf_0 : Int → Int) (bucket_0 : Int → Int) (bucketMany_0 : Int → Int) (tall_0 : Int) (k1 : 0 ≤ x1 ∧ x1 ≤ 23999) (k2 : 0 ≤ x2 ∧ x2 ≤ 1000000) (k3 : 0 ≤ x3 ∧ x3 ≤ 5999) (k5 : 0 ≤ x5 ∧ x5 ≤ 5999) (k7 : 0 ≤ x7 ∧ x7 ≤ 3) (k8 : (-2147483648) ≤ x8 ∧ x8 ≤ 2147483647) (g0 : x8 = wide_0) (f1 : x7 = x1 % 4) (f2 : x5 = x1 / 4) (f3 : RTQ (wide_0) (tall_0) (barredPoint_0) (costOf_0) (bucket_0) (bucketMany_0) (x3) (x2)) (f4 : PIV (costOf_0) (x1) (x2)) (f5 : (0 ≤ x1) ∧ ((x1 + 1) ≤ (4 * (wide_0 * tall_0)))) (f6 : (0 ≤ x2) ∧ (x2 ≤ 999999)) (hK_0_140 : ∀ j : Int, 0 ≤ j → j < 24000 → 0 ≤ costOf_0 j ∧ costOf_0 j ≤ 1000000) (hK_0_141 : ∀ j : Int, 0 ≤ j → j < 96040 → 0 ≤ bucket_0 j ∧ bucket_0 j ≤ 23999) (hK_0_142 : ∀ j : Int, 0 ≤ j → j < 4 → 0 ≤ bucketMany_0 j ∧ bucketMany_0 j ≤ 24009) (hK_0_143 : ∀ j : Int, 0 ≤ j → j < 6000 → 0 ≤ barredPoint_0 j ∧ barredPoint_0 j ≤ 1) (kz_0_146 : (-2147483648) ≤ wide_0 ∧ wide_0 ≤ 2147483647) (kz_0_147 : (-2147483648) ≤ tall_0 ∧ tall_0 ≤ 2147483647) : 1 ≤ x8 ∧ x8 ≤ 6000 := by
  first
    | omega
    | (have g := gok_bd (show GRX wide_0 tall_0 from ‹RTQ _ _ _ _ _ _ _ _›.1); omega)
    | (have g0 : GRX wide_0 tall_0 := ‹RTQ _ _ _ _ _ _ _ _›.1
       have g := gok_bd g0
       have e8 : x8 = wide_0 := by assumption
       have e20 : x20 = tall_0 := by assumption
       have c := cell_ix (W := x8) (T := x20) (x := x11) (y := x14) (p := x25) (by omega) (by omega) (by omega) (by omega) (by omega) (by rw [‹x25 = x24 + x11›, ‹x24 = x14 * x8›])
       have g3 := g0.2.2
       rw [e8, e20] at c
       omega)
    | (have h := ‹BFP _ _ _ _ _›.2.2.1; omega)
    | sorry
def o_Mo_backFrom_0 : or_T := (14, 9, [(0, (2, 0, 0, [150])), (1, (0, 0, 23999, [])), (2, (0, 0, 1000000, [])), (3, (0, 0, 5999, [])), (5, (0, 0, 5999, [])), (7, (0, 0, 3, [])), (8, (0, -2147483648, 2147483647, []))], [(9, [8, 0], [146]), (12, [7, 1], [4]), (11, [5, 1], [4]), (20, [0, 3, 2], [60, 2, 4, 419, 146, 147, 143, 140, 141, 142]), (20, [0, 1, 2], [60, 0, 1, 421, 140]), (20, [1, 0], [50, 2, 0, 1146, 1147, 2, 6, 0, 2, 0, 0, 1, 0, 0, 6, 4, 2, 1, 0, 0, 1, 6, 2, 0, 4, 6, 3, 2, 1, 146, 2, 1, 147]), (20, [2], [50, 0, 0, 2, 6, 0, 2, 0, 0, 1, 0, 0, 2, 1, 0, 0, 999999])], [(8, (0, 1, 6000, []))], [], [], [], [])
theorem oo_Mo_backFrom_0 {kA : Nat → ClassId} : or_ok PRD kA GG o_Mo_backFrom_0 := by
  intro A ta ws vs hD hth hl hk hds hf
  have hl : vs.length = 9 := hl
  have hk : ∀ q ∈ ([(0, (2, 0, 0, [150])), (1, (0, 0, 23999, [])), (2, (0, 0, 1000000, [])), (3, (0, 0, 5999, [])), (5, (0, 0, 5999, [])), (7, (0, 0, 3, [])), (8, (0, -2147483648, 2147483647, []))] : List (Nat × tv_T)), tv_ok ta q.2 (n_v vs q.1) := hk
  obtain ⟨t0, hk⟩ := List.forall_mem_cons.mp hk
  have t0 : tv_ok ta (2, 0, 0, [150]) (n_v vs 0) := t0
  have r0 : ta (v_ad (n_v vs 0)) = some 150 := tv_rg t0
  obtain ⟨t1, hk⟩ := List.forall_mem_cons.mp hk
  have t1 : tv_ok ta (0, 0, 23999, []) (n_v vs 1) := t1
  have k1 : 0 ≤ v_iv (n_v vs 1) ∧ v_iv (n_v vs 1) ≤ 23999 := tv_rng t1
  obtain ⟨t2, hk⟩ := List.forall_mem_cons.mp hk
  have t2 : tv_ok ta (0, 0, 1000000, []) (n_v vs 2) := t2
  have k2 : 0 ≤ v_iv (n_v vs 2) ∧ v_iv (n_v vs 2) ≤ 1000000 := tv_rng t2
  obtain ⟨t3, hk⟩ := List.forall_mem_cons.mp hk
  have t3 : tv_ok ta (0, 0, 5999, []) (n_v vs 3) := t3
  have k3 : 0 ≤ v_iv (n_v vs 3) ∧ v_iv (n_v vs 3) ≤ 5999 := tv_rng t3
  obtain ⟨t5, hk⟩ := List.forall_mem_cons.mp hk
  have t5 : tv_ok ta (0, 0, 5999, []) (n_v vs 5) := t5
  have k5 : 0 ≤ v_iv (n_v vs 5) ∧ v_iv (n_v vs 5) ≤ 5999 := tv_rng t5
  obtain ⟨t7, hk⟩ := List.forall_mem_cons.mp hk
  have t7 : tv_ok ta (0, 0, 3, []) (n_v vs 7) := t7
  have k7 : 0 ≤ v_iv (n_v vs 7) ∧ v_iv (n_v vs 7) ≤ 3 := tv_rng t7
  obtain ⟨t8, hk⟩ := List.forall_mem_cons.mp hk
  have t8 : tv_ok ta (0, -2147483648, 2147483647, []) (n_v vs 8) := t8
  have k8 : (-2147483648) ≤ v_iv (n_v vs 8) ∧ v_iv (n_v vs 8) ≤ 2147483647 := tv_rng t8
  have hf : fc_ok PRD [(9, [8, 0], [146]), (12, [7, 1], [4]), (11, [5, 1], [4]), (20, [0, 3, 2], [60, 2, 4, 419, 146, 147, 143, 140, 141, 142]), (20, [0, 1, 2], [60, 0, 1, 421, 140]), (20, [1, 0], [50, 2, 0, 1146, 1147, 2, 6, 0, 2, 0, 0, 1, 0, 0, 6, 4, 2, 1, 0, 0, 1, 6, 2, 0, 4, 6, 3, 2, 1, 146, 2, 1, 147]), (20, [2], [50, 0, 0, 2, 6, 0, 2, 0, 0, 1, 0, 0, 2, 1, 0, 0, 999999])] ta ws vs := hf
  obtain ⟨f0, hf⟩ := fc_un (show (9 : Nat) < 100 from by decide) hf
  have f0 : n_v vs 8 = w_fd ws (v_ad (n_v vs 0)) 146 := f0
  obtain ⟨f1, hf⟩ := fc_un (show (12 : Nat) < 100 from by decide) hf
  have f1 : v_iv (n_v vs 7) = v_iv (n_v vs 1) % 4 := f1
  obtain ⟨f2, hf⟩ := fc_un (show (11 : Nat) < 100 from by decide) hf
  have f2 : v_iv (n_v vs 5) = v_iv (n_v vs 1) / 4 := f2
  obtain ⟨f3, hf⟩ := fc_un (show (20 : Nat) < 100 from by decide) hf
  have f3 : RTQ (w_fi ws (n_v vs 0) 146) (w_fi ws (n_v vs 0) 147) (w_ei ws (w_ar ws (n_v vs 0) 143)) (w_ei ws (w_ar ws (n_v vs 0) 140)) (w_ei ws (w_ar ws (n_v vs 0) 141)) (w_ei ws (w_ar ws (n_v vs 0) 142)) (v_iv (n_v vs 3)) (v_iv (n_v vs 2)) := f3
  obtain ⟨f4, hf⟩ := fc_un (show (20 : Nat) < 100 from by decide) hf
  have f4 : PIV (w_ei ws (w_ar ws (n_v vs 0) 140)) (v_iv (n_v vs 1)) (v_iv (n_v vs 2)) := f4
  obtain ⟨f5, hf⟩ := fc_un (show (20 : Nat) < 100 from by decide) hf
  have f5 : (0 ≤ v_iv (n_v vs 1)) ∧ ((v_iv (n_v vs 1) + 1) ≤ (4 * (w_fi ws (n_v vs 0) 146 * w_fi ws (n_v vs 0) 147))) := f5
  obtain ⟨f6, hf⟩ := fc_un (show (20 : Nat) < 100 from by decide) hf
  have f6 : (0 ≤ v_iv (n_v vs 2)) ∧ (v_iv (n_v vs 2) ≤ 999999) := f6
  have cr_0_140 : ta (w_ar ws (n_v vs 0) 140) = some 251 := tv_rg (th_fd hD hth r0 (g := GG_150) rfl (k := 140) (t := (2, 0, 0, [251])) rfl rfl)
  have cr_0_141 : ta (w_ar ws (n_v vs 0) 141) = some 252 := tv_rg (th_fd hD hth r0 (g := GG_150) rfl (k := 141) (t := (2, 0, 0, [252])) rfl rfl)
  have cr_0_142 : ta (w_ar ws (n_v vs 0) 142) = some 253 := tv_rg (th_fd hD hth r0 (g := GG_150) rfl (k := 142) (t := (2, 0, 0, [253])) rfl rfl)
  have cr_0_143 : ta (w_ar ws (n_v vs 0) 143) = some 254 := tv_rg (th_fd hD hth r0 (g := GG_150) rfl (k := 143) (t := (2, 0, 0, [254])) rfl rfl)
  have g0 : v_iv (n_v vs 8) = w_fi ws (n_v vs 0) 146 := congrArg v_iv f0
  have hK_0_140 : ∀ j : Int, 0 ≤ j → j < 24000 → 0 ≤ w_ei ws (w_ar ws (n_v vs 0) 140) j ∧ w_ei ws (w_ar ws (n_v vs 0) 140) j ≤ 1000000 := fun j h0 h1 => th_el hD hth cr_0_140 (kd := 0) (n := 24000) (m := 24000) (lo := 0) (hi := 1000000) (rs := []) (L := []) rfl (by decide) (j := j.toNat) (by omega)
  have hK_0_141 : ∀ j : Int, 0 ≤ j → j < 96040 → 0 ≤ w_ei ws (w_ar ws (n_v vs 0) 141) j ∧ w_ei ws (w_ar ws (n_v vs 0) 141) j ≤ 23999 := fun j h0 h1 => th_el hD hth cr_0_141 (kd := 0) (n := 96040) (m := 96040) (lo := 0) (hi := 23999) (rs := []) (L := []) rfl (by decide) (j := j.toNat) (by omega)
  have hK_0_142 : ∀ j : Int, 0 ≤ j → j < 4 → 0 ≤ w_ei ws (w_ar ws (n_v vs 0) 142) j ∧ w_ei ws (w_ar ws (n_v vs 0) 142) j ≤ 24009 := fun j h0 h1 => th_el hD hth cr_0_142 (kd := 0) (n := 4) (m := 4) (lo := 0) (hi := 24009) (rs := []) (L := []) rfl (by decide) (j := j.toNat) (by omega)
  have hK_0_143 : ∀ j : Int, 0 ≤ j → j < 6000 → 0 ≤ w_ei ws (w_ar ws (n_v vs 0) 143) j ∧ w_ei ws (w_ar ws (n_v vs 0) 143) j ≤ 1 := fun j h0 h1 => th_el hD hth cr_0_143 (kd := 2) (n := 6000) (m := 6000) (lo := 0) (hi := 1) (rs := []) (L := []) rfl (by decide) (j := j.toNat) (by omega)
  have kz_0_146 : (-2147483648) ≤ w_fi ws (n_v vs 0) 146 ∧ w_fi ws (n_v vs 0) 146 ≤ 2147483647 := tv_rng (th_fd hD hth r0 (g := GG_150) rfl (k := 146) (t := (0, -2147483648, 2147483647, [])) rfl rfl)
  have kz_0_147 : (-2147483648) ≤ w_fi ws (n_v vs 0) 147 ∧ w_fi ws (n_v vs 0) 147 ≤ 2147483647 := tv_rng (th_fd hD hth r0 (g := GG_150) rfl (k := 147) (t := (0, -2147483648, 2147483647, [])) rfl rfl)
  have hrf0 : 1 ≤ v_iv (n_v vs 8) ∧ v_iv (n_v vs 8) ≤ 6000 := vc_Mo_backFrom_0_r0 (v_iv (n_v vs 1)) (v_iv (n_v vs 2)) (v_iv (n_v vs 3)) (v_iv (n_v vs 5)) (v_iv (n_v vs 7)) (v_iv (n_v vs 8)) (w_fi ws (n_v vs 0) 146) (w_ei ws (w_ar ws (n_v vs 0) 143)) (w_ei ws (w_ar ws (n_v vs 0) 140)) (w_ei ws (w_ar ws (n_v vs 0) 141)) (w_ei ws (w_ar ws (n_v vs 0) 142)) (w_fi ws (n_v vs 0) 147) k1 k2 k3 k5 k7 k8 g0 f1 f2 f3 f4 f5 f6 hK_0_140 hK_0_141 hK_0_142 hK_0_143 kz_0_146 kz_0_147
  have rf8 : tv_ok ta (0, 1, 6000, []) (n_v vs 8) := tv_in t8 (by first | omega | grind) (by first | omega | grind)
  refine ⟨List.forall_mem_cons.mpr ⟨rf8, (fun _ h => (by cases h))⟩, [], trivial, ?_, (fun _ h => (by cases h))⟩
  rw [List.append_nil]
  exact (fun _ h => (by cases h))
set_option maxHeartbeats 4000000 in
theorem vc_Mo_backFrom_1_r0 (x1 : Int) (x2 : Int) (x3 : Int) (x5 : Int) (x7 : Int) (x8 : Int) (x9 : Int) (x10 : Int) (x11 : Int) (x12 : Int) (x13 : Int) (x14 : Int) (x16 : Int) (x17 : Int) (x20 : Int) (tall_0 : Int) (wide_0 : Int) (barredPoint_0 : Int → Int) (costOf_0 : Int → Int) (bucket_0 : Int → Int) (bucketMany_0 : Int → Int) (k1 : 0 ≤ x1 ∧ x1 ≤ 23999) (k2 : 0 ≤ x2 ∧ x2 ≤ 1000000) (k3 : 0 ≤ x3 ∧ x3 ≤ 5999) (k5 : 0 ≤ x5 ∧ x5 ≤ 5999) (k7 : 1 ≤ x7 ∧ x7 ≤ 2) (k8 : 1 ≤ x8 ∧ x8 ≤ 6000) (k9 : 0 ≤ x9 ∧ x9 ≤ 5999) (k10 : 0 ≤ x10 ∧ x10 ≤ 0) (k11 : 0 ≤ x11 ∧ x11 ≤ 5999) (k12 : 0 ≤ x12 ∧ x12 ≤ 5999) (k13 : 0 ≤ x13 ∧ x13 ≤ 0) (k14 : 0 ≤ x14 ∧ x14 ≤ 5999) (k16 : 1 ≤ x16 ∧ x16 ≤ 1) (k17 : 0 ≤ x17 ∧ x17 ≤ 5999) (k20 : (-2147483648) ≤ x20 ∧ x20 ≤ 2147483647) (d0 : x17 + (-4294967296) ≤ x11 ∧ x11 ≤ x17 + 0) (d1 : x8 + (-1) ≤ x17 ∧ x17 ≤ x8 + (-1)) (d2 : x12 + 0 ≤ x14 ∧ x14 ≤ x12 + 0) (d3 : x9 + 0 ≤ x11 ∧ x11 ≤ x9 + 0) (d4 : x8 + (-4294967295) ≤ x11 ∧ x11 ≤ x8 + (-1)) (d5 : x8 + (-4294967295) ≤ x9 ∧ x9 ≤ x8 + (-1)) (g0 : x20 = tall_0) (f1 : x17 = x8 - x16) (g2 : x8 = wide_0) (f3 : x14 = x12 - x13) (f4 : ((x7 = 1) ∧ (x13 = 1)) ∨ (((x7 = 3) ∧ (x13 = (-1))) ∨ ((x7 ≠ 1) ∧ ((x7 ≠ 3) ∧ (x13 = 0))))) (f5 : x12 = Int.tdiv (x5) (x8)) (f6 : x11 = x9 - x10) (f7 : ((x7 = 0) ∧ (x10 = 1)) ∨ (((x7 = 2) ∧ (x10 = (-1))) ∨ ((x7 ≠ 0) ∧ ((x7 ≠ 2) ∧ (x10 = 0))))) (f8 : x9 = Int.tmod (x5) (x8)) (f9 : x7 = x1 % 4) (f10 : x5 = x1 / 4) (f11 : RTQ (wide_0) (tall_0) (barredPoint_0) (costOf_0) (bucket_0) (bucketMany_0) (x3) (x2)) (f12 : PIV (costOf_0) (x1) (x2)) (f13 : (0 ≤ x1) ∧ ((x1 + 1) ≤ (4 * (wide_0 * tall_0)))) (f14 : (0 ≤ x2) ∧ (x2 ≤ 999999)) (hK_0_140 : ∀ j : Int, 0 ≤ j → j < 24000 → 0 ≤ costOf_0 j ∧ costOf_0 j ≤ 1000000) (hK_0_141 : ∀ j : Int, 0 ≤ j → j < 96040 → 0 ≤ bucket_0 j ∧ bucket_0 j ≤ 23999) (hK_0_142 : ∀ j : Int, 0 ≤ j → j < 4 → 0 ≤ bucketMany_0 j ∧ bucketMany_0 j ≤ 24009) (hK_0_143 : ∀ j : Int, 0 ≤ j → j < 6000 → 0 ≤ barredPoint_0 j ∧ barredPoint_0 j ≤ 1) (kz_0_146 : (-2147483648) ≤ wide_0 ∧ wide_0 ≤ 2147483647) (kz_0_147 : (-2147483648) ≤ tall_0 ∧ tall_0 ≤ 2147483647) : 1 ≤ x20 ∧ x20 ≤ 6000 := by
  first
    | omega
    | (have g := gok_bd (show GRX wide_0 tall_0 from ‹RTQ _ _ _ _ _ _ _ _›.1); omega)
    | (have g0 : GRX wide_0 tall_0 := ‹RTQ _ _ _ _ _ _ _ _›.1
       have g := gok_bd g0
       have e8 : x8 = wide_0 := by assumption
       have e20 : x20 = tall_0 := by assumption
       have c := cell_ix (W := x8) (T := x20) (x := x11) (y := x14) (p := x25) (by omega) (by omega) (by omega) (by omega) (by omega) (by rw [‹x25 = x24 + x11›, ‹x24 = x14 * x8›])
       have g3 := g0.2.2
       rw [e8, e20] at c
       omega)
    | (have h := ‹BFP _ _ _ _ _›.2.2.1; omega)
    | sorry
def o_Mo_backFrom_1 : or_T := (60, 22, [(0, (2, 0, 0, [150])), (1, (0, 0, 23999, [])), (2, (0, 0, 1000000, [])), (3, (0, 0, 5999, [])), (5, (0, 0, 5999, [])), (7, (0, 1, 2, [])), (8, (0, 1, 6000, [])), (9, (0, 0, 5999, [])), (10, (0, 0, 0, [])), (11, (0, 0, 5999, [])), (12, (0, 0, 5999, [])), (13, (0, 0, 0, [])), (14, (0, 0, 5999, [])), (16, (0, 1, 1, [])), (17, (0, 0, 5999, [])), (20, (0, -2147483648, 2147483647, []))], [(9, [20, 0], [147]), (2, [17, 8, 16], []), (9, [8, 0], [146]), (2, [14, 12, 13], []), (20, [7, 13], [50, 0, 0, 3, 14, 2, 6, 1, 2, 1, 0, 0, 1, 1, 2, 1, 1, 0, 1, 3, 14, 2, 6, 1, 2, 1, 0, 0, 3, 1, 2, 1, 1, 0, -1, 2, 6, 7, 2, 1, 0, 0, 1, 2, 6, 7, 2, 1, 0, 0, 3, 1, 2, 1, 1, 0, 0]), (4, [12, 5, 8], []), (2, [11, 9, 10], []), (20, [7, 10], [50, 0, 0, 3, 14, 2, 6, 1, 2, 1, 0, 0, 0, 1, 2, 1, 1, 0, 1, 3, 14, 2, 6, 1, 2, 1, 0, 0, 2, 1, 2, 1, 1, 0, -1, 2, 6, 7, 2, 1, 0, 0, 0, 2, 6, 7, 2, 1, 0, 0, 2, 1, 2, 1, 1, 0, 0]), (5, [9, 5, 8], []), (12, [7, 1], [4]), (11, [5, 1], [4]), (20, [0, 3, 2], [60, 2, 4, 419, 146, 147, 143, 140, 141, 142]), (20, [0, 1, 2], [60, 0, 1, 421, 140]), (20, [1, 0], [50, 2, 0, 1146, 1147, 2, 6, 0, 2, 0, 0, 1, 0, 0, 6, 4, 2, 1, 0, 0, 1, 6, 2, 0, 4, 6, 3, 2, 1, 146, 2, 1, 147]), (20, [2], [50, 0, 0, 2, 6, 0, 2, 0, 0, 1, 0, 0, 2, 1, 0, 0, 999999])], [(20, (0, 1, 6000, []))], [], [], [], [(11, 17, -4294967296, 0), (17, 8, -1, -1), (14, 12, 0, 0), (11, 9, 0, 0), (11, 8, -4294967295, -1), (9, 8, -4294967295, -1)])
theorem oo_Mo_backFrom_1 {kA : Nat → ClassId} : or_ok PRD kA GG o_Mo_backFrom_1 := by
  intro A ta ws vs hD hth hl hk hds hf
  have hl : vs.length = 22 := hl
  have hk : ∀ q ∈ ([(0, (2, 0, 0, [150])), (1, (0, 0, 23999, [])), (2, (0, 0, 1000000, [])), (3, (0, 0, 5999, [])), (5, (0, 0, 5999, [])), (7, (0, 1, 2, [])), (8, (0, 1, 6000, [])), (9, (0, 0, 5999, [])), (10, (0, 0, 0, [])), (11, (0, 0, 5999, [])), (12, (0, 0, 5999, [])), (13, (0, 0, 0, [])), (14, (0, 0, 5999, [])), (16, (0, 1, 1, [])), (17, (0, 0, 5999, [])), (20, (0, -2147483648, 2147483647, []))] : List (Nat × tv_T)), tv_ok ta q.2 (n_v vs q.1) := hk
  obtain ⟨t0, hk⟩ := List.forall_mem_cons.mp hk
  have t0 : tv_ok ta (2, 0, 0, [150]) (n_v vs 0) := t0
  have r0 : ta (v_ad (n_v vs 0)) = some 150 := tv_rg t0
  obtain ⟨t1, hk⟩ := List.forall_mem_cons.mp hk
  have t1 : tv_ok ta (0, 0, 23999, []) (n_v vs 1) := t1
  have k1 : 0 ≤ v_iv (n_v vs 1) ∧ v_iv (n_v vs 1) ≤ 23999 := tv_rng t1
  obtain ⟨t2, hk⟩ := List.forall_mem_cons.mp hk
  have t2 : tv_ok ta (0, 0, 1000000, []) (n_v vs 2) := t2
  have k2 : 0 ≤ v_iv (n_v vs 2) ∧ v_iv (n_v vs 2) ≤ 1000000 := tv_rng t2
  obtain ⟨t3, hk⟩ := List.forall_mem_cons.mp hk
  have t3 : tv_ok ta (0, 0, 5999, []) (n_v vs 3) := t3
  have k3 : 0 ≤ v_iv (n_v vs 3) ∧ v_iv (n_v vs 3) ≤ 5999 := tv_rng t3
  obtain ⟨t5, hk⟩ := List.forall_mem_cons.mp hk
  have t5 : tv_ok ta (0, 0, 5999, []) (n_v vs 5) := t5
  have k5 : 0 ≤ v_iv (n_v vs 5) ∧ v_iv (n_v vs 5) ≤ 5999 := tv_rng t5
  obtain ⟨t7, hk⟩ := List.forall_mem_cons.mp hk
  have t7 : tv_ok ta (0, 1, 2, []) (n_v vs 7) := t7
  have k7 : 1 ≤ v_iv (n_v vs 7) ∧ v_iv (n_v vs 7) ≤ 2 := tv_rng t7
  obtain ⟨t8, hk⟩ := List.forall_mem_cons.mp hk
  have t8 : tv_ok ta (0, 1, 6000, []) (n_v vs 8) := t8
  have k8 : 1 ≤ v_iv (n_v vs 8) ∧ v_iv (n_v vs 8) ≤ 6000 := tv_rng t8
  obtain ⟨t9, hk⟩ := List.forall_mem_cons.mp hk
  have t9 : tv_ok ta (0, 0, 5999, []) (n_v vs 9) := t9
  have k9 : 0 ≤ v_iv (n_v vs 9) ∧ v_iv (n_v vs 9) ≤ 5999 := tv_rng t9
  obtain ⟨t10, hk⟩ := List.forall_mem_cons.mp hk
  have t10 : tv_ok ta (0, 0, 0, []) (n_v vs 10) := t10
  have k10 : 0 ≤ v_iv (n_v vs 10) ∧ v_iv (n_v vs 10) ≤ 0 := tv_rng t10
  obtain ⟨t11, hk⟩ := List.forall_mem_cons.mp hk
  have t11 : tv_ok ta (0, 0, 5999, []) (n_v vs 11) := t11
  have k11 : 0 ≤ v_iv (n_v vs 11) ∧ v_iv (n_v vs 11) ≤ 5999 := tv_rng t11
  obtain ⟨t12, hk⟩ := List.forall_mem_cons.mp hk
  have t12 : tv_ok ta (0, 0, 5999, []) (n_v vs 12) := t12
  have k12 : 0 ≤ v_iv (n_v vs 12) ∧ v_iv (n_v vs 12) ≤ 5999 := tv_rng t12
  obtain ⟨t13, hk⟩ := List.forall_mem_cons.mp hk
  have t13 : tv_ok ta (0, 0, 0, []) (n_v vs 13) := t13
  have k13 : 0 ≤ v_iv (n_v vs 13) ∧ v_iv (n_v vs 13) ≤ 0 := tv_rng t13
  obtain ⟨t14, hk⟩ := List.forall_mem_cons.mp hk
  have t14 : tv_ok ta (0, 0, 5999, []) (n_v vs 14) := t14
  have k14 : 0 ≤ v_iv (n_v vs 14) ∧ v_iv (n_v vs 14) ≤ 5999 := tv_rng t14
  obtain ⟨t16, hk⟩ := List.forall_mem_cons.mp hk
  have t16 : tv_ok ta (0, 1, 1, []) (n_v vs 16) := t16
  have k16 : 1 ≤ v_iv (n_v vs 16) ∧ v_iv (n_v vs 16) ≤ 1 := tv_rng t16
  obtain ⟨t17, hk⟩ := List.forall_mem_cons.mp hk
  have t17 : tv_ok ta (0, 0, 5999, []) (n_v vs 17) := t17
  have k17 : 0 ≤ v_iv (n_v vs 17) ∧ v_iv (n_v vs 17) ≤ 5999 := tv_rng t17
  obtain ⟨t20, hk⟩ := List.forall_mem_cons.mp hk
  have t20 : tv_ok ta (0, -2147483648, 2147483647, []) (n_v vs 20) := t20
  have k20 : (-2147483648) ≤ v_iv (n_v vs 20) ∧ v_iv (n_v vs 20) ≤ 2147483647 := tv_rng t20
  have hds : ∀ q ∈ ([(11, 17, -4294967296, 0), (17, 8, -1, -1), (14, 12, 0, 0), (11, 9, 0, 0), (11, 8, -4294967295, -1), (9, 8, -4294967295, -1)] : List of_T), n_iv vs q.2.1 + q.2.2.1 ≤ n_iv vs q.1 ∧ n_iv vs q.1 ≤ n_iv vs q.2.1 + q.2.2.2 := hds
  obtain ⟨d0, hds⟩ := List.forall_mem_cons.mp hds
  have d0 : v_iv (n_v vs 17) + (-4294967296) ≤ v_iv (n_v vs 11) ∧ v_iv (n_v vs 11) ≤ v_iv (n_v vs 17) + 0 := d0
  obtain ⟨d1, hds⟩ := List.forall_mem_cons.mp hds
  have d1 : v_iv (n_v vs 8) + (-1) ≤ v_iv (n_v vs 17) ∧ v_iv (n_v vs 17) ≤ v_iv (n_v vs 8) + (-1) := d1
  obtain ⟨d2, hds⟩ := List.forall_mem_cons.mp hds
  have d2 : v_iv (n_v vs 12) + 0 ≤ v_iv (n_v vs 14) ∧ v_iv (n_v vs 14) ≤ v_iv (n_v vs 12) + 0 := d2
  obtain ⟨d3, hds⟩ := List.forall_mem_cons.mp hds
  have d3 : v_iv (n_v vs 9) + 0 ≤ v_iv (n_v vs 11) ∧ v_iv (n_v vs 11) ≤ v_iv (n_v vs 9) + 0 := d3
  obtain ⟨d4, hds⟩ := List.forall_mem_cons.mp hds
  have d4 : v_iv (n_v vs 8) + (-4294967295) ≤ v_iv (n_v vs 11) ∧ v_iv (n_v vs 11) ≤ v_iv (n_v vs 8) + (-1) := d4
  obtain ⟨d5, hds⟩ := List.forall_mem_cons.mp hds
  have d5 : v_iv (n_v vs 8) + (-4294967295) ≤ v_iv (n_v vs 9) ∧ v_iv (n_v vs 9) ≤ v_iv (n_v vs 8) + (-1) := d5
  have hf : fc_ok PRD [(9, [20, 0], [147]), (2, [17, 8, 16], []), (9, [8, 0], [146]), (2, [14, 12, 13], []), (20, [7, 13], [50, 0, 0, 3, 14, 2, 6, 1, 2, 1, 0, 0, 1, 1, 2, 1, 1, 0, 1, 3, 14, 2, 6, 1, 2, 1, 0, 0, 3, 1, 2, 1, 1, 0, -1, 2, 6, 7, 2, 1, 0, 0, 1, 2, 6, 7, 2, 1, 0, 0, 3, 1, 2, 1, 1, 0, 0]), (4, [12, 5, 8], []), (2, [11, 9, 10], []), (20, [7, 10], [50, 0, 0, 3, 14, 2, 6, 1, 2, 1, 0, 0, 0, 1, 2, 1, 1, 0, 1, 3, 14, 2, 6, 1, 2, 1, 0, 0, 2, 1, 2, 1, 1, 0, -1, 2, 6, 7, 2, 1, 0, 0, 0, 2, 6, 7, 2, 1, 0, 0, 2, 1, 2, 1, 1, 0, 0]), (5, [9, 5, 8], []), (12, [7, 1], [4]), (11, [5, 1], [4]), (20, [0, 3, 2], [60, 2, 4, 419, 146, 147, 143, 140, 141, 142]), (20, [0, 1, 2], [60, 0, 1, 421, 140]), (20, [1, 0], [50, 2, 0, 1146, 1147, 2, 6, 0, 2, 0, 0, 1, 0, 0, 6, 4, 2, 1, 0, 0, 1, 6, 2, 0, 4, 6, 3, 2, 1, 146, 2, 1, 147]), (20, [2], [50, 0, 0, 2, 6, 0, 2, 0, 0, 1, 0, 0, 2, 1, 0, 0, 999999])] ta ws vs := hf
  obtain ⟨f0, hf⟩ := fc_un (show (9 : Nat) < 100 from by decide) hf
  have f0 : n_v vs 20 = w_fd ws (v_ad (n_v vs 0)) 147 := f0
  obtain ⟨f1, hf⟩ := fc_un (show (2 : Nat) < 100 from by decide) hf
  have f1 : v_iv (n_v vs 17) = v_iv (n_v vs 8) - v_iv (n_v vs 16) := f1
  obtain ⟨f2, hf⟩ := fc_un (show (9 : Nat) < 100 from by decide) hf
  have f2 : n_v vs 8 = w_fd ws (v_ad (n_v vs 0)) 146 := f2
  obtain ⟨f3, hf⟩ := fc_un (show (2 : Nat) < 100 from by decide) hf
  have f3 : v_iv (n_v vs 14) = v_iv (n_v vs 12) - v_iv (n_v vs 13) := f3
  obtain ⟨f4, hf⟩ := fc_un (show (20 : Nat) < 100 from by decide) hf
  have f4 : ((v_iv (n_v vs 7) = 1) ∧ (v_iv (n_v vs 13) = 1)) ∨ (((v_iv (n_v vs 7) = 3) ∧ (v_iv (n_v vs 13) = (-1))) ∨ ((v_iv (n_v vs 7) ≠ 1) ∧ ((v_iv (n_v vs 7) ≠ 3) ∧ (v_iv (n_v vs 13) = 0)))) := f4
  obtain ⟨f5, hf⟩ := fc_un (show (4 : Nat) < 100 from by decide) hf
  have f5 : v_iv (n_v vs 12) = Int.tdiv (v_iv (n_v vs 5)) (v_iv (n_v vs 8)) := f5
  have fq5 : 10 ≤ v_iv (n_v vs 12) → 10 * v_iv (n_v vs 8) ≤ v_iv (n_v vs 5) := dv_ten f5 (by omega) (by omega)
  obtain ⟨f6, hf⟩ := fc_un (show (2 : Nat) < 100 from by decide) hf
  have f6 : v_iv (n_v vs 11) = v_iv (n_v vs 9) - v_iv (n_v vs 10) := f6
  obtain ⟨f7, hf⟩ := fc_un (show (20 : Nat) < 100 from by decide) hf
  have f7 : ((v_iv (n_v vs 7) = 0) ∧ (v_iv (n_v vs 10) = 1)) ∨ (((v_iv (n_v vs 7) = 2) ∧ (v_iv (n_v vs 10) = (-1))) ∨ ((v_iv (n_v vs 7) ≠ 0) ∧ ((v_iv (n_v vs 7) ≠ 2) ∧ (v_iv (n_v vs 10) = 0)))) := f7
  obtain ⟨f8, hf⟩ := fc_un (show (5 : Nat) < 100 from by decide) hf
  have f8 : v_iv (n_v vs 9) = Int.tmod (v_iv (n_v vs 5)) (v_iv (n_v vs 8)) := f8
  obtain ⟨f9, hf⟩ := fc_un (show (12 : Nat) < 100 from by decide) hf
  have f9 : v_iv (n_v vs 7) = v_iv (n_v vs 1) % 4 := f9
  obtain ⟨f10, hf⟩ := fc_un (show (11 : Nat) < 100 from by decide) hf
  have f10 : v_iv (n_v vs 5) = v_iv (n_v vs 1) / 4 := f10
  obtain ⟨f11, hf⟩ := fc_un (show (20 : Nat) < 100 from by decide) hf
  have f11 : RTQ (w_fi ws (n_v vs 0) 146) (w_fi ws (n_v vs 0) 147) (w_ei ws (w_ar ws (n_v vs 0) 143)) (w_ei ws (w_ar ws (n_v vs 0) 140)) (w_ei ws (w_ar ws (n_v vs 0) 141)) (w_ei ws (w_ar ws (n_v vs 0) 142)) (v_iv (n_v vs 3)) (v_iv (n_v vs 2)) := f11
  obtain ⟨f12, hf⟩ := fc_un (show (20 : Nat) < 100 from by decide) hf
  have f12 : PIV (w_ei ws (w_ar ws (n_v vs 0) 140)) (v_iv (n_v vs 1)) (v_iv (n_v vs 2)) := f12
  obtain ⟨f13, hf⟩ := fc_un (show (20 : Nat) < 100 from by decide) hf
  have f13 : (0 ≤ v_iv (n_v vs 1)) ∧ ((v_iv (n_v vs 1) + 1) ≤ (4 * (w_fi ws (n_v vs 0) 146 * w_fi ws (n_v vs 0) 147))) := f13
  obtain ⟨f14, hf⟩ := fc_un (show (20 : Nat) < 100 from by decide) hf
  have f14 : (0 ≤ v_iv (n_v vs 2)) ∧ (v_iv (n_v vs 2) ≤ 999999) := f14
  have cr_0_140 : ta (w_ar ws (n_v vs 0) 140) = some 251 := tv_rg (th_fd hD hth r0 (g := GG_150) rfl (k := 140) (t := (2, 0, 0, [251])) rfl rfl)
  have cr_0_141 : ta (w_ar ws (n_v vs 0) 141) = some 252 := tv_rg (th_fd hD hth r0 (g := GG_150) rfl (k := 141) (t := (2, 0, 0, [252])) rfl rfl)
  have cr_0_142 : ta (w_ar ws (n_v vs 0) 142) = some 253 := tv_rg (th_fd hD hth r0 (g := GG_150) rfl (k := 142) (t := (2, 0, 0, [253])) rfl rfl)
  have cr_0_143 : ta (w_ar ws (n_v vs 0) 143) = some 254 := tv_rg (th_fd hD hth r0 (g := GG_150) rfl (k := 143) (t := (2, 0, 0, [254])) rfl rfl)
  have g0 : v_iv (n_v vs 20) = w_fi ws (n_v vs 0) 147 := congrArg v_iv f0
  have g2 : v_iv (n_v vs 8) = w_fi ws (n_v vs 0) 146 := congrArg v_iv f2
  have hK_0_140 : ∀ j : Int, 0 ≤ j → j < 24000 → 0 ≤ w_ei ws (w_ar ws (n_v vs 0) 140) j ∧ w_ei ws (w_ar ws (n_v vs 0) 140) j ≤ 1000000 := fun j h0 h1 => th_el hD hth cr_0_140 (kd := 0) (n := 24000) (m := 24000) (lo := 0) (hi := 1000000) (rs := []) (L := []) rfl (by decide) (j := j.toNat) (by omega)
  have hK_0_141 : ∀ j : Int, 0 ≤ j → j < 96040 → 0 ≤ w_ei ws (w_ar ws (n_v vs 0) 141) j ∧ w_ei ws (w_ar ws (n_v vs 0) 141) j ≤ 23999 := fun j h0 h1 => th_el hD hth cr_0_141 (kd := 0) (n := 96040) (m := 96040) (lo := 0) (hi := 23999) (rs := []) (L := []) rfl (by decide) (j := j.toNat) (by omega)
  have hK_0_142 : ∀ j : Int, 0 ≤ j → j < 4 → 0 ≤ w_ei ws (w_ar ws (n_v vs 0) 142) j ∧ w_ei ws (w_ar ws (n_v vs 0) 142) j ≤ 24009 := fun j h0 h1 => th_el hD hth cr_0_142 (kd := 0) (n := 4) (m := 4) (lo := 0) (hi := 24009) (rs := []) (L := []) rfl (by decide) (j := j.toNat) (by omega)
  have hK_0_143 : ∀ j : Int, 0 ≤ j → j < 6000 → 0 ≤ w_ei ws (w_ar ws (n_v vs 0) 143) j ∧ w_ei ws (w_ar ws (n_v vs 0) 143) j ≤ 1 := fun j h0 h1 => th_el hD hth cr_0_143 (kd := 2) (n := 6000) (m := 6000) (lo := 0) (hi := 1) (rs := []) (L := []) rfl (by decide) (j := j.toNat) (by omega)
  have kz_0_146 : (-2147483648) ≤ w_fi ws (n_v vs 0) 146 ∧ w_fi ws (n_v vs 0) 146 ≤ 2147483647 := tv_rng (th_fd hD hth r0 (g := GG_150) rfl (k := 146) (t := (0, -2147483648, 2147483647, [])) rfl rfl)
  have kz_0_147 : (-2147483648) ≤ w_fi ws (n_v vs 0) 147 ∧ w_fi ws (n_v vs 0) 147 ≤ 2147483647 := tv_rng (th_fd hD hth r0 (g := GG_150) rfl (k := 147) (t := (0, -2147483648, 2147483647, [])) rfl rfl)
  have hrf0 : 1 ≤ v_iv (n_v vs 20) ∧ v_iv (n_v vs 20) ≤ 6000 := vc_Mo_backFrom_1_r0 (v_iv (n_v vs 1)) (v_iv (n_v vs 2)) (v_iv (n_v vs 3)) (v_iv (n_v vs 5)) (v_iv (n_v vs 7)) (v_iv (n_v vs 8)) (v_iv (n_v vs 9)) (v_iv (n_v vs 10)) (v_iv (n_v vs 11)) (v_iv (n_v vs 12)) (v_iv (n_v vs 13)) (v_iv (n_v vs 14)) (v_iv (n_v vs 16)) (v_iv (n_v vs 17)) (v_iv (n_v vs 20)) (w_fi ws (n_v vs 0) 147) (w_fi ws (n_v vs 0) 146) (w_ei ws (w_ar ws (n_v vs 0) 143)) (w_ei ws (w_ar ws (n_v vs 0) 140)) (w_ei ws (w_ar ws (n_v vs 0) 141)) (w_ei ws (w_ar ws (n_v vs 0) 142)) k1 k2 k3 k5 k7 k8 k9 k10 k11 k12 k13 k14 k16 k17 k20 d0 d1 d2 d3 d4 d5 g0 f1 g2 f3 f4 f5 f6 f7 f8 f9 f10 f11 f12 f13 f14 hK_0_140 hK_0_141 hK_0_142 hK_0_143 kz_0_146 kz_0_147
  have rf20 : tv_ok ta (0, 1, 6000, []) (n_v vs 20) := tv_in t20 (by first | omega | grind) (by first | omega | grind)
  refine ⟨List.forall_mem_cons.mpr ⟨rf20, (fun _ h => (by cases h))⟩, [], trivial, ?_, (fun _ h => (by cases h))⟩
  rw [List.append_nil]
  exact (fun _ h => (by cases h))
set_option maxHeartbeats 4000000 in
theorem vc_Mo_backFrom_2_r0 (x1 : Int) (x2 : Int) (x3 : Int) (x5 : Int) (x7 : Int) (x8 : Int) (x9 : Int) (x10 : Int) (x11 : Int) (x12 : Int) (x13 : Int) (x14 : Int) (x16 : Int) (x17 : Int) (x20 : Int) (x21 : Int) (x22 : Int) (x24 : Int) (x25 : Int) (wide_0 : Int) (tall_0 : Int) (barredPoint_0 : Int → Int) (costOf_0 : Int → Int) (bucket_0 : Int → Int) (bucketMany_0 : Int → Int) (k1 : 0 ≤ x1 ∧ x1 ≤ 23999) (k2 : 0 ≤ x2 ∧ x2 ≤ 1000000) (k3 : 0 ≤ x3 ∧ x3 ≤ 5999) (k5 : 0 ≤ x5 ∧ x5 ≤ 5999) (k7 : 1 ≤ x7 ∧ x7 ≤ 2) (k8 : 1 ≤ x8 ∧ x8 ≤ 6000) (k9 : 0 ≤ x9 ∧ x9 ≤ 5999) (k10 : 0 ≤ x10 ∧ x10 ≤ 0) (k11 : 0 ≤ x11 ∧ x11 ≤ 5999) (k12 : 0 ≤ x12 ∧ x12 ≤ 5999) (k13 : 0 ≤ x13 ∧ x13 ≤ 0) (k14 : 0 ≤ x14 ∧ x14 ≤ 5999) (k16 : 1 ≤ x16 ∧ x16 ≤ 1) (k17 : 0 ≤ x17 ∧ x17 ≤ 5999) (k20 : 1 ≤ x20 ∧ x20 ≤ 6000) (k21 : 1 ≤ x21 ∧ x21 ≤ 1) (k22 : 0 ≤ x22 ∧ x22 ≤ 5999) (k24 : 0 ≤ x24 ∧ x24 ≤ 35994000) (k25 : 0 ≤ x25 ∧ x25 ≤ 35999999) (d0 : x11 + 0 ≤ x25 ∧ x25 ≤ x11 + 35994000) (d1 : x17 + (-4294967296) ≤ x25 ∧ x25 ≤ x17 + 35994000) (d2 : x9 + 0 ≤ x25 ∧ x25 ≤ x9 + 35994000) (d3 : x8 + (-4294967295) ≤ x25 ∧ x25 ≤ x8 + 35993999) (d4 : x24 + 0 ≤ x25 ∧ x25 ≤ x24 + 5999) (d5 : x22 + (-4294967296) ≤ x14 ∧ x14 ≤ x22 + 0) (d6 : x20 + (-1) ≤ x22 ∧ x22 ≤ x20 + (-1)) (d7 : x17 + (-4294967296) ≤ x11 ∧ x11 ≤ x17 + 0) (d8 : x8 + (-1) ≤ x17 ∧ x17 ≤ x8 + (-1)) (d9 : x12 + 0 ≤ x14 ∧ x14 ≤ x12 + 0) (d10 : x9 + 0 ≤ x11 ∧ x11 ≤ x9 + 0) (d11 : x8 + (-4294967295) ≤ x11 ∧ x11 ≤ x8 + (-1)) (d12 : x8 + (-4294967295) ≤ x9 ∧ x9 ≤ x8 + (-1)) (f1 : x25 = x24 + x11) (f2 : x24 = x14 * x8) (g3 : x8 = wide_0) (f4 : x22 = x20 - x21) (g5 : x20 = tall_0) (f6 : x17 = x8 - x16) (f7 : x14 = x12 - x13) (f8 : ((x7 = 1) ∧ (x13 = 1)) ∨ (((x7 = 3) ∧ (x13 = (-1))) ∨ ((x7 ≠ 1) ∧ ((x7 ≠ 3) ∧ (x13 = 0))))) (f9 : x12 = Int.tdiv (x5) (x8)) (f10 : x11 = x9 - x10) (f11 : ((x7 = 0) ∧ (x10 = 1)) ∨ (((x7 = 2) ∧ (x10 = (-1))) ∨ ((x7 ≠ 0) ∧ ((x7 ≠ 2) ∧ (x10 = 0))))) (f12 : x9 = Int.tmod (x5) (x8)) (f13 : x7 = x1 % 4) (f14 : x5 = x1 / 4) (f15 : RTQ (wide_0) (tall_0) (barredPoint_0) (costOf_0) (bucket_0) (bucketMany_0) (x3) (x2)) (f16 : PIV (costOf_0) (x1) (x2)) (f17 : (0 ≤ x1) ∧ ((x1 + 1) ≤ (4 * (wide_0 * tall_0)))) (f18 : (0 ≤ x2) ∧ (x2 ≤ 999999)) (hK_0_140 : ∀ j : Int, 0 ≤ j → j < 24000 → 0 ≤ costOf_0 j ∧ costOf_0 j ≤ 1000000) (hK_0_141 : ∀ j : Int, 0 ≤ j → j < 96040 → 0 ≤ bucket_0 j ∧ bucket_0 j ≤ 23999) (hK_0_142 : ∀ j : Int, 0 ≤ j → j < 4 → 0 ≤ bucketMany_0 j ∧ bucketMany_0 j ≤ 24009) (hK_0_143 : ∀ j : Int, 0 ≤ j → j < 6000 → 0 ≤ barredPoint_0 j ∧ barredPoint_0 j ≤ 1) (kz_0_146 : (-2147483648) ≤ wide_0 ∧ wide_0 ≤ 2147483647) (kz_0_147 : (-2147483648) ≤ tall_0 ∧ tall_0 ≤ 2147483647) : 0 ≤ x25 ∧ x25 ≤ 5999 := by
  first
    | omega
    | (have g := gok_bd (show GRX wide_0 tall_0 from ‹RTQ _ _ _ _ _ _ _ _›.1); omega)
    | (have g0 : GRX wide_0 tall_0 := ‹RTQ _ _ _ _ _ _ _ _›.1
       have g := gok_bd g0
       have e8 : x8 = wide_0 := by assumption
       have e20 : x20 = tall_0 := by assumption
       have c := cell_ix (W := x8) (T := x20) (x := x11) (y := x14) (p := x25) (by omega) (by omega) (by omega) (by omega) (by omega) (by rw [‹x25 = x24 + x11›, ‹x24 = x14 * x8›])
       have g3 := g0.2.2
       rw [e8, e20] at c
       omega)
    | (have h := ‹BFP _ _ _ _ _›.2.2.1; omega)
    | sorry
def o_Mo_backFrom_2 : or_T := (86, 27, [(0, (2, 0, 0, [150])), (1, (0, 0, 23999, [])), (2, (0, 0, 1000000, [])), (3, (0, 0, 5999, [])), (5, (0, 0, 5999, [])), (7, (0, 1, 2, [])), (8, (0, 1, 6000, [])), (9, (0, 0, 5999, [])), (10, (0, 0, 0, [])), (11, (0, 0, 5999, [])), (12, (0, 0, 5999, [])), (13, (0, 0, 0, [])), (14, (0, 0, 5999, [])), (16, (0, 1, 1, [])), (17, (0, 0, 5999, [])), (20, (0, 1, 6000, [])), (21, (0, 1, 1, [])), (22, (0, 0, 5999, [])), (24, (0, 0, 35994000, [])), (25, (0, 0, 35999999, [])), (26, (2, 0, 0, [254]))], [(9, [26, 0], [143]), (1, [25, 24, 11], []), (3, [24, 14, 8], []), (9, [8, 0], [146]), (2, [22, 20, 21], []), (9, [20, 0], [147]), (2, [17, 8, 16], []), (2, [14, 12, 13], []), (20, [7, 13], [50, 0, 0, 3, 14, 2, 6, 1, 2, 1, 0, 0, 1, 1, 2, 1, 1, 0, 1, 3, 14, 2, 6, 1, 2, 1, 0, 0, 3, 1, 2, 1, 1, 0, -1, 2, 6, 7, 2, 1, 0, 0, 1, 2, 6, 7, 2, 1, 0, 0, 3, 1, 2, 1, 1, 0, 0]), (4, [12, 5, 8], []), (2, [11, 9, 10], []), (20, [7, 10], [50, 0, 0, 3, 14, 2, 6, 1, 2, 1, 0, 0, 0, 1, 2, 1, 1, 0, 1, 3, 14, 2, 6, 1, 2, 1, 0, 0, 2, 1, 2, 1, 1, 0, -1, 2, 6, 7, 2, 1, 0, 0, 0, 2, 6, 7, 2, 1, 0, 0, 2, 1, 2, 1, 1, 0, 0]), (5, [9, 5, 8], []), (12, [7, 1], [4]), (11, [5, 1], [4]), (20, [0, 3, 2], [60, 2, 4, 419, 146, 147, 143, 140, 141, 142]), (20, [0, 1, 2], [60, 0, 1, 421, 140]), (20, [1, 0], [50, 2, 0, 1146, 1147, 2, 6, 0, 2, 0, 0, 1, 0, 0, 6, 4, 2, 1, 0, 0, 1, 6, 2, 0, 4, 6, 3, 2, 1, 146, 2, 1, 147]), (20, [2], [50, 0, 0, 2, 6, 0, 2, 0, 0, 1, 0, 0, 2, 1, 0, 0, 999999])], [(25, (0, 0, 5999, []))], [], [], [], [(25, 11, 0, 35994000), (25, 17, -4294967296, 35994000), (25, 9, 0, 35994000), (25, 8, -4294967295, 35993999), (25, 24, 0, 5999), (14, 22, -4294967296, 0), (22, 20, -1, -1), (11, 17, -4294967296, 0), (17, 8, -1, -1), (14, 12, 0, 0), (11, 9, 0, 0), (11, 8, -4294967295, -1), (9, 8, -4294967295, -1)])
theorem oo_Mo_backFrom_2 {kA : Nat → ClassId} : or_ok PRD kA GG o_Mo_backFrom_2 := by
  intro A ta ws vs hD hth hl hk hds hf
  have hl : vs.length = 27 := hl
  have hk : ∀ q ∈ ([(0, (2, 0, 0, [150])), (1, (0, 0, 23999, [])), (2, (0, 0, 1000000, [])), (3, (0, 0, 5999, [])), (5, (0, 0, 5999, [])), (7, (0, 1, 2, [])), (8, (0, 1, 6000, [])), (9, (0, 0, 5999, [])), (10, (0, 0, 0, [])), (11, (0, 0, 5999, [])), (12, (0, 0, 5999, [])), (13, (0, 0, 0, [])), (14, (0, 0, 5999, [])), (16, (0, 1, 1, [])), (17, (0, 0, 5999, [])), (20, (0, 1, 6000, [])), (21, (0, 1, 1, [])), (22, (0, 0, 5999, [])), (24, (0, 0, 35994000, [])), (25, (0, 0, 35999999, [])), (26, (2, 0, 0, [254]))] : List (Nat × tv_T)), tv_ok ta q.2 (n_v vs q.1) := hk
  obtain ⟨t0, hk⟩ := List.forall_mem_cons.mp hk
  have t0 : tv_ok ta (2, 0, 0, [150]) (n_v vs 0) := t0
  have r0 : ta (v_ad (n_v vs 0)) = some 150 := tv_rg t0
  obtain ⟨t1, hk⟩ := List.forall_mem_cons.mp hk
  have t1 : tv_ok ta (0, 0, 23999, []) (n_v vs 1) := t1
  have k1 : 0 ≤ v_iv (n_v vs 1) ∧ v_iv (n_v vs 1) ≤ 23999 := tv_rng t1
  obtain ⟨t2, hk⟩ := List.forall_mem_cons.mp hk
  have t2 : tv_ok ta (0, 0, 1000000, []) (n_v vs 2) := t2
  have k2 : 0 ≤ v_iv (n_v vs 2) ∧ v_iv (n_v vs 2) ≤ 1000000 := tv_rng t2
  obtain ⟨t3, hk⟩ := List.forall_mem_cons.mp hk
  have t3 : tv_ok ta (0, 0, 5999, []) (n_v vs 3) := t3
  have k3 : 0 ≤ v_iv (n_v vs 3) ∧ v_iv (n_v vs 3) ≤ 5999 := tv_rng t3
  obtain ⟨t5, hk⟩ := List.forall_mem_cons.mp hk
  have t5 : tv_ok ta (0, 0, 5999, []) (n_v vs 5) := t5
  have k5 : 0 ≤ v_iv (n_v vs 5) ∧ v_iv (n_v vs 5) ≤ 5999 := tv_rng t5
  obtain ⟨t7, hk⟩ := List.forall_mem_cons.mp hk
  have t7 : tv_ok ta (0, 1, 2, []) (n_v vs 7) := t7
  have k7 : 1 ≤ v_iv (n_v vs 7) ∧ v_iv (n_v vs 7) ≤ 2 := tv_rng t7
  obtain ⟨t8, hk⟩ := List.forall_mem_cons.mp hk
  have t8 : tv_ok ta (0, 1, 6000, []) (n_v vs 8) := t8
  have k8 : 1 ≤ v_iv (n_v vs 8) ∧ v_iv (n_v vs 8) ≤ 6000 := tv_rng t8
  obtain ⟨t9, hk⟩ := List.forall_mem_cons.mp hk
  have t9 : tv_ok ta (0, 0, 5999, []) (n_v vs 9) := t9
  have k9 : 0 ≤ v_iv (n_v vs 9) ∧ v_iv (n_v vs 9) ≤ 5999 := tv_rng t9
  obtain ⟨t10, hk⟩ := List.forall_mem_cons.mp hk
  have t10 : tv_ok ta (0, 0, 0, []) (n_v vs 10) := t10
  have k10 : 0 ≤ v_iv (n_v vs 10) ∧ v_iv (n_v vs 10) ≤ 0 := tv_rng t10
  obtain ⟨t11, hk⟩ := List.forall_mem_cons.mp hk
  have t11 : tv_ok ta (0, 0, 5999, []) (n_v vs 11) := t11
  have k11 : 0 ≤ v_iv (n_v vs 11) ∧ v_iv (n_v vs 11) ≤ 5999 := tv_rng t11
  obtain ⟨t12, hk⟩ := List.forall_mem_cons.mp hk
  have t12 : tv_ok ta (0, 0, 5999, []) (n_v vs 12) := t12
  have k12 : 0 ≤ v_iv (n_v vs 12) ∧ v_iv (n_v vs 12) ≤ 5999 := tv_rng t12
  obtain ⟨t13, hk⟩ := List.forall_mem_cons.mp hk
  have t13 : tv_ok ta (0, 0, 0, []) (n_v vs 13) := t13
  have k13 : 0 ≤ v_iv (n_v vs 13) ∧ v_iv (n_v vs 13) ≤ 0 := tv_rng t13
  obtain ⟨t14, hk⟩ := List.forall_mem_cons.mp hk
  have t14 : tv_ok ta (0, 0, 5999, []) (n_v vs 14) := t14
  have k14 : 0 ≤ v_iv (n_v vs 14) ∧ v_iv (n_v vs 14) ≤ 5999 := tv_rng t14
  obtain ⟨t16, hk⟩ := List.forall_mem_cons.mp hk
  have t16 : tv_ok ta (0, 1, 1, []) (n_v vs 16) := t16
  have k16 : 1 ≤ v_iv (n_v vs 16) ∧ v_iv (n_v vs 16) ≤ 1 := tv_rng t16
  obtain ⟨t17, hk⟩ := List.forall_mem_cons.mp hk
  have t17 : tv_ok ta (0, 0, 5999, []) (n_v vs 17) := t17
  have k17 : 0 ≤ v_iv (n_v vs 17) ∧ v_iv (n_v vs 17) ≤ 5999 := tv_rng t17
  obtain ⟨t20, hk⟩ := List.forall_mem_cons.mp hk
  have t20 : tv_ok ta (0, 1, 6000, []) (n_v vs 20) := t20
  have k20 : 1 ≤ v_iv (n_v vs 20) ∧ v_iv (n_v vs 20) ≤ 6000 := tv_rng t20
  obtain ⟨t21, hk⟩ := List.forall_mem_cons.mp hk
  have t21 : tv_ok ta (0, 1, 1, []) (n_v vs 21) := t21
  have k21 : 1 ≤ v_iv (n_v vs 21) ∧ v_iv (n_v vs 21) ≤ 1 := tv_rng t21
  obtain ⟨t22, hk⟩ := List.forall_mem_cons.mp hk
  have t22 : tv_ok ta (0, 0, 5999, []) (n_v vs 22) := t22
  have k22 : 0 ≤ v_iv (n_v vs 22) ∧ v_iv (n_v vs 22) ≤ 5999 := tv_rng t22
  obtain ⟨t24, hk⟩ := List.forall_mem_cons.mp hk
  have t24 : tv_ok ta (0, 0, 35994000, []) (n_v vs 24) := t24
  have k24 : 0 ≤ v_iv (n_v vs 24) ∧ v_iv (n_v vs 24) ≤ 35994000 := tv_rng t24
  obtain ⟨t25, hk⟩ := List.forall_mem_cons.mp hk
  have t25 : tv_ok ta (0, 0, 35999999, []) (n_v vs 25) := t25
  have k25 : 0 ≤ v_iv (n_v vs 25) ∧ v_iv (n_v vs 25) ≤ 35999999 := tv_rng t25
  obtain ⟨t26, hk⟩ := List.forall_mem_cons.mp hk
  have t26 : tv_ok ta (2, 0, 0, [254]) (n_v vs 26) := t26
  have r26 : ta (v_ad (n_v vs 26)) = some 254 := tv_rg t26
  have hds : ∀ q ∈ ([(25, 11, 0, 35994000), (25, 17, -4294967296, 35994000), (25, 9, 0, 35994000), (25, 8, -4294967295, 35993999), (25, 24, 0, 5999), (14, 22, -4294967296, 0), (22, 20, -1, -1), (11, 17, -4294967296, 0), (17, 8, -1, -1), (14, 12, 0, 0), (11, 9, 0, 0), (11, 8, -4294967295, -1), (9, 8, -4294967295, -1)] : List of_T), n_iv vs q.2.1 + q.2.2.1 ≤ n_iv vs q.1 ∧ n_iv vs q.1 ≤ n_iv vs q.2.1 + q.2.2.2 := hds
  obtain ⟨d0, hds⟩ := List.forall_mem_cons.mp hds
  have d0 : v_iv (n_v vs 11) + 0 ≤ v_iv (n_v vs 25) ∧ v_iv (n_v vs 25) ≤ v_iv (n_v vs 11) + 35994000 := d0
  obtain ⟨d1, hds⟩ := List.forall_mem_cons.mp hds
  have d1 : v_iv (n_v vs 17) + (-4294967296) ≤ v_iv (n_v vs 25) ∧ v_iv (n_v vs 25) ≤ v_iv (n_v vs 17) + 35994000 := d1
  obtain ⟨d2, hds⟩ := List.forall_mem_cons.mp hds
  have d2 : v_iv (n_v vs 9) + 0 ≤ v_iv (n_v vs 25) ∧ v_iv (n_v vs 25) ≤ v_iv (n_v vs 9) + 35994000 := d2
  obtain ⟨d3, hds⟩ := List.forall_mem_cons.mp hds
  have d3 : v_iv (n_v vs 8) + (-4294967295) ≤ v_iv (n_v vs 25) ∧ v_iv (n_v vs 25) ≤ v_iv (n_v vs 8) + 35993999 := d3
  obtain ⟨d4, hds⟩ := List.forall_mem_cons.mp hds
  have d4 : v_iv (n_v vs 24) + 0 ≤ v_iv (n_v vs 25) ∧ v_iv (n_v vs 25) ≤ v_iv (n_v vs 24) + 5999 := d4
  obtain ⟨d5, hds⟩ := List.forall_mem_cons.mp hds
  have d5 : v_iv (n_v vs 22) + (-4294967296) ≤ v_iv (n_v vs 14) ∧ v_iv (n_v vs 14) ≤ v_iv (n_v vs 22) + 0 := d5
  obtain ⟨d6, hds⟩ := List.forall_mem_cons.mp hds
  have d6 : v_iv (n_v vs 20) + (-1) ≤ v_iv (n_v vs 22) ∧ v_iv (n_v vs 22) ≤ v_iv (n_v vs 20) + (-1) := d6
  obtain ⟨d7, hds⟩ := List.forall_mem_cons.mp hds
  have d7 : v_iv (n_v vs 17) + (-4294967296) ≤ v_iv (n_v vs 11) ∧ v_iv (n_v vs 11) ≤ v_iv (n_v vs 17) + 0 := d7
  obtain ⟨d8, hds⟩ := List.forall_mem_cons.mp hds
  have d8 : v_iv (n_v vs 8) + (-1) ≤ v_iv (n_v vs 17) ∧ v_iv (n_v vs 17) ≤ v_iv (n_v vs 8) + (-1) := d8
  obtain ⟨d9, hds⟩ := List.forall_mem_cons.mp hds
  have d9 : v_iv (n_v vs 12) + 0 ≤ v_iv (n_v vs 14) ∧ v_iv (n_v vs 14) ≤ v_iv (n_v vs 12) + 0 := d9
  obtain ⟨d10, hds⟩ := List.forall_mem_cons.mp hds
  have d10 : v_iv (n_v vs 9) + 0 ≤ v_iv (n_v vs 11) ∧ v_iv (n_v vs 11) ≤ v_iv (n_v vs 9) + 0 := d10
  obtain ⟨d11, hds⟩ := List.forall_mem_cons.mp hds
  have d11 : v_iv (n_v vs 8) + (-4294967295) ≤ v_iv (n_v vs 11) ∧ v_iv (n_v vs 11) ≤ v_iv (n_v vs 8) + (-1) := d11
  obtain ⟨d12, hds⟩ := List.forall_mem_cons.mp hds
  have d12 : v_iv (n_v vs 8) + (-4294967295) ≤ v_iv (n_v vs 9) ∧ v_iv (n_v vs 9) ≤ v_iv (n_v vs 8) + (-1) := d12
  have hf : fc_ok PRD [(9, [26, 0], [143]), (1, [25, 24, 11], []), (3, [24, 14, 8], []), (9, [8, 0], [146]), (2, [22, 20, 21], []), (9, [20, 0], [147]), (2, [17, 8, 16], []), (2, [14, 12, 13], []), (20, [7, 13], [50, 0, 0, 3, 14, 2, 6, 1, 2, 1, 0, 0, 1, 1, 2, 1, 1, 0, 1, 3, 14, 2, 6, 1, 2, 1, 0, 0, 3, 1, 2, 1, 1, 0, -1, 2, 6, 7, 2, 1, 0, 0, 1, 2, 6, 7, 2, 1, 0, 0, 3, 1, 2, 1, 1, 0, 0]), (4, [12, 5, 8], []), (2, [11, 9, 10], []), (20, [7, 10], [50, 0, 0, 3, 14, 2, 6, 1, 2, 1, 0, 0, 0, 1, 2, 1, 1, 0, 1, 3, 14, 2, 6, 1, 2, 1, 0, 0, 2, 1, 2, 1, 1, 0, -1, 2, 6, 7, 2, 1, 0, 0, 0, 2, 6, 7, 2, 1, 0, 0, 2, 1, 2, 1, 1, 0, 0]), (5, [9, 5, 8], []), (12, [7, 1], [4]), (11, [5, 1], [4]), (20, [0, 3, 2], [60, 2, 4, 419, 146, 147, 143, 140, 141, 142]), (20, [0, 1, 2], [60, 0, 1, 421, 140]), (20, [1, 0], [50, 2, 0, 1146, 1147, 2, 6, 0, 2, 0, 0, 1, 0, 0, 6, 4, 2, 1, 0, 0, 1, 6, 2, 0, 4, 6, 3, 2, 1, 146, 2, 1, 147]), (20, [2], [50, 0, 0, 2, 6, 0, 2, 0, 0, 1, 0, 0, 2, 1, 0, 0, 999999])] ta ws vs := hf
  obtain ⟨f0, hf⟩ := fc_un (show (9 : Nat) < 100 from by decide) hf
  have f0 : n_v vs 26 = w_fd ws (v_ad (n_v vs 0)) 143 := f0
  obtain ⟨f1, hf⟩ := fc_un (show (1 : Nat) < 100 from by decide) hf
  have f1 : v_iv (n_v vs 25) = v_iv (n_v vs 24) + v_iv (n_v vs 11) := f1
  obtain ⟨f2, hf⟩ := fc_un (show (3 : Nat) < 100 from by decide) hf
  have f2 : v_iv (n_v vs 24) = v_iv (n_v vs 14) * v_iv (n_v vs 8) := f2
  obtain ⟨f3, hf⟩ := fc_un (show (9 : Nat) < 100 from by decide) hf
  have f3 : n_v vs 8 = w_fd ws (v_ad (n_v vs 0)) 146 := f3
  obtain ⟨f4, hf⟩ := fc_un (show (2 : Nat) < 100 from by decide) hf
  have f4 : v_iv (n_v vs 22) = v_iv (n_v vs 20) - v_iv (n_v vs 21) := f4
  obtain ⟨f5, hf⟩ := fc_un (show (9 : Nat) < 100 from by decide) hf
  have f5 : n_v vs 20 = w_fd ws (v_ad (n_v vs 0)) 147 := f5
  obtain ⟨f6, hf⟩ := fc_un (show (2 : Nat) < 100 from by decide) hf
  have f6 : v_iv (n_v vs 17) = v_iv (n_v vs 8) - v_iv (n_v vs 16) := f6
  obtain ⟨f7, hf⟩ := fc_un (show (2 : Nat) < 100 from by decide) hf
  have f7 : v_iv (n_v vs 14) = v_iv (n_v vs 12) - v_iv (n_v vs 13) := f7
  obtain ⟨f8, hf⟩ := fc_un (show (20 : Nat) < 100 from by decide) hf
  have f8 : ((v_iv (n_v vs 7) = 1) ∧ (v_iv (n_v vs 13) = 1)) ∨ (((v_iv (n_v vs 7) = 3) ∧ (v_iv (n_v vs 13) = (-1))) ∨ ((v_iv (n_v vs 7) ≠ 1) ∧ ((v_iv (n_v vs 7) ≠ 3) ∧ (v_iv (n_v vs 13) = 0)))) := f8
  obtain ⟨f9, hf⟩ := fc_un (show (4 : Nat) < 100 from by decide) hf
  have f9 : v_iv (n_v vs 12) = Int.tdiv (v_iv (n_v vs 5)) (v_iv (n_v vs 8)) := f9
  have fq9 : 10 ≤ v_iv (n_v vs 12) → 10 * v_iv (n_v vs 8) ≤ v_iv (n_v vs 5) := dv_ten f9 (by omega) (by omega)
  obtain ⟨f10, hf⟩ := fc_un (show (2 : Nat) < 100 from by decide) hf
  have f10 : v_iv (n_v vs 11) = v_iv (n_v vs 9) - v_iv (n_v vs 10) := f10
  obtain ⟨f11, hf⟩ := fc_un (show (20 : Nat) < 100 from by decide) hf
  have f11 : ((v_iv (n_v vs 7) = 0) ∧ (v_iv (n_v vs 10) = 1)) ∨ (((v_iv (n_v vs 7) = 2) ∧ (v_iv (n_v vs 10) = (-1))) ∨ ((v_iv (n_v vs 7) ≠ 0) ∧ ((v_iv (n_v vs 7) ≠ 2) ∧ (v_iv (n_v vs 10) = 0)))) := f11
  obtain ⟨f12, hf⟩ := fc_un (show (5 : Nat) < 100 from by decide) hf
  have f12 : v_iv (n_v vs 9) = Int.tmod (v_iv (n_v vs 5)) (v_iv (n_v vs 8)) := f12
  obtain ⟨f13, hf⟩ := fc_un (show (12 : Nat) < 100 from by decide) hf
  have f13 : v_iv (n_v vs 7) = v_iv (n_v vs 1) % 4 := f13
  obtain ⟨f14, hf⟩ := fc_un (show (11 : Nat) < 100 from by decide) hf
  have f14 : v_iv (n_v vs 5) = v_iv (n_v vs 1) / 4 := f14
  obtain ⟨f15, hf⟩ := fc_un (show (20 : Nat) < 100 from by decide) hf
  have f15 : RTQ (w_fi ws (n_v vs 0) 146) (w_fi ws (n_v vs 0) 147) (w_ei ws (w_ar ws (n_v vs 0) 143)) (w_ei ws (w_ar ws (n_v vs 0) 140)) (w_ei ws (w_ar ws (n_v vs 0) 141)) (w_ei ws (w_ar ws (n_v vs 0) 142)) (v_iv (n_v vs 3)) (v_iv (n_v vs 2)) := f15
  obtain ⟨f16, hf⟩ := fc_un (show (20 : Nat) < 100 from by decide) hf
  have f16 : PIV (w_ei ws (w_ar ws (n_v vs 0) 140)) (v_iv (n_v vs 1)) (v_iv (n_v vs 2)) := f16
  obtain ⟨f17, hf⟩ := fc_un (show (20 : Nat) < 100 from by decide) hf
  have f17 : (0 ≤ v_iv (n_v vs 1)) ∧ ((v_iv (n_v vs 1) + 1) ≤ (4 * (w_fi ws (n_v vs 0) 146 * w_fi ws (n_v vs 0) 147))) := f17
  obtain ⟨f18, hf⟩ := fc_un (show (20 : Nat) < 100 from by decide) hf
  have f18 : (0 ≤ v_iv (n_v vs 2)) ∧ (v_iv (n_v vs 2) ≤ 999999) := f18
  have cr_0_140 : ta (w_ar ws (n_v vs 0) 140) = some 251 := tv_rg (th_fd hD hth r0 (g := GG_150) rfl (k := 140) (t := (2, 0, 0, [251])) rfl rfl)
  have cr_0_141 : ta (w_ar ws (n_v vs 0) 141) = some 252 := tv_rg (th_fd hD hth r0 (g := GG_150) rfl (k := 141) (t := (2, 0, 0, [252])) rfl rfl)
  have cr_0_142 : ta (w_ar ws (n_v vs 0) 142) = some 253 := tv_rg (th_fd hD hth r0 (g := GG_150) rfl (k := 142) (t := (2, 0, 0, [253])) rfl rfl)
  have cr_0_143 : ta (w_ar ws (n_v vs 0) 143) = some 254 := tv_rg (th_fd hD hth r0 (g := GG_150) rfl (k := 143) (t := (2, 0, 0, [254])) rfl rfl)
  have ad_26 : v_ad (n_v vs 26) = w_ar ws (n_v vs 0) 143 := congrArg v_ad f0
  have g3 : v_iv (n_v vs 8) = w_fi ws (n_v vs 0) 146 := congrArg v_iv f3
  have g5 : v_iv (n_v vs 20) = w_fi ws (n_v vs 0) 147 := congrArg v_iv f5
  have hK_0_140 : ∀ j : Int, 0 ≤ j → j < 24000 → 0 ≤ w_ei ws (w_ar ws (n_v vs 0) 140) j ∧ w_ei ws (w_ar ws (n_v vs 0) 140) j ≤ 1000000 := fun j h0 h1 => th_el hD hth cr_0_140 (kd := 0) (n := 24000) (m := 24000) (lo := 0) (hi := 1000000) (rs := []) (L := []) rfl (by decide) (j := j.toNat) (by omega)
  have hK_0_141 : ∀ j : Int, 0 ≤ j → j < 96040 → 0 ≤ w_ei ws (w_ar ws (n_v vs 0) 141) j ∧ w_ei ws (w_ar ws (n_v vs 0) 141) j ≤ 23999 := fun j h0 h1 => th_el hD hth cr_0_141 (kd := 0) (n := 96040) (m := 96040) (lo := 0) (hi := 23999) (rs := []) (L := []) rfl (by decide) (j := j.toNat) (by omega)
  have hK_0_142 : ∀ j : Int, 0 ≤ j → j < 4 → 0 ≤ w_ei ws (w_ar ws (n_v vs 0) 142) j ∧ w_ei ws (w_ar ws (n_v vs 0) 142) j ≤ 24009 := fun j h0 h1 => th_el hD hth cr_0_142 (kd := 0) (n := 4) (m := 4) (lo := 0) (hi := 24009) (rs := []) (L := []) rfl (by decide) (j := j.toNat) (by omega)
  have hK_0_143 : ∀ j : Int, 0 ≤ j → j < 6000 → 0 ≤ w_ei ws (w_ar ws (n_v vs 0) 143) j ∧ w_ei ws (w_ar ws (n_v vs 0) 143) j ≤ 1 := fun j h0 h1 => th_el hD hth cr_0_143 (kd := 2) (n := 6000) (m := 6000) (lo := 0) (hi := 1) (rs := []) (L := []) rfl (by decide) (j := j.toNat) (by omega)
  have kz_0_146 : (-2147483648) ≤ w_fi ws (n_v vs 0) 146 ∧ w_fi ws (n_v vs 0) 146 ≤ 2147483647 := tv_rng (th_fd hD hth r0 (g := GG_150) rfl (k := 146) (t := (0, -2147483648, 2147483647, [])) rfl rfl)
  have kz_0_147 : (-2147483648) ≤ w_fi ws (n_v vs 0) 147 ∧ w_fi ws (n_v vs 0) 147 ≤ 2147483647 := tv_rng (th_fd hD hth r0 (g := GG_150) rfl (k := 147) (t := (0, -2147483648, 2147483647, [])) rfl rfl)
  have hrf0 : 0 ≤ v_iv (n_v vs 25) ∧ v_iv (n_v vs 25) ≤ 5999 := vc_Mo_backFrom_2_r0 (v_iv (n_v vs 1)) (v_iv (n_v vs 2)) (v_iv (n_v vs 3)) (v_iv (n_v vs 5)) (v_iv (n_v vs 7)) (v_iv (n_v vs 8)) (v_iv (n_v vs 9)) (v_iv (n_v vs 10)) (v_iv (n_v vs 11)) (v_iv (n_v vs 12)) (v_iv (n_v vs 13)) (v_iv (n_v vs 14)) (v_iv (n_v vs 16)) (v_iv (n_v vs 17)) (v_iv (n_v vs 20)) (v_iv (n_v vs 21)) (v_iv (n_v vs 22)) (v_iv (n_v vs 24)) (v_iv (n_v vs 25)) (w_fi ws (n_v vs 0) 146) (w_fi ws (n_v vs 0) 147) (w_ei ws (w_ar ws (n_v vs 0) 143)) (w_ei ws (w_ar ws (n_v vs 0) 140)) (w_ei ws (w_ar ws (n_v vs 0) 141)) (w_ei ws (w_ar ws (n_v vs 0) 142)) k1 k2 k3 k5 k7 k8 k9 k10 k11 k12 k13 k14 k16 k17 k20 k21 k22 k24 k25 d0 d1 d2 d3 d4 d5 d6 d7 d8 d9 d10 d11 d12 f1 f2 g3 f4 g5 f6 f7 f8 f9 f10 f11 f12 f13 f14 f15 f16 f17 f18 hK_0_140 hK_0_141 hK_0_142 hK_0_143 kz_0_146 kz_0_147
  have rf25 : tv_ok ta (0, 0, 5999, []) (n_v vs 25) := tv_in t25 (by first | omega | grind) (by first | omega | grind)
  refine ⟨List.forall_mem_cons.mpr ⟨rf25, (fun _ h => (by cases h))⟩, [], trivial, ?_, (fun _ h => (by cases h))⟩
  rw [List.append_nil]
  exact (fun _ h => (by cases h))
set_option maxHeartbeats 4000000 in
theorem vc_Mo_backFrom_3_0 (x1 : Int) (x2 : Int) (x3 : Int) (x5 : Int) (x7 : Int) (x8 : Int) (x9 : Int) (x10 : Int) (x11 : Int) (x12 : Int) (x13 : Int) (x14 : Int) (x16 : Int) (x17 : Int) (x20 : Int) (x21 : Int) (x22 : Int) (x24 : Int) (x25 : Int) (x27 : Int) (barredPoint_0 : Int → Int) (wide_0 : Int) (tall_0 : Int) (costOf_0 : Int → Int) (bucket_0 : Int → Int) (bucketMany_0 : Int → Int) (k1 : 0 ≤ x1 ∧ x1 ≤ 23999) (k2 : 0 ≤ x2 ∧ x2 ≤ 1000000) (k3 : 0 ≤ x3 ∧ x3 ≤ 5999) (k5 : 0 ≤ x5 ∧ x5 ≤ 5999) (k7 : 1 ≤ x7 ∧ x7 ≤ 2) (k8 : 1 ≤ x8 ∧ x8 ≤ 6000) (k9 : 0 ≤ x9 ∧ x9 ≤ 5999) (k10 : 0 ≤ x10 ∧ x10 ≤ 0) (k11 : 0 ≤ x11 ∧ x11 ≤ 5999) (k12 : 0 ≤ x12 ∧ x12 ≤ 5999) (k13 : 0 ≤ x13 ∧ x13 ≤ 0) (k14 : 0 ≤ x14 ∧ x14 ≤ 5999) (k16 : 1 ≤ x16 ∧ x16 ≤ 1) (k17 : 0 ≤ x17 ∧ x17 ≤ 5999) (k20 : 1 ≤ x20 ∧ x20 ≤ 6000) (k21 : 1 ≤ x21 ∧ x21 ≤ 1) (k22 : 0 ≤ x22 ∧ x22 ≤ 5999) (k24 : 0 ≤ x24 ∧ x24 ≤ 35994000) (k25 : 0 ≤ x25 ∧ x25 ≤ 5999) (k27 : 0 ≤ x27 ∧ x27 ≤ 0) (d0 : x11 + 0 ≤ x25 ∧ x25 ≤ x11 + 35994000) (d1 : x9 + 0 ≤ x25 ∧ x25 ≤ x9 + 35994000) (d2 : x24 + 0 ≤ x25 ∧ x25 ≤ x24 + 5999) (d3 : x22 + (-4294967296) ≤ x14 ∧ x14 ≤ x22 + 0) (d4 : x20 + (-1) ≤ x22 ∧ x22 ≤ x20 + (-1)) (d5 : x17 + (-4294967296) ≤ x11 ∧ x11 ≤ x17 + 0) (d6 : x8 + (-1) ≤ x17 ∧ x17 ≤ x8 + (-1)) (d7 : x12 + 0 ≤ x14 ∧ x14 ≤ x12 + 0) (d8 : x9 + 0 ≤ x11 ∧ x11 ≤ x9 + 0) (d9 : x8 + (-4294967295) ≤ x11 ∧ x11 ≤ x8 + (-1)) (d10 : x8 + (-4294967295) ≤ x9 ∧ x9 ≤ x8 + (-1)) (f0 : x27 = 0) (h1 : x27 = barredPoint_0 (x25)) (f3 : x25 = x24 + x11) (f4 : x24 = x14 * x8) (g5 : x8 = wide_0) (f6 : x22 = x20 - x21) (g7 : x20 = tall_0) (f8 : x17 = x8 - x16) (f9 : x14 = x12 - x13) (f10 : ((x7 = 1) ∧ (x13 = 1)) ∨ (((x7 = 3) ∧ (x13 = (-1))) ∨ ((x7 ≠ 1) ∧ ((x7 ≠ 3) ∧ (x13 = 0))))) (f11 : x12 = Int.tdiv (x5) (x8)) (f12 : x11 = x9 - x10) (f13 : ((x7 = 0) ∧ (x10 = 1)) ∨ (((x7 = 2) ∧ (x10 = (-1))) ∨ ((x7 ≠ 0) ∧ ((x7 ≠ 2) ∧ (x10 = 0))))) (f14 : x9 = Int.tmod (x5) (x8)) (f15 : x7 = x1 % 4) (f16 : x5 = x1 / 4) (f17 : RTQ (wide_0) (tall_0) (barredPoint_0) (costOf_0) (bucket_0) (bucketMany_0) (x3) (x2)) (f18 : PIV (costOf_0) (x1) (x2)) (f19 : (0 ≤ x1) ∧ ((x1 + 1) ≤ (4 * (wide_0 * tall_0)))) (f20 : (0 ≤ x2) ∧ (x2 ≤ 999999)) (hK_0_140 : ∀ j : Int, 0 ≤ j → j < 24000 → 0 ≤ costOf_0 j ∧ costOf_0 j ≤ 1000000) (hK_0_141 : ∀ j : Int, 0 ≤ j → j < 96040 → 0 ≤ bucket_0 j ∧ bucket_0 j ≤ 23999) (hK_0_142 : ∀ j : Int, 0 ≤ j → j < 4 → 0 ≤ bucketMany_0 j ∧ bucketMany_0 j ≤ 24009) (hK_0_143 : ∀ j : Int, 0 ≤ j → j < 6000 → 0 ≤ barredPoint_0 j ∧ barredPoint_0 j ≤ 1) (kz_0_146 : (-2147483648) ≤ wide_0 ∧ wide_0 ≤ 2147483647) (kz_0_147 : (-2147483648) ≤ tall_0 ∧ tall_0 ≤ 2147483647) : BFP (wide_0) (tall_0) (barredPoint_0) (x1) (x25) := by
  first
    | assumption
    | (have g0 : GRX wide_0 tall_0 := ‹RTQ _ _ _ _ _ _ _ _›.1
       have g := gok_bd g0
       have e8 : x8 = wide_0 := by assumption
       have e20 : x20 = tall_0 := by assumption
       have tm : x9 = x5 % wide_0 := by rw [← e8, ‹x9 = Int.tmod x5 x8›]; exact Int.tmod_eq_emod_of_nonneg (by omega)
       have td : x12 = x5 / wide_0 := by rw [← e8, ‹x12 = Int.tdiv x5 x8›]; exact Int.tdiv_eq_ediv_of_nonneg (by omega)
       have hx : x11 = x5 % wide_0 - dxf x7 := by rw [← tm]; unfold dxf; split; omega; split <;> omega
       have hy : x14 = x5 / wide_0 - dyf x7 := by rw [← td]; unfold dyf; split; omega; split <;> omega
       have n := nb_back (T := tall_0) (q := x5) (d := x7) (x := x11) (y := x14) (p := x25) (by omega) (by omega) (by omega) hx hy (by omega) (by omega) (by omega) (by omega) (by rw [← e8, ‹x25 = x24 + x11›, ‹x24 = x14 * x8›])
       have b := rtq_bar ‹RTQ _ _ _ _ _ _ _ _› ‹PIV _ _ _› (by omega) (by omega)
       exact ⟨⟨by omega, by omega⟩, by rw [show x1 % 4 = x7 by omega, show x1 / 4 = x5 by omega]; exact n.1, n.2, by rw [← ‹x27 = barredPoint_0 x25›]; omega, b⟩)
set_option maxHeartbeats 4000000 in
theorem vc_Mo_backFrom_3_1 (x1 : Int) (x2 : Int) (x3 : Int) (x5 : Int) (x7 : Int) (x8 : Int) (x9 : Int) (x10 : Int) (x11 : Int) (x12 : Int) (x13 : Int) (x14 : Int) (x16 : Int) (x17 : Int) (x20 : Int) (x21 : Int) (x22 : Int) (x24 : Int) (x25 : Int) (x27 : Int) (barredPoint_0 : Int → Int) (wide_0 : Int) (tall_0 : Int) (costOf_0 : Int → Int) (bucket_0 : Int → Int) (bucketMany_0 : Int → Int) (k1 : 0 ≤ x1 ∧ x1 ≤ 23999) (k2 : 0 ≤ x2 ∧ x2 ≤ 1000000) (k3 : 0 ≤ x3 ∧ x3 ≤ 5999) (k5 : 0 ≤ x5 ∧ x5 ≤ 5999) (k7 : 1 ≤ x7 ∧ x7 ≤ 2) (k8 : 1 ≤ x8 ∧ x8 ≤ 6000) (k9 : 0 ≤ x9 ∧ x9 ≤ 5999) (k10 : 0 ≤ x10 ∧ x10 ≤ 0) (k11 : 0 ≤ x11 ∧ x11 ≤ 5999) (k12 : 0 ≤ x12 ∧ x12 ≤ 5999) (k13 : 0 ≤ x13 ∧ x13 ≤ 0) (k14 : 0 ≤ x14 ∧ x14 ≤ 5999) (k16 : 1 ≤ x16 ∧ x16 ≤ 1) (k17 : 0 ≤ x17 ∧ x17 ≤ 5999) (k20 : 1 ≤ x20 ∧ x20 ≤ 6000) (k21 : 1 ≤ x21 ∧ x21 ≤ 1) (k22 : 0 ≤ x22 ∧ x22 ≤ 5999) (k24 : 0 ≤ x24 ∧ x24 ≤ 35994000) (k25 : 0 ≤ x25 ∧ x25 ≤ 5999) (k27 : 0 ≤ x27 ∧ x27 ≤ 0) (d0 : x11 + 0 ≤ x25 ∧ x25 ≤ x11 + 35994000) (d1 : x9 + 0 ≤ x25 ∧ x25 ≤ x9 + 35994000) (d2 : x24 + 0 ≤ x25 ∧ x25 ≤ x24 + 5999) (d3 : x22 + (-4294967296) ≤ x14 ∧ x14 ≤ x22 + 0) (d4 : x20 + (-1) ≤ x22 ∧ x22 ≤ x20 + (-1)) (d5 : x17 + (-4294967296) ≤ x11 ∧ x11 ≤ x17 + 0) (d6 : x8 + (-1) ≤ x17 ∧ x17 ≤ x8 + (-1)) (d7 : x12 + 0 ≤ x14 ∧ x14 ≤ x12 + 0) (d8 : x9 + 0 ≤ x11 ∧ x11 ≤ x9 + 0) (d9 : x8 + (-4294967295) ≤ x11 ∧ x11 ≤ x8 + (-1)) (d10 : x8 + (-4294967295) ≤ x9 ∧ x9 ≤ x8 + (-1)) (f0 : x27 = 0) (h1 : x27 = barredPoint_0 (x25)) (f3 : x25 = x24 + x11) (f4 : x24 = x14 * x8) (g5 : x8 = wide_0) (f6 : x22 = x20 - x21) (g7 : x20 = tall_0) (f8 : x17 = x8 - x16) (f9 : x14 = x12 - x13) (f10 : ((x7 = 1) ∧ (x13 = 1)) ∨ (((x7 = 3) ∧ (x13 = (-1))) ∨ ((x7 ≠ 1) ∧ ((x7 ≠ 3) ∧ (x13 = 0))))) (f11 : x12 = Int.tdiv (x5) (x8)) (f12 : x11 = x9 - x10) (f13 : ((x7 = 0) ∧ (x10 = 1)) ∨ (((x7 = 2) ∧ (x10 = (-1))) ∨ ((x7 ≠ 0) ∧ ((x7 ≠ 2) ∧ (x10 = 0))))) (f14 : x9 = Int.tmod (x5) (x8)) (f15 : x7 = x1 % 4) (f16 : x5 = x1 / 4) (f17 : RTQ (wide_0) (tall_0) (barredPoint_0) (costOf_0) (bucket_0) (bucketMany_0) (x3) (x2)) (f18 : PIV (costOf_0) (x1) (x2)) (f19 : (0 ≤ x1) ∧ ((x1 + 1) ≤ (4 * (wide_0 * tall_0)))) (f20 : (0 ≤ x2) ∧ (x2 ≤ 999999)) (hK_0_140 : ∀ j : Int, 0 ≤ j → j < 24000 → 0 ≤ costOf_0 j ∧ costOf_0 j ≤ 1000000) (hK_0_141 : ∀ j : Int, 0 ≤ j → j < 96040 → 0 ≤ bucket_0 j ∧ bucket_0 j ≤ 23999) (hK_0_142 : ∀ j : Int, 0 ≤ j → j < 4 → 0 ≤ bucketMany_0 j ∧ bucketMany_0 j ≤ 24009) (hK_0_143 : ∀ j : Int, 0 ≤ j → j < 6000 → 0 ≤ barredPoint_0 j ∧ barredPoint_0 j ≤ 1) (kz_0_146 : (-2147483648) ≤ wide_0 ∧ wide_0 ≤ 2147483647) (kz_0_147 : (-2147483648) ≤ tall_0 ∧ tall_0 ≤ 2147483647) : x7 = (x1 % 4) := by
  first
    | omega
    | (have g := gok_bd (show GRX wide_0 tall_0 from ‹RTQ _ _ _ _ _ _ _ _›.1); omega)
    | (have g0 : GRX wide_0 tall_0 := ‹RTQ _ _ _ _ _ _ _ _›.1
       have g := gok_bd g0
       have e8 : x8 = wide_0 := by assumption
       have e20 : x20 = tall_0 := by assumption
       have c := cell_ix (W := x8) (T := x20) (x := x11) (y := x14) (p := x25) (by omega) (by omega) (by omega) (by omega) (by omega) (by rw [‹x25 = x24 + x11›, ‹x24 = x14 * x8›])
       have g3 := g0.2.2
       rw [e8, e20] at c
       omega)
    | (have h := ‹BFP _ _ _ _ _›.2.2.1; omega)
    | sorry
set_option maxHeartbeats 4000000 in
theorem vc_Mo_backFrom_3_2 (x1 : Int) (x2 : Int) (x3 : Int) (x5 : Int) (x7 : Int) (x8 : Int) (x9 : Int) (x10 : Int) (x11 : Int) (x12 : Int) (x13 : Int) (x14 : Int) (x16 : Int) (x17 : Int) (x20 : Int) (x21 : Int) (x22 : Int) (x24 : Int) (x25 : Int) (x27 : Int) (barredPoint_0 : Int → Int) (wide_0 : Int) (tall_0 : Int) (costOf_0 : Int → Int) (bucket_0 : Int → Int) (bucketMany_0 : Int → Int) (k1 : 0 ≤ x1 ∧ x1 ≤ 23999) (k2 : 0 ≤ x2 ∧ x2 ≤ 1000000) (k3 : 0 ≤ x3 ∧ x3 ≤ 5999) (k5 : 0 ≤ x5 ∧ x5 ≤ 5999) (k7 : 1 ≤ x7 ∧ x7 ≤ 2) (k8 : 1 ≤ x8 ∧ x8 ≤ 6000) (k9 : 0 ≤ x9 ∧ x9 ≤ 5999) (k10 : 0 ≤ x10 ∧ x10 ≤ 0) (k11 : 0 ≤ x11 ∧ x11 ≤ 5999) (k12 : 0 ≤ x12 ∧ x12 ≤ 5999) (k13 : 0 ≤ x13 ∧ x13 ≤ 0) (k14 : 0 ≤ x14 ∧ x14 ≤ 5999) (k16 : 1 ≤ x16 ∧ x16 ≤ 1) (k17 : 0 ≤ x17 ∧ x17 ≤ 5999) (k20 : 1 ≤ x20 ∧ x20 ≤ 6000) (k21 : 1 ≤ x21 ∧ x21 ≤ 1) (k22 : 0 ≤ x22 ∧ x22 ≤ 5999) (k24 : 0 ≤ x24 ∧ x24 ≤ 35994000) (k25 : 0 ≤ x25 ∧ x25 ≤ 5999) (k27 : 0 ≤ x27 ∧ x27 ≤ 0) (d0 : x11 + 0 ≤ x25 ∧ x25 ≤ x11 + 35994000) (d1 : x9 + 0 ≤ x25 ∧ x25 ≤ x9 + 35994000) (d2 : x24 + 0 ≤ x25 ∧ x25 ≤ x24 + 5999) (d3 : x22 + (-4294967296) ≤ x14 ∧ x14 ≤ x22 + 0) (d4 : x20 + (-1) ≤ x22 ∧ x22 ≤ x20 + (-1)) (d5 : x17 + (-4294967296) ≤ x11 ∧ x11 ≤ x17 + 0) (d6 : x8 + (-1) ≤ x17 ∧ x17 ≤ x8 + (-1)) (d7 : x12 + 0 ≤ x14 ∧ x14 ≤ x12 + 0) (d8 : x9 + 0 ≤ x11 ∧ x11 ≤ x9 + 0) (d9 : x8 + (-4294967295) ≤ x11 ∧ x11 ≤ x8 + (-1)) (d10 : x8 + (-4294967295) ≤ x9 ∧ x9 ≤ x8 + (-1)) (f0 : x27 = 0) (h1 : x27 = barredPoint_0 (x25)) (f3 : x25 = x24 + x11) (f4 : x24 = x14 * x8) (g5 : x8 = wide_0) (f6 : x22 = x20 - x21) (g7 : x20 = tall_0) (f8 : x17 = x8 - x16) (f9 : x14 = x12 - x13) (f10 : ((x7 = 1) ∧ (x13 = 1)) ∨ (((x7 = 3) ∧ (x13 = (-1))) ∨ ((x7 ≠ 1) ∧ ((x7 ≠ 3) ∧ (x13 = 0))))) (f11 : x12 = Int.tdiv (x5) (x8)) (f12 : x11 = x9 - x10) (f13 : ((x7 = 0) ∧ (x10 = 1)) ∨ (((x7 = 2) ∧ (x10 = (-1))) ∨ ((x7 ≠ 0) ∧ ((x7 ≠ 2) ∧ (x10 = 0))))) (f14 : x9 = Int.tmod (x5) (x8)) (f15 : x7 = x1 % 4) (f16 : x5 = x1 / 4) (f17 : RTQ (wide_0) (tall_0) (barredPoint_0) (costOf_0) (bucket_0) (bucketMany_0) (x3) (x2)) (f18 : PIV (costOf_0) (x1) (x2)) (f19 : (0 ≤ x1) ∧ ((x1 + 1) ≤ (4 * (wide_0 * tall_0)))) (f20 : (0 ≤ x2) ∧ (x2 ≤ 999999)) (hK_0_140 : ∀ j : Int, 0 ≤ j → j < 24000 → 0 ≤ costOf_0 j ∧ costOf_0 j ≤ 1000000) (hK_0_141 : ∀ j : Int, 0 ≤ j → j < 96040 → 0 ≤ bucket_0 j ∧ bucket_0 j ≤ 23999) (hK_0_142 : ∀ j : Int, 0 ≤ j → j < 4 → 0 ≤ bucketMany_0 j ∧ bucketMany_0 j ≤ 24009) (hK_0_143 : ∀ j : Int, 0 ≤ j → j < 6000 → 0 ≤ barredPoint_0 j ∧ barredPoint_0 j ≤ 1) (kz_0_146 : (-2147483648) ≤ wide_0 ∧ wide_0 ≤ 2147483647) (kz_0_147 : (-2147483648) ≤ tall_0 ∧ tall_0 ≤ 2147483647) : (0 ≤ x25) ∧ ((x25 + 1) ≤ (wide_0 * tall_0)) := by
  first
    | omega
    | (have g := gok_bd (show GRX wide_0 tall_0 from ‹RTQ _ _ _ _ _ _ _ _›.1); omega)
    | (have g0 : GRX wide_0 tall_0 := ‹RTQ _ _ _ _ _ _ _ _›.1
       have g := gok_bd g0
       have e8 : x8 = wide_0 := by assumption
       have e20 : x20 = tall_0 := by assumption
       have c := cell_ix (W := x8) (T := x20) (x := x11) (y := x14) (p := x25) (by omega) (by omega) (by omega) (by omega) (by omega) (by rw [‹x25 = x24 + x11›, ‹x24 = x14 * x8›])
       have g3 := g0.2.2
       rw [e8, e20] at c
       omega)
    | (have h := ‹BFP _ _ _ _ _›.2.2.1; omega)
    | sorry
def o_Mo_backFrom_3 : or_T := (94, 29, [(0, (2, 0, 0, [150])), (1, (0, 0, 23999, [])), (2, (0, 0, 1000000, [])), (3, (0, 0, 5999, [])), (5, (0, 0, 5999, [])), (7, (0, 1, 2, [])), (8, (0, 1, 6000, [])), (9, (0, 0, 5999, [])), (10, (0, 0, 0, [])), (11, (0, 0, 5999, [])), (12, (0, 0, 5999, [])), (13, (0, 0, 0, [])), (14, (0, 0, 5999, [])), (16, (0, 1, 1, [])), (17, (0, 0, 5999, [])), (20, (0, 1, 6000, [])), (21, (0, 1, 1, [])), (22, (0, 0, 5999, [])), (24, (0, 0, 35994000, [])), (25, (0, 0, 5999, [])), (26, (2, 0, 0, [254])), (27, (0, 0, 0, []))], [(8, [27], [0]), (10, [27, 26, 25], []), (9, [26, 0], [143]), (1, [25, 24, 11], []), (3, [24, 14, 8], []), (9, [8, 0], [146]), (2, [22, 20, 21], []), (9, [20, 0], [147]), (2, [17, 8, 16], []), (2, [14, 12, 13], []), (20, [7, 13], [50, 0, 0, 3, 14, 2, 6, 1, 2, 1, 0, 0, 1, 1, 2, 1, 1, 0, 1, 3, 14, 2, 6, 1, 2, 1, 0, 0, 3, 1, 2, 1, 1, 0, -1, 2, 6, 7, 2, 1, 0, 0, 1, 2, 6, 7, 2, 1, 0, 0, 3, 1, 2, 1, 1, 0, 0]), (4, [12, 5, 8], []), (2, [11, 9, 10], []), (20, [7, 10], [50, 0, 0, 3, 14, 2, 6, 1, 2, 1, 0, 0, 0, 1, 2, 1, 1, 0, 1, 3, 14, 2, 6, 1, 2, 1, 0, 0, 2, 1, 2, 1, 1, 0, -1, 2, 6, 7, 2, 1, 0, 0, 0, 2, 6, 7, 2, 1, 0, 0, 2, 1, 2, 1, 1, 0, 0]), (5, [9, 5, 8], []), (12, [7, 1], [4]), (11, [5, 1], [4]), (20, [0, 3, 2], [60, 2, 4, 419, 146, 147, 143, 140, 141, 142]), (20, [0, 1, 2], [60, 0, 1, 421, 140]), (20, [1, 0], [50, 2, 0, 1146, 1147, 2, 6, 0, 2, 0, 0, 1, 0, 0, 6, 4, 2, 1, 0, 0, 1, 6, 2, 0, 4, 6, 3, 2, 1, 146, 2, 1, 147]), (20, [2], [50, 0, 0, 2, 6, 0, 2, 0, 0, 1, 0, 0, 2, 1, 0, 0, 999999])], [], [], [(20, [0, 1, 25], [60, 2, 1, 424, 146, 147, 143]), (20, [7, 1], [50, 0, 0, 1, 2, 1, 0, 9, 2, 1, 1, 0, 4]), (20, [25, 0], [50, 2, 0, 1146, 1147, 2, 6, 0, 2, 0, 0, 1, 0, 0, 6, 4, 2, 1, 0, 0, 1, 6, 3, 2, 1, 146, 2, 1, 147]), (24, [0, 0], []), (24, [1, 1], []), (24, [2, 2], [])], [], [(25, 11, 0, 35994000), (25, 9, 0, 35994000), (25, 24, 0, 5999), (14, 22, -4294967296, 0), (22, 20, -1, -1), (11, 17, -4294967296, 0), (17, 8, -1, -1), (14, 12, 0, 0), (11, 9, 0, 0), (11, 8, -4294967295, -1), (9, 8, -4294967295, -1)])
theorem oo_Mo_backFrom_3 {kA : Nat → ClassId} : or_ok PRD kA GG o_Mo_backFrom_3 := by
  intro A ta ws vs hD hth hl hk hds hf
  have hl : vs.length = 29 := hl
  have hk : ∀ q ∈ ([(0, (2, 0, 0, [150])), (1, (0, 0, 23999, [])), (2, (0, 0, 1000000, [])), (3, (0, 0, 5999, [])), (5, (0, 0, 5999, [])), (7, (0, 1, 2, [])), (8, (0, 1, 6000, [])), (9, (0, 0, 5999, [])), (10, (0, 0, 0, [])), (11, (0, 0, 5999, [])), (12, (0, 0, 5999, [])), (13, (0, 0, 0, [])), (14, (0, 0, 5999, [])), (16, (0, 1, 1, [])), (17, (0, 0, 5999, [])), (20, (0, 1, 6000, [])), (21, (0, 1, 1, [])), (22, (0, 0, 5999, [])), (24, (0, 0, 35994000, [])), (25, (0, 0, 5999, [])), (26, (2, 0, 0, [254])), (27, (0, 0, 0, []))] : List (Nat × tv_T)), tv_ok ta q.2 (n_v vs q.1) := hk
  obtain ⟨t0, hk⟩ := List.forall_mem_cons.mp hk
  have t0 : tv_ok ta (2, 0, 0, [150]) (n_v vs 0) := t0
  have r0 : ta (v_ad (n_v vs 0)) = some 150 := tv_rg t0
  obtain ⟨t1, hk⟩ := List.forall_mem_cons.mp hk
  have t1 : tv_ok ta (0, 0, 23999, []) (n_v vs 1) := t1
  have k1 : 0 ≤ v_iv (n_v vs 1) ∧ v_iv (n_v vs 1) ≤ 23999 := tv_rng t1
  obtain ⟨t2, hk⟩ := List.forall_mem_cons.mp hk
  have t2 : tv_ok ta (0, 0, 1000000, []) (n_v vs 2) := t2
  have k2 : 0 ≤ v_iv (n_v vs 2) ∧ v_iv (n_v vs 2) ≤ 1000000 := tv_rng t2
  obtain ⟨t3, hk⟩ := List.forall_mem_cons.mp hk
  have t3 : tv_ok ta (0, 0, 5999, []) (n_v vs 3) := t3
  have k3 : 0 ≤ v_iv (n_v vs 3) ∧ v_iv (n_v vs 3) ≤ 5999 := tv_rng t3
  obtain ⟨t5, hk⟩ := List.forall_mem_cons.mp hk
  have t5 : tv_ok ta (0, 0, 5999, []) (n_v vs 5) := t5
  have k5 : 0 ≤ v_iv (n_v vs 5) ∧ v_iv (n_v vs 5) ≤ 5999 := tv_rng t5
  obtain ⟨t7, hk⟩ := List.forall_mem_cons.mp hk
  have t7 : tv_ok ta (0, 1, 2, []) (n_v vs 7) := t7
  have k7 : 1 ≤ v_iv (n_v vs 7) ∧ v_iv (n_v vs 7) ≤ 2 := tv_rng t7
  obtain ⟨t8, hk⟩ := List.forall_mem_cons.mp hk
  have t8 : tv_ok ta (0, 1, 6000, []) (n_v vs 8) := t8
  have k8 : 1 ≤ v_iv (n_v vs 8) ∧ v_iv (n_v vs 8) ≤ 6000 := tv_rng t8
  obtain ⟨t9, hk⟩ := List.forall_mem_cons.mp hk
  have t9 : tv_ok ta (0, 0, 5999, []) (n_v vs 9) := t9
  have k9 : 0 ≤ v_iv (n_v vs 9) ∧ v_iv (n_v vs 9) ≤ 5999 := tv_rng t9
  obtain ⟨t10, hk⟩ := List.forall_mem_cons.mp hk
  have t10 : tv_ok ta (0, 0, 0, []) (n_v vs 10) := t10
  have k10 : 0 ≤ v_iv (n_v vs 10) ∧ v_iv (n_v vs 10) ≤ 0 := tv_rng t10
  obtain ⟨t11, hk⟩ := List.forall_mem_cons.mp hk
  have t11 : tv_ok ta (0, 0, 5999, []) (n_v vs 11) := t11
  have k11 : 0 ≤ v_iv (n_v vs 11) ∧ v_iv (n_v vs 11) ≤ 5999 := tv_rng t11
  obtain ⟨t12, hk⟩ := List.forall_mem_cons.mp hk
  have t12 : tv_ok ta (0, 0, 5999, []) (n_v vs 12) := t12
  have k12 : 0 ≤ v_iv (n_v vs 12) ∧ v_iv (n_v vs 12) ≤ 5999 := tv_rng t12
  obtain ⟨t13, hk⟩ := List.forall_mem_cons.mp hk
  have t13 : tv_ok ta (0, 0, 0, []) (n_v vs 13) := t13
  have k13 : 0 ≤ v_iv (n_v vs 13) ∧ v_iv (n_v vs 13) ≤ 0 := tv_rng t13
  obtain ⟨t14, hk⟩ := List.forall_mem_cons.mp hk
  have t14 : tv_ok ta (0, 0, 5999, []) (n_v vs 14) := t14
  have k14 : 0 ≤ v_iv (n_v vs 14) ∧ v_iv (n_v vs 14) ≤ 5999 := tv_rng t14
  obtain ⟨t16, hk⟩ := List.forall_mem_cons.mp hk
  have t16 : tv_ok ta (0, 1, 1, []) (n_v vs 16) := t16
  have k16 : 1 ≤ v_iv (n_v vs 16) ∧ v_iv (n_v vs 16) ≤ 1 := tv_rng t16
  obtain ⟨t17, hk⟩ := List.forall_mem_cons.mp hk
  have t17 : tv_ok ta (0, 0, 5999, []) (n_v vs 17) := t17
  have k17 : 0 ≤ v_iv (n_v vs 17) ∧ v_iv (n_v vs 17) ≤ 5999 := tv_rng t17
  obtain ⟨t20, hk⟩ := List.forall_mem_cons.mp hk
  have t20 : tv_ok ta (0, 1, 6000, []) (n_v vs 20) := t20
  have k20 : 1 ≤ v_iv (n_v vs 20) ∧ v_iv (n_v vs 20) ≤ 6000 := tv_rng t20
  obtain ⟨t21, hk⟩ := List.forall_mem_cons.mp hk
  have t21 : tv_ok ta (0, 1, 1, []) (n_v vs 21) := t21
  have k21 : 1 ≤ v_iv (n_v vs 21) ∧ v_iv (n_v vs 21) ≤ 1 := tv_rng t21
  obtain ⟨t22, hk⟩ := List.forall_mem_cons.mp hk
  have t22 : tv_ok ta (0, 0, 5999, []) (n_v vs 22) := t22
  have k22 : 0 ≤ v_iv (n_v vs 22) ∧ v_iv (n_v vs 22) ≤ 5999 := tv_rng t22
  obtain ⟨t24, hk⟩ := List.forall_mem_cons.mp hk
  have t24 : tv_ok ta (0, 0, 35994000, []) (n_v vs 24) := t24
  have k24 : 0 ≤ v_iv (n_v vs 24) ∧ v_iv (n_v vs 24) ≤ 35994000 := tv_rng t24
  obtain ⟨t25, hk⟩ := List.forall_mem_cons.mp hk
  have t25 : tv_ok ta (0, 0, 5999, []) (n_v vs 25) := t25
  have k25 : 0 ≤ v_iv (n_v vs 25) ∧ v_iv (n_v vs 25) ≤ 5999 := tv_rng t25
  obtain ⟨t26, hk⟩ := List.forall_mem_cons.mp hk
  have t26 : tv_ok ta (2, 0, 0, [254]) (n_v vs 26) := t26
  have r26 : ta (v_ad (n_v vs 26)) = some 254 := tv_rg t26
  obtain ⟨t27, hk⟩ := List.forall_mem_cons.mp hk
  have t27 : tv_ok ta (0, 0, 0, []) (n_v vs 27) := t27
  have k27 : 0 ≤ v_iv (n_v vs 27) ∧ v_iv (n_v vs 27) ≤ 0 := tv_rng t27
  have hds : ∀ q ∈ ([(25, 11, 0, 35994000), (25, 9, 0, 35994000), (25, 24, 0, 5999), (14, 22, -4294967296, 0), (22, 20, -1, -1), (11, 17, -4294967296, 0), (17, 8, -1, -1), (14, 12, 0, 0), (11, 9, 0, 0), (11, 8, -4294967295, -1), (9, 8, -4294967295, -1)] : List of_T), n_iv vs q.2.1 + q.2.2.1 ≤ n_iv vs q.1 ∧ n_iv vs q.1 ≤ n_iv vs q.2.1 + q.2.2.2 := hds
  obtain ⟨d0, hds⟩ := List.forall_mem_cons.mp hds
  have d0 : v_iv (n_v vs 11) + 0 ≤ v_iv (n_v vs 25) ∧ v_iv (n_v vs 25) ≤ v_iv (n_v vs 11) + 35994000 := d0
  obtain ⟨d1, hds⟩ := List.forall_mem_cons.mp hds
  have d1 : v_iv (n_v vs 9) + 0 ≤ v_iv (n_v vs 25) ∧ v_iv (n_v vs 25) ≤ v_iv (n_v vs 9) + 35994000 := d1
  obtain ⟨d2, hds⟩ := List.forall_mem_cons.mp hds
  have d2 : v_iv (n_v vs 24) + 0 ≤ v_iv (n_v vs 25) ∧ v_iv (n_v vs 25) ≤ v_iv (n_v vs 24) + 5999 := d2
  obtain ⟨d3, hds⟩ := List.forall_mem_cons.mp hds
  have d3 : v_iv (n_v vs 22) + (-4294967296) ≤ v_iv (n_v vs 14) ∧ v_iv (n_v vs 14) ≤ v_iv (n_v vs 22) + 0 := d3
  obtain ⟨d4, hds⟩ := List.forall_mem_cons.mp hds
  have d4 : v_iv (n_v vs 20) + (-1) ≤ v_iv (n_v vs 22) ∧ v_iv (n_v vs 22) ≤ v_iv (n_v vs 20) + (-1) := d4
  obtain ⟨d5, hds⟩ := List.forall_mem_cons.mp hds
  have d5 : v_iv (n_v vs 17) + (-4294967296) ≤ v_iv (n_v vs 11) ∧ v_iv (n_v vs 11) ≤ v_iv (n_v vs 17) + 0 := d5
  obtain ⟨d6, hds⟩ := List.forall_mem_cons.mp hds
  have d6 : v_iv (n_v vs 8) + (-1) ≤ v_iv (n_v vs 17) ∧ v_iv (n_v vs 17) ≤ v_iv (n_v vs 8) + (-1) := d6
  obtain ⟨d7, hds⟩ := List.forall_mem_cons.mp hds
  have d7 : v_iv (n_v vs 12) + 0 ≤ v_iv (n_v vs 14) ∧ v_iv (n_v vs 14) ≤ v_iv (n_v vs 12) + 0 := d7
  obtain ⟨d8, hds⟩ := List.forall_mem_cons.mp hds
  have d8 : v_iv (n_v vs 9) + 0 ≤ v_iv (n_v vs 11) ∧ v_iv (n_v vs 11) ≤ v_iv (n_v vs 9) + 0 := d8
  obtain ⟨d9, hds⟩ := List.forall_mem_cons.mp hds
  have d9 : v_iv (n_v vs 8) + (-4294967295) ≤ v_iv (n_v vs 11) ∧ v_iv (n_v vs 11) ≤ v_iv (n_v vs 8) + (-1) := d9
  obtain ⟨d10, hds⟩ := List.forall_mem_cons.mp hds
  have d10 : v_iv (n_v vs 8) + (-4294967295) ≤ v_iv (n_v vs 9) ∧ v_iv (n_v vs 9) ≤ v_iv (n_v vs 8) + (-1) := d10
  have hf : fc_ok PRD [(8, [27], [0]), (10, [27, 26, 25], []), (9, [26, 0], [143]), (1, [25, 24, 11], []), (3, [24, 14, 8], []), (9, [8, 0], [146]), (2, [22, 20, 21], []), (9, [20, 0], [147]), (2, [17, 8, 16], []), (2, [14, 12, 13], []), (20, [7, 13], [50, 0, 0, 3, 14, 2, 6, 1, 2, 1, 0, 0, 1, 1, 2, 1, 1, 0, 1, 3, 14, 2, 6, 1, 2, 1, 0, 0, 3, 1, 2, 1, 1, 0, -1, 2, 6, 7, 2, 1, 0, 0, 1, 2, 6, 7, 2, 1, 0, 0, 3, 1, 2, 1, 1, 0, 0]), (4, [12, 5, 8], []), (2, [11, 9, 10], []), (20, [7, 10], [50, 0, 0, 3, 14, 2, 6, 1, 2, 1, 0, 0, 0, 1, 2, 1, 1, 0, 1, 3, 14, 2, 6, 1, 2, 1, 0, 0, 2, 1, 2, 1, 1, 0, -1, 2, 6, 7, 2, 1, 0, 0, 0, 2, 6, 7, 2, 1, 0, 0, 2, 1, 2, 1, 1, 0, 0]), (5, [9, 5, 8], []), (12, [7, 1], [4]), (11, [5, 1], [4]), (20, [0, 3, 2], [60, 2, 4, 419, 146, 147, 143, 140, 141, 142]), (20, [0, 1, 2], [60, 0, 1, 421, 140]), (20, [1, 0], [50, 2, 0, 1146, 1147, 2, 6, 0, 2, 0, 0, 1, 0, 0, 6, 4, 2, 1, 0, 0, 1, 6, 2, 0, 4, 6, 3, 2, 1, 146, 2, 1, 147]), (20, [2], [50, 0, 0, 2, 6, 0, 2, 0, 0, 1, 0, 0, 2, 1, 0, 0, 999999])] ta ws vs := hf
  obtain ⟨f0, hf⟩ := fc_un (show (8 : Nat) < 100 from by decide) hf
  have f0 : v_iv (n_v vs 27) = 0 := f0
  obtain ⟨f1, hf⟩ := fc_un (show (10 : Nat) < 100 from by decide) hf
  have f1 : v_iv (n_v vs 27) = w_el ws (v_ad (n_v vs 26)) (v_iv (n_v vs 25)).toNat := f1
  obtain ⟨f2, hf⟩ := fc_un (show (9 : Nat) < 100 from by decide) hf
  have f2 : n_v vs 26 = w_fd ws (v_ad (n_v vs 0)) 143 := f2
  obtain ⟨f3, hf⟩ := fc_un (show (1 : Nat) < 100 from by decide) hf
  have f3 : v_iv (n_v vs 25) = v_iv (n_v vs 24) + v_iv (n_v vs 11) := f3
  obtain ⟨f4, hf⟩ := fc_un (show (3 : Nat) < 100 from by decide) hf
  have f4 : v_iv (n_v vs 24) = v_iv (n_v vs 14) * v_iv (n_v vs 8) := f4
  obtain ⟨f5, hf⟩ := fc_un (show (9 : Nat) < 100 from by decide) hf
  have f5 : n_v vs 8 = w_fd ws (v_ad (n_v vs 0)) 146 := f5
  obtain ⟨f6, hf⟩ := fc_un (show (2 : Nat) < 100 from by decide) hf
  have f6 : v_iv (n_v vs 22) = v_iv (n_v vs 20) - v_iv (n_v vs 21) := f6
  obtain ⟨f7, hf⟩ := fc_un (show (9 : Nat) < 100 from by decide) hf
  have f7 : n_v vs 20 = w_fd ws (v_ad (n_v vs 0)) 147 := f7
  obtain ⟨f8, hf⟩ := fc_un (show (2 : Nat) < 100 from by decide) hf
  have f8 : v_iv (n_v vs 17) = v_iv (n_v vs 8) - v_iv (n_v vs 16) := f8
  obtain ⟨f9, hf⟩ := fc_un (show (2 : Nat) < 100 from by decide) hf
  have f9 : v_iv (n_v vs 14) = v_iv (n_v vs 12) - v_iv (n_v vs 13) := f9
  obtain ⟨f10, hf⟩ := fc_un (show (20 : Nat) < 100 from by decide) hf
  have f10 : ((v_iv (n_v vs 7) = 1) ∧ (v_iv (n_v vs 13) = 1)) ∨ (((v_iv (n_v vs 7) = 3) ∧ (v_iv (n_v vs 13) = (-1))) ∨ ((v_iv (n_v vs 7) ≠ 1) ∧ ((v_iv (n_v vs 7) ≠ 3) ∧ (v_iv (n_v vs 13) = 0)))) := f10
  obtain ⟨f11, hf⟩ := fc_un (show (4 : Nat) < 100 from by decide) hf
  have f11 : v_iv (n_v vs 12) = Int.tdiv (v_iv (n_v vs 5)) (v_iv (n_v vs 8)) := f11
  have fq11 : 10 ≤ v_iv (n_v vs 12) → 10 * v_iv (n_v vs 8) ≤ v_iv (n_v vs 5) := dv_ten f11 (by omega) (by omega)
  obtain ⟨f12, hf⟩ := fc_un (show (2 : Nat) < 100 from by decide) hf
  have f12 : v_iv (n_v vs 11) = v_iv (n_v vs 9) - v_iv (n_v vs 10) := f12
  obtain ⟨f13, hf⟩ := fc_un (show (20 : Nat) < 100 from by decide) hf
  have f13 : ((v_iv (n_v vs 7) = 0) ∧ (v_iv (n_v vs 10) = 1)) ∨ (((v_iv (n_v vs 7) = 2) ∧ (v_iv (n_v vs 10) = (-1))) ∨ ((v_iv (n_v vs 7) ≠ 0) ∧ ((v_iv (n_v vs 7) ≠ 2) ∧ (v_iv (n_v vs 10) = 0)))) := f13
  obtain ⟨f14, hf⟩ := fc_un (show (5 : Nat) < 100 from by decide) hf
  have f14 : v_iv (n_v vs 9) = Int.tmod (v_iv (n_v vs 5)) (v_iv (n_v vs 8)) := f14
  obtain ⟨f15, hf⟩ := fc_un (show (12 : Nat) < 100 from by decide) hf
  have f15 : v_iv (n_v vs 7) = v_iv (n_v vs 1) % 4 := f15
  obtain ⟨f16, hf⟩ := fc_un (show (11 : Nat) < 100 from by decide) hf
  have f16 : v_iv (n_v vs 5) = v_iv (n_v vs 1) / 4 := f16
  obtain ⟨f17, hf⟩ := fc_un (show (20 : Nat) < 100 from by decide) hf
  have f17 : RTQ (w_fi ws (n_v vs 0) 146) (w_fi ws (n_v vs 0) 147) (w_ei ws (w_ar ws (n_v vs 0) 143)) (w_ei ws (w_ar ws (n_v vs 0) 140)) (w_ei ws (w_ar ws (n_v vs 0) 141)) (w_ei ws (w_ar ws (n_v vs 0) 142)) (v_iv (n_v vs 3)) (v_iv (n_v vs 2)) := f17
  obtain ⟨f18, hf⟩ := fc_un (show (20 : Nat) < 100 from by decide) hf
  have f18 : PIV (w_ei ws (w_ar ws (n_v vs 0) 140)) (v_iv (n_v vs 1)) (v_iv (n_v vs 2)) := f18
  obtain ⟨f19, hf⟩ := fc_un (show (20 : Nat) < 100 from by decide) hf
  have f19 : (0 ≤ v_iv (n_v vs 1)) ∧ ((v_iv (n_v vs 1) + 1) ≤ (4 * (w_fi ws (n_v vs 0) 146 * w_fi ws (n_v vs 0) 147))) := f19
  obtain ⟨f20, hf⟩ := fc_un (show (20 : Nat) < 100 from by decide) hf
  have f20 : (0 ≤ v_iv (n_v vs 2)) ∧ (v_iv (n_v vs 2) ≤ 999999) := f20
  have cr_0_140 : ta (w_ar ws (n_v vs 0) 140) = some 251 := tv_rg (th_fd hD hth r0 (g := GG_150) rfl (k := 140) (t := (2, 0, 0, [251])) rfl rfl)
  have cr_0_141 : ta (w_ar ws (n_v vs 0) 141) = some 252 := tv_rg (th_fd hD hth r0 (g := GG_150) rfl (k := 141) (t := (2, 0, 0, [252])) rfl rfl)
  have cr_0_142 : ta (w_ar ws (n_v vs 0) 142) = some 253 := tv_rg (th_fd hD hth r0 (g := GG_150) rfl (k := 142) (t := (2, 0, 0, [253])) rfl rfl)
  have cr_0_143 : ta (w_ar ws (n_v vs 0) 143) = some 254 := tv_rg (th_fd hD hth r0 (g := GG_150) rfl (k := 143) (t := (2, 0, 0, [254])) rfl rfl)
  have ad_26 : v_ad (n_v vs 26) = w_ar ws (n_v vs 0) 143 := congrArg v_ad f2
  rw [ad_26] at f1
  have h1 : v_iv (n_v vs 27) = w_ei ws (w_ar ws (n_v vs 0) 143) (v_iv (n_v vs 25)) := f1
  have g5 : v_iv (n_v vs 8) = w_fi ws (n_v vs 0) 146 := congrArg v_iv f5
  have g7 : v_iv (n_v vs 20) = w_fi ws (n_v vs 0) 147 := congrArg v_iv f7
  have hK_0_140 : ∀ j : Int, 0 ≤ j → j < 24000 → 0 ≤ w_ei ws (w_ar ws (n_v vs 0) 140) j ∧ w_ei ws (w_ar ws (n_v vs 0) 140) j ≤ 1000000 := fun j h0 h1 => th_el hD hth cr_0_140 (kd := 0) (n := 24000) (m := 24000) (lo := 0) (hi := 1000000) (rs := []) (L := []) rfl (by decide) (j := j.toNat) (by omega)
  have hK_0_141 : ∀ j : Int, 0 ≤ j → j < 96040 → 0 ≤ w_ei ws (w_ar ws (n_v vs 0) 141) j ∧ w_ei ws (w_ar ws (n_v vs 0) 141) j ≤ 23999 := fun j h0 h1 => th_el hD hth cr_0_141 (kd := 0) (n := 96040) (m := 96040) (lo := 0) (hi := 23999) (rs := []) (L := []) rfl (by decide) (j := j.toNat) (by omega)
  have hK_0_142 : ∀ j : Int, 0 ≤ j → j < 4 → 0 ≤ w_ei ws (w_ar ws (n_v vs 0) 142) j ∧ w_ei ws (w_ar ws (n_v vs 0) 142) j ≤ 24009 := fun j h0 h1 => th_el hD hth cr_0_142 (kd := 0) (n := 4) (m := 4) (lo := 0) (hi := 24009) (rs := []) (L := []) rfl (by decide) (j := j.toNat) (by omega)
  have hK_0_143 : ∀ j : Int, 0 ≤ j → j < 6000 → 0 ≤ w_ei ws (w_ar ws (n_v vs 0) 143) j ∧ w_ei ws (w_ar ws (n_v vs 0) 143) j ≤ 1 := fun j h0 h1 => th_el hD hth cr_0_143 (kd := 2) (n := 6000) (m := 6000) (lo := 0) (hi := 1) (rs := []) (L := []) rfl (by decide) (j := j.toNat) (by omega)
  have kz_0_146 : (-2147483648) ≤ w_fi ws (n_v vs 0) 146 ∧ w_fi ws (n_v vs 0) 146 ≤ 2147483647 := tv_rng (th_fd hD hth r0 (g := GG_150) rfl (k := 146) (t := (0, -2147483648, 2147483647, [])) rfl rfl)
  have kz_0_147 : (-2147483648) ≤ w_fi ws (n_v vs 0) 147 ∧ w_fi ws (n_v vs 0) 147 ≤ 2147483647 := tv_rng (th_fd hD hth r0 (g := GG_150) rfl (k := 147) (t := (0, -2147483648, 2147483647, [])) rfl rfl)
  have nf0 : fc_1 PRD (20, [0, 1, 25], [60, 2, 1, 424, 146, 147, 143]) ws (vs) := by
    refine ⟨fun n hn => ?_, ?_⟩
    · have hn : n ∈ [0, 1, 25] := hn
      rw [hl]
      simp only [List.mem_cons, List.not_mem_nil, or_false] at hn
      show n < 29; omega
    · show BFP (w_fi ws (n_v vs 0) 146) (w_fi ws (n_v vs 0) 147) (w_ei ws (w_ar ws (n_v vs 0) 143)) (v_iv (n_v vs 1)) (v_iv (n_v vs 25))
      exact vc_Mo_backFrom_3_0 (v_iv (n_v vs 1)) (v_iv (n_v vs 2)) (v_iv (n_v vs 3)) (v_iv (n_v vs 5)) (v_iv (n_v vs 7)) (v_iv (n_v vs 8)) (v_iv (n_v vs 9)) (v_iv (n_v vs 10)) (v_iv (n_v vs 11)) (v_iv (n_v vs 12)) (v_iv (n_v vs 13)) (v_iv (n_v vs 14)) (v_iv (n_v vs 16)) (v_iv (n_v vs 17)) (v_iv (n_v vs 20)) (v_iv (n_v vs 21)) (v_iv (n_v vs 22)) (v_iv (n_v vs 24)) (v_iv (n_v vs 25)) (v_iv (n_v vs 27)) (w_ei ws (w_ar ws (n_v vs 0) 143)) (w_fi ws (n_v vs 0) 146) (w_fi ws (n_v vs 0) 147) (w_ei ws (w_ar ws (n_v vs 0) 140)) (w_ei ws (w_ar ws (n_v vs 0) 141)) (w_ei ws (w_ar ws (n_v vs 0) 142)) k1 k2 k3 k5 k7 k8 k9 k10 k11 k12 k13 k14 k16 k17 k20 k21 k22 k24 k25 k27 d0 d1 d2 d3 d4 d5 d6 d7 d8 d9 d10 f0 h1 f3 f4 g5 f6 g7 f8 f9 f10 f11 f12 f13 f14 f15 f16 f17 f18 f19 f20 hK_0_140 hK_0_141 hK_0_142 hK_0_143 kz_0_146 kz_0_147
  have nf1 : fc_1 PRD (20, [7, 1], [50, 0, 0, 1, 2, 1, 0, 9, 2, 1, 1, 0, 4]) ws (vs) := by
    refine ⟨fun n hn => ?_, ?_⟩
    · have hn : n ∈ [7, 1] := hn
      rw [hl]
      simp only [List.mem_cons, List.not_mem_nil, or_false] at hn
      show n < 29; omega
    · show v_iv (n_v vs 7) = (v_iv (n_v vs 1) % 4)
      exact vc_Mo_backFrom_3_1 (v_iv (n_v vs 1)) (v_iv (n_v vs 2)) (v_iv (n_v vs 3)) (v_iv (n_v vs 5)) (v_iv (n_v vs 7)) (v_iv (n_v vs 8)) (v_iv (n_v vs 9)) (v_iv (n_v vs 10)) (v_iv (n_v vs 11)) (v_iv (n_v vs 12)) (v_iv (n_v vs 13)) (v_iv (n_v vs 14)) (v_iv (n_v vs 16)) (v_iv (n_v vs 17)) (v_iv (n_v vs 20)) (v_iv (n_v vs 21)) (v_iv (n_v vs 22)) (v_iv (n_v vs 24)) (v_iv (n_v vs 25)) (v_iv (n_v vs 27)) (w_ei ws (w_ar ws (n_v vs 0) 143)) (w_fi ws (n_v vs 0) 146) (w_fi ws (n_v vs 0) 147) (w_ei ws (w_ar ws (n_v vs 0) 140)) (w_ei ws (w_ar ws (n_v vs 0) 141)) (w_ei ws (w_ar ws (n_v vs 0) 142)) k1 k2 k3 k5 k7 k8 k9 k10 k11 k12 k13 k14 k16 k17 k20 k21 k22 k24 k25 k27 d0 d1 d2 d3 d4 d5 d6 d7 d8 d9 d10 f0 h1 f3 f4 g5 f6 g7 f8 f9 f10 f11 f12 f13 f14 f15 f16 f17 f18 f19 f20 hK_0_140 hK_0_141 hK_0_142 hK_0_143 kz_0_146 kz_0_147
  have nf2 : fc_1 PRD (20, [25, 0], [50, 2, 0, 1146, 1147, 2, 6, 0, 2, 0, 0, 1, 0, 0, 6, 4, 2, 1, 0, 0, 1, 6, 3, 2, 1, 146, 2, 1, 147]) ws (vs) := by
    refine ⟨fun n hn => ?_, ?_⟩
    · have hn : n ∈ [25, 0] := hn
      rw [hl]
      simp only [List.mem_cons, List.not_mem_nil, or_false] at hn
      show n < 29; omega
    · show (0 ≤ v_iv (n_v vs 25)) ∧ ((v_iv (n_v vs 25) + 1) ≤ (w_fi ws (n_v vs 0) 146 * w_fi ws (n_v vs 0) 147))
      exact vc_Mo_backFrom_3_2 (v_iv (n_v vs 1)) (v_iv (n_v vs 2)) (v_iv (n_v vs 3)) (v_iv (n_v vs 5)) (v_iv (n_v vs 7)) (v_iv (n_v vs 8)) (v_iv (n_v vs 9)) (v_iv (n_v vs 10)) (v_iv (n_v vs 11)) (v_iv (n_v vs 12)) (v_iv (n_v vs 13)) (v_iv (n_v vs 14)) (v_iv (n_v vs 16)) (v_iv (n_v vs 17)) (v_iv (n_v vs 20)) (v_iv (n_v vs 21)) (v_iv (n_v vs 22)) (v_iv (n_v vs 24)) (v_iv (n_v vs 25)) (v_iv (n_v vs 27)) (w_ei ws (w_ar ws (n_v vs 0) 143)) (w_fi ws (n_v vs 0) 146) (w_fi ws (n_v vs 0) 147) (w_ei ws (w_ar ws (n_v vs 0) 140)) (w_ei ws (w_ar ws (n_v vs 0) 141)) (w_ei ws (w_ar ws (n_v vs 0) 142)) k1 k2 k3 k5 k7 k8 k9 k10 k11 k12 k13 k14 k16 k17 k20 k21 k22 k24 k25 k27 d0 d1 d2 d3 d4 d5 d6 d7 d8 d9 d10 f0 h1 f3 f4 g5 f6 g7 f8 f9 f10 f11 f12 f13 f14 f15 f16 f17 f18 f19 f20 hK_0_140 hK_0_141 hK_0_142 hK_0_143 kz_0_146 kz_0_147
  have nf3 : fc_1 PRD (24, [0, 0], []) ws (vs) := by
    refine ⟨fun n hn => ?_, ?_⟩
    · have hn : n ∈ [0, 0] := hn
      rw [hl]
      simp only [List.mem_cons, List.not_mem_nil, or_false] at hn
      show n < 29; omega
    · show n_v vs 0 = n_v vs 0
      first | rfl | simp only [true_and]
  have nf4 : fc_1 PRD (24, [1, 1], []) ws (vs) := by
    refine ⟨fun n hn => ?_, ?_⟩
    · have hn : n ∈ [1, 1] := hn
      rw [hl]
      simp only [List.mem_cons, List.not_mem_nil, or_false] at hn
      show n < 29; omega
    · show n_v vs 1 = n_v vs 1
      first | rfl | simp only [true_and]
  have nf5 : fc_1 PRD (24, [2, 2], []) ws (vs) := by
    refine ⟨fun n hn => ?_, ?_⟩
    · have hn : n ∈ [2, 2] := hn
      rw [hl]
      simp only [List.mem_cons, List.not_mem_nil, or_false] at hn
      show n < 29; omega
    · show n_v vs 2 = n_v vs 2
      first | rfl | simp only [true_and]
  refine ⟨(fun _ h => (by cases h)), [], trivial, ?_, (fun _ h => (by cases h))⟩
  rw [List.append_nil]
  exact List.forall_mem_cons.mpr ⟨⟨show (20 : Nat) < 100 from by decide, nf0⟩, List.forall_mem_cons.mpr ⟨⟨show (20 : Nat) < 100 from by decide, nf1⟩, List.forall_mem_cons.mpr ⟨⟨show (20 : Nat) < 100 from by decide, nf2⟩, List.forall_mem_cons.mpr ⟨⟨show (24 : Nat) < 100 from by decide, nf3⟩, List.forall_mem_cons.mpr ⟨⟨show (24 : Nat) < 100 from by decide, nf4⟩, List.forall_mem_cons.mpr ⟨⟨show (24 : Nat) < 100 from by decide, nf5⟩, (fun _ h => (by cases h))⟩⟩⟩⟩⟩⟩
set_option maxHeartbeats 4000000 in
theorem vc_Mo_backFrom_4_r0 (x1 : Int) (x2 : Int) (x3 : Int) (x5 : Int) (x7 : Int) (x8 : Int) (x9 : Int) (x10 : Int) (x11 : Int) (x12 : Int) (x13 : Int) (x14 : Int) (x16 : Int) (x17 : Int) (x20 : Int) (tall_0 : Int) (wide_0 : Int) (barredPoint_0 : Int → Int) (costOf_0 : Int → Int) (bucket_0 : Int → Int) (bucketMany_0 : Int → Int) (k1 : 0 ≤ x1 ∧ x1 ≤ 23999) (k2 : 0 ≤ x2 ∧ x2 ≤ 1000000) (k3 : 0 ≤ x3 ∧ x3 ≤ 5999) (k5 : 0 ≤ x5 ∧ x5 ≤ 5999) (k7 : 3 ≤ x7 ∧ x7 ≤ 3) (k8 : 1 ≤ x8 ∧ x8 ≤ 6000) (k9 : 0 ≤ x9 ∧ x9 ≤ 5999) (k10 : 0 ≤ x10 ∧ x10 ≤ 0) (k11 : 0 ≤ x11 ∧ x11 ≤ 5999) (k12 : 0 ≤ x12 ∧ x12 ≤ 5999) (k13 : (-1) ≤ x13 ∧ x13 ≤ (-1)) (k14 : 1 ≤ x14 ∧ x14 ≤ 6000) (k16 : 1 ≤ x16 ∧ x16 ≤ 1) (k17 : 0 ≤ x17 ∧ x17 ≤ 5999) (k20 : (-2147483648) ≤ x20 ∧ x20 ≤ 2147483647) (d0 : x17 + (-4294967296) ≤ x11 ∧ x11 ≤ x17 + 0) (d1 : x8 + (-1) ≤ x17 ∧ x17 ≤ x8 + (-1)) (d2 : x12 + 1 ≤ x14 ∧ x14 ≤ x12 + 1) (d3 : x9 + 0 ≤ x11 ∧ x11 ≤ x9 + 0) (d4 : x8 + (-4294967295) ≤ x11 ∧ x11 ≤ x8 + (-1)) (d5 : x8 + (-4294967295) ≤ x9 ∧ x9 ≤ x8 + (-1)) (g0 : x20 = tall_0) (f1 : x17 = x8 - x16) (g2 : x8 = wide_0) (f3 : x14 = x12 - x13) (f4 : ((x7 = 1) ∧ (x13 = 1)) ∨ (((x7 = 3) ∧ (x13 = (-1))) ∨ ((x7 ≠ 1) ∧ ((x7 ≠ 3) ∧ (x13 = 0))))) (f5 : x12 = Int.tdiv (x5) (x8)) (f6 : x11 = x9 - x10) (f7 : ((x7 = 0) ∧ (x10 = 1)) ∨ (((x7 = 2) ∧ (x10 = (-1))) ∨ ((x7 ≠ 0) ∧ ((x7 ≠ 2) ∧ (x10 = 0))))) (f8 : x9 = Int.tmod (x5) (x8)) (f9 : x7 = x1 % 4) (f10 : x5 = x1 / 4) (f11 : RTQ (wide_0) (tall_0) (barredPoint_0) (costOf_0) (bucket_0) (bucketMany_0) (x3) (x2)) (f12 : PIV (costOf_0) (x1) (x2)) (f13 : (0 ≤ x1) ∧ ((x1 + 1) ≤ (4 * (wide_0 * tall_0)))) (f14 : (0 ≤ x2) ∧ (x2 ≤ 999999)) (hK_0_140 : ∀ j : Int, 0 ≤ j → j < 24000 → 0 ≤ costOf_0 j ∧ costOf_0 j ≤ 1000000) (hK_0_141 : ∀ j : Int, 0 ≤ j → j < 96040 → 0 ≤ bucket_0 j ∧ bucket_0 j ≤ 23999) (hK_0_142 : ∀ j : Int, 0 ≤ j → j < 4 → 0 ≤ bucketMany_0 j ∧ bucketMany_0 j ≤ 24009) (hK_0_143 : ∀ j : Int, 0 ≤ j → j < 6000 → 0 ≤ barredPoint_0 j ∧ barredPoint_0 j ≤ 1) (kz_0_146 : (-2147483648) ≤ wide_0 ∧ wide_0 ≤ 2147483647) (kz_0_147 : (-2147483648) ≤ tall_0 ∧ tall_0 ≤ 2147483647) : 1 ≤ x20 ∧ x20 ≤ 6000 := by
  first
    | omega
    | (have g := gok_bd (show GRX wide_0 tall_0 from ‹RTQ _ _ _ _ _ _ _ _›.1); omega)
    | (have g0 : GRX wide_0 tall_0 := ‹RTQ _ _ _ _ _ _ _ _›.1
       have g := gok_bd g0
       have e8 : x8 = wide_0 := by assumption
       have e20 : x20 = tall_0 := by assumption
       have c := cell_ix (W := x8) (T := x20) (x := x11) (y := x14) (p := x25) (by omega) (by omega) (by omega) (by omega) (by omega) (by rw [‹x25 = x24 + x11›, ‹x24 = x14 * x8›])
       have g3 := g0.2.2
       rw [e8, e20] at c
       omega)
    | (have h := ‹BFP _ _ _ _ _›.2.2.1; omega)
    | sorry
def o_Mo_backFrom_4 : or_T := (60, 22, [(0, (2, 0, 0, [150])), (1, (0, 0, 23999, [])), (2, (0, 0, 1000000, [])), (3, (0, 0, 5999, [])), (5, (0, 0, 5999, [])), (7, (0, 3, 3, [])), (8, (0, 1, 6000, [])), (9, (0, 0, 5999, [])), (10, (0, 0, 0, [])), (11, (0, 0, 5999, [])), (12, (0, 0, 5999, [])), (13, (0, -1, -1, [])), (14, (0, 1, 6000, [])), (16, (0, 1, 1, [])), (17, (0, 0, 5999, [])), (20, (0, -2147483648, 2147483647, []))], [(9, [20, 0], [147]), (2, [17, 8, 16], []), (9, [8, 0], [146]), (2, [14, 12, 13], []), (20, [7, 13], [50, 0, 0, 3, 14, 2, 6, 1, 2, 1, 0, 0, 1, 1, 2, 1, 1, 0, 1, 3, 14, 2, 6, 1, 2, 1, 0, 0, 3, 1, 2, 1, 1, 0, -1, 2, 6, 7, 2, 1, 0, 0, 1, 2, 6, 7, 2, 1, 0, 0, 3, 1, 2, 1, 1, 0, 0]), (4, [12, 5, 8], []), (2, [11, 9, 10], []), (20, [7, 10], [50, 0, 0, 3, 14, 2, 6, 1, 2, 1, 0, 0, 0, 1, 2, 1, 1, 0, 1, 3, 14, 2, 6, 1, 2, 1, 0, 0, 2, 1, 2, 1, 1, 0, -1, 2, 6, 7, 2, 1, 0, 0, 0, 2, 6, 7, 2, 1, 0, 0, 2, 1, 2, 1, 1, 0, 0]), (5, [9, 5, 8], []), (12, [7, 1], [4]), (11, [5, 1], [4]), (20, [0, 3, 2], [60, 2, 4, 419, 146, 147, 143, 140, 141, 142]), (20, [0, 1, 2], [60, 0, 1, 421, 140]), (20, [1, 0], [50, 2, 0, 1146, 1147, 2, 6, 0, 2, 0, 0, 1, 0, 0, 6, 4, 2, 1, 0, 0, 1, 6, 2, 0, 4, 6, 3, 2, 1, 146, 2, 1, 147]), (20, [2], [50, 0, 0, 2, 6, 0, 2, 0, 0, 1, 0, 0, 2, 1, 0, 0, 999999])], [(20, (0, 1, 6000, []))], [], [], [], [(11, 17, -4294967296, 0), (17, 8, -1, -1), (14, 12, 1, 1), (11, 9, 0, 0), (11, 8, -4294967295, -1), (9, 8, -4294967295, -1)])
theorem oo_Mo_backFrom_4 {kA : Nat → ClassId} : or_ok PRD kA GG o_Mo_backFrom_4 := by
  intro A ta ws vs hD hth hl hk hds hf
  have hl : vs.length = 22 := hl
  have hk : ∀ q ∈ ([(0, (2, 0, 0, [150])), (1, (0, 0, 23999, [])), (2, (0, 0, 1000000, [])), (3, (0, 0, 5999, [])), (5, (0, 0, 5999, [])), (7, (0, 3, 3, [])), (8, (0, 1, 6000, [])), (9, (0, 0, 5999, [])), (10, (0, 0, 0, [])), (11, (0, 0, 5999, [])), (12, (0, 0, 5999, [])), (13, (0, -1, -1, [])), (14, (0, 1, 6000, [])), (16, (0, 1, 1, [])), (17, (0, 0, 5999, [])), (20, (0, -2147483648, 2147483647, []))] : List (Nat × tv_T)), tv_ok ta q.2 (n_v vs q.1) := hk
  obtain ⟨t0, hk⟩ := List.forall_mem_cons.mp hk
  have t0 : tv_ok ta (2, 0, 0, [150]) (n_v vs 0) := t0
  have r0 : ta (v_ad (n_v vs 0)) = some 150 := tv_rg t0
  obtain ⟨t1, hk⟩ := List.forall_mem_cons.mp hk
  have t1 : tv_ok ta (0, 0, 23999, []) (n_v vs 1) := t1
  have k1 : 0 ≤ v_iv (n_v vs 1) ∧ v_iv (n_v vs 1) ≤ 23999 := tv_rng t1
  obtain ⟨t2, hk⟩ := List.forall_mem_cons.mp hk
  have t2 : tv_ok ta (0, 0, 1000000, []) (n_v vs 2) := t2
  have k2 : 0 ≤ v_iv (n_v vs 2) ∧ v_iv (n_v vs 2) ≤ 1000000 := tv_rng t2
  obtain ⟨t3, hk⟩ := List.forall_mem_cons.mp hk
  have t3 : tv_ok ta (0, 0, 5999, []) (n_v vs 3) := t3
  have k3 : 0 ≤ v_iv (n_v vs 3) ∧ v_iv (n_v vs 3) ≤ 5999 := tv_rng t3
  obtain ⟨t5, hk⟩ := List.forall_mem_cons.mp hk
  have t5 : tv_ok ta (0, 0, 5999, []) (n_v vs 5) := t5
  have k5 : 0 ≤ v_iv (n_v vs 5) ∧ v_iv (n_v vs 5) ≤ 5999 := tv_rng t5
  obtain ⟨t7, hk⟩ := List.forall_mem_cons.mp hk
  have t7 : tv_ok ta (0, 3, 3, []) (n_v vs 7) := t7
  have k7 : 3 ≤ v_iv (n_v vs 7) ∧ v_iv (n_v vs 7) ≤ 3 := tv_rng t7
  obtain ⟨t8, hk⟩ := List.forall_mem_cons.mp hk
  have t8 : tv_ok ta (0, 1, 6000, []) (n_v vs 8) := t8
  have k8 : 1 ≤ v_iv (n_v vs 8) ∧ v_iv (n_v vs 8) ≤ 6000 := tv_rng t8
  obtain ⟨t9, hk⟩ := List.forall_mem_cons.mp hk
  have t9 : tv_ok ta (0, 0, 5999, []) (n_v vs 9) := t9
  have k9 : 0 ≤ v_iv (n_v vs 9) ∧ v_iv (n_v vs 9) ≤ 5999 := tv_rng t9
  obtain ⟨t10, hk⟩ := List.forall_mem_cons.mp hk
  have t10 : tv_ok ta (0, 0, 0, []) (n_v vs 10) := t10
  have k10 : 0 ≤ v_iv (n_v vs 10) ∧ v_iv (n_v vs 10) ≤ 0 := tv_rng t10
  obtain ⟨t11, hk⟩ := List.forall_mem_cons.mp hk
  have t11 : tv_ok ta (0, 0, 5999, []) (n_v vs 11) := t11
  have k11 : 0 ≤ v_iv (n_v vs 11) ∧ v_iv (n_v vs 11) ≤ 5999 := tv_rng t11
  obtain ⟨t12, hk⟩ := List.forall_mem_cons.mp hk
  have t12 : tv_ok ta (0, 0, 5999, []) (n_v vs 12) := t12
  have k12 : 0 ≤ v_iv (n_v vs 12) ∧ v_iv (n_v vs 12) ≤ 5999 := tv_rng t12
  obtain ⟨t13, hk⟩ := List.forall_mem_cons.mp hk
  have t13 : tv_ok ta (0, -1, -1, []) (n_v vs 13) := t13
  have k13 : (-1) ≤ v_iv (n_v vs 13) ∧ v_iv (n_v vs 13) ≤ (-1) := tv_rng t13
  obtain ⟨t14, hk⟩ := List.forall_mem_cons.mp hk
  have t14 : tv_ok ta (0, 1, 6000, []) (n_v vs 14) := t14
  have k14 : 1 ≤ v_iv (n_v vs 14) ∧ v_iv (n_v vs 14) ≤ 6000 := tv_rng t14
  obtain ⟨t16, hk⟩ := List.forall_mem_cons.mp hk
  have t16 : tv_ok ta (0, 1, 1, []) (n_v vs 16) := t16
  have k16 : 1 ≤ v_iv (n_v vs 16) ∧ v_iv (n_v vs 16) ≤ 1 := tv_rng t16
  obtain ⟨t17, hk⟩ := List.forall_mem_cons.mp hk
  have t17 : tv_ok ta (0, 0, 5999, []) (n_v vs 17) := t17
  have k17 : 0 ≤ v_iv (n_v vs 17) ∧ v_iv (n_v vs 17) ≤ 5999 := tv_rng t17
  obtain ⟨t20, hk⟩ := List.forall_mem_cons.mp hk
  have t20 : tv_ok ta (0, -2147483648, 2147483647, []) (n_v vs 20) := t20
  have k20 : (-2147483648) ≤ v_iv (n_v vs 20) ∧ v_iv (n_v vs 20) ≤ 2147483647 := tv_rng t20
  have hds : ∀ q ∈ ([(11, 17, -4294967296, 0), (17, 8, -1, -1), (14, 12, 1, 1), (11, 9, 0, 0), (11, 8, -4294967295, -1), (9, 8, -4294967295, -1)] : List of_T), n_iv vs q.2.1 + q.2.2.1 ≤ n_iv vs q.1 ∧ n_iv vs q.1 ≤ n_iv vs q.2.1 + q.2.2.2 := hds
  obtain ⟨d0, hds⟩ := List.forall_mem_cons.mp hds
  have d0 : v_iv (n_v vs 17) + (-4294967296) ≤ v_iv (n_v vs 11) ∧ v_iv (n_v vs 11) ≤ v_iv (n_v vs 17) + 0 := d0
  obtain ⟨d1, hds⟩ := List.forall_mem_cons.mp hds
  have d1 : v_iv (n_v vs 8) + (-1) ≤ v_iv (n_v vs 17) ∧ v_iv (n_v vs 17) ≤ v_iv (n_v vs 8) + (-1) := d1
  obtain ⟨d2, hds⟩ := List.forall_mem_cons.mp hds
  have d2 : v_iv (n_v vs 12) + 1 ≤ v_iv (n_v vs 14) ∧ v_iv (n_v vs 14) ≤ v_iv (n_v vs 12) + 1 := d2
  obtain ⟨d3, hds⟩ := List.forall_mem_cons.mp hds
  have d3 : v_iv (n_v vs 9) + 0 ≤ v_iv (n_v vs 11) ∧ v_iv (n_v vs 11) ≤ v_iv (n_v vs 9) + 0 := d3
  obtain ⟨d4, hds⟩ := List.forall_mem_cons.mp hds
  have d4 : v_iv (n_v vs 8) + (-4294967295) ≤ v_iv (n_v vs 11) ∧ v_iv (n_v vs 11) ≤ v_iv (n_v vs 8) + (-1) := d4
  obtain ⟨d5, hds⟩ := List.forall_mem_cons.mp hds
  have d5 : v_iv (n_v vs 8) + (-4294967295) ≤ v_iv (n_v vs 9) ∧ v_iv (n_v vs 9) ≤ v_iv (n_v vs 8) + (-1) := d5
  have hf : fc_ok PRD [(9, [20, 0], [147]), (2, [17, 8, 16], []), (9, [8, 0], [146]), (2, [14, 12, 13], []), (20, [7, 13], [50, 0, 0, 3, 14, 2, 6, 1, 2, 1, 0, 0, 1, 1, 2, 1, 1, 0, 1, 3, 14, 2, 6, 1, 2, 1, 0, 0, 3, 1, 2, 1, 1, 0, -1, 2, 6, 7, 2, 1, 0, 0, 1, 2, 6, 7, 2, 1, 0, 0, 3, 1, 2, 1, 1, 0, 0]), (4, [12, 5, 8], []), (2, [11, 9, 10], []), (20, [7, 10], [50, 0, 0, 3, 14, 2, 6, 1, 2, 1, 0, 0, 0, 1, 2, 1, 1, 0, 1, 3, 14, 2, 6, 1, 2, 1, 0, 0, 2, 1, 2, 1, 1, 0, -1, 2, 6, 7, 2, 1, 0, 0, 0, 2, 6, 7, 2, 1, 0, 0, 2, 1, 2, 1, 1, 0, 0]), (5, [9, 5, 8], []), (12, [7, 1], [4]), (11, [5, 1], [4]), (20, [0, 3, 2], [60, 2, 4, 419, 146, 147, 143, 140, 141, 142]), (20, [0, 1, 2], [60, 0, 1, 421, 140]), (20, [1, 0], [50, 2, 0, 1146, 1147, 2, 6, 0, 2, 0, 0, 1, 0, 0, 6, 4, 2, 1, 0, 0, 1, 6, 2, 0, 4, 6, 3, 2, 1, 146, 2, 1, 147]), (20, [2], [50, 0, 0, 2, 6, 0, 2, 0, 0, 1, 0, 0, 2, 1, 0, 0, 999999])] ta ws vs := hf
  obtain ⟨f0, hf⟩ := fc_un (show (9 : Nat) < 100 from by decide) hf
  have f0 : n_v vs 20 = w_fd ws (v_ad (n_v vs 0)) 147 := f0
  obtain ⟨f1, hf⟩ := fc_un (show (2 : Nat) < 100 from by decide) hf
  have f1 : v_iv (n_v vs 17) = v_iv (n_v vs 8) - v_iv (n_v vs 16) := f1
  obtain ⟨f2, hf⟩ := fc_un (show (9 : Nat) < 100 from by decide) hf
  have f2 : n_v vs 8 = w_fd ws (v_ad (n_v vs 0)) 146 := f2
  obtain ⟨f3, hf⟩ := fc_un (show (2 : Nat) < 100 from by decide) hf
  have f3 : v_iv (n_v vs 14) = v_iv (n_v vs 12) - v_iv (n_v vs 13) := f3
  obtain ⟨f4, hf⟩ := fc_un (show (20 : Nat) < 100 from by decide) hf
  have f4 : ((v_iv (n_v vs 7) = 1) ∧ (v_iv (n_v vs 13) = 1)) ∨ (((v_iv (n_v vs 7) = 3) ∧ (v_iv (n_v vs 13) = (-1))) ∨ ((v_iv (n_v vs 7) ≠ 1) ∧ ((v_iv (n_v vs 7) ≠ 3) ∧ (v_iv (n_v vs 13) = 0)))) := f4
  obtain ⟨f5, hf⟩ := fc_un (show (4 : Nat) < 100 from by decide) hf
  have f5 : v_iv (n_v vs 12) = Int.tdiv (v_iv (n_v vs 5)) (v_iv (n_v vs 8)) := f5
  have fq5 : 10 ≤ v_iv (n_v vs 12) → 10 * v_iv (n_v vs 8) ≤ v_iv (n_v vs 5) := dv_ten f5 (by omega) (by omega)
  obtain ⟨f6, hf⟩ := fc_un (show (2 : Nat) < 100 from by decide) hf
  have f6 : v_iv (n_v vs 11) = v_iv (n_v vs 9) - v_iv (n_v vs 10) := f6
  obtain ⟨f7, hf⟩ := fc_un (show (20 : Nat) < 100 from by decide) hf
  have f7 : ((v_iv (n_v vs 7) = 0) ∧ (v_iv (n_v vs 10) = 1)) ∨ (((v_iv (n_v vs 7) = 2) ∧ (v_iv (n_v vs 10) = (-1))) ∨ ((v_iv (n_v vs 7) ≠ 0) ∧ ((v_iv (n_v vs 7) ≠ 2) ∧ (v_iv (n_v vs 10) = 0)))) := f7
  obtain ⟨f8, hf⟩ := fc_un (show (5 : Nat) < 100 from by decide) hf
  have f8 : v_iv (n_v vs 9) = Int.tmod (v_iv (n_v vs 5)) (v_iv (n_v vs 8)) := f8
  obtain ⟨f9, hf⟩ := fc_un (show (12 : Nat) < 100 from by decide) hf
  have f9 : v_iv (n_v vs 7) = v_iv (n_v vs 1) % 4 := f9
  obtain ⟨f10, hf⟩ := fc_un (show (11 : Nat) < 100 from by decide) hf
  have f10 : v_iv (n_v vs 5) = v_iv (n_v vs 1) / 4 := f10
  obtain ⟨f11, hf⟩ := fc_un (show (20 : Nat) < 100 from by decide) hf
  have f11 : RTQ (w_fi ws (n_v vs 0) 146) (w_fi ws (n_v vs 0) 147) (w_ei ws (w_ar ws (n_v vs 0) 143)) (w_ei ws (w_ar ws (n_v vs 0) 140)) (w_ei ws (w_ar ws (n_v vs 0) 141)) (w_ei ws (w_ar ws (n_v vs 0) 142)) (v_iv (n_v vs 3)) (v_iv (n_v vs 2)) := f11
  obtain ⟨f12, hf⟩ := fc_un (show (20 : Nat) < 100 from by decide) hf
  have f12 : PIV (w_ei ws (w_ar ws (n_v vs 0) 140)) (v_iv (n_v vs 1)) (v_iv (n_v vs 2)) := f12
  obtain ⟨f13, hf⟩ := fc_un (show (20 : Nat) < 100 from by decide) hf
  have f13 : (0 ≤ v_iv (n_v vs 1)) ∧ ((v_iv (n_v vs 1) + 1) ≤ (4 * (w_fi ws (n_v vs 0) 146 * w_fi ws (n_v vs 0) 147))) := f13
  obtain ⟨f14, hf⟩ := fc_un (show (20 : Nat) < 100 from by decide) hf
  have f14 : (0 ≤ v_iv (n_v vs 2)) ∧ (v_iv (n_v vs 2) ≤ 999999) := f14
  have cr_0_140 : ta (w_ar ws (n_v vs 0) 140) = some 251 := tv_rg (th_fd hD hth r0 (g := GG_150) rfl (k := 140) (t := (2, 0, 0, [251])) rfl rfl)
  have cr_0_141 : ta (w_ar ws (n_v vs 0) 141) = some 252 := tv_rg (th_fd hD hth r0 (g := GG_150) rfl (k := 141) (t := (2, 0, 0, [252])) rfl rfl)
  have cr_0_142 : ta (w_ar ws (n_v vs 0) 142) = some 253 := tv_rg (th_fd hD hth r0 (g := GG_150) rfl (k := 142) (t := (2, 0, 0, [253])) rfl rfl)
  have cr_0_143 : ta (w_ar ws (n_v vs 0) 143) = some 254 := tv_rg (th_fd hD hth r0 (g := GG_150) rfl (k := 143) (t := (2, 0, 0, [254])) rfl rfl)
  have g0 : v_iv (n_v vs 20) = w_fi ws (n_v vs 0) 147 := congrArg v_iv f0
  have g2 : v_iv (n_v vs 8) = w_fi ws (n_v vs 0) 146 := congrArg v_iv f2
  have hK_0_140 : ∀ j : Int, 0 ≤ j → j < 24000 → 0 ≤ w_ei ws (w_ar ws (n_v vs 0) 140) j ∧ w_ei ws (w_ar ws (n_v vs 0) 140) j ≤ 1000000 := fun j h0 h1 => th_el hD hth cr_0_140 (kd := 0) (n := 24000) (m := 24000) (lo := 0) (hi := 1000000) (rs := []) (L := []) rfl (by decide) (j := j.toNat) (by omega)
  have hK_0_141 : ∀ j : Int, 0 ≤ j → j < 96040 → 0 ≤ w_ei ws (w_ar ws (n_v vs 0) 141) j ∧ w_ei ws (w_ar ws (n_v vs 0) 141) j ≤ 23999 := fun j h0 h1 => th_el hD hth cr_0_141 (kd := 0) (n := 96040) (m := 96040) (lo := 0) (hi := 23999) (rs := []) (L := []) rfl (by decide) (j := j.toNat) (by omega)
  have hK_0_142 : ∀ j : Int, 0 ≤ j → j < 4 → 0 ≤ w_ei ws (w_ar ws (n_v vs 0) 142) j ∧ w_ei ws (w_ar ws (n_v vs 0) 142) j ≤ 24009 := fun j h0 h1 => th_el hD hth cr_0_142 (kd := 0) (n := 4) (m := 4) (lo := 0) (hi := 24009) (rs := []) (L := []) rfl (by decide) (j := j.toNat) (by omega)
  have hK_0_143 : ∀ j : Int, 0 ≤ j → j < 6000 → 0 ≤ w_ei ws (w_ar ws (n_v vs 0) 143) j ∧ w_ei ws (w_ar ws (n_v vs 0) 143) j ≤ 1 := fun j h0 h1 => th_el hD hth cr_0_143 (kd := 2) (n := 6000) (m := 6000) (lo := 0) (hi := 1) (rs := []) (L := []) rfl (by decide) (j := j.toNat) (by omega)
  have kz_0_146 : (-2147483648) ≤ w_fi ws (n_v vs 0) 146 ∧ w_fi ws (n_v vs 0) 146 ≤ 2147483647 := tv_rng (th_fd hD hth r0 (g := GG_150) rfl (k := 146) (t := (0, -2147483648, 2147483647, [])) rfl rfl)
  have kz_0_147 : (-2147483648) ≤ w_fi ws (n_v vs 0) 147 ∧ w_fi ws (n_v vs 0) 147 ≤ 2147483647 := tv_rng (th_fd hD hth r0 (g := GG_150) rfl (k := 147) (t := (0, -2147483648, 2147483647, [])) rfl rfl)
  have hrf0 : 1 ≤ v_iv (n_v vs 20) ∧ v_iv (n_v vs 20) ≤ 6000 := vc_Mo_backFrom_4_r0 (v_iv (n_v vs 1)) (v_iv (n_v vs 2)) (v_iv (n_v vs 3)) (v_iv (n_v vs 5)) (v_iv (n_v vs 7)) (v_iv (n_v vs 8)) (v_iv (n_v vs 9)) (v_iv (n_v vs 10)) (v_iv (n_v vs 11)) (v_iv (n_v vs 12)) (v_iv (n_v vs 13)) (v_iv (n_v vs 14)) (v_iv (n_v vs 16)) (v_iv (n_v vs 17)) (v_iv (n_v vs 20)) (w_fi ws (n_v vs 0) 147) (w_fi ws (n_v vs 0) 146) (w_ei ws (w_ar ws (n_v vs 0) 143)) (w_ei ws (w_ar ws (n_v vs 0) 140)) (w_ei ws (w_ar ws (n_v vs 0) 141)) (w_ei ws (w_ar ws (n_v vs 0) 142)) k1 k2 k3 k5 k7 k8 k9 k10 k11 k12 k13 k14 k16 k17 k20 d0 d1 d2 d3 d4 d5 g0 f1 g2 f3 f4 f5 f6 f7 f8 f9 f10 f11 f12 f13 f14 hK_0_140 hK_0_141 hK_0_142 hK_0_143 kz_0_146 kz_0_147
  have rf20 : tv_ok ta (0, 1, 6000, []) (n_v vs 20) := tv_in t20 (by first | omega | grind) (by first | omega | grind)
  refine ⟨List.forall_mem_cons.mpr ⟨rf20, (fun _ h => (by cases h))⟩, [], trivial, ?_, (fun _ h => (by cases h))⟩
  rw [List.append_nil]
  exact (fun _ h => (by cases h))
set_option maxHeartbeats 4000000 in
theorem vc_Mo_backFrom_5_r0 (x1 : Int) (x2 : Int) (x3 : Int) (x5 : Int) (x7 : Int) (x8 : Int) (x9 : Int) (x10 : Int) (x11 : Int) (x12 : Int) (x13 : Int) (x14 : Int) (x16 : Int) (x17 : Int) (x20 : Int) (x21 : Int) (x22 : Int) (x24 : Int) (x25 : Int) (wide_0 : Int) (tall_0 : Int) (barredPoint_0 : Int → Int) (costOf_0 : Int → Int) (bucket_0 : Int → Int) (bucketMany_0 : Int → Int) (k1 : 0 ≤ x1 ∧ x1 ≤ 23999) (k2 : 0 ≤ x2 ∧ x2 ≤ 1000000) (k3 : 0 ≤ x3 ∧ x3 ≤ 5999) (k5 : 0 ≤ x5 ∧ x5 ≤ 5999) (k7 : 3 ≤ x7 ∧ x7 ≤ 3) (k8 : 1 ≤ x8 ∧ x8 ≤ 6000) (k9 : 0 ≤ x9 ∧ x9 ≤ 5999) (k10 : 0 ≤ x10 ∧ x10 ≤ 0) (k11 : 0 ≤ x11 ∧ x11 ≤ 5999) (k12 : 0 ≤ x12 ∧ x12 ≤ 5999) (k13 : (-1) ≤ x13 ∧ x13 ≤ (-1)) (k14 : 1 ≤ x14 ∧ x14 ≤ 5999) (k16 : 1 ≤ x16 ∧ x16 ≤ 1) (k17 : 0 ≤ x17 ∧ x17 ≤ 5999) (k20 : 1 ≤ x20 ∧ x20 ≤ 6000) (k21 : 1 ≤ x21 ∧ x21 ≤ 1) (k22 : 1 ≤ x22 ∧ x22 ≤ 5999) (k24 : 1 ≤ x24 ∧ x24 ≤ 35994000) (k25 : 1 ≤ x25 ∧ x25 ≤ 35999999) (d0 : x11 + 1 ≤ x25 ∧ x25 ≤ x11 + 35994000) (d1 : x17 + (-4294967296) ≤ x25 ∧ x25 ≤ x17 + 35994000) (d2 : x9 + 1 ≤ x25 ∧ x25 ≤ x9 + 35994000) (d3 : x8 + (-4294967294) ≤ x25 ∧ x25 ≤ x8 + 35993999) (d4 : x24 + 0 ≤ x25 ∧ x25 ≤ x24 + 5999) (d5 : x22 + (-4294967296) ≤ x14 ∧ x14 ≤ x22 + 0) (d6 : x20 + (-1) ≤ x22 ∧ x22 ≤ x20 + (-1)) (d7 : x17 + (-4294967296) ≤ x11 ∧ x11 ≤ x17 + 0) (d8 : x8 + (-1) ≤ x17 ∧ x17 ≤ x8 + (-1)) (d9 : x12 + 1 ≤ x14 ∧ x14 ≤ x12 + 1) (d10 : x9 + 0 ≤ x11 ∧ x11 ≤ x9 + 0) (d11 : x8 + (-4294967295) ≤ x11 ∧ x11 ≤ x8 + (-1)) (d12 : x8 + (-4294967295) ≤ x9 ∧ x9 ≤ x8 + (-1)) (f1 : x25 = x24 + x11) (f2 : x24 = x14 * x8) (g3 : x8 = wide_0) (f4 : x22 = x20 - x21) (g5 : x20 = tall_0) (f6 : x17 = x8 - x16) (f7 : x14 = x12 - x13) (f8 : ((x7 = 1) ∧ (x13 = 1)) ∨ (((x7 = 3) ∧ (x13 = (-1))) ∨ ((x7 ≠ 1) ∧ ((x7 ≠ 3) ∧ (x13 = 0))))) (f9 : x12 = Int.tdiv (x5) (x8)) (f10 : x11 = x9 - x10) (f11 : ((x7 = 0) ∧ (x10 = 1)) ∨ (((x7 = 2) ∧ (x10 = (-1))) ∨ ((x7 ≠ 0) ∧ ((x7 ≠ 2) ∧ (x10 = 0))))) (f12 : x9 = Int.tmod (x5) (x8)) (f13 : x7 = x1 % 4) (f14 : x5 = x1 / 4) (f15 : RTQ (wide_0) (tall_0) (barredPoint_0) (costOf_0) (bucket_0) (bucketMany_0) (x3) (x2)) (f16 : PIV (costOf_0) (x1) (x2)) (f17 : (0 ≤ x1) ∧ ((x1 + 1) ≤ (4 * (wide_0 * tall_0)))) (f18 : (0 ≤ x2) ∧ (x2 ≤ 999999)) (hK_0_140 : ∀ j : Int, 0 ≤ j → j < 24000 → 0 ≤ costOf_0 j ∧ costOf_0 j ≤ 1000000) (hK_0_141 : ∀ j : Int, 0 ≤ j → j < 96040 → 0 ≤ bucket_0 j ∧ bucket_0 j ≤ 23999) (hK_0_142 : ∀ j : Int, 0 ≤ j → j < 4 → 0 ≤ bucketMany_0 j ∧ bucketMany_0 j ≤ 24009) (hK_0_143 : ∀ j : Int, 0 ≤ j → j < 6000 → 0 ≤ barredPoint_0 j ∧ barredPoint_0 j ≤ 1) (kz_0_146 : (-2147483648) ≤ wide_0 ∧ wide_0 ≤ 2147483647) (kz_0_147 : (-2147483648) ≤ tall_0 ∧ tall_0 ≤ 2147483647) : 1 ≤ x25 ∧ x25 ≤ 5999 := by
  first
    | omega
    | (have g := gok_bd (show GRX wide_0 tall_0 from ‹RTQ _ _ _ _ _ _ _ _›.1); omega)
    | (have g0 : GRX wide_0 tall_0 := ‹RTQ _ _ _ _ _ _ _ _›.1
       have g := gok_bd g0
       have e8 : x8 = wide_0 := by assumption
       have e20 : x20 = tall_0 := by assumption
       have c := cell_ix (W := x8) (T := x20) (x := x11) (y := x14) (p := x25) (by omega) (by omega) (by omega) (by omega) (by omega) (by rw [‹x25 = x24 + x11›, ‹x24 = x14 * x8›])
       have g3 := g0.2.2
       rw [e8, e20] at c
       omega)
    | (have h := ‹BFP _ _ _ _ _›.2.2.1; omega)
    | sorry
def o_Mo_backFrom_5 : or_T := (86, 27, [(0, (2, 0, 0, [150])), (1, (0, 0, 23999, [])), (2, (0, 0, 1000000, [])), (3, (0, 0, 5999, [])), (5, (0, 0, 5999, [])), (7, (0, 3, 3, [])), (8, (0, 1, 6000, [])), (9, (0, 0, 5999, [])), (10, (0, 0, 0, [])), (11, (0, 0, 5999, [])), (12, (0, 0, 5999, [])), (13, (0, -1, -1, [])), (14, (0, 1, 5999, [])), (16, (0, 1, 1, [])), (17, (0, 0, 5999, [])), (20, (0, 1, 6000, [])), (21, (0, 1, 1, [])), (22, (0, 1, 5999, [])), (24, (0, 1, 35994000, [])), (25, (0, 1, 35999999, [])), (26, (2, 0, 0, [254]))], [(9, [26, 0], [143]), (1, [25, 24, 11], []), (3, [24, 14, 8], []), (9, [8, 0], [146]), (2, [22, 20, 21], []), (9, [20, 0], [147]), (2, [17, 8, 16], []), (2, [14, 12, 13], []), (20, [7, 13], [50, 0, 0, 3, 14, 2, 6, 1, 2, 1, 0, 0, 1, 1, 2, 1, 1, 0, 1, 3, 14, 2, 6, 1, 2, 1, 0, 0, 3, 1, 2, 1, 1, 0, -1, 2, 6, 7, 2, 1, 0, 0, 1, 2, 6, 7, 2, 1, 0, 0, 3, 1, 2, 1, 1, 0, 0]), (4, [12, 5, 8], []), (2, [11, 9, 10], []), (20, [7, 10], [50, 0, 0, 3, 14, 2, 6, 1, 2, 1, 0, 0, 0, 1, 2, 1, 1, 0, 1, 3, 14, 2, 6, 1, 2, 1, 0, 0, 2, 1, 2, 1, 1, 0, -1, 2, 6, 7, 2, 1, 0, 0, 0, 2, 6, 7, 2, 1, 0, 0, 2, 1, 2, 1, 1, 0, 0]), (5, [9, 5, 8], []), (12, [7, 1], [4]), (11, [5, 1], [4]), (20, [0, 3, 2], [60, 2, 4, 419, 146, 147, 143, 140, 141, 142]), (20, [0, 1, 2], [60, 0, 1, 421, 140]), (20, [1, 0], [50, 2, 0, 1146, 1147, 2, 6, 0, 2, 0, 0, 1, 0, 0, 6, 4, 2, 1, 0, 0, 1, 6, 2, 0, 4, 6, 3, 2, 1, 146, 2, 1, 147]), (20, [2], [50, 0, 0, 2, 6, 0, 2, 0, 0, 1, 0, 0, 2, 1, 0, 0, 999999])], [(25, (0, 1, 5999, []))], [], [], [], [(25, 11, 1, 35994000), (25, 17, -4294967296, 35994000), (25, 9, 1, 35994000), (25, 8, -4294967294, 35993999), (25, 24, 0, 5999), (14, 22, -4294967296, 0), (22, 20, -1, -1), (11, 17, -4294967296, 0), (17, 8, -1, -1), (14, 12, 1, 1), (11, 9, 0, 0), (11, 8, -4294967295, -1), (9, 8, -4294967295, -1)])
theorem oo_Mo_backFrom_5 {kA : Nat → ClassId} : or_ok PRD kA GG o_Mo_backFrom_5 := by
  intro A ta ws vs hD hth hl hk hds hf
  have hl : vs.length = 27 := hl
  have hk : ∀ q ∈ ([(0, (2, 0, 0, [150])), (1, (0, 0, 23999, [])), (2, (0, 0, 1000000, [])), (3, (0, 0, 5999, [])), (5, (0, 0, 5999, [])), (7, (0, 3, 3, [])), (8, (0, 1, 6000, [])), (9, (0, 0, 5999, [])), (10, (0, 0, 0, [])), (11, (0, 0, 5999, [])), (12, (0, 0, 5999, [])), (13, (0, -1, -1, [])), (14, (0, 1, 5999, [])), (16, (0, 1, 1, [])), (17, (0, 0, 5999, [])), (20, (0, 1, 6000, [])), (21, (0, 1, 1, [])), (22, (0, 1, 5999, [])), (24, (0, 1, 35994000, [])), (25, (0, 1, 35999999, [])), (26, (2, 0, 0, [254]))] : List (Nat × tv_T)), tv_ok ta q.2 (n_v vs q.1) := hk
  obtain ⟨t0, hk⟩ := List.forall_mem_cons.mp hk
  have t0 : tv_ok ta (2, 0, 0, [150]) (n_v vs 0) := t0
  have r0 : ta (v_ad (n_v vs 0)) = some 150 := tv_rg t0
  obtain ⟨t1, hk⟩ := List.forall_mem_cons.mp hk
  have t1 : tv_ok ta (0, 0, 23999, []) (n_v vs 1) := t1
  have k1 : 0 ≤ v_iv (n_v vs 1) ∧ v_iv (n_v vs 1) ≤ 23999 := tv_rng t1
  obtain ⟨t2, hk⟩ := List.forall_mem_cons.mp hk
  have t2 : tv_ok ta (0, 0, 1000000, []) (n_v vs 2) := t2
  have k2 : 0 ≤ v_iv (n_v vs 2) ∧ v_iv (n_v vs 2) ≤ 1000000 := tv_rng t2
  obtain ⟨t3, hk⟩ := List.forall_mem_cons.mp hk
  have t3 : tv_ok ta (0, 0, 5999, []) (n_v vs 3) := t3
  have k3 : 0 ≤ v_iv (n_v vs 3) ∧ v_iv (n_v vs 3) ≤ 5999 := tv_rng t3
  obtain ⟨t5, hk⟩ := List.forall_mem_cons.mp hk
  have t5 : tv_ok ta (0, 0, 5999, []) (n_v vs 5) := t5
  have k5 : 0 ≤ v_iv (n_v vs 5) ∧ v_iv (n_v vs 5) ≤ 5999 := tv_rng t5
  obtain ⟨t7, hk⟩ := List.forall_mem_cons.mp hk
  have t7 : tv_ok ta (0, 3, 3, []) (n_v vs 7) := t7
  have k7 : 3 ≤ v_iv (n_v vs 7) ∧ v_iv (n_v vs 7) ≤ 3 := tv_rng t7
  obtain ⟨t8, hk⟩ := List.forall_mem_cons.mp hk
  have t8 : tv_ok ta (0, 1, 6000, []) (n_v vs 8) := t8
  have k8 : 1 ≤ v_iv (n_v vs 8) ∧ v_iv (n_v vs 8) ≤ 6000 := tv_rng t8
  obtain ⟨t9, hk⟩ := List.forall_mem_cons.mp hk
  have t9 : tv_ok ta (0, 0, 5999, []) (n_v vs 9) := t9
  have k9 : 0 ≤ v_iv (n_v vs 9) ∧ v_iv (n_v vs 9) ≤ 5999 := tv_rng t9
  obtain ⟨t10, hk⟩ := List.forall_mem_cons.mp hk
  have t10 : tv_ok ta (0, 0, 0, []) (n_v vs 10) := t10
  have k10 : 0 ≤ v_iv (n_v vs 10) ∧ v_iv (n_v vs 10) ≤ 0 := tv_rng t10
  obtain ⟨t11, hk⟩ := List.forall_mem_cons.mp hk
  have t11 : tv_ok ta (0, 0, 5999, []) (n_v vs 11) := t11
  have k11 : 0 ≤ v_iv (n_v vs 11) ∧ v_iv (n_v vs 11) ≤ 5999 := tv_rng t11
  obtain ⟨t12, hk⟩ := List.forall_mem_cons.mp hk
  have t12 : tv_ok ta (0, 0, 5999, []) (n_v vs 12) := t12
  have k12 : 0 ≤ v_iv (n_v vs 12) ∧ v_iv (n_v vs 12) ≤ 5999 := tv_rng t12
  obtain ⟨t13, hk⟩ := List.forall_mem_cons.mp hk
  have t13 : tv_ok ta (0, -1, -1, []) (n_v vs 13) := t13
  have k13 : (-1) ≤ v_iv (n_v vs 13) ∧ v_iv (n_v vs 13) ≤ (-1) := tv_rng t13
  obtain ⟨t14, hk⟩ := List.forall_mem_cons.mp hk
  have t14 : tv_ok ta (0, 1, 5999, []) (n_v vs 14) := t14
  have k14 : 1 ≤ v_iv (n_v vs 14) ∧ v_iv (n_v vs 14) ≤ 5999 := tv_rng t14
  obtain ⟨t16, hk⟩ := List.forall_mem_cons.mp hk
  have t16 : tv_ok ta (0, 1, 1, []) (n_v vs 16) := t16
  have k16 : 1 ≤ v_iv (n_v vs 16) ∧ v_iv (n_v vs 16) ≤ 1 := tv_rng t16
  obtain ⟨t17, hk⟩ := List.forall_mem_cons.mp hk
  have t17 : tv_ok ta (0, 0, 5999, []) (n_v vs 17) := t17
  have k17 : 0 ≤ v_iv (n_v vs 17) ∧ v_iv (n_v vs 17) ≤ 5999 := tv_rng t17
  obtain ⟨t20, hk⟩ := List.forall_mem_cons.mp hk
  have t20 : tv_ok ta (0, 1, 6000, []) (n_v vs 20) := t20
  have k20 : 1 ≤ v_iv (n_v vs 20) ∧ v_iv (n_v vs 20) ≤ 6000 := tv_rng t20
  obtain ⟨t21, hk⟩ := List.forall_mem_cons.mp hk
  have t21 : tv_ok ta (0, 1, 1, []) (n_v vs 21) := t21
  have k21 : 1 ≤ v_iv (n_v vs 21) ∧ v_iv (n_v vs 21) ≤ 1 := tv_rng t21
  obtain ⟨t22, hk⟩ := List.forall_mem_cons.mp hk
  have t22 : tv_ok ta (0, 1, 5999, []) (n_v vs 22) := t22
  have k22 : 1 ≤ v_iv (n_v vs 22) ∧ v_iv (n_v vs 22) ≤ 5999 := tv_rng t22
  obtain ⟨t24, hk⟩ := List.forall_mem_cons.mp hk
  have t24 : tv_ok ta (0, 1, 35994000, []) (n_v vs 24) := t24
  have k24 : 1 ≤ v_iv (n_v vs 24) ∧ v_iv (n_v vs 24) ≤ 35994000 := tv_rng t24
  obtain ⟨t25, hk⟩ := List.forall_mem_cons.mp hk
  have t25 : tv_ok ta (0, 1, 35999999, []) (n_v vs 25) := t25
  have k25 : 1 ≤ v_iv (n_v vs 25) ∧ v_iv (n_v vs 25) ≤ 35999999 := tv_rng t25
  obtain ⟨t26, hk⟩ := List.forall_mem_cons.mp hk
  have t26 : tv_ok ta (2, 0, 0, [254]) (n_v vs 26) := t26
  have r26 : ta (v_ad (n_v vs 26)) = some 254 := tv_rg t26
  have hds : ∀ q ∈ ([(25, 11, 1, 35994000), (25, 17, -4294967296, 35994000), (25, 9, 1, 35994000), (25, 8, -4294967294, 35993999), (25, 24, 0, 5999), (14, 22, -4294967296, 0), (22, 20, -1, -1), (11, 17, -4294967296, 0), (17, 8, -1, -1), (14, 12, 1, 1), (11, 9, 0, 0), (11, 8, -4294967295, -1), (9, 8, -4294967295, -1)] : List of_T), n_iv vs q.2.1 + q.2.2.1 ≤ n_iv vs q.1 ∧ n_iv vs q.1 ≤ n_iv vs q.2.1 + q.2.2.2 := hds
  obtain ⟨d0, hds⟩ := List.forall_mem_cons.mp hds
  have d0 : v_iv (n_v vs 11) + 1 ≤ v_iv (n_v vs 25) ∧ v_iv (n_v vs 25) ≤ v_iv (n_v vs 11) + 35994000 := d0
  obtain ⟨d1, hds⟩ := List.forall_mem_cons.mp hds
  have d1 : v_iv (n_v vs 17) + (-4294967296) ≤ v_iv (n_v vs 25) ∧ v_iv (n_v vs 25) ≤ v_iv (n_v vs 17) + 35994000 := d1
  obtain ⟨d2, hds⟩ := List.forall_mem_cons.mp hds
  have d2 : v_iv (n_v vs 9) + 1 ≤ v_iv (n_v vs 25) ∧ v_iv (n_v vs 25) ≤ v_iv (n_v vs 9) + 35994000 := d2
  obtain ⟨d3, hds⟩ := List.forall_mem_cons.mp hds
  have d3 : v_iv (n_v vs 8) + (-4294967294) ≤ v_iv (n_v vs 25) ∧ v_iv (n_v vs 25) ≤ v_iv (n_v vs 8) + 35993999 := d3
  obtain ⟨d4, hds⟩ := List.forall_mem_cons.mp hds
  have d4 : v_iv (n_v vs 24) + 0 ≤ v_iv (n_v vs 25) ∧ v_iv (n_v vs 25) ≤ v_iv (n_v vs 24) + 5999 := d4
  obtain ⟨d5, hds⟩ := List.forall_mem_cons.mp hds
  have d5 : v_iv (n_v vs 22) + (-4294967296) ≤ v_iv (n_v vs 14) ∧ v_iv (n_v vs 14) ≤ v_iv (n_v vs 22) + 0 := d5
  obtain ⟨d6, hds⟩ := List.forall_mem_cons.mp hds
  have d6 : v_iv (n_v vs 20) + (-1) ≤ v_iv (n_v vs 22) ∧ v_iv (n_v vs 22) ≤ v_iv (n_v vs 20) + (-1) := d6
  obtain ⟨d7, hds⟩ := List.forall_mem_cons.mp hds
  have d7 : v_iv (n_v vs 17) + (-4294967296) ≤ v_iv (n_v vs 11) ∧ v_iv (n_v vs 11) ≤ v_iv (n_v vs 17) + 0 := d7
  obtain ⟨d8, hds⟩ := List.forall_mem_cons.mp hds
  have d8 : v_iv (n_v vs 8) + (-1) ≤ v_iv (n_v vs 17) ∧ v_iv (n_v vs 17) ≤ v_iv (n_v vs 8) + (-1) := d8
  obtain ⟨d9, hds⟩ := List.forall_mem_cons.mp hds
  have d9 : v_iv (n_v vs 12) + 1 ≤ v_iv (n_v vs 14) ∧ v_iv (n_v vs 14) ≤ v_iv (n_v vs 12) + 1 := d9
  obtain ⟨d10, hds⟩ := List.forall_mem_cons.mp hds
  have d10 : v_iv (n_v vs 9) + 0 ≤ v_iv (n_v vs 11) ∧ v_iv (n_v vs 11) ≤ v_iv (n_v vs 9) + 0 := d10
  obtain ⟨d11, hds⟩ := List.forall_mem_cons.mp hds
  have d11 : v_iv (n_v vs 8) + (-4294967295) ≤ v_iv (n_v vs 11) ∧ v_iv (n_v vs 11) ≤ v_iv (n_v vs 8) + (-1) := d11
  obtain ⟨d12, hds⟩ := List.forall_mem_cons.mp hds
  have d12 : v_iv (n_v vs 8) + (-4294967295) ≤ v_iv (n_v vs 9) ∧ v_iv (n_v vs 9) ≤ v_iv (n_v vs 8) + (-1) := d12
  have hf : fc_ok PRD [(9, [26, 0], [143]), (1, [25, 24, 11], []), (3, [24, 14, 8], []), (9, [8, 0], [146]), (2, [22, 20, 21], []), (9, [20, 0], [147]), (2, [17, 8, 16], []), (2, [14, 12, 13], []), (20, [7, 13], [50, 0, 0, 3, 14, 2, 6, 1, 2, 1, 0, 0, 1, 1, 2, 1, 1, 0, 1, 3, 14, 2, 6, 1, 2, 1, 0, 0, 3, 1, 2, 1, 1, 0, -1, 2, 6, 7, 2, 1, 0, 0, 1, 2, 6, 7, 2, 1, 0, 0, 3, 1, 2, 1, 1, 0, 0]), (4, [12, 5, 8], []), (2, [11, 9, 10], []), (20, [7, 10], [50, 0, 0, 3, 14, 2, 6, 1, 2, 1, 0, 0, 0, 1, 2, 1, 1, 0, 1, 3, 14, 2, 6, 1, 2, 1, 0, 0, 2, 1, 2, 1, 1, 0, -1, 2, 6, 7, 2, 1, 0, 0, 0, 2, 6, 7, 2, 1, 0, 0, 2, 1, 2, 1, 1, 0, 0]), (5, [9, 5, 8], []), (12, [7, 1], [4]), (11, [5, 1], [4]), (20, [0, 3, 2], [60, 2, 4, 419, 146, 147, 143, 140, 141, 142]), (20, [0, 1, 2], [60, 0, 1, 421, 140]), (20, [1, 0], [50, 2, 0, 1146, 1147, 2, 6, 0, 2, 0, 0, 1, 0, 0, 6, 4, 2, 1, 0, 0, 1, 6, 2, 0, 4, 6, 3, 2, 1, 146, 2, 1, 147]), (20, [2], [50, 0, 0, 2, 6, 0, 2, 0, 0, 1, 0, 0, 2, 1, 0, 0, 999999])] ta ws vs := hf
  obtain ⟨f0, hf⟩ := fc_un (show (9 : Nat) < 100 from by decide) hf
  have f0 : n_v vs 26 = w_fd ws (v_ad (n_v vs 0)) 143 := f0
  obtain ⟨f1, hf⟩ := fc_un (show (1 : Nat) < 100 from by decide) hf
  have f1 : v_iv (n_v vs 25) = v_iv (n_v vs 24) + v_iv (n_v vs 11) := f1
  obtain ⟨f2, hf⟩ := fc_un (show (3 : Nat) < 100 from by decide) hf
  have f2 : v_iv (n_v vs 24) = v_iv (n_v vs 14) * v_iv (n_v vs 8) := f2
  obtain ⟨f3, hf⟩ := fc_un (show (9 : Nat) < 100 from by decide) hf
  have f3 : n_v vs 8 = w_fd ws (v_ad (n_v vs 0)) 146 := f3
  obtain ⟨f4, hf⟩ := fc_un (show (2 : Nat) < 100 from by decide) hf
  have f4 : v_iv (n_v vs 22) = v_iv (n_v vs 20) - v_iv (n_v vs 21) := f4
  obtain ⟨f5, hf⟩ := fc_un (show (9 : Nat) < 100 from by decide) hf
  have f5 : n_v vs 20 = w_fd ws (v_ad (n_v vs 0)) 147 := f5
  obtain ⟨f6, hf⟩ := fc_un (show (2 : Nat) < 100 from by decide) hf
  have f6 : v_iv (n_v vs 17) = v_iv (n_v vs 8) - v_iv (n_v vs 16) := f6
  obtain ⟨f7, hf⟩ := fc_un (show (2 : Nat) < 100 from by decide) hf
  have f7 : v_iv (n_v vs 14) = v_iv (n_v vs 12) - v_iv (n_v vs 13) := f7
  obtain ⟨f8, hf⟩ := fc_un (show (20 : Nat) < 100 from by decide) hf
  have f8 : ((v_iv (n_v vs 7) = 1) ∧ (v_iv (n_v vs 13) = 1)) ∨ (((v_iv (n_v vs 7) = 3) ∧ (v_iv (n_v vs 13) = (-1))) ∨ ((v_iv (n_v vs 7) ≠ 1) ∧ ((v_iv (n_v vs 7) ≠ 3) ∧ (v_iv (n_v vs 13) = 0)))) := f8
  obtain ⟨f9, hf⟩ := fc_un (show (4 : Nat) < 100 from by decide) hf
  have f9 : v_iv (n_v vs 12) = Int.tdiv (v_iv (n_v vs 5)) (v_iv (n_v vs 8)) := f9
  have fq9 : 10 ≤ v_iv (n_v vs 12) → 10 * v_iv (n_v vs 8) ≤ v_iv (n_v vs 5) := dv_ten f9 (by omega) (by omega)
  obtain ⟨f10, hf⟩ := fc_un (show (2 : Nat) < 100 from by decide) hf
  have f10 : v_iv (n_v vs 11) = v_iv (n_v vs 9) - v_iv (n_v vs 10) := f10
  obtain ⟨f11, hf⟩ := fc_un (show (20 : Nat) < 100 from by decide) hf
  have f11 : ((v_iv (n_v vs 7) = 0) ∧ (v_iv (n_v vs 10) = 1)) ∨ (((v_iv (n_v vs 7) = 2) ∧ (v_iv (n_v vs 10) = (-1))) ∨ ((v_iv (n_v vs 7) ≠ 0) ∧ ((v_iv (n_v vs 7) ≠ 2) ∧ (v_iv (n_v vs 10) = 0)))) := f11
  obtain ⟨f12, hf⟩ := fc_un (show (5 : Nat) < 100 from by decide) hf
  have f12 : v_iv (n_v vs 9) = Int.tmod (v_iv (n_v vs 5)) (v_iv (n_v vs 8)) := f12
  obtain ⟨f13, hf⟩ := fc_un (show (12 : Nat) < 100 from by decide) hf
  have f13 : v_iv (n_v vs 7) = v_iv (n_v vs 1) % 4 := f13
  obtain ⟨f14, hf⟩ := fc_un (show (11 : Nat) < 100 from by decide) hf
  have f14 : v_iv (n_v vs 5) = v_iv (n_v vs 1) / 4 := f14
  obtain ⟨f15, hf⟩ := fc_un (show (20 : Nat) < 100 from by decide) hf
  have f15 : RTQ (w_fi ws (n_v vs 0) 146) (w_fi ws (n_v vs 0) 147) (w_ei ws (w_ar ws (n_v vs 0) 143)) (w_ei ws (w_ar ws (n_v vs 0) 140)) (w_ei ws (w_ar ws (n_v vs 0) 141)) (w_ei ws (w_ar ws (n_v vs 0) 142)) (v_iv (n_v vs 3)) (v_iv (n_v vs 2)) := f15
  obtain ⟨f16, hf⟩ := fc_un (show (20 : Nat) < 100 from by decide) hf
  have f16 : PIV (w_ei ws (w_ar ws (n_v vs 0) 140)) (v_iv (n_v vs 1)) (v_iv (n_v vs 2)) := f16
  obtain ⟨f17, hf⟩ := fc_un (show (20 : Nat) < 100 from by decide) hf
  have f17 : (0 ≤ v_iv (n_v vs 1)) ∧ ((v_iv (n_v vs 1) + 1) ≤ (4 * (w_fi ws (n_v vs 0) 146 * w_fi ws (n_v vs 0) 147))) := f17
  obtain ⟨f18, hf⟩ := fc_un (show (20 : Nat) < 100 from by decide) hf
  have f18 : (0 ≤ v_iv (n_v vs 2)) ∧ (v_iv (n_v vs 2) ≤ 999999) := f18
  have cr_0_140 : ta (w_ar ws (n_v vs 0) 140) = some 251 := tv_rg (th_fd hD hth r0 (g := GG_150) rfl (k := 140) (t := (2, 0, 0, [251])) rfl rfl)
  have cr_0_141 : ta (w_ar ws (n_v vs 0) 141) = some 252 := tv_rg (th_fd hD hth r0 (g := GG_150) rfl (k := 141) (t := (2, 0, 0, [252])) rfl rfl)
  have cr_0_142 : ta (w_ar ws (n_v vs 0) 142) = some 253 := tv_rg (th_fd hD hth r0 (g := GG_150) rfl (k := 142) (t := (2, 0, 0, [253])) rfl rfl)
  have cr_0_143 : ta (w_ar ws (n_v vs 0) 143) = some 254 := tv_rg (th_fd hD hth r0 (g := GG_150) rfl (k := 143) (t := (2, 0, 0, [254])) rfl rfl)
  have ad_26 : v_ad (n_v vs 26) = w_ar ws (n_v vs 0) 143 := congrArg v_ad f0
  have g3 : v_iv (n_v vs 8) = w_fi ws (n_v vs 0) 146 := congrArg v_iv f3
  have g5 : v_iv (n_v vs 20) = w_fi ws (n_v vs 0) 147 := congrArg v_iv f5
  have hK_0_140 : ∀ j : Int, 0 ≤ j → j < 24000 → 0 ≤ w_ei ws (w_ar ws (n_v vs 0) 140) j ∧ w_ei ws (w_ar ws (n_v vs 0) 140) j ≤ 1000000 := fun j h0 h1 => th_el hD hth cr_0_140 (kd := 0) (n := 24000) (m := 24000) (lo := 0) (hi := 1000000) (rs := []) (L := []) rfl (by decide) (j := j.toNat) (by omega)
  have hK_0_141 : ∀ j : Int, 0 ≤ j → j < 96040 → 0 ≤ w_ei ws (w_ar ws (n_v vs 0) 141) j ∧ w_ei ws (w_ar ws (n_v vs 0) 141) j ≤ 23999 := fun j h0 h1 => th_el hD hth cr_0_141 (kd := 0) (n := 96040) (m := 96040) (lo := 0) (hi := 23999) (rs := []) (L := []) rfl (by decide) (j := j.toNat) (by omega)
  have hK_0_142 : ∀ j : Int, 0 ≤ j → j < 4 → 0 ≤ w_ei ws (w_ar ws (n_v vs 0) 142) j ∧ w_ei ws (w_ar ws (n_v vs 0) 142) j ≤ 24009 := fun j h0 h1 => th_el hD hth cr_0_142 (kd := 0) (n := 4) (m := 4) (lo := 0) (hi := 24009) (rs := []) (L := []) rfl (by decide) (j := j.toNat) (by omega)
  have hK_0_143 : ∀ j : Int, 0 ≤ j → j < 6000 → 0 ≤ w_ei ws (w_ar ws (n_v vs 0) 143) j ∧ w_ei ws (w_ar ws (n_v vs 0) 143) j ≤ 1 := fun j h0 h1 => th_el hD hth cr_0_143 (kd := 2) (n := 6000) (m := 6000) (lo := 0) (hi := 1) (rs := []) (L := []) rfl (by decide) (j := j.toNat) (by omega)
  have kz_0_146 : (-2147483648) ≤ w_fi ws (n_v vs 0) 146 ∧ w_fi ws (n_v vs 0) 146 ≤ 2147483647 := tv_rng (th_fd hD hth r0 (g := GG_150) rfl (k := 146) (t := (0, -2147483648, 2147483647, [])) rfl rfl)
  have kz_0_147 : (-2147483648) ≤ w_fi ws (n_v vs 0) 147 ∧ w_fi ws (n_v vs 0) 147 ≤ 2147483647 := tv_rng (th_fd hD hth r0 (g := GG_150) rfl (k := 147) (t := (0, -2147483648, 2147483647, [])) rfl rfl)
  have hrf0 : 1 ≤ v_iv (n_v vs 25) ∧ v_iv (n_v vs 25) ≤ 5999 := vc_Mo_backFrom_5_r0 (v_iv (n_v vs 1)) (v_iv (n_v vs 2)) (v_iv (n_v vs 3)) (v_iv (n_v vs 5)) (v_iv (n_v vs 7)) (v_iv (n_v vs 8)) (v_iv (n_v vs 9)) (v_iv (n_v vs 10)) (v_iv (n_v vs 11)) (v_iv (n_v vs 12)) (v_iv (n_v vs 13)) (v_iv (n_v vs 14)) (v_iv (n_v vs 16)) (v_iv (n_v vs 17)) (v_iv (n_v vs 20)) (v_iv (n_v vs 21)) (v_iv (n_v vs 22)) (v_iv (n_v vs 24)) (v_iv (n_v vs 25)) (w_fi ws (n_v vs 0) 146) (w_fi ws (n_v vs 0) 147) (w_ei ws (w_ar ws (n_v vs 0) 143)) (w_ei ws (w_ar ws (n_v vs 0) 140)) (w_ei ws (w_ar ws (n_v vs 0) 141)) (w_ei ws (w_ar ws (n_v vs 0) 142)) k1 k2 k3 k5 k7 k8 k9 k10 k11 k12 k13 k14 k16 k17 k20 k21 k22 k24 k25 d0 d1 d2 d3 d4 d5 d6 d7 d8 d9 d10 d11 d12 f1 f2 g3 f4 g5 f6 f7 f8 f9 f10 f11 f12 f13 f14 f15 f16 f17 f18 hK_0_140 hK_0_141 hK_0_142 hK_0_143 kz_0_146 kz_0_147
  have rf25 : tv_ok ta (0, 1, 5999, []) (n_v vs 25) := tv_in t25 (by first | omega | grind) (by first | omega | grind)
  refine ⟨List.forall_mem_cons.mpr ⟨rf25, (fun _ h => (by cases h))⟩, [], trivial, ?_, (fun _ h => (by cases h))⟩
  rw [List.append_nil]
  exact (fun _ h => (by cases h))
set_option maxHeartbeats 4000000 in
theorem vc_Mo_backFrom_6_0 (x1 : Int) (x2 : Int) (x3 : Int) (x5 : Int) (x7 : Int) (x8 : Int) (x9 : Int) (x10 : Int) (x11 : Int) (x12 : Int) (x13 : Int) (x14 : Int) (x16 : Int) (x17 : Int) (x20 : Int) (x21 : Int) (x22 : Int) (x24 : Int) (x25 : Int) (x27 : Int) (barredPoint_0 : Int → Int) (wide_0 : Int) (tall_0 : Int) (costOf_0 : Int → Int) (bucket_0 : Int → Int) (bucketMany_0 : Int → Int) (k1 : 0 ≤ x1 ∧ x1 ≤ 23999) (k2 : 0 ≤ x2 ∧ x2 ≤ 1000000) (k3 : 0 ≤ x3 ∧ x3 ≤ 5999) (k5 : 0 ≤ x5 ∧ x5 ≤ 5999) (k7 : 3 ≤ x7 ∧ x7 ≤ 3) (k8 : 1 ≤ x8 ∧ x8 ≤ 6000) (k9 : 0 ≤ x9 ∧ x9 ≤ 5999) (k10 : 0 ≤ x10 ∧ x10 ≤ 0) (k11 : 0 ≤ x11 ∧ x11 ≤ 5999) (k12 : 0 ≤ x12 ∧ x12 ≤ 5999) (k13 : (-1) ≤ x13 ∧ x13 ≤ (-1)) (k14 : 1 ≤ x14 ∧ x14 ≤ 5999) (k16 : 1 ≤ x16 ∧ x16 ≤ 1) (k17 : 0 ≤ x17 ∧ x17 ≤ 5999) (k20 : 1 ≤ x20 ∧ x20 ≤ 6000) (k21 : 1 ≤ x21 ∧ x21 ≤ 1) (k22 : 1 ≤ x22 ∧ x22 ≤ 5999) (k24 : 1 ≤ x24 ∧ x24 ≤ 35994000) (k25 : 1 ≤ x25 ∧ x25 ≤ 5999) (k27 : 0 ≤ x27 ∧ x27 ≤ 0) (d0 : x11 + 1 ≤ x25 ∧ x25 ≤ x11 + 35994000) (d1 : x9 + 1 ≤ x25 ∧ x25 ≤ x9 + 35994000) (d2 : x24 + 0 ≤ x25 ∧ x25 ≤ x24 + 5999) (d3 : x22 + (-4294967296) ≤ x14 ∧ x14 ≤ x22 + 0) (d4 : x20 + (-1) ≤ x22 ∧ x22 ≤ x20 + (-1)) (d5 : x17 + (-4294967296) ≤ x11 ∧ x11 ≤ x17 + 0) (d6 : x8 + (-1) ≤ x17 ∧ x17 ≤ x8 + (-1)) (d7 : x12 + 1 ≤ x14 ∧ x14 ≤ x12 + 1) (d8 : x9 + 0 ≤ x11 ∧ x11 ≤ x9 + 0) (d9 : x8 + (-4294967295) ≤ x11 ∧ x11 ≤ x8 + (-1)) (d10 : x8 + (-4294967295) ≤ x9 ∧ x9 ≤ x8 + (-1)) (f0 : x27 = 0) (h1 : x27 = barredPoint_0 (x25)) (f3 : x25 = x24 + x11) (f4 : x24 = x14 * x8) (g5 : x8 = wide_0) (f6 : x22 = x20 - x21) (g7 : x20 = tall_0) (f8 : x17 = x8 - x16) (f9 : x14 = x12 - x13) (f10 : ((x7 = 1) ∧ (x13 = 1)) ∨ (((x7 = 3) ∧ (x13 = (-1))) ∨ ((x7 ≠ 1) ∧ ((x7 ≠ 3) ∧ (x13 = 0))))) (f11 : x12 = Int.tdiv (x5) (x8)) (f12 : x11 = x9 - x10) (f13 : ((x7 = 0) ∧ (x10 = 1)) ∨ (((x7 = 2) ∧ (x10 = (-1))) ∨ ((x7 ≠ 0) ∧ ((x7 ≠ 2) ∧ (x10 = 0))))) (f14 : x9 = Int.tmod (x5) (x8)) (f15 : x7 = x1 % 4) (f16 : x5 = x1 / 4) (f17 : RTQ (wide_0) (tall_0) (barredPoint_0) (costOf_0) (bucket_0) (bucketMany_0) (x3) (x2)) (f18 : PIV (costOf_0) (x1) (x2)) (f19 : (0 ≤ x1) ∧ ((x1 + 1) ≤ (4 * (wide_0 * tall_0)))) (f20 : (0 ≤ x2) ∧ (x2 ≤ 999999)) (hK_0_140 : ∀ j : Int, 0 ≤ j → j < 24000 → 0 ≤ costOf_0 j ∧ costOf_0 j ≤ 1000000) (hK_0_141 : ∀ j : Int, 0 ≤ j → j < 96040 → 0 ≤ bucket_0 j ∧ bucket_0 j ≤ 23999) (hK_0_142 : ∀ j : Int, 0 ≤ j → j < 4 → 0 ≤ bucketMany_0 j ∧ bucketMany_0 j ≤ 24009) (hK_0_143 : ∀ j : Int, 0 ≤ j → j < 6000 → 0 ≤ barredPoint_0 j ∧ barredPoint_0 j ≤ 1) (kz_0_146 : (-2147483648) ≤ wide_0 ∧ wide_0 ≤ 2147483647) (kz_0_147 : (-2147483648) ≤ tall_0 ∧ tall_0 ≤ 2147483647) : BFP (wide_0) (tall_0) (barredPoint_0) (x1) (x25) := by
  first
    | assumption
    | (have g0 : GRX wide_0 tall_0 := ‹RTQ _ _ _ _ _ _ _ _›.1
       have g := gok_bd g0
       have e8 : x8 = wide_0 := by assumption
       have e20 : x20 = tall_0 := by assumption
       have tm : x9 = x5 % wide_0 := by rw [← e8, ‹x9 = Int.tmod x5 x8›]; exact Int.tmod_eq_emod_of_nonneg (by omega)
       have td : x12 = x5 / wide_0 := by rw [← e8, ‹x12 = Int.tdiv x5 x8›]; exact Int.tdiv_eq_ediv_of_nonneg (by omega)
       have hx : x11 = x5 % wide_0 - dxf x7 := by rw [← tm]; unfold dxf; split; omega; split <;> omega
       have hy : x14 = x5 / wide_0 - dyf x7 := by rw [← td]; unfold dyf; split; omega; split <;> omega
       have n := nb_back (T := tall_0) (q := x5) (d := x7) (x := x11) (y := x14) (p := x25) (by omega) (by omega) (by omega) hx hy (by omega) (by omega) (by omega) (by omega) (by rw [← e8, ‹x25 = x24 + x11›, ‹x24 = x14 * x8›])
       have b := rtq_bar ‹RTQ _ _ _ _ _ _ _ _› ‹PIV _ _ _› (by omega) (by omega)
       exact ⟨⟨by omega, by omega⟩, by rw [show x1 % 4 = x7 by omega, show x1 / 4 = x5 by omega]; exact n.1, n.2, by rw [← ‹x27 = barredPoint_0 x25›]; omega, b⟩)
set_option maxHeartbeats 4000000 in
theorem vc_Mo_backFrom_6_1 (x1 : Int) (x2 : Int) (x3 : Int) (x5 : Int) (x7 : Int) (x8 : Int) (x9 : Int) (x10 : Int) (x11 : Int) (x12 : Int) (x13 : Int) (x14 : Int) (x16 : Int) (x17 : Int) (x20 : Int) (x21 : Int) (x22 : Int) (x24 : Int) (x25 : Int) (x27 : Int) (barredPoint_0 : Int → Int) (wide_0 : Int) (tall_0 : Int) (costOf_0 : Int → Int) (bucket_0 : Int → Int) (bucketMany_0 : Int → Int) (k1 : 0 ≤ x1 ∧ x1 ≤ 23999) (k2 : 0 ≤ x2 ∧ x2 ≤ 1000000) (k3 : 0 ≤ x3 ∧ x3 ≤ 5999) (k5 : 0 ≤ x5 ∧ x5 ≤ 5999) (k7 : 3 ≤ x7 ∧ x7 ≤ 3) (k8 : 1 ≤ x8 ∧ x8 ≤ 6000) (k9 : 0 ≤ x9 ∧ x9 ≤ 5999) (k10 : 0 ≤ x10 ∧ x10 ≤ 0) (k11 : 0 ≤ x11 ∧ x11 ≤ 5999) (k12 : 0 ≤ x12 ∧ x12 ≤ 5999) (k13 : (-1) ≤ x13 ∧ x13 ≤ (-1)) (k14 : 1 ≤ x14 ∧ x14 ≤ 5999) (k16 : 1 ≤ x16 ∧ x16 ≤ 1) (k17 : 0 ≤ x17 ∧ x17 ≤ 5999) (k20 : 1 ≤ x20 ∧ x20 ≤ 6000) (k21 : 1 ≤ x21 ∧ x21 ≤ 1) (k22 : 1 ≤ x22 ∧ x22 ≤ 5999) (k24 : 1 ≤ x24 ∧ x24 ≤ 35994000) (k25 : 1 ≤ x25 ∧ x25 ≤ 5999) (k27 : 0 ≤ x27 ∧ x27 ≤ 0) (d0 : x11 + 1 ≤ x25 ∧ x25 ≤ x11 + 35994000) (d1 : x9 + 1 ≤ x25 ∧ x25 ≤ x9 + 35994000) (d2 : x24 + 0 ≤ x25 ∧ x25 ≤ x24 + 5999) (d3 : x22 + (-4294967296) ≤ x14 ∧ x14 ≤ x22 + 0) (d4 : x20 + (-1) ≤ x22 ∧ x22 ≤ x20 + (-1)) (d5 : x17 + (-4294967296) ≤ x11 ∧ x11 ≤ x17 + 0) (d6 : x8 + (-1) ≤ x17 ∧ x17 ≤ x8 + (-1)) (d7 : x12 + 1 ≤ x14 ∧ x14 ≤ x12 + 1) (d8 : x9 + 0 ≤ x11 ∧ x11 ≤ x9 + 0) (d9 : x8 + (-4294967295) ≤ x11 ∧ x11 ≤ x8 + (-1)) (d10 : x8 + (-4294967295) ≤ x9 ∧ x9 ≤ x8 + (-1)) (f0 : x27 = 0) (h1 : x27 = barredPoint_0 (x25)) (f3 : x25 = x24 + x11) (f4 : x24 = x14 * x8) (g5 : x8 = wide_0) (f6 : x22 = x20 - x21) (g7 : x20 = tall_0) (f8 : x17 = x8 - x16) (f9 : x14 = x12 - x13) (f10 : ((x7 = 1) ∧ (x13 = 1)) ∨ (((x7 = 3) ∧ (x13 = (-1))) ∨ ((x7 ≠ 1) ∧ ((x7 ≠ 3) ∧ (x13 = 0))))) (f11 : x12 = Int.tdiv (x5) (x8)) (f12 : x11 = x9 - x10) (f13 : ((x7 = 0) ∧ (x10 = 1)) ∨ (((x7 = 2) ∧ (x10 = (-1))) ∨ ((x7 ≠ 0) ∧ ((x7 ≠ 2) ∧ (x10 = 0))))) (f14 : x9 = Int.tmod (x5) (x8)) (f15 : x7 = x1 % 4) (f16 : x5 = x1 / 4) (f17 : RTQ (wide_0) (tall_0) (barredPoint_0) (costOf_0) (bucket_0) (bucketMany_0) (x3) (x2)) (f18 : PIV (costOf_0) (x1) (x2)) (f19 : (0 ≤ x1) ∧ ((x1 + 1) ≤ (4 * (wide_0 * tall_0)))) (f20 : (0 ≤ x2) ∧ (x2 ≤ 999999)) (hK_0_140 : ∀ j : Int, 0 ≤ j → j < 24000 → 0 ≤ costOf_0 j ∧ costOf_0 j ≤ 1000000) (hK_0_141 : ∀ j : Int, 0 ≤ j → j < 96040 → 0 ≤ bucket_0 j ∧ bucket_0 j ≤ 23999) (hK_0_142 : ∀ j : Int, 0 ≤ j → j < 4 → 0 ≤ bucketMany_0 j ∧ bucketMany_0 j ≤ 24009) (hK_0_143 : ∀ j : Int, 0 ≤ j → j < 6000 → 0 ≤ barredPoint_0 j ∧ barredPoint_0 j ≤ 1) (kz_0_146 : (-2147483648) ≤ wide_0 ∧ wide_0 ≤ 2147483647) (kz_0_147 : (-2147483648) ≤ tall_0 ∧ tall_0 ≤ 2147483647) : x7 = (x1 % 4) := by
  first
    | omega
    | (have g := gok_bd (show GRX wide_0 tall_0 from ‹RTQ _ _ _ _ _ _ _ _›.1); omega)
    | (have g0 : GRX wide_0 tall_0 := ‹RTQ _ _ _ _ _ _ _ _›.1
       have g := gok_bd g0
       have e8 : x8 = wide_0 := by assumption
       have e20 : x20 = tall_0 := by assumption
       have c := cell_ix (W := x8) (T := x20) (x := x11) (y := x14) (p := x25) (by omega) (by omega) (by omega) (by omega) (by omega) (by rw [‹x25 = x24 + x11›, ‹x24 = x14 * x8›])
       have g3 := g0.2.2
       rw [e8, e20] at c
       omega)
    | (have h := ‹BFP _ _ _ _ _›.2.2.1; omega)
    | sorry
set_option maxHeartbeats 4000000 in
theorem vc_Mo_backFrom_6_2 (x1 : Int) (x2 : Int) (x3 : Int) (x5 : Int) (x7 : Int) (x8 : Int) (x9 : Int) (x10 : Int) (x11 : Int) (x12 : Int) (x13 : Int) (x14 : Int) (x16 : Int) (x17 : Int) (x20 : Int) (x21 : Int) (x22 : Int) (x24 : Int) (x25 : Int) (x27 : Int) (barredPoint_0 : Int → Int) (wide_0 : Int) (tall_0 : Int) (costOf_0 : Int → Int) (bucket_0 : Int → Int) (bucketMany_0 : Int → Int) (k1 : 0 ≤ x1 ∧ x1 ≤ 23999) (k2 : 0 ≤ x2 ∧ x2 ≤ 1000000) (k3 : 0 ≤ x3 ∧ x3 ≤ 5999) (k5 : 0 ≤ x5 ∧ x5 ≤ 5999) (k7 : 3 ≤ x7 ∧ x7 ≤ 3) (k8 : 1 ≤ x8 ∧ x8 ≤ 6000) (k9 : 0 ≤ x9 ∧ x9 ≤ 5999) (k10 : 0 ≤ x10 ∧ x10 ≤ 0) (k11 : 0 ≤ x11 ∧ x11 ≤ 5999) (k12 : 0 ≤ x12 ∧ x12 ≤ 5999) (k13 : (-1) ≤ x13 ∧ x13 ≤ (-1)) (k14 : 1 ≤ x14 ∧ x14 ≤ 5999) (k16 : 1 ≤ x16 ∧ x16 ≤ 1) (k17 : 0 ≤ x17 ∧ x17 ≤ 5999) (k20 : 1 ≤ x20 ∧ x20 ≤ 6000) (k21 : 1 ≤ x21 ∧ x21 ≤ 1) (k22 : 1 ≤ x22 ∧ x22 ≤ 5999) (k24 : 1 ≤ x24 ∧ x24 ≤ 35994000) (k25 : 1 ≤ x25 ∧ x25 ≤ 5999) (k27 : 0 ≤ x27 ∧ x27 ≤ 0) (d0 : x11 + 1 ≤ x25 ∧ x25 ≤ x11 + 35994000) (d1 : x9 + 1 ≤ x25 ∧ x25 ≤ x9 + 35994000) (d2 : x24 + 0 ≤ x25 ∧ x25 ≤ x24 + 5999) (d3 : x22 + (-4294967296) ≤ x14 ∧ x14 ≤ x22 + 0) (d4 : x20 + (-1) ≤ x22 ∧ x22 ≤ x20 + (-1)) (d5 : x17 + (-4294967296) ≤ x11 ∧ x11 ≤ x17 + 0) (d6 : x8 + (-1) ≤ x17 ∧ x17 ≤ x8 + (-1)) (d7 : x12 + 1 ≤ x14 ∧ x14 ≤ x12 + 1) (d8 : x9 + 0 ≤ x11 ∧ x11 ≤ x9 + 0) (d9 : x8 + (-4294967295) ≤ x11 ∧ x11 ≤ x8 + (-1)) (d10 : x8 + (-4294967295) ≤ x9 ∧ x9 ≤ x8 + (-1)) (f0 : x27 = 0) (h1 : x27 = barredPoint_0 (x25)) (f3 : x25 = x24 + x11) (f4 : x24 = x14 * x8) (g5 : x8 = wide_0) (f6 : x22 = x20 - x21) (g7 : x20 = tall_0) (f8 : x17 = x8 - x16) (f9 : x14 = x12 - x13) (f10 : ((x7 = 1) ∧ (x13 = 1)) ∨ (((x7 = 3) ∧ (x13 = (-1))) ∨ ((x7 ≠ 1) ∧ ((x7 ≠ 3) ∧ (x13 = 0))))) (f11 : x12 = Int.tdiv (x5) (x8)) (f12 : x11 = x9 - x10) (f13 : ((x7 = 0) ∧ (x10 = 1)) ∨ (((x7 = 2) ∧ (x10 = (-1))) ∨ ((x7 ≠ 0) ∧ ((x7 ≠ 2) ∧ (x10 = 0))))) (f14 : x9 = Int.tmod (x5) (x8)) (f15 : x7 = x1 % 4) (f16 : x5 = x1 / 4) (f17 : RTQ (wide_0) (tall_0) (barredPoint_0) (costOf_0) (bucket_0) (bucketMany_0) (x3) (x2)) (f18 : PIV (costOf_0) (x1) (x2)) (f19 : (0 ≤ x1) ∧ ((x1 + 1) ≤ (4 * (wide_0 * tall_0)))) (f20 : (0 ≤ x2) ∧ (x2 ≤ 999999)) (hK_0_140 : ∀ j : Int, 0 ≤ j → j < 24000 → 0 ≤ costOf_0 j ∧ costOf_0 j ≤ 1000000) (hK_0_141 : ∀ j : Int, 0 ≤ j → j < 96040 → 0 ≤ bucket_0 j ∧ bucket_0 j ≤ 23999) (hK_0_142 : ∀ j : Int, 0 ≤ j → j < 4 → 0 ≤ bucketMany_0 j ∧ bucketMany_0 j ≤ 24009) (hK_0_143 : ∀ j : Int, 0 ≤ j → j < 6000 → 0 ≤ barredPoint_0 j ∧ barredPoint_0 j ≤ 1) (kz_0_146 : (-2147483648) ≤ wide_0 ∧ wide_0 ≤ 2147483647) (kz_0_147 : (-2147483648) ≤ tall_0 ∧ tall_0 ≤ 2147483647) : (0 ≤ x25) ∧ ((x25 + 1) ≤ (wide_0 * tall_0)) := by
  first
    | omega
    | (have g := gok_bd (show GRX wide_0 tall_0 from ‹RTQ _ _ _ _ _ _ _ _›.1); omega)
    | (have g0 : GRX wide_0 tall_0 := ‹RTQ _ _ _ _ _ _ _ _›.1
       have g := gok_bd g0
       have e8 : x8 = wide_0 := by assumption
       have e20 : x20 = tall_0 := by assumption
       have c := cell_ix (W := x8) (T := x20) (x := x11) (y := x14) (p := x25) (by omega) (by omega) (by omega) (by omega) (by omega) (by rw [‹x25 = x24 + x11›, ‹x24 = x14 * x8›])
       have g3 := g0.2.2
       rw [e8, e20] at c
       omega)
    | (have h := ‹BFP _ _ _ _ _›.2.2.1; omega)
    | sorry
def o_Mo_backFrom_6 : or_T := (94, 29, [(0, (2, 0, 0, [150])), (1, (0, 0, 23999, [])), (2, (0, 0, 1000000, [])), (3, (0, 0, 5999, [])), (5, (0, 0, 5999, [])), (7, (0, 3, 3, [])), (8, (0, 1, 6000, [])), (9, (0, 0, 5999, [])), (10, (0, 0, 0, [])), (11, (0, 0, 5999, [])), (12, (0, 0, 5999, [])), (13, (0, -1, -1, [])), (14, (0, 1, 5999, [])), (16, (0, 1, 1, [])), (17, (0, 0, 5999, [])), (20, (0, 1, 6000, [])), (21, (0, 1, 1, [])), (22, (0, 1, 5999, [])), (24, (0, 1, 35994000, [])), (25, (0, 1, 5999, [])), (26, (2, 0, 0, [254])), (27, (0, 0, 0, []))], [(8, [27], [0]), (10, [27, 26, 25], []), (9, [26, 0], [143]), (1, [25, 24, 11], []), (3, [24, 14, 8], []), (9, [8, 0], [146]), (2, [22, 20, 21], []), (9, [20, 0], [147]), (2, [17, 8, 16], []), (2, [14, 12, 13], []), (20, [7, 13], [50, 0, 0, 3, 14, 2, 6, 1, 2, 1, 0, 0, 1, 1, 2, 1, 1, 0, 1, 3, 14, 2, 6, 1, 2, 1, 0, 0, 3, 1, 2, 1, 1, 0, -1, 2, 6, 7, 2, 1, 0, 0, 1, 2, 6, 7, 2, 1, 0, 0, 3, 1, 2, 1, 1, 0, 0]), (4, [12, 5, 8], []), (2, [11, 9, 10], []), (20, [7, 10], [50, 0, 0, 3, 14, 2, 6, 1, 2, 1, 0, 0, 0, 1, 2, 1, 1, 0, 1, 3, 14, 2, 6, 1, 2, 1, 0, 0, 2, 1, 2, 1, 1, 0, -1, 2, 6, 7, 2, 1, 0, 0, 0, 2, 6, 7, 2, 1, 0, 0, 2, 1, 2, 1, 1, 0, 0]), (5, [9, 5, 8], []), (12, [7, 1], [4]), (11, [5, 1], [4]), (20, [0, 3, 2], [60, 2, 4, 419, 146, 147, 143, 140, 141, 142]), (20, [0, 1, 2], [60, 0, 1, 421, 140]), (20, [1, 0], [50, 2, 0, 1146, 1147, 2, 6, 0, 2, 0, 0, 1, 0, 0, 6, 4, 2, 1, 0, 0, 1, 6, 2, 0, 4, 6, 3, 2, 1, 146, 2, 1, 147]), (20, [2], [50, 0, 0, 2, 6, 0, 2, 0, 0, 1, 0, 0, 2, 1, 0, 0, 999999])], [], [], [(20, [0, 1, 25], [60, 2, 1, 424, 146, 147, 143]), (20, [7, 1], [50, 0, 0, 1, 2, 1, 0, 9, 2, 1, 1, 0, 4]), (20, [25, 0], [50, 2, 0, 1146, 1147, 2, 6, 0, 2, 0, 0, 1, 0, 0, 6, 4, 2, 1, 0, 0, 1, 6, 3, 2, 1, 146, 2, 1, 147]), (24, [0, 0], []), (24, [1, 1], []), (24, [2, 2], [])], [], [(25, 11, 1, 35994000), (25, 9, 1, 35994000), (25, 24, 0, 5999), (14, 22, -4294967296, 0), (22, 20, -1, -1), (11, 17, -4294967296, 0), (17, 8, -1, -1), (14, 12, 1, 1), (11, 9, 0, 0), (11, 8, -4294967295, -1), (9, 8, -4294967295, -1)])
theorem oo_Mo_backFrom_6 {kA : Nat → ClassId} : or_ok PRD kA GG o_Mo_backFrom_6 := by
  intro A ta ws vs hD hth hl hk hds hf
  have hl : vs.length = 29 := hl
  have hk : ∀ q ∈ ([(0, (2, 0, 0, [150])), (1, (0, 0, 23999, [])), (2, (0, 0, 1000000, [])), (3, (0, 0, 5999, [])), (5, (0, 0, 5999, [])), (7, (0, 3, 3, [])), (8, (0, 1, 6000, [])), (9, (0, 0, 5999, [])), (10, (0, 0, 0, [])), (11, (0, 0, 5999, [])), (12, (0, 0, 5999, [])), (13, (0, -1, -1, [])), (14, (0, 1, 5999, [])), (16, (0, 1, 1, [])), (17, (0, 0, 5999, [])), (20, (0, 1, 6000, [])), (21, (0, 1, 1, [])), (22, (0, 1, 5999, [])), (24, (0, 1, 35994000, [])), (25, (0, 1, 5999, [])), (26, (2, 0, 0, [254])), (27, (0, 0, 0, []))] : List (Nat × tv_T)), tv_ok ta q.2 (n_v vs q.1) := hk
  obtain ⟨t0, hk⟩ := List.forall_mem_cons.mp hk
  have t0 : tv_ok ta (2, 0, 0, [150]) (n_v vs 0) := t0
  have r0 : ta (v_ad (n_v vs 0)) = some 150 := tv_rg t0
  obtain ⟨t1, hk⟩ := List.forall_mem_cons.mp hk
  have t1 : tv_ok ta (0, 0, 23999, []) (n_v vs 1) := t1
  have k1 : 0 ≤ v_iv (n_v vs 1) ∧ v_iv (n_v vs 1) ≤ 23999 := tv_rng t1
  obtain ⟨t2, hk⟩ := List.forall_mem_cons.mp hk
  have t2 : tv_ok ta (0, 0, 1000000, []) (n_v vs 2) := t2
  have k2 : 0 ≤ v_iv (n_v vs 2) ∧ v_iv (n_v vs 2) ≤ 1000000 := tv_rng t2
  obtain ⟨t3, hk⟩ := List.forall_mem_cons.mp hk
  have t3 : tv_ok ta (0, 0, 5999, []) (n_v vs 3) := t3
  have k3 : 0 ≤ v_iv (n_v vs 3) ∧ v_iv (n_v vs 3) ≤ 5999 := tv_rng t3
  obtain ⟨t5, hk⟩ := List.forall_mem_cons.mp hk
  have t5 : tv_ok ta (0, 0, 5999, []) (n_v vs 5) := t5
  have k5 : 0 ≤ v_iv (n_v vs 5) ∧ v_iv (n_v vs 5) ≤ 5999 := tv_rng t5
  obtain ⟨t7, hk⟩ := List.forall_mem_cons.mp hk
  have t7 : tv_ok ta (0, 3, 3, []) (n_v vs 7) := t7
  have k7 : 3 ≤ v_iv (n_v vs 7) ∧ v_iv (n_v vs 7) ≤ 3 := tv_rng t7
  obtain ⟨t8, hk⟩ := List.forall_mem_cons.mp hk
  have t8 : tv_ok ta (0, 1, 6000, []) (n_v vs 8) := t8
  have k8 : 1 ≤ v_iv (n_v vs 8) ∧ v_iv (n_v vs 8) ≤ 6000 := tv_rng t8
  obtain ⟨t9, hk⟩ := List.forall_mem_cons.mp hk
  have t9 : tv_ok ta (0, 0, 5999, []) (n_v vs 9) := t9
  have k9 : 0 ≤ v_iv (n_v vs 9) ∧ v_iv (n_v vs 9) ≤ 5999 := tv_rng t9
  obtain ⟨t10, hk⟩ := List.forall_mem_cons.mp hk
  have t10 : tv_ok ta (0, 0, 0, []) (n_v vs 10) := t10
  have k10 : 0 ≤ v_iv (n_v vs 10) ∧ v_iv (n_v vs 10) ≤ 0 := tv_rng t10
  obtain ⟨t11, hk⟩ := List.forall_mem_cons.mp hk
  have t11 : tv_ok ta (0, 0, 5999, []) (n_v vs 11) := t11
  have k11 : 0 ≤ v_iv (n_v vs 11) ∧ v_iv (n_v vs 11) ≤ 5999 := tv_rng t11
  obtain ⟨t12, hk⟩ := List.forall_mem_cons.mp hk
  have t12 : tv_ok ta (0, 0, 5999, []) (n_v vs 12) := t12
  have k12 : 0 ≤ v_iv (n_v vs 12) ∧ v_iv (n_v vs 12) ≤ 5999 := tv_rng t12
  obtain ⟨t13, hk⟩ := List.forall_mem_cons.mp hk
  have t13 : tv_ok ta (0, -1, -1, []) (n_v vs 13) := t13
  have k13 : (-1) ≤ v_iv (n_v vs 13) ∧ v_iv (n_v vs 13) ≤ (-1) := tv_rng t13
  obtain ⟨t14, hk⟩ := List.forall_mem_cons.mp hk
  have t14 : tv_ok ta (0, 1, 5999, []) (n_v vs 14) := t14
  have k14 : 1 ≤ v_iv (n_v vs 14) ∧ v_iv (n_v vs 14) ≤ 5999 := tv_rng t14
  obtain ⟨t16, hk⟩ := List.forall_mem_cons.mp hk
  have t16 : tv_ok ta (0, 1, 1, []) (n_v vs 16) := t16
  have k16 : 1 ≤ v_iv (n_v vs 16) ∧ v_iv (n_v vs 16) ≤ 1 := tv_rng t16
  obtain ⟨t17, hk⟩ := List.forall_mem_cons.mp hk
  have t17 : tv_ok ta (0, 0, 5999, []) (n_v vs 17) := t17
  have k17 : 0 ≤ v_iv (n_v vs 17) ∧ v_iv (n_v vs 17) ≤ 5999 := tv_rng t17
  obtain ⟨t20, hk⟩ := List.forall_mem_cons.mp hk
  have t20 : tv_ok ta (0, 1, 6000, []) (n_v vs 20) := t20
  have k20 : 1 ≤ v_iv (n_v vs 20) ∧ v_iv (n_v vs 20) ≤ 6000 := tv_rng t20
  obtain ⟨t21, hk⟩ := List.forall_mem_cons.mp hk
  have t21 : tv_ok ta (0, 1, 1, []) (n_v vs 21) := t21
  have k21 : 1 ≤ v_iv (n_v vs 21) ∧ v_iv (n_v vs 21) ≤ 1 := tv_rng t21
  obtain ⟨t22, hk⟩ := List.forall_mem_cons.mp hk
  have t22 : tv_ok ta (0, 1, 5999, []) (n_v vs 22) := t22
  have k22 : 1 ≤ v_iv (n_v vs 22) ∧ v_iv (n_v vs 22) ≤ 5999 := tv_rng t22
  obtain ⟨t24, hk⟩ := List.forall_mem_cons.mp hk
  have t24 : tv_ok ta (0, 1, 35994000, []) (n_v vs 24) := t24
  have k24 : 1 ≤ v_iv (n_v vs 24) ∧ v_iv (n_v vs 24) ≤ 35994000 := tv_rng t24
  obtain ⟨t25, hk⟩ := List.forall_mem_cons.mp hk
  have t25 : tv_ok ta (0, 1, 5999, []) (n_v vs 25) := t25
  have k25 : 1 ≤ v_iv (n_v vs 25) ∧ v_iv (n_v vs 25) ≤ 5999 := tv_rng t25
  obtain ⟨t26, hk⟩ := List.forall_mem_cons.mp hk
  have t26 : tv_ok ta (2, 0, 0, [254]) (n_v vs 26) := t26
  have r26 : ta (v_ad (n_v vs 26)) = some 254 := tv_rg t26
  obtain ⟨t27, hk⟩ := List.forall_mem_cons.mp hk
  have t27 : tv_ok ta (0, 0, 0, []) (n_v vs 27) := t27
  have k27 : 0 ≤ v_iv (n_v vs 27) ∧ v_iv (n_v vs 27) ≤ 0 := tv_rng t27
  have hds : ∀ q ∈ ([(25, 11, 1, 35994000), (25, 9, 1, 35994000), (25, 24, 0, 5999), (14, 22, -4294967296, 0), (22, 20, -1, -1), (11, 17, -4294967296, 0), (17, 8, -1, -1), (14, 12, 1, 1), (11, 9, 0, 0), (11, 8, -4294967295, -1), (9, 8, -4294967295, -1)] : List of_T), n_iv vs q.2.1 + q.2.2.1 ≤ n_iv vs q.1 ∧ n_iv vs q.1 ≤ n_iv vs q.2.1 + q.2.2.2 := hds
  obtain ⟨d0, hds⟩ := List.forall_mem_cons.mp hds
  have d0 : v_iv (n_v vs 11) + 1 ≤ v_iv (n_v vs 25) ∧ v_iv (n_v vs 25) ≤ v_iv (n_v vs 11) + 35994000 := d0
  obtain ⟨d1, hds⟩ := List.forall_mem_cons.mp hds
  have d1 : v_iv (n_v vs 9) + 1 ≤ v_iv (n_v vs 25) ∧ v_iv (n_v vs 25) ≤ v_iv (n_v vs 9) + 35994000 := d1
  obtain ⟨d2, hds⟩ := List.forall_mem_cons.mp hds
  have d2 : v_iv (n_v vs 24) + 0 ≤ v_iv (n_v vs 25) ∧ v_iv (n_v vs 25) ≤ v_iv (n_v vs 24) + 5999 := d2
  obtain ⟨d3, hds⟩ := List.forall_mem_cons.mp hds
  have d3 : v_iv (n_v vs 22) + (-4294967296) ≤ v_iv (n_v vs 14) ∧ v_iv (n_v vs 14) ≤ v_iv (n_v vs 22) + 0 := d3
  obtain ⟨d4, hds⟩ := List.forall_mem_cons.mp hds
  have d4 : v_iv (n_v vs 20) + (-1) ≤ v_iv (n_v vs 22) ∧ v_iv (n_v vs 22) ≤ v_iv (n_v vs 20) + (-1) := d4
  obtain ⟨d5, hds⟩ := List.forall_mem_cons.mp hds
  have d5 : v_iv (n_v vs 17) + (-4294967296) ≤ v_iv (n_v vs 11) ∧ v_iv (n_v vs 11) ≤ v_iv (n_v vs 17) + 0 := d5
  obtain ⟨d6, hds⟩ := List.forall_mem_cons.mp hds
  have d6 : v_iv (n_v vs 8) + (-1) ≤ v_iv (n_v vs 17) ∧ v_iv (n_v vs 17) ≤ v_iv (n_v vs 8) + (-1) := d6
  obtain ⟨d7, hds⟩ := List.forall_mem_cons.mp hds
  have d7 : v_iv (n_v vs 12) + 1 ≤ v_iv (n_v vs 14) ∧ v_iv (n_v vs 14) ≤ v_iv (n_v vs 12) + 1 := d7
  obtain ⟨d8, hds⟩ := List.forall_mem_cons.mp hds
  have d8 : v_iv (n_v vs 9) + 0 ≤ v_iv (n_v vs 11) ∧ v_iv (n_v vs 11) ≤ v_iv (n_v vs 9) + 0 := d8
  obtain ⟨d9, hds⟩ := List.forall_mem_cons.mp hds
  have d9 : v_iv (n_v vs 8) + (-4294967295) ≤ v_iv (n_v vs 11) ∧ v_iv (n_v vs 11) ≤ v_iv (n_v vs 8) + (-1) := d9
  obtain ⟨d10, hds⟩ := List.forall_mem_cons.mp hds
  have d10 : v_iv (n_v vs 8) + (-4294967295) ≤ v_iv (n_v vs 9) ∧ v_iv (n_v vs 9) ≤ v_iv (n_v vs 8) + (-1) := d10
  have hf : fc_ok PRD [(8, [27], [0]), (10, [27, 26, 25], []), (9, [26, 0], [143]), (1, [25, 24, 11], []), (3, [24, 14, 8], []), (9, [8, 0], [146]), (2, [22, 20, 21], []), (9, [20, 0], [147]), (2, [17, 8, 16], []), (2, [14, 12, 13], []), (20, [7, 13], [50, 0, 0, 3, 14, 2, 6, 1, 2, 1, 0, 0, 1, 1, 2, 1, 1, 0, 1, 3, 14, 2, 6, 1, 2, 1, 0, 0, 3, 1, 2, 1, 1, 0, -1, 2, 6, 7, 2, 1, 0, 0, 1, 2, 6, 7, 2, 1, 0, 0, 3, 1, 2, 1, 1, 0, 0]), (4, [12, 5, 8], []), (2, [11, 9, 10], []), (20, [7, 10], [50, 0, 0, 3, 14, 2, 6, 1, 2, 1, 0, 0, 0, 1, 2, 1, 1, 0, 1, 3, 14, 2, 6, 1, 2, 1, 0, 0, 2, 1, 2, 1, 1, 0, -1, 2, 6, 7, 2, 1, 0, 0, 0, 2, 6, 7, 2, 1, 0, 0, 2, 1, 2, 1, 1, 0, 0]), (5, [9, 5, 8], []), (12, [7, 1], [4]), (11, [5, 1], [4]), (20, [0, 3, 2], [60, 2, 4, 419, 146, 147, 143, 140, 141, 142]), (20, [0, 1, 2], [60, 0, 1, 421, 140]), (20, [1, 0], [50, 2, 0, 1146, 1147, 2, 6, 0, 2, 0, 0, 1, 0, 0, 6, 4, 2, 1, 0, 0, 1, 6, 2, 0, 4, 6, 3, 2, 1, 146, 2, 1, 147]), (20, [2], [50, 0, 0, 2, 6, 0, 2, 0, 0, 1, 0, 0, 2, 1, 0, 0, 999999])] ta ws vs := hf
  obtain ⟨f0, hf⟩ := fc_un (show (8 : Nat) < 100 from by decide) hf
  have f0 : v_iv (n_v vs 27) = 0 := f0
  obtain ⟨f1, hf⟩ := fc_un (show (10 : Nat) < 100 from by decide) hf
  have f1 : v_iv (n_v vs 27) = w_el ws (v_ad (n_v vs 26)) (v_iv (n_v vs 25)).toNat := f1
  obtain ⟨f2, hf⟩ := fc_un (show (9 : Nat) < 100 from by decide) hf
  have f2 : n_v vs 26 = w_fd ws (v_ad (n_v vs 0)) 143 := f2
  obtain ⟨f3, hf⟩ := fc_un (show (1 : Nat) < 100 from by decide) hf
  have f3 : v_iv (n_v vs 25) = v_iv (n_v vs 24) + v_iv (n_v vs 11) := f3
  obtain ⟨f4, hf⟩ := fc_un (show (3 : Nat) < 100 from by decide) hf
  have f4 : v_iv (n_v vs 24) = v_iv (n_v vs 14) * v_iv (n_v vs 8) := f4
  obtain ⟨f5, hf⟩ := fc_un (show (9 : Nat) < 100 from by decide) hf
  have f5 : n_v vs 8 = w_fd ws (v_ad (n_v vs 0)) 146 := f5
  obtain ⟨f6, hf⟩ := fc_un (show (2 : Nat) < 100 from by decide) hf
  have f6 : v_iv (n_v vs 22) = v_iv (n_v vs 20) - v_iv (n_v vs 21) := f6
  obtain ⟨f7, hf⟩ := fc_un (show (9 : Nat) < 100 from by decide) hf
  have f7 : n_v vs 20 = w_fd ws (v_ad (n_v vs 0)) 147 := f7
  obtain ⟨f8, hf⟩ := fc_un (show (2 : Nat) < 100 from by decide) hf
  have f8 : v_iv (n_v vs 17) = v_iv (n_v vs 8) - v_iv (n_v vs 16) := f8
  obtain ⟨f9, hf⟩ := fc_un (show (2 : Nat) < 100 from by decide) hf
  have f9 : v_iv (n_v vs 14) = v_iv (n_v vs 12) - v_iv (n_v vs 13) := f9
  obtain ⟨f10, hf⟩ := fc_un (show (20 : Nat) < 100 from by decide) hf
  have f10 : ((v_iv (n_v vs 7) = 1) ∧ (v_iv (n_v vs 13) = 1)) ∨ (((v_iv (n_v vs 7) = 3) ∧ (v_iv (n_v vs 13) = (-1))) ∨ ((v_iv (n_v vs 7) ≠ 1) ∧ ((v_iv (n_v vs 7) ≠ 3) ∧ (v_iv (n_v vs 13) = 0)))) := f10
  obtain ⟨f11, hf⟩ := fc_un (show (4 : Nat) < 100 from by decide) hf
  have f11 : v_iv (n_v vs 12) = Int.tdiv (v_iv (n_v vs 5)) (v_iv (n_v vs 8)) := f11
  have fq11 : 10 ≤ v_iv (n_v vs 12) → 10 * v_iv (n_v vs 8) ≤ v_iv (n_v vs 5) := dv_ten f11 (by omega) (by omega)
  obtain ⟨f12, hf⟩ := fc_un (show (2 : Nat) < 100 from by decide) hf
  have f12 : v_iv (n_v vs 11) = v_iv (n_v vs 9) - v_iv (n_v vs 10) := f12
  obtain ⟨f13, hf⟩ := fc_un (show (20 : Nat) < 100 from by decide) hf
  have f13 : ((v_iv (n_v vs 7) = 0) ∧ (v_iv (n_v vs 10) = 1)) ∨ (((v_iv (n_v vs 7) = 2) ∧ (v_iv (n_v vs 10) = (-1))) ∨ ((v_iv (n_v vs 7) ≠ 0) ∧ ((v_iv (n_v vs 7) ≠ 2) ∧ (v_iv (n_v vs 10) = 0)))) := f13
  obtain ⟨f14, hf⟩ := fc_un (show (5 : Nat) < 100 from by decide) hf
  have f14 : v_iv (n_v vs 9) = Int.tmod (v_iv (n_v vs 5)) (v_iv (n_v vs 8)) := f14
  obtain ⟨f15, hf⟩ := fc_un (show (12 : Nat) < 100 from by decide) hf
  have f15 : v_iv (n_v vs 7) = v_iv (n_v vs 1) % 4 := f15
  obtain ⟨f16, hf⟩ := fc_un (show (11 : Nat) < 100 from by decide) hf
  have f16 : v_iv (n_v vs 5) = v_iv (n_v vs 1) / 4 := f16
  obtain ⟨f17, hf⟩ := fc_un (show (20 : Nat) < 100 from by decide) hf
  have f17 : RTQ (w_fi ws (n_v vs 0) 146) (w_fi ws (n_v vs 0) 147) (w_ei ws (w_ar ws (n_v vs 0) 143)) (w_ei ws (w_ar ws (n_v vs 0) 140)) (w_ei ws (w_ar ws (n_v vs 0) 141)) (w_ei ws (w_ar ws (n_v vs 0) 142)) (v_iv (n_v vs 3)) (v_iv (n_v vs 2)) := f17
  obtain ⟨f18, hf⟩ := fc_un (show (20 : Nat) < 100 from by decide) hf
  have f18 : PIV (w_ei ws (w_ar ws (n_v vs 0) 140)) (v_iv (n_v vs 1)) (v_iv (n_v vs 2)) := f18
  obtain ⟨f19, hf⟩ := fc_un (show (20 : Nat) < 100 from by decide) hf
  have f19 : (0 ≤ v_iv (n_v vs 1)) ∧ ((v_iv (n_v vs 1) + 1) ≤ (4 * (w_fi ws (n_v vs 0) 146 * w_fi ws (n_v vs 0) 147))) := f19
  obtain ⟨f20, hf⟩ := fc_un (show (20 : Nat) < 100 from by decide) hf
  have f20 : (0 ≤ v_iv (n_v vs 2)) ∧ (v_iv (n_v vs 2) ≤ 999999) := f20
  have cr_0_140 : ta (w_ar ws (n_v vs 0) 140) = some 251 := tv_rg (th_fd hD hth r0 (g := GG_150) rfl (k := 140) (t := (2, 0, 0, [251])) rfl rfl)
  have cr_0_141 : ta (w_ar ws (n_v vs 0) 141) = some 252 := tv_rg (th_fd hD hth r0 (g := GG_150) rfl (k := 141) (t := (2, 0, 0, [252])) rfl rfl)
  have cr_0_142 : ta (w_ar ws (n_v vs 0) 142) = some 253 := tv_rg (th_fd hD hth r0 (g := GG_150) rfl (k := 142) (t := (2, 0, 0, [253])) rfl rfl)
  have cr_0_143 : ta (w_ar ws (n_v vs 0) 143) = some 254 := tv_rg (th_fd hD hth r0 (g := GG_150) rfl (k := 143) (t := (2, 0, 0, [254])) rfl rfl)
  have ad_26 : v_ad (n_v vs 26) = w_ar ws (n_v vs 0) 143 := congrArg v_ad f2
  rw [ad_26] at f1
  have h1 : v_iv (n_v vs 27) = w_ei ws (w_ar ws (n_v vs 0) 143) (v_iv (n_v vs 25)) := f1
  have g5 : v_iv (n_v vs 8) = w_fi ws (n_v vs 0) 146 := congrArg v_iv f5
  have g7 : v_iv (n_v vs 20) = w_fi ws (n_v vs 0) 147 := congrArg v_iv f7
  have hK_0_140 : ∀ j : Int, 0 ≤ j → j < 24000 → 0 ≤ w_ei ws (w_ar ws (n_v vs 0) 140) j ∧ w_ei ws (w_ar ws (n_v vs 0) 140) j ≤ 1000000 := fun j h0 h1 => th_el hD hth cr_0_140 (kd := 0) (n := 24000) (m := 24000) (lo := 0) (hi := 1000000) (rs := []) (L := []) rfl (by decide) (j := j.toNat) (by omega)
  have hK_0_141 : ∀ j : Int, 0 ≤ j → j < 96040 → 0 ≤ w_ei ws (w_ar ws (n_v vs 0) 141) j ∧ w_ei ws (w_ar ws (n_v vs 0) 141) j ≤ 23999 := fun j h0 h1 => th_el hD hth cr_0_141 (kd := 0) (n := 96040) (m := 96040) (lo := 0) (hi := 23999) (rs := []) (L := []) rfl (by decide) (j := j.toNat) (by omega)
  have hK_0_142 : ∀ j : Int, 0 ≤ j → j < 4 → 0 ≤ w_ei ws (w_ar ws (n_v vs 0) 142) j ∧ w_ei ws (w_ar ws (n_v vs 0) 142) j ≤ 24009 := fun j h0 h1 => th_el hD hth cr_0_142 (kd := 0) (n := 4) (m := 4) (lo := 0) (hi := 24009) (rs := []) (L := []) rfl (by decide) (j := j.toNat) (by omega)
  have hK_0_143 : ∀ j : Int, 0 ≤ j → j < 6000 → 0 ≤ w_ei ws (w_ar ws (n_v vs 0) 143) j ∧ w_ei ws (w_ar ws (n_v vs 0) 143) j ≤ 1 := fun j h0 h1 => th_el hD hth cr_0_143 (kd := 2) (n := 6000) (m := 6000) (lo := 0) (hi := 1) (rs := []) (L := []) rfl (by decide) (j := j.toNat) (by omega)
  have kz_0_146 : (-2147483648) ≤ w_fi ws (n_v vs 0) 146 ∧ w_fi ws (n_v vs 0) 146 ≤ 2147483647 := tv_rng (th_fd hD hth r0 (g := GG_150) rfl (k := 146) (t := (0, -2147483648, 2147483647, [])) rfl rfl)
  have kz_0_147 : (-2147483648) ≤ w_fi ws (n_v vs 0) 147 ∧ w_fi ws (n_v vs 0) 147 ≤ 2147483647 := tv_rng (th_fd hD hth r0 (g := GG_150) rfl (k := 147) (t := (0, -2147483648, 2147483647, [])) rfl rfl)
  have nf0 : fc_1 PRD (20, [0, 1, 25], [60, 2, 1, 424, 146, 147, 143]) ws (vs) := by
    refine ⟨fun n hn => ?_, ?_⟩
    · have hn : n ∈ [0, 1, 25] := hn
      rw [hl]
      simp only [List.mem_cons, List.not_mem_nil, or_false] at hn
      show n < 29; omega
    · show BFP (w_fi ws (n_v vs 0) 146) (w_fi ws (n_v vs 0) 147) (w_ei ws (w_ar ws (n_v vs 0) 143)) (v_iv (n_v vs 1)) (v_iv (n_v vs 25))
      exact vc_Mo_backFrom_6_0 (v_iv (n_v vs 1)) (v_iv (n_v vs 2)) (v_iv (n_v vs 3)) (v_iv (n_v vs 5)) (v_iv (n_v vs 7)) (v_iv (n_v vs 8)) (v_iv (n_v vs 9)) (v_iv (n_v vs 10)) (v_iv (n_v vs 11)) (v_iv (n_v vs 12)) (v_iv (n_v vs 13)) (v_iv (n_v vs 14)) (v_iv (n_v vs 16)) (v_iv (n_v vs 17)) (v_iv (n_v vs 20)) (v_iv (n_v vs 21)) (v_iv (n_v vs 22)) (v_iv (n_v vs 24)) (v_iv (n_v vs 25)) (v_iv (n_v vs 27)) (w_ei ws (w_ar ws (n_v vs 0) 143)) (w_fi ws (n_v vs 0) 146) (w_fi ws (n_v vs 0) 147) (w_ei ws (w_ar ws (n_v vs 0) 140)) (w_ei ws (w_ar ws (n_v vs 0) 141)) (w_ei ws (w_ar ws (n_v vs 0) 142)) k1 k2 k3 k5 k7 k8 k9 k10 k11 k12 k13 k14 k16 k17 k20 k21 k22 k24 k25 k27 d0 d1 d2 d3 d4 d5 d6 d7 d8 d9 d10 f0 h1 f3 f4 g5 f6 g7 f8 f9 f10 f11 f12 f13 f14 f15 f16 f17 f18 f19 f20 hK_0_140 hK_0_141 hK_0_142 hK_0_143 kz_0_146 kz_0_147
  have nf1 : fc_1 PRD (20, [7, 1], [50, 0, 0, 1, 2, 1, 0, 9, 2, 1, 1, 0, 4]) ws (vs) := by
    refine ⟨fun n hn => ?_, ?_⟩
    · have hn : n ∈ [7, 1] := hn
      rw [hl]
      simp only [List.mem_cons, List.not_mem_nil, or_false] at hn
      show n < 29; omega
    · show v_iv (n_v vs 7) = (v_iv (n_v vs 1) % 4)
      exact vc_Mo_backFrom_6_1 (v_iv (n_v vs 1)) (v_iv (n_v vs 2)) (v_iv (n_v vs 3)) (v_iv (n_v vs 5)) (v_iv (n_v vs 7)) (v_iv (n_v vs 8)) (v_iv (n_v vs 9)) (v_iv (n_v vs 10)) (v_iv (n_v vs 11)) (v_iv (n_v vs 12)) (v_iv (n_v vs 13)) (v_iv (n_v vs 14)) (v_iv (n_v vs 16)) (v_iv (n_v vs 17)) (v_iv (n_v vs 20)) (v_iv (n_v vs 21)) (v_iv (n_v vs 22)) (v_iv (n_v vs 24)) (v_iv (n_v vs 25)) (v_iv (n_v vs 27)) (w_ei ws (w_ar ws (n_v vs 0) 143)) (w_fi ws (n_v vs 0) 146) (w_fi ws (n_v vs 0) 147) (w_ei ws (w_ar ws (n_v vs 0) 140)) (w_ei ws (w_ar ws (n_v vs 0) 141)) (w_ei ws (w_ar ws (n_v vs 0) 142)) k1 k2 k3 k5 k7 k8 k9 k10 k11 k12 k13 k14 k16 k17 k20 k21 k22 k24 k25 k27 d0 d1 d2 d3 d4 d5 d6 d7 d8 d9 d10 f0 h1 f3 f4 g5 f6 g7 f8 f9 f10 f11 f12 f13 f14 f15 f16 f17 f18 f19 f20 hK_0_140 hK_0_141 hK_0_142 hK_0_143 kz_0_146 kz_0_147
  have nf2 : fc_1 PRD (20, [25, 0], [50, 2, 0, 1146, 1147, 2, 6, 0, 2, 0, 0, 1, 0, 0, 6, 4, 2, 1, 0, 0, 1, 6, 3, 2, 1, 146, 2, 1, 147]) ws (vs) := by
    refine ⟨fun n hn => ?_, ?_⟩
    · have hn : n ∈ [25, 0] := hn
      rw [hl]
      simp only [List.mem_cons, List.not_mem_nil, or_false] at hn
      show n < 29; omega
    · show (0 ≤ v_iv (n_v vs 25)) ∧ ((v_iv (n_v vs 25) + 1) ≤ (w_fi ws (n_v vs 0) 146 * w_fi ws (n_v vs 0) 147))
      exact vc_Mo_backFrom_6_2 (v_iv (n_v vs 1)) (v_iv (n_v vs 2)) (v_iv (n_v vs 3)) (v_iv (n_v vs 5)) (v_iv (n_v vs 7)) (v_iv (n_v vs 8)) (v_iv (n_v vs 9)) (v_iv (n_v vs 10)) (v_iv (n_v vs 11)) (v_iv (n_v vs 12)) (v_iv (n_v vs 13)) (v_iv (n_v vs 14)) (v_iv (n_v vs 16)) (v_iv (n_v vs 17)) (v_iv (n_v vs 20)) (v_iv (n_v vs 21)) (v_iv (n_v vs 22)) (v_iv (n_v vs 24)) (v_iv (n_v vs 25)) (v_iv (n_v vs 27)) (w_ei ws (w_ar ws (n_v vs 0) 143)) (w_fi ws (n_v vs 0) 146) (w_fi ws (n_v vs 0) 147) (w_ei ws (w_ar ws (n_v vs 0) 140)) (w_ei ws (w_ar ws (n_v vs 0) 141)) (w_ei ws (w_ar ws (n_v vs 0) 142)) k1 k2 k3 k5 k7 k8 k9 k10 k11 k12 k13 k14 k16 k17 k20 k21 k22 k24 k25 k27 d0 d1 d2 d3 d4 d5 d6 d7 d8 d9 d10 f0 h1 f3 f4 g5 f6 g7 f8 f9 f10 f11 f12 f13 f14 f15 f16 f17 f18 f19 f20 hK_0_140 hK_0_141 hK_0_142 hK_0_143 kz_0_146 kz_0_147
  have nf3 : fc_1 PRD (24, [0, 0], []) ws (vs) := by
    refine ⟨fun n hn => ?_, ?_⟩
    · have hn : n ∈ [0, 0] := hn
      rw [hl]
      simp only [List.mem_cons, List.not_mem_nil, or_false] at hn
      show n < 29; omega
    · show n_v vs 0 = n_v vs 0
      first | rfl | simp only [true_and]
  have nf4 : fc_1 PRD (24, [1, 1], []) ws (vs) := by
    refine ⟨fun n hn => ?_, ?_⟩
    · have hn : n ∈ [1, 1] := hn
      rw [hl]
      simp only [List.mem_cons, List.not_mem_nil, or_false] at hn
      show n < 29; omega
    · show n_v vs 1 = n_v vs 1
      first | rfl | simp only [true_and]
  have nf5 : fc_1 PRD (24, [2, 2], []) ws (vs) := by
    refine ⟨fun n hn => ?_, ?_⟩
    · have hn : n ∈ [2, 2] := hn
      rw [hl]
      simp only [List.mem_cons, List.not_mem_nil, or_false] at hn
      show n < 29; omega
    · show n_v vs 2 = n_v vs 2
      first | rfl | simp only [true_and]
  refine ⟨(fun _ h => (by cases h)), [], trivial, ?_, (fun _ h => (by cases h))⟩
  rw [List.append_nil]
  exact List.forall_mem_cons.mpr ⟨⟨show (20 : Nat) < 100 from by decide, nf0⟩, List.forall_mem_cons.mpr ⟨⟨show (20 : Nat) < 100 from by decide, nf1⟩, List.forall_mem_cons.mpr ⟨⟨show (20 : Nat) < 100 from by decide, nf2⟩, List.forall_mem_cons.mpr ⟨⟨show (24 : Nat) < 100 from by decide, nf3⟩, List.forall_mem_cons.mpr ⟨⟨show (24 : Nat) < 100 from by decide, nf4⟩, List.forall_mem_cons.mpr ⟨⟨show (24 : Nat) < 100 from by decide, nf5⟩, (fun _ h => (by cases h))⟩⟩⟩⟩⟩⟩
set_option maxHeartbeats 4000000 in
theorem vc_Mo_backFrom_7_r0 (x1 : Int) (x2 : Int) (x3 : Int) (x5 : Int) (x7 : Int) (x8 : Int) (x9 : Int) (x10 : Int) (x11 : Int) (x12 : Int) (x13 : Int) (x14 : Int) (x16 : Int) (x17 : Int) (x20 : Int) (tall_0 : Int) (wide_0 : Int) (barredPoint_0 : Int → Int) (costOf_0 : Int → Int) (bucket_0 : Int → Int) (bucketMany_0 : Int → Int) (k1 : 0 ≤ x1 ∧ x1 ≤ 23999) (k2 : 0 ≤ x2 ∧ x2 ≤ 1000000) (k3 : 0 ≤ x3 ∧ x3 ≤ 5999) (k5 : 0 ≤ x5 ∧ x5 ≤ 5999) (k7 : 1 ≤ x7 ∧ x7 ≤ 1) (k8 : 1 ≤ x8 ∧ x8 ≤ 6000) (k9 : 0 ≤ x9 ∧ x9 ≤ 5999) (k10 : 0 ≤ x10 ∧ x10 ≤ 0) (k11 : 0 ≤ x11 ∧ x11 ≤ 5999) (k12 : 0 ≤ x12 ∧ x12 ≤ 5999) (k13 : 1 ≤ x13 ∧ x13 ≤ 1) (k14 : (-1) ≤ x14 ∧ x14 ≤ 5998) (k16 : 1 ≤ x16 ∧ x16 ≤ 1) (k17 : 0 ≤ x17 ∧ x17 ≤ 5999) (k20 : (-2147483648) ≤ x20 ∧ x20 ≤ 2147483647) (d0 : x17 + (-4294967296) ≤ x11 ∧ x11 ≤ x17 + 0) (d1 : x8 + (-1) ≤ x17 ∧ x17 ≤ x8 + (-1)) (d2 : x12 + (-1) ≤ x14 ∧ x14 ≤ x12 + (-1)) (d3 : x9 + 0 ≤ x11 ∧ x11 ≤ x9 + 0) (d4 : x8 + (-4294967295) ≤ x11 ∧ x11 ≤ x8 + (-1)) (d5 : x8 + (-4294967295) ≤ x9 ∧ x9 ≤ x8 + (-1)) (g0 : x20 = tall_0) (f1 : x17 = x8 - x16) (g2 : x8 = wide_0) (f3 : x14 = x12 - x13) (f4 : ((x7 = 1) ∧ (x13 = 1)) ∨ (((x7 = 3) ∧ (x13 = (-1))) ∨ ((x7 ≠ 1) ∧ ((x7 ≠ 3) ∧ (x13 = 0))))) (f5 : x12 = Int.tdiv (x5) (x8)) (f6 : x11 = x9 - x10) (f7 : ((x7 = 0) ∧ (x10 = 1)) ∨ (((x7 = 2) ∧ (x10 = (-1))) ∨ ((x7 ≠ 0) ∧ ((x7 ≠ 2) ∧ (x10 = 0))))) (f8 : x9 = Int.tmod (x5) (x8)) (f9 : x7 = x1 % 4) (f10 : x5 = x1 / 4) (f11 : RTQ (wide_0) (tall_0) (barredPoint_0) (costOf_0) (bucket_0) (bucketMany_0) (x3) (x2)) (f12 : PIV (costOf_0) (x1) (x2)) (f13 : (0 ≤ x1) ∧ ((x1 + 1) ≤ (4 * (wide_0 * tall_0)))) (f14 : (0 ≤ x2) ∧ (x2 ≤ 999999)) (hK_0_140 : ∀ j : Int, 0 ≤ j → j < 24000 → 0 ≤ costOf_0 j ∧ costOf_0 j ≤ 1000000) (hK_0_141 : ∀ j : Int, 0 ≤ j → j < 96040 → 0 ≤ bucket_0 j ∧ bucket_0 j ≤ 23999) (hK_0_142 : ∀ j : Int, 0 ≤ j → j < 4 → 0 ≤ bucketMany_0 j ∧ bucketMany_0 j ≤ 24009) (hK_0_143 : ∀ j : Int, 0 ≤ j → j < 6000 → 0 ≤ barredPoint_0 j ∧ barredPoint_0 j ≤ 1) (kz_0_146 : (-2147483648) ≤ wide_0 ∧ wide_0 ≤ 2147483647) (kz_0_147 : (-2147483648) ≤ tall_0 ∧ tall_0 ≤ 2147483647) : 1 ≤ x20 ∧ x20 ≤ 6000 := by
  first
    | omega
    | (have g := gok_bd (show GRX wide_0 tall_0 from ‹RTQ _ _ _ _ _ _ _ _›.1); omega)
    | (have g0 : GRX wide_0 tall_0 := ‹RTQ _ _ _ _ _ _ _ _›.1
       have g := gok_bd g0
       have e8 : x8 = wide_0 := by assumption
       have e20 : x20 = tall_0 := by assumption
       have c := cell_ix (W := x8) (T := x20) (x := x11) (y := x14) (p := x25) (by omega) (by omega) (by omega) (by omega) (by omega) (by rw [‹x25 = x24 + x11›, ‹x24 = x14 * x8›])
       have g3 := g0.2.2
       rw [e8, e20] at c
       omega)
    | (have h := ‹BFP _ _ _ _ _›.2.2.1; omega)
    | sorry
def o_Mo_backFrom_7 : or_T := (60, 22, [(0, (2, 0, 0, [150])), (1, (0, 0, 23999, [])), (2, (0, 0, 1000000, [])), (3, (0, 0, 5999, [])), (5, (0, 0, 5999, [])), (7, (0, 1, 1, [])), (8, (0, 1, 6000, [])), (9, (0, 0, 5999, [])), (10, (0, 0, 0, [])), (11, (0, 0, 5999, [])), (12, (0, 0, 5999, [])), (13, (0, 1, 1, [])), (14, (0, -1, 5998, [])), (16, (0, 1, 1, [])), (17, (0, 0, 5999, [])), (20, (0, -2147483648, 2147483647, []))], [(9, [20, 0], [147]), (2, [17, 8, 16], []), (9, [8, 0], [146]), (2, [14, 12, 13], []), (20, [7, 13], [50, 0, 0, 3, 14, 2, 6, 1, 2, 1, 0, 0, 1, 1, 2, 1, 1, 0, 1, 3, 14, 2, 6, 1, 2, 1, 0, 0, 3, 1, 2, 1, 1, 0, -1, 2, 6, 7, 2, 1, 0, 0, 1, 2, 6, 7, 2, 1, 0, 0, 3, 1, 2, 1, 1, 0, 0]), (4, [12, 5, 8], []), (2, [11, 9, 10], []), (20, [7, 10], [50, 0, 0, 3, 14, 2, 6, 1, 2, 1, 0, 0, 0, 1, 2, 1, 1, 0, 1, 3, 14, 2, 6, 1, 2, 1, 0, 0, 2, 1, 2, 1, 1, 0, -1, 2, 6, 7, 2, 1, 0, 0, 0, 2, 6, 7, 2, 1, 0, 0, 2, 1, 2, 1, 1, 0, 0]), (5, [9, 5, 8], []), (12, [7, 1], [4]), (11, [5, 1], [4]), (20, [0, 3, 2], [60, 2, 4, 419, 146, 147, 143, 140, 141, 142]), (20, [0, 1, 2], [60, 0, 1, 421, 140]), (20, [1, 0], [50, 2, 0, 1146, 1147, 2, 6, 0, 2, 0, 0, 1, 0, 0, 6, 4, 2, 1, 0, 0, 1, 6, 2, 0, 4, 6, 3, 2, 1, 146, 2, 1, 147]), (20, [2], [50, 0, 0, 2, 6, 0, 2, 0, 0, 1, 0, 0, 2, 1, 0, 0, 999999])], [(20, (0, 1, 6000, []))], [], [], [], [(11, 17, -4294967296, 0), (17, 8, -1, -1), (14, 12, -1, -1), (11, 9, 0, 0), (11, 8, -4294967295, -1), (9, 8, -4294967295, -1)])
theorem oo_Mo_backFrom_7 {kA : Nat → ClassId} : or_ok PRD kA GG o_Mo_backFrom_7 := by
  intro A ta ws vs hD hth hl hk hds hf
  have hl : vs.length = 22 := hl
  have hk : ∀ q ∈ ([(0, (2, 0, 0, [150])), (1, (0, 0, 23999, [])), (2, (0, 0, 1000000, [])), (3, (0, 0, 5999, [])), (5, (0, 0, 5999, [])), (7, (0, 1, 1, [])), (8, (0, 1, 6000, [])), (9, (0, 0, 5999, [])), (10, (0, 0, 0, [])), (11, (0, 0, 5999, [])), (12, (0, 0, 5999, [])), (13, (0, 1, 1, [])), (14, (0, -1, 5998, [])), (16, (0, 1, 1, [])), (17, (0, 0, 5999, [])), (20, (0, -2147483648, 2147483647, []))] : List (Nat × tv_T)), tv_ok ta q.2 (n_v vs q.1) := hk
  obtain ⟨t0, hk⟩ := List.forall_mem_cons.mp hk
  have t0 : tv_ok ta (2, 0, 0, [150]) (n_v vs 0) := t0
  have r0 : ta (v_ad (n_v vs 0)) = some 150 := tv_rg t0
  obtain ⟨t1, hk⟩ := List.forall_mem_cons.mp hk
  have t1 : tv_ok ta (0, 0, 23999, []) (n_v vs 1) := t1
  have k1 : 0 ≤ v_iv (n_v vs 1) ∧ v_iv (n_v vs 1) ≤ 23999 := tv_rng t1
  obtain ⟨t2, hk⟩ := List.forall_mem_cons.mp hk
  have t2 : tv_ok ta (0, 0, 1000000, []) (n_v vs 2) := t2
  have k2 : 0 ≤ v_iv (n_v vs 2) ∧ v_iv (n_v vs 2) ≤ 1000000 := tv_rng t2
  obtain ⟨t3, hk⟩ := List.forall_mem_cons.mp hk
  have t3 : tv_ok ta (0, 0, 5999, []) (n_v vs 3) := t3
  have k3 : 0 ≤ v_iv (n_v vs 3) ∧ v_iv (n_v vs 3) ≤ 5999 := tv_rng t3
  obtain ⟨t5, hk⟩ := List.forall_mem_cons.mp hk
  have t5 : tv_ok ta (0, 0, 5999, []) (n_v vs 5) := t5
  have k5 : 0 ≤ v_iv (n_v vs 5) ∧ v_iv (n_v vs 5) ≤ 5999 := tv_rng t5
  obtain ⟨t7, hk⟩ := List.forall_mem_cons.mp hk
  have t7 : tv_ok ta (0, 1, 1, []) (n_v vs 7) := t7
  have k7 : 1 ≤ v_iv (n_v vs 7) ∧ v_iv (n_v vs 7) ≤ 1 := tv_rng t7
  obtain ⟨t8, hk⟩ := List.forall_mem_cons.mp hk
  have t8 : tv_ok ta (0, 1, 6000, []) (n_v vs 8) := t8
  have k8 : 1 ≤ v_iv (n_v vs 8) ∧ v_iv (n_v vs 8) ≤ 6000 := tv_rng t8
  obtain ⟨t9, hk⟩ := List.forall_mem_cons.mp hk
  have t9 : tv_ok ta (0, 0, 5999, []) (n_v vs 9) := t9
  have k9 : 0 ≤ v_iv (n_v vs 9) ∧ v_iv (n_v vs 9) ≤ 5999 := tv_rng t9
  obtain ⟨t10, hk⟩ := List.forall_mem_cons.mp hk
  have t10 : tv_ok ta (0, 0, 0, []) (n_v vs 10) := t10
  have k10 : 0 ≤ v_iv (n_v vs 10) ∧ v_iv (n_v vs 10) ≤ 0 := tv_rng t10
  obtain ⟨t11, hk⟩ := List.forall_mem_cons.mp hk
  have t11 : tv_ok ta (0, 0, 5999, []) (n_v vs 11) := t11
  have k11 : 0 ≤ v_iv (n_v vs 11) ∧ v_iv (n_v vs 11) ≤ 5999 := tv_rng t11
  obtain ⟨t12, hk⟩ := List.forall_mem_cons.mp hk
  have t12 : tv_ok ta (0, 0, 5999, []) (n_v vs 12) := t12
  have k12 : 0 ≤ v_iv (n_v vs 12) ∧ v_iv (n_v vs 12) ≤ 5999 := tv_rng t12
  obtain ⟨t13, hk⟩ := List.forall_mem_cons.mp hk
  have t13 : tv_ok ta (0, 1, 1, []) (n_v vs 13) := t13
  have k13 : 1 ≤ v_iv (n_v vs 13) ∧ v_iv (n_v vs 13) ≤ 1 := tv_rng t13
  obtain ⟨t14, hk⟩ := List.forall_mem_cons.mp hk
  have t14 : tv_ok ta (0, -1, 5998, []) (n_v vs 14) := t14
  have k14 : (-1) ≤ v_iv (n_v vs 14) ∧ v_iv (n_v vs 14) ≤ 5998 := tv_rng t14
  obtain ⟨t16, hk⟩ := List.forall_mem_cons.mp hk
  have t16 : tv_ok ta (0, 1, 1, []) (n_v vs 16) := t16
  have k16 : 1 ≤ v_iv (n_v vs 16) ∧ v_iv (n_v vs 16) ≤ 1 := tv_rng t16
  obtain ⟨t17, hk⟩ := List.forall_mem_cons.mp hk
  have t17 : tv_ok ta (0, 0, 5999, []) (n_v vs 17) := t17
  have k17 : 0 ≤ v_iv (n_v vs 17) ∧ v_iv (n_v vs 17) ≤ 5999 := tv_rng t17
  obtain ⟨t20, hk⟩ := List.forall_mem_cons.mp hk
  have t20 : tv_ok ta (0, -2147483648, 2147483647, []) (n_v vs 20) := t20
  have k20 : (-2147483648) ≤ v_iv (n_v vs 20) ∧ v_iv (n_v vs 20) ≤ 2147483647 := tv_rng t20
  have hds : ∀ q ∈ ([(11, 17, -4294967296, 0), (17, 8, -1, -1), (14, 12, -1, -1), (11, 9, 0, 0), (11, 8, -4294967295, -1), (9, 8, -4294967295, -1)] : List of_T), n_iv vs q.2.1 + q.2.2.1 ≤ n_iv vs q.1 ∧ n_iv vs q.1 ≤ n_iv vs q.2.1 + q.2.2.2 := hds
  obtain ⟨d0, hds⟩ := List.forall_mem_cons.mp hds
  have d0 : v_iv (n_v vs 17) + (-4294967296) ≤ v_iv (n_v vs 11) ∧ v_iv (n_v vs 11) ≤ v_iv (n_v vs 17) + 0 := d0
  obtain ⟨d1, hds⟩ := List.forall_mem_cons.mp hds
  have d1 : v_iv (n_v vs 8) + (-1) ≤ v_iv (n_v vs 17) ∧ v_iv (n_v vs 17) ≤ v_iv (n_v vs 8) + (-1) := d1
  obtain ⟨d2, hds⟩ := List.forall_mem_cons.mp hds
  have d2 : v_iv (n_v vs 12) + (-1) ≤ v_iv (n_v vs 14) ∧ v_iv (n_v vs 14) ≤ v_iv (n_v vs 12) + (-1) := d2
  obtain ⟨d3, hds⟩ := List.forall_mem_cons.mp hds
  have d3 : v_iv (n_v vs 9) + 0 ≤ v_iv (n_v vs 11) ∧ v_iv (n_v vs 11) ≤ v_iv (n_v vs 9) + 0 := d3
  obtain ⟨d4, hds⟩ := List.forall_mem_cons.mp hds
  have d4 : v_iv (n_v vs 8) + (-4294967295) ≤ v_iv (n_v vs 11) ∧ v_iv (n_v vs 11) ≤ v_iv (n_v vs 8) + (-1) := d4
  obtain ⟨d5, hds⟩ := List.forall_mem_cons.mp hds
  have d5 : v_iv (n_v vs 8) + (-4294967295) ≤ v_iv (n_v vs 9) ∧ v_iv (n_v vs 9) ≤ v_iv (n_v vs 8) + (-1) := d5
  have hf : fc_ok PRD [(9, [20, 0], [147]), (2, [17, 8, 16], []), (9, [8, 0], [146]), (2, [14, 12, 13], []), (20, [7, 13], [50, 0, 0, 3, 14, 2, 6, 1, 2, 1, 0, 0, 1, 1, 2, 1, 1, 0, 1, 3, 14, 2, 6, 1, 2, 1, 0, 0, 3, 1, 2, 1, 1, 0, -1, 2, 6, 7, 2, 1, 0, 0, 1, 2, 6, 7, 2, 1, 0, 0, 3, 1, 2, 1, 1, 0, 0]), (4, [12, 5, 8], []), (2, [11, 9, 10], []), (20, [7, 10], [50, 0, 0, 3, 14, 2, 6, 1, 2, 1, 0, 0, 0, 1, 2, 1, 1, 0, 1, 3, 14, 2, 6, 1, 2, 1, 0, 0, 2, 1, 2, 1, 1, 0, -1, 2, 6, 7, 2, 1, 0, 0, 0, 2, 6, 7, 2, 1, 0, 0, 2, 1, 2, 1, 1, 0, 0]), (5, [9, 5, 8], []), (12, [7, 1], [4]), (11, [5, 1], [4]), (20, [0, 3, 2], [60, 2, 4, 419, 146, 147, 143, 140, 141, 142]), (20, [0, 1, 2], [60, 0, 1, 421, 140]), (20, [1, 0], [50, 2, 0, 1146, 1147, 2, 6, 0, 2, 0, 0, 1, 0, 0, 6, 4, 2, 1, 0, 0, 1, 6, 2, 0, 4, 6, 3, 2, 1, 146, 2, 1, 147]), (20, [2], [50, 0, 0, 2, 6, 0, 2, 0, 0, 1, 0, 0, 2, 1, 0, 0, 999999])] ta ws vs := hf
  obtain ⟨f0, hf⟩ := fc_un (show (9 : Nat) < 100 from by decide) hf
  have f0 : n_v vs 20 = w_fd ws (v_ad (n_v vs 0)) 147 := f0
  obtain ⟨f1, hf⟩ := fc_un (show (2 : Nat) < 100 from by decide) hf
  have f1 : v_iv (n_v vs 17) = v_iv (n_v vs 8) - v_iv (n_v vs 16) := f1
  obtain ⟨f2, hf⟩ := fc_un (show (9 : Nat) < 100 from by decide) hf
  have f2 : n_v vs 8 = w_fd ws (v_ad (n_v vs 0)) 146 := f2
  obtain ⟨f3, hf⟩ := fc_un (show (2 : Nat) < 100 from by decide) hf
  have f3 : v_iv (n_v vs 14) = v_iv (n_v vs 12) - v_iv (n_v vs 13) := f3
  obtain ⟨f4, hf⟩ := fc_un (show (20 : Nat) < 100 from by decide) hf
  have f4 : ((v_iv (n_v vs 7) = 1) ∧ (v_iv (n_v vs 13) = 1)) ∨ (((v_iv (n_v vs 7) = 3) ∧ (v_iv (n_v vs 13) = (-1))) ∨ ((v_iv (n_v vs 7) ≠ 1) ∧ ((v_iv (n_v vs 7) ≠ 3) ∧ (v_iv (n_v vs 13) = 0)))) := f4
  obtain ⟨f5, hf⟩ := fc_un (show (4 : Nat) < 100 from by decide) hf
  have f5 : v_iv (n_v vs 12) = Int.tdiv (v_iv (n_v vs 5)) (v_iv (n_v vs 8)) := f5
  have fq5 : 10 ≤ v_iv (n_v vs 12) → 10 * v_iv (n_v vs 8) ≤ v_iv (n_v vs 5) := dv_ten f5 (by omega) (by omega)
  obtain ⟨f6, hf⟩ := fc_un (show (2 : Nat) < 100 from by decide) hf
  have f6 : v_iv (n_v vs 11) = v_iv (n_v vs 9) - v_iv (n_v vs 10) := f6
  obtain ⟨f7, hf⟩ := fc_un (show (20 : Nat) < 100 from by decide) hf
  have f7 : ((v_iv (n_v vs 7) = 0) ∧ (v_iv (n_v vs 10) = 1)) ∨ (((v_iv (n_v vs 7) = 2) ∧ (v_iv (n_v vs 10) = (-1))) ∨ ((v_iv (n_v vs 7) ≠ 0) ∧ ((v_iv (n_v vs 7) ≠ 2) ∧ (v_iv (n_v vs 10) = 0)))) := f7
  obtain ⟨f8, hf⟩ := fc_un (show (5 : Nat) < 100 from by decide) hf
  have f8 : v_iv (n_v vs 9) = Int.tmod (v_iv (n_v vs 5)) (v_iv (n_v vs 8)) := f8
  obtain ⟨f9, hf⟩ := fc_un (show (12 : Nat) < 100 from by decide) hf
  have f9 : v_iv (n_v vs 7) = v_iv (n_v vs 1) % 4 := f9
  obtain ⟨f10, hf⟩ := fc_un (show (11 : Nat) < 100 from by decide) hf
  have f10 : v_iv (n_v vs 5) = v_iv (n_v vs 1) / 4 := f10
  obtain ⟨f11, hf⟩ := fc_un (show (20 : Nat) < 100 from by decide) hf
  have f11 : RTQ (w_fi ws (n_v vs 0) 146) (w_fi ws (n_v vs 0) 147) (w_ei ws (w_ar ws (n_v vs 0) 143)) (w_ei ws (w_ar ws (n_v vs 0) 140)) (w_ei ws (w_ar ws (n_v vs 0) 141)) (w_ei ws (w_ar ws (n_v vs 0) 142)) (v_iv (n_v vs 3)) (v_iv (n_v vs 2)) := f11
  obtain ⟨f12, hf⟩ := fc_un (show (20 : Nat) < 100 from by decide) hf
  have f12 : PIV (w_ei ws (w_ar ws (n_v vs 0) 140)) (v_iv (n_v vs 1)) (v_iv (n_v vs 2)) := f12
  obtain ⟨f13, hf⟩ := fc_un (show (20 : Nat) < 100 from by decide) hf
  have f13 : (0 ≤ v_iv (n_v vs 1)) ∧ ((v_iv (n_v vs 1) + 1) ≤ (4 * (w_fi ws (n_v vs 0) 146 * w_fi ws (n_v vs 0) 147))) := f13
  obtain ⟨f14, hf⟩ := fc_un (show (20 : Nat) < 100 from by decide) hf
  have f14 : (0 ≤ v_iv (n_v vs 2)) ∧ (v_iv (n_v vs 2) ≤ 999999) := f14
  have cr_0_140 : ta (w_ar ws (n_v vs 0) 140) = some 251 := tv_rg (th_fd hD hth r0 (g := GG_150) rfl (k := 140) (t := (2, 0, 0, [251])) rfl rfl)
  have cr_0_141 : ta (w_ar ws (n_v vs 0) 141) = some 252 := tv_rg (th_fd hD hth r0 (g := GG_150) rfl (k := 141) (t := (2, 0, 0, [252])) rfl rfl)
  have cr_0_142 : ta (w_ar ws (n_v vs 0) 142) = some 253 := tv_rg (th_fd hD hth r0 (g := GG_150) rfl (k := 142) (t := (2, 0, 0, [253])) rfl rfl)
  have cr_0_143 : ta (w_ar ws (n_v vs 0) 143) = some 254 := tv_rg (th_fd hD hth r0 (g := GG_150) rfl (k := 143) (t := (2, 0, 0, [254])) rfl rfl)
  have g0 : v_iv (n_v vs 20) = w_fi ws (n_v vs 0) 147 := congrArg v_iv f0
  have g2 : v_iv (n_v vs 8) = w_fi ws (n_v vs 0) 146 := congrArg v_iv f2
  have hK_0_140 : ∀ j : Int, 0 ≤ j → j < 24000 → 0 ≤ w_ei ws (w_ar ws (n_v vs 0) 140) j ∧ w_ei ws (w_ar ws (n_v vs 0) 140) j ≤ 1000000 := fun j h0 h1 => th_el hD hth cr_0_140 (kd := 0) (n := 24000) (m := 24000) (lo := 0) (hi := 1000000) (rs := []) (L := []) rfl (by decide) (j := j.toNat) (by omega)
  have hK_0_141 : ∀ j : Int, 0 ≤ j → j < 96040 → 0 ≤ w_ei ws (w_ar ws (n_v vs 0) 141) j ∧ w_ei ws (w_ar ws (n_v vs 0) 141) j ≤ 23999 := fun j h0 h1 => th_el hD hth cr_0_141 (kd := 0) (n := 96040) (m := 96040) (lo := 0) (hi := 23999) (rs := []) (L := []) rfl (by decide) (j := j.toNat) (by omega)
  have hK_0_142 : ∀ j : Int, 0 ≤ j → j < 4 → 0 ≤ w_ei ws (w_ar ws (n_v vs 0) 142) j ∧ w_ei ws (w_ar ws (n_v vs 0) 142) j ≤ 24009 := fun j h0 h1 => th_el hD hth cr_0_142 (kd := 0) (n := 4) (m := 4) (lo := 0) (hi := 24009) (rs := []) (L := []) rfl (by decide) (j := j.toNat) (by omega)
  have hK_0_143 : ∀ j : Int, 0 ≤ j → j < 6000 → 0 ≤ w_ei ws (w_ar ws (n_v vs 0) 143) j ∧ w_ei ws (w_ar ws (n_v vs 0) 143) j ≤ 1 := fun j h0 h1 => th_el hD hth cr_0_143 (kd := 2) (n := 6000) (m := 6000) (lo := 0) (hi := 1) (rs := []) (L := []) rfl (by decide) (j := j.toNat) (by omega)
  have kz_0_146 : (-2147483648) ≤ w_fi ws (n_v vs 0) 146 ∧ w_fi ws (n_v vs 0) 146 ≤ 2147483647 := tv_rng (th_fd hD hth r0 (g := GG_150) rfl (k := 146) (t := (0, -2147483648, 2147483647, [])) rfl rfl)
  have kz_0_147 : (-2147483648) ≤ w_fi ws (n_v vs 0) 147 ∧ w_fi ws (n_v vs 0) 147 ≤ 2147483647 := tv_rng (th_fd hD hth r0 (g := GG_150) rfl (k := 147) (t := (0, -2147483648, 2147483647, [])) rfl rfl)
  have hrf0 : 1 ≤ v_iv (n_v vs 20) ∧ v_iv (n_v vs 20) ≤ 6000 := vc_Mo_backFrom_7_r0 (v_iv (n_v vs 1)) (v_iv (n_v vs 2)) (v_iv (n_v vs 3)) (v_iv (n_v vs 5)) (v_iv (n_v vs 7)) (v_iv (n_v vs 8)) (v_iv (n_v vs 9)) (v_iv (n_v vs 10)) (v_iv (n_v vs 11)) (v_iv (n_v vs 12)) (v_iv (n_v vs 13)) (v_iv (n_v vs 14)) (v_iv (n_v vs 16)) (v_iv (n_v vs 17)) (v_iv (n_v vs 20)) (w_fi ws (n_v vs 0) 147) (w_fi ws (n_v vs 0) 146) (w_ei ws (w_ar ws (n_v vs 0) 143)) (w_ei ws (w_ar ws (n_v vs 0) 140)) (w_ei ws (w_ar ws (n_v vs 0) 141)) (w_ei ws (w_ar ws (n_v vs 0) 142)) k1 k2 k3 k5 k7 k8 k9 k10 k11 k12 k13 k14 k16 k17 k20 d0 d1 d2 d3 d4 d5 g0 f1 g2 f3 f4 f5 f6 f7 f8 f9 f10 f11 f12 f13 f14 hK_0_140 hK_0_141 hK_0_142 hK_0_143 kz_0_146 kz_0_147
  have rf20 : tv_ok ta (0, 1, 6000, []) (n_v vs 20) := tv_in t20 (by first | omega | grind) (by first | omega | grind)
  refine ⟨List.forall_mem_cons.mpr ⟨rf20, (fun _ h => (by cases h))⟩, [], trivial, ?_, (fun _ h => (by cases h))⟩
  rw [List.append_nil]
  exact (fun _ h => (by cases h))
set_option maxHeartbeats 4000000 in
theorem vc_Mo_backFrom_8_r0 (x1 : Int) (x2 : Int) (x3 : Int) (x5 : Int) (x7 : Int) (x8 : Int) (x9 : Int) (x10 : Int) (x11 : Int) (x12 : Int) (x13 : Int) (x14 : Int) (x16 : Int) (x17 : Int) (x20 : Int) (x21 : Int) (x22 : Int) (x24 : Int) (x25 : Int) (wide_0 : Int) (tall_0 : Int) (barredPoint_0 : Int → Int) (costOf_0 : Int → Int) (bucket_0 : Int → Int) (bucketMany_0 : Int → Int) (k1 : 0 ≤ x1 ∧ x1 ≤ 23999) (k2 : 0 ≤ x2 ∧ x2 ≤ 1000000) (k3 : 0 ≤ x3 ∧ x3 ≤ 5999) (k5 : 0 ≤ x5 ∧ x5 ≤ 5999) (k7 : 1 ≤ x7 ∧ x7 ≤ 1) (k8 : 1 ≤ x8 ∧ x8 ≤ 6000) (k9 : 0 ≤ x9 ∧ x9 ≤ 5999) (k10 : 0 ≤ x10 ∧ x10 ≤ 0) (k11 : 0 ≤ x11 ∧ x11 ≤ 5999) (k12 : 0 ≤ x12 ∧ x12 ≤ 5999) (k13 : 1 ≤ x13 ∧ x13 ≤ 1) (k14 : 0 ≤ x14 ∧ x14 ≤ 5998) (k16 : 1 ≤ x16 ∧ x16 ≤ 1) (k17 : 0 ≤ x17 ∧ x17 ≤ 5999) (k20 : 1 ≤ x20 ∧ x20 ≤ 6000) (k21 : 1 ≤ x21 ∧ x21 ≤ 1) (k22 : 0 ≤ x22 ∧ x22 ≤ 5999) (k24 : 0 ≤ x24 ∧ x24 ≤ 35988000) (k25 : 0 ≤ x25 ∧ x25 ≤ 35993999) (d0 : x11 + 0 ≤ x25 ∧ x25 ≤ x11 + 35988000) (d1 : x17 + (-4294967296) ≤ x25 ∧ x25 ≤ x17 + 35988000) (d2 : x9 + 0 ≤ x25 ∧ x25 ≤ x9 + 35988000) (d3 : x8 + (-4294967295) ≤ x25 ∧ x25 ≤ x8 + 35987999) (d4 : x24 + 0 ≤ x25 ∧ x25 ≤ x24 + 5999) (d5 : x22 + (-4294967296) ≤ x14 ∧ x14 ≤ x22 + 0) (d6 : x20 + (-1) ≤ x22 ∧ x22 ≤ x20 + (-1)) (d7 : x17 + (-4294967296) ≤ x11 ∧ x11 ≤ x17 + 0) (d8 : x8 + (-1) ≤ x17 ∧ x17 ≤ x8 + (-1)) (d9 : x12 + (-1) ≤ x14 ∧ x14 ≤ x12 + (-1)) (d10 : x9 + 0 ≤ x11 ∧ x11 ≤ x9 + 0) (d11 : x8 + (-4294967295) ≤ x11 ∧ x11 ≤ x8 + (-1)) (d12 : x8 + (-4294967295) ≤ x9 ∧ x9 ≤ x8 + (-1)) (f1 : x25 = x24 + x11) (f2 : x24 = x14 * x8) (g3 : x8 = wide_0) (f4 : x22 = x20 - x21) (g5 : x20 = tall_0) (f6 : x17 = x8 - x16) (f7 : x14 = x12 - x13) (f8 : ((x7 = 1) ∧ (x13 = 1)) ∨ (((x7 = 3) ∧ (x13 = (-1))) ∨ ((x7 ≠ 1) ∧ ((x7 ≠ 3) ∧ (x13 = 0))))) (f9 : x12 = Int.tdiv (x5) (x8)) (f10 : x11 = x9 - x10) (f11 : ((x7 = 0) ∧ (x10 = 1)) ∨ (((x7 = 2) ∧ (x10 = (-1))) ∨ ((x7 ≠ 0) ∧ ((x7 ≠ 2) ∧ (x10 = 0))))) (f12 : x9 = Int.tmod (x5) (x8)) (f13 : x7 = x1 % 4) (f14 : x5 = x1 / 4) (f15 : RTQ (wide_0) (tall_0) (barredPoint_0) (costOf_0) (bucket_0) (bucketMany_0) (x3) (x2)) (f16 : PIV (costOf_0) (x1) (x2)) (f17 : (0 ≤ x1) ∧ ((x1 + 1) ≤ (4 * (wide_0 * tall_0)))) (f18 : (0 ≤ x2) ∧ (x2 ≤ 999999)) (hK_0_140 : ∀ j : Int, 0 ≤ j → j < 24000 → 0 ≤ costOf_0 j ∧ costOf_0 j ≤ 1000000) (hK_0_141 : ∀ j : Int, 0 ≤ j → j < 96040 → 0 ≤ bucket_0 j ∧ bucket_0 j ≤ 23999) (hK_0_142 : ∀ j : Int, 0 ≤ j → j < 4 → 0 ≤ bucketMany_0 j ∧ bucketMany_0 j ≤ 24009) (hK_0_143 : ∀ j : Int, 0 ≤ j → j < 6000 → 0 ≤ barredPoint_0 j ∧ barredPoint_0 j ≤ 1) (kz_0_146 : (-2147483648) ≤ wide_0 ∧ wide_0 ≤ 2147483647) (kz_0_147 : (-2147483648) ≤ tall_0 ∧ tall_0 ≤ 2147483647) : 0 ≤ x25 ∧ x25 ≤ 5999 := by
  first
    | omega
    | (have g := gok_bd (show GRX wide_0 tall_0 from ‹RTQ _ _ _ _ _ _ _ _›.1); omega)
    | (have g0 : GRX wide_0 tall_0 := ‹RTQ _ _ _ _ _ _ _ _›.1
       have g := gok_bd g0
       have e8 : x8 = wide_0 := by assumption
       have e20 : x20 = tall_0 := by assumption
       have c := cell_ix (W := x8) (T := x20) (x := x11) (y := x14) (p := x25) (by omega) (by omega) (by omega) (by omega) (by omega) (by rw [‹x25 = x24 + x11›, ‹x24 = x14 * x8›])
       have g3 := g0.2.2
       rw [e8, e20] at c
       omega)
    | (have h := ‹BFP _ _ _ _ _›.2.2.1; omega)
    | sorry
def o_Mo_backFrom_8 : or_T := (86, 27, [(0, (2, 0, 0, [150])), (1, (0, 0, 23999, [])), (2, (0, 0, 1000000, [])), (3, (0, 0, 5999, [])), (5, (0, 0, 5999, [])), (7, (0, 1, 1, [])), (8, (0, 1, 6000, [])), (9, (0, 0, 5999, [])), (10, (0, 0, 0, [])), (11, (0, 0, 5999, [])), (12, (0, 0, 5999, [])), (13, (0, 1, 1, [])), (14, (0, 0, 5998, [])), (16, (0, 1, 1, [])), (17, (0, 0, 5999, [])), (20, (0, 1, 6000, [])), (21, (0, 1, 1, [])), (22, (0, 0, 5999, [])), (24, (0, 0, 35988000, [])), (25, (0, 0, 35993999, [])), (26, (2, 0, 0, [254]))], [(9, [26, 0], [143]), (1, [25, 24, 11], []), (3, [24, 14, 8], []), (9, [8, 0], [146]), (2, [22, 20, 21], []), (9, [20, 0], [147]), (2, [17, 8, 16], []), (2, [14, 12, 13], []), (20, [7, 13], [50, 0, 0, 3, 14, 2, 6, 1, 2, 1, 0, 0, 1, 1, 2, 1, 1, 0, 1, 3, 14, 2, 6, 1, 2, 1, 0, 0, 3, 1, 2, 1, 1, 0, -1, 2, 6, 7, 2, 1, 0, 0, 1, 2, 6, 7, 2, 1, 0, 0, 3, 1, 2, 1, 1, 0, 0]), (4, [12, 5, 8], []), (2, [11, 9, 10], []), (20, [7, 10], [50, 0, 0, 3, 14, 2, 6, 1, 2, 1, 0, 0, 0, 1, 2, 1, 1, 0, 1, 3, 14, 2, 6, 1, 2, 1, 0, 0, 2, 1, 2, 1, 1, 0, -1, 2, 6, 7, 2, 1, 0, 0, 0, 2, 6, 7, 2, 1, 0, 0, 2, 1, 2, 1, 1, 0, 0]), (5, [9, 5, 8], []), (12, [7, 1], [4]), (11, [5, 1], [4]), (20, [0, 3, 2], [60, 2, 4, 419, 146, 147, 143, 140, 141, 142]), (20, [0, 1, 2], [60, 0, 1, 421, 140]), (20, [1, 0], [50, 2, 0, 1146, 1147, 2, 6, 0, 2, 0, 0, 1, 0, 0, 6, 4, 2, 1, 0, 0, 1, 6, 2, 0, 4, 6, 3, 2, 1, 146, 2, 1, 147]), (20, [2], [50, 0, 0, 2, 6, 0, 2, 0, 0, 1, 0, 0, 2, 1, 0, 0, 999999])], [(25, (0, 0, 5999, []))], [], [], [], [(25, 11, 0, 35988000), (25, 17, -4294967296, 35988000), (25, 9, 0, 35988000), (25, 8, -4294967295, 35987999), (25, 24, 0, 5999), (14, 22, -4294967296, 0), (22, 20, -1, -1), (11, 17, -4294967296, 0), (17, 8, -1, -1), (14, 12, -1, -1), (11, 9, 0, 0), (11, 8, -4294967295, -1), (9, 8, -4294967295, -1)])
theorem oo_Mo_backFrom_8 {kA : Nat → ClassId} : or_ok PRD kA GG o_Mo_backFrom_8 := by
  intro A ta ws vs hD hth hl hk hds hf
  have hl : vs.length = 27 := hl
  have hk : ∀ q ∈ ([(0, (2, 0, 0, [150])), (1, (0, 0, 23999, [])), (2, (0, 0, 1000000, [])), (3, (0, 0, 5999, [])), (5, (0, 0, 5999, [])), (7, (0, 1, 1, [])), (8, (0, 1, 6000, [])), (9, (0, 0, 5999, [])), (10, (0, 0, 0, [])), (11, (0, 0, 5999, [])), (12, (0, 0, 5999, [])), (13, (0, 1, 1, [])), (14, (0, 0, 5998, [])), (16, (0, 1, 1, [])), (17, (0, 0, 5999, [])), (20, (0, 1, 6000, [])), (21, (0, 1, 1, [])), (22, (0, 0, 5999, [])), (24, (0, 0, 35988000, [])), (25, (0, 0, 35993999, [])), (26, (2, 0, 0, [254]))] : List (Nat × tv_T)), tv_ok ta q.2 (n_v vs q.1) := hk
  obtain ⟨t0, hk⟩ := List.forall_mem_cons.mp hk
  have t0 : tv_ok ta (2, 0, 0, [150]) (n_v vs 0) := t0
  have r0 : ta (v_ad (n_v vs 0)) = some 150 := tv_rg t0
  obtain ⟨t1, hk⟩ := List.forall_mem_cons.mp hk
  have t1 : tv_ok ta (0, 0, 23999, []) (n_v vs 1) := t1
  have k1 : 0 ≤ v_iv (n_v vs 1) ∧ v_iv (n_v vs 1) ≤ 23999 := tv_rng t1
  obtain ⟨t2, hk⟩ := List.forall_mem_cons.mp hk
  have t2 : tv_ok ta (0, 0, 1000000, []) (n_v vs 2) := t2
  have k2 : 0 ≤ v_iv (n_v vs 2) ∧ v_iv (n_v vs 2) ≤ 1000000 := tv_rng t2
  obtain ⟨t3, hk⟩ := List.forall_mem_cons.mp hk
  have t3 : tv_ok ta (0, 0, 5999, []) (n_v vs 3) := t3
  have k3 : 0 ≤ v_iv (n_v vs 3) ∧ v_iv (n_v vs 3) ≤ 5999 := tv_rng t3
  obtain ⟨t5, hk⟩ := List.forall_mem_cons.mp hk
  have t5 : tv_ok ta (0, 0, 5999, []) (n_v vs 5) := t5
  have k5 : 0 ≤ v_iv (n_v vs 5) ∧ v_iv (n_v vs 5) ≤ 5999 := tv_rng t5
  obtain ⟨t7, hk⟩ := List.forall_mem_cons.mp hk
  have t7 : tv_ok ta (0, 1, 1, []) (n_v vs 7) := t7
  have k7 : 1 ≤ v_iv (n_v vs 7) ∧ v_iv (n_v vs 7) ≤ 1 := tv_rng t7
  obtain ⟨t8, hk⟩ := List.forall_mem_cons.mp hk
  have t8 : tv_ok ta (0, 1, 6000, []) (n_v vs 8) := t8
  have k8 : 1 ≤ v_iv (n_v vs 8) ∧ v_iv (n_v vs 8) ≤ 6000 := tv_rng t8
  obtain ⟨t9, hk⟩ := List.forall_mem_cons.mp hk
  have t9 : tv_ok ta (0, 0, 5999, []) (n_v vs 9) := t9
  have k9 : 0 ≤ v_iv (n_v vs 9) ∧ v_iv (n_v vs 9) ≤ 5999 := tv_rng t9
  obtain ⟨t10, hk⟩ := List.forall_mem_cons.mp hk
  have t10 : tv_ok ta (0, 0, 0, []) (n_v vs 10) := t10
  have k10 : 0 ≤ v_iv (n_v vs 10) ∧ v_iv (n_v vs 10) ≤ 0 := tv_rng t10
  obtain ⟨t11, hk⟩ := List.forall_mem_cons.mp hk
  have t11 : tv_ok ta (0, 0, 5999, []) (n_v vs 11) := t11
  have k11 : 0 ≤ v_iv (n_v vs 11) ∧ v_iv (n_v vs 11) ≤ 5999 := tv_rng t11
  obtain ⟨t12, hk⟩ := List.forall_mem_cons.mp hk
  have t12 : tv_ok ta (0, 0, 5999, []) (n_v vs 12) := t12
  have k12 : 0 ≤ v_iv (n_v vs 12) ∧ v_iv (n_v vs 12) ≤ 5999 := tv_rng t12
  obtain ⟨t13, hk⟩ := List.forall_mem_cons.mp hk
  have t13 : tv_ok ta (0, 1, 1, []) (n_v vs 13) := t13
  have k13 : 1 ≤ v_iv (n_v vs 13) ∧ v_iv (n_v vs 13) ≤ 1 := tv_rng t13
  obtain ⟨t14, hk⟩ := List.forall_mem_cons.mp hk
  have t14 : tv_ok ta (0, 0, 5998, []) (n_v vs 14) := t14
  have k14 : 0 ≤ v_iv (n_v vs 14) ∧ v_iv (n_v vs 14) ≤ 5998 := tv_rng t14
  obtain ⟨t16, hk⟩ := List.forall_mem_cons.mp hk
  have t16 : tv_ok ta (0, 1, 1, []) (n_v vs 16) := t16
  have k16 : 1 ≤ v_iv (n_v vs 16) ∧ v_iv (n_v vs 16) ≤ 1 := tv_rng t16
  obtain ⟨t17, hk⟩ := List.forall_mem_cons.mp hk
  have t17 : tv_ok ta (0, 0, 5999, []) (n_v vs 17) := t17
  have k17 : 0 ≤ v_iv (n_v vs 17) ∧ v_iv (n_v vs 17) ≤ 5999 := tv_rng t17
  obtain ⟨t20, hk⟩ := List.forall_mem_cons.mp hk
  have t20 : tv_ok ta (0, 1, 6000, []) (n_v vs 20) := t20
  have k20 : 1 ≤ v_iv (n_v vs 20) ∧ v_iv (n_v vs 20) ≤ 6000 := tv_rng t20
  obtain ⟨t21, hk⟩ := List.forall_mem_cons.mp hk
  have t21 : tv_ok ta (0, 1, 1, []) (n_v vs 21) := t21
  have k21 : 1 ≤ v_iv (n_v vs 21) ∧ v_iv (n_v vs 21) ≤ 1 := tv_rng t21
  obtain ⟨t22, hk⟩ := List.forall_mem_cons.mp hk
  have t22 : tv_ok ta (0, 0, 5999, []) (n_v vs 22) := t22
  have k22 : 0 ≤ v_iv (n_v vs 22) ∧ v_iv (n_v vs 22) ≤ 5999 := tv_rng t22
  obtain ⟨t24, hk⟩ := List.forall_mem_cons.mp hk
  have t24 : tv_ok ta (0, 0, 35988000, []) (n_v vs 24) := t24
  have k24 : 0 ≤ v_iv (n_v vs 24) ∧ v_iv (n_v vs 24) ≤ 35988000 := tv_rng t24
  obtain ⟨t25, hk⟩ := List.forall_mem_cons.mp hk
  have t25 : tv_ok ta (0, 0, 35993999, []) (n_v vs 25) := t25
  have k25 : 0 ≤ v_iv (n_v vs 25) ∧ v_iv (n_v vs 25) ≤ 35993999 := tv_rng t25
  obtain ⟨t26, hk⟩ := List.forall_mem_cons.mp hk
  have t26 : tv_ok ta (2, 0, 0, [254]) (n_v vs 26) := t26
  have r26 : ta (v_ad (n_v vs 26)) = some 254 := tv_rg t26
  have hds : ∀ q ∈ ([(25, 11, 0, 35988000), (25, 17, -4294967296, 35988000), (25, 9, 0, 35988000), (25, 8, -4294967295, 35987999), (25, 24, 0, 5999), (14, 22, -4294967296, 0), (22, 20, -1, -1), (11, 17, -4294967296, 0), (17, 8, -1, -1), (14, 12, -1, -1), (11, 9, 0, 0), (11, 8, -4294967295, -1), (9, 8, -4294967295, -1)] : List of_T), n_iv vs q.2.1 + q.2.2.1 ≤ n_iv vs q.1 ∧ n_iv vs q.1 ≤ n_iv vs q.2.1 + q.2.2.2 := hds
  obtain ⟨d0, hds⟩ := List.forall_mem_cons.mp hds
  have d0 : v_iv (n_v vs 11) + 0 ≤ v_iv (n_v vs 25) ∧ v_iv (n_v vs 25) ≤ v_iv (n_v vs 11) + 35988000 := d0
  obtain ⟨d1, hds⟩ := List.forall_mem_cons.mp hds
  have d1 : v_iv (n_v vs 17) + (-4294967296) ≤ v_iv (n_v vs 25) ∧ v_iv (n_v vs 25) ≤ v_iv (n_v vs 17) + 35988000 := d1
  obtain ⟨d2, hds⟩ := List.forall_mem_cons.mp hds
  have d2 : v_iv (n_v vs 9) + 0 ≤ v_iv (n_v vs 25) ∧ v_iv (n_v vs 25) ≤ v_iv (n_v vs 9) + 35988000 := d2
  obtain ⟨d3, hds⟩ := List.forall_mem_cons.mp hds
  have d3 : v_iv (n_v vs 8) + (-4294967295) ≤ v_iv (n_v vs 25) ∧ v_iv (n_v vs 25) ≤ v_iv (n_v vs 8) + 35987999 := d3
  obtain ⟨d4, hds⟩ := List.forall_mem_cons.mp hds
  have d4 : v_iv (n_v vs 24) + 0 ≤ v_iv (n_v vs 25) ∧ v_iv (n_v vs 25) ≤ v_iv (n_v vs 24) + 5999 := d4
  obtain ⟨d5, hds⟩ := List.forall_mem_cons.mp hds
  have d5 : v_iv (n_v vs 22) + (-4294967296) ≤ v_iv (n_v vs 14) ∧ v_iv (n_v vs 14) ≤ v_iv (n_v vs 22) + 0 := d5
  obtain ⟨d6, hds⟩ := List.forall_mem_cons.mp hds
  have d6 : v_iv (n_v vs 20) + (-1) ≤ v_iv (n_v vs 22) ∧ v_iv (n_v vs 22) ≤ v_iv (n_v vs 20) + (-1) := d6
  obtain ⟨d7, hds⟩ := List.forall_mem_cons.mp hds
  have d7 : v_iv (n_v vs 17) + (-4294967296) ≤ v_iv (n_v vs 11) ∧ v_iv (n_v vs 11) ≤ v_iv (n_v vs 17) + 0 := d7
  obtain ⟨d8, hds⟩ := List.forall_mem_cons.mp hds
  have d8 : v_iv (n_v vs 8) + (-1) ≤ v_iv (n_v vs 17) ∧ v_iv (n_v vs 17) ≤ v_iv (n_v vs 8) + (-1) := d8
  obtain ⟨d9, hds⟩ := List.forall_mem_cons.mp hds
  have d9 : v_iv (n_v vs 12) + (-1) ≤ v_iv (n_v vs 14) ∧ v_iv (n_v vs 14) ≤ v_iv (n_v vs 12) + (-1) := d9
  obtain ⟨d10, hds⟩ := List.forall_mem_cons.mp hds
  have d10 : v_iv (n_v vs 9) + 0 ≤ v_iv (n_v vs 11) ∧ v_iv (n_v vs 11) ≤ v_iv (n_v vs 9) + 0 := d10
  obtain ⟨d11, hds⟩ := List.forall_mem_cons.mp hds
  have d11 : v_iv (n_v vs 8) + (-4294967295) ≤ v_iv (n_v vs 11) ∧ v_iv (n_v vs 11) ≤ v_iv (n_v vs 8) + (-1) := d11
  obtain ⟨d12, hds⟩ := List.forall_mem_cons.mp hds
  have d12 : v_iv (n_v vs 8) + (-4294967295) ≤ v_iv (n_v vs 9) ∧ v_iv (n_v vs 9) ≤ v_iv (n_v vs 8) + (-1) := d12
  have hf : fc_ok PRD [(9, [26, 0], [143]), (1, [25, 24, 11], []), (3, [24, 14, 8], []), (9, [8, 0], [146]), (2, [22, 20, 21], []), (9, [20, 0], [147]), (2, [17, 8, 16], []), (2, [14, 12, 13], []), (20, [7, 13], [50, 0, 0, 3, 14, 2, 6, 1, 2, 1, 0, 0, 1, 1, 2, 1, 1, 0, 1, 3, 14, 2, 6, 1, 2, 1, 0, 0, 3, 1, 2, 1, 1, 0, -1, 2, 6, 7, 2, 1, 0, 0, 1, 2, 6, 7, 2, 1, 0, 0, 3, 1, 2, 1, 1, 0, 0]), (4, [12, 5, 8], []), (2, [11, 9, 10], []), (20, [7, 10], [50, 0, 0, 3, 14, 2, 6, 1, 2, 1, 0, 0, 0, 1, 2, 1, 1, 0, 1, 3, 14, 2, 6, 1, 2, 1, 0, 0, 2, 1, 2, 1, 1, 0, -1, 2, 6, 7, 2, 1, 0, 0, 0, 2, 6, 7, 2, 1, 0, 0, 2, 1, 2, 1, 1, 0, 0]), (5, [9, 5, 8], []), (12, [7, 1], [4]), (11, [5, 1], [4]), (20, [0, 3, 2], [60, 2, 4, 419, 146, 147, 143, 140, 141, 142]), (20, [0, 1, 2], [60, 0, 1, 421, 140]), (20, [1, 0], [50, 2, 0, 1146, 1147, 2, 6, 0, 2, 0, 0, 1, 0, 0, 6, 4, 2, 1, 0, 0, 1, 6, 2, 0, 4, 6, 3, 2, 1, 146, 2, 1, 147]), (20, [2], [50, 0, 0, 2, 6, 0, 2, 0, 0, 1, 0, 0, 2, 1, 0, 0, 999999])] ta ws vs := hf
  obtain ⟨f0, hf⟩ := fc_un (show (9 : Nat) < 100 from by decide) hf
  have f0 : n_v vs 26 = w_fd ws (v_ad (n_v vs 0)) 143 := f0
  obtain ⟨f1, hf⟩ := fc_un (show (1 : Nat) < 100 from by decide) hf
  have f1 : v_iv (n_v vs 25) = v_iv (n_v vs 24) + v_iv (n_v vs 11) := f1
  obtain ⟨f2, hf⟩ := fc_un (show (3 : Nat) < 100 from by decide) hf
  have f2 : v_iv (n_v vs 24) = v_iv (n_v vs 14) * v_iv (n_v vs 8) := f2
  obtain ⟨f3, hf⟩ := fc_un (show (9 : Nat) < 100 from by decide) hf
  have f3 : n_v vs 8 = w_fd ws (v_ad (n_v vs 0)) 146 := f3
  obtain ⟨f4, hf⟩ := fc_un (show (2 : Nat) < 100 from by decide) hf
  have f4 : v_iv (n_v vs 22) = v_iv (n_v vs 20) - v_iv (n_v vs 21) := f4
  obtain ⟨f5, hf⟩ := fc_un (show (9 : Nat) < 100 from by decide) hf
  have f5 : n_v vs 20 = w_fd ws (v_ad (n_v vs 0)) 147 := f5
  obtain ⟨f6, hf⟩ := fc_un (show (2 : Nat) < 100 from by decide) hf
  have f6 : v_iv (n_v vs 17) = v_iv (n_v vs 8) - v_iv (n_v vs 16) := f6
  obtain ⟨f7, hf⟩ := fc_un (show (2 : Nat) < 100 from by decide) hf
  have f7 : v_iv (n_v vs 14) = v_iv (n_v vs 12) - v_iv (n_v vs 13) := f7
  obtain ⟨f8, hf⟩ := fc_un (show (20 : Nat) < 100 from by decide) hf
  have f8 : ((v_iv (n_v vs 7) = 1) ∧ (v_iv (n_v vs 13) = 1)) ∨ (((v_iv (n_v vs 7) = 3) ∧ (v_iv (n_v vs 13) = (-1))) ∨ ((v_iv (n_v vs 7) ≠ 1) ∧ ((v_iv (n_v vs 7) ≠ 3) ∧ (v_iv (n_v vs 13) = 0)))) := f8
  obtain ⟨f9, hf⟩ := fc_un (show (4 : Nat) < 100 from by decide) hf
  have f9 : v_iv (n_v vs 12) = Int.tdiv (v_iv (n_v vs 5)) (v_iv (n_v vs 8)) := f9
  have fq9 : 10 ≤ v_iv (n_v vs 12) → 10 * v_iv (n_v vs 8) ≤ v_iv (n_v vs 5) := dv_ten f9 (by omega) (by omega)
  obtain ⟨f10, hf⟩ := fc_un (show (2 : Nat) < 100 from by decide) hf
  have f10 : v_iv (n_v vs 11) = v_iv (n_v vs 9) - v_iv (n_v vs 10) := f10
  obtain ⟨f11, hf⟩ := fc_un (show (20 : Nat) < 100 from by decide) hf
  have f11 : ((v_iv (n_v vs 7) = 0) ∧ (v_iv (n_v vs 10) = 1)) ∨ (((v_iv (n_v vs 7) = 2) ∧ (v_iv (n_v vs 10) = (-1))) ∨ ((v_iv (n_v vs 7) ≠ 0) ∧ ((v_iv (n_v vs 7) ≠ 2) ∧ (v_iv (n_v vs 10) = 0)))) := f11
  obtain ⟨f12, hf⟩ := fc_un (show (5 : Nat) < 100 from by decide) hf
  have f12 : v_iv (n_v vs 9) = Int.tmod (v_iv (n_v vs 5)) (v_iv (n_v vs 8)) := f12
  obtain ⟨f13, hf⟩ := fc_un (show (12 : Nat) < 100 from by decide) hf
  have f13 : v_iv (n_v vs 7) = v_iv (n_v vs 1) % 4 := f13
  obtain ⟨f14, hf⟩ := fc_un (show (11 : Nat) < 100 from by decide) hf
  have f14 : v_iv (n_v vs 5) = v_iv (n_v vs 1) / 4 := f14
  obtain ⟨f15, hf⟩ := fc_un (show (20 : Nat) < 100 from by decide) hf
  have f15 : RTQ (w_fi ws (n_v vs 0) 146) (w_fi ws (n_v vs 0) 147) (w_ei ws (w_ar ws (n_v vs 0) 143)) (w_ei ws (w_ar ws (n_v vs 0) 140)) (w_ei ws (w_ar ws (n_v vs 0) 141)) (w_ei ws (w_ar ws (n_v vs 0) 142)) (v_iv (n_v vs 3)) (v_iv (n_v vs 2)) := f15
  obtain ⟨f16, hf⟩ := fc_un (show (20 : Nat) < 100 from by decide) hf
  have f16 : PIV (w_ei ws (w_ar ws (n_v vs 0) 140)) (v_iv (n_v vs 1)) (v_iv (n_v vs 2)) := f16
  obtain ⟨f17, hf⟩ := fc_un (show (20 : Nat) < 100 from by decide) hf
  have f17 : (0 ≤ v_iv (n_v vs 1)) ∧ ((v_iv (n_v vs 1) + 1) ≤ (4 * (w_fi ws (n_v vs 0) 146 * w_fi ws (n_v vs 0) 147))) := f17
  obtain ⟨f18, hf⟩ := fc_un (show (20 : Nat) < 100 from by decide) hf
  have f18 : (0 ≤ v_iv (n_v vs 2)) ∧ (v_iv (n_v vs 2) ≤ 999999) := f18
  have cr_0_140 : ta (w_ar ws (n_v vs 0) 140) = some 251 := tv_rg (th_fd hD hth r0 (g := GG_150) rfl (k := 140) (t := (2, 0, 0, [251])) rfl rfl)
  have cr_0_141 : ta (w_ar ws (n_v vs 0) 141) = some 252 := tv_rg (th_fd hD hth r0 (g := GG_150) rfl (k := 141) (t := (2, 0, 0, [252])) rfl rfl)
  have cr_0_142 : ta (w_ar ws (n_v vs 0) 142) = some 253 := tv_rg (th_fd hD hth r0 (g := GG_150) rfl (k := 142) (t := (2, 0, 0, [253])) rfl rfl)
  have cr_0_143 : ta (w_ar ws (n_v vs 0) 143) = some 254 := tv_rg (th_fd hD hth r0 (g := GG_150) rfl (k := 143) (t := (2, 0, 0, [254])) rfl rfl)
  have ad_26 : v_ad (n_v vs 26) = w_ar ws (n_v vs 0) 143 := congrArg v_ad f0
  have g3 : v_iv (n_v vs 8) = w_fi ws (n_v vs 0) 146 := congrArg v_iv f3
  have g5 : v_iv (n_v vs 20) = w_fi ws (n_v vs 0) 147 := congrArg v_iv f5
  have hK_0_140 : ∀ j : Int, 0 ≤ j → j < 24000 → 0 ≤ w_ei ws (w_ar ws (n_v vs 0) 140) j ∧ w_ei ws (w_ar ws (n_v vs 0) 140) j ≤ 1000000 := fun j h0 h1 => th_el hD hth cr_0_140 (kd := 0) (n := 24000) (m := 24000) (lo := 0) (hi := 1000000) (rs := []) (L := []) rfl (by decide) (j := j.toNat) (by omega)
  have hK_0_141 : ∀ j : Int, 0 ≤ j → j < 96040 → 0 ≤ w_ei ws (w_ar ws (n_v vs 0) 141) j ∧ w_ei ws (w_ar ws (n_v vs 0) 141) j ≤ 23999 := fun j h0 h1 => th_el hD hth cr_0_141 (kd := 0) (n := 96040) (m := 96040) (lo := 0) (hi := 23999) (rs := []) (L := []) rfl (by decide) (j := j.toNat) (by omega)
  have hK_0_142 : ∀ j : Int, 0 ≤ j → j < 4 → 0 ≤ w_ei ws (w_ar ws (n_v vs 0) 142) j ∧ w_ei ws (w_ar ws (n_v vs 0) 142) j ≤ 24009 := fun j h0 h1 => th_el hD hth cr_0_142 (kd := 0) (n := 4) (m := 4) (lo := 0) (hi := 24009) (rs := []) (L := []) rfl (by decide) (j := j.toNat) (by omega)
  have hK_0_143 : ∀ j : Int, 0 ≤ j → j < 6000 → 0 ≤ w_ei ws (w_ar ws (n_v vs 0) 143) j ∧ w_ei ws (w_ar ws (n_v vs 0) 143) j ≤ 1 := fun j h0 h1 => th_el hD hth cr_0_143 (kd := 2) (n := 6000) (m := 6000) (lo := 0) (hi := 1) (rs := []) (L := []) rfl (by decide) (j := j.toNat) (by omega)
  have kz_0_146 : (-2147483648) ≤ w_fi ws (n_v vs 0) 146 ∧ w_fi ws (n_v vs 0) 146 ≤ 2147483647 := tv_rng (th_fd hD hth r0 (g := GG_150) rfl (k := 146) (t := (0, -2147483648, 2147483647, [])) rfl rfl)
  have kz_0_147 : (-2147483648) ≤ w_fi ws (n_v vs 0) 147 ∧ w_fi ws (n_v vs 0) 147 ≤ 2147483647 := tv_rng (th_fd hD hth r0 (g := GG_150) rfl (k := 147) (t := (0, -2147483648, 2147483647, [])) rfl rfl)
  have hrf0 : 0 ≤ v_iv (n_v vs 25) ∧ v_iv (n_v vs 25) ≤ 5999 := vc_Mo_backFrom_8_r0 (v_iv (n_v vs 1)) (v_iv (n_v vs 2)) (v_iv (n_v vs 3)) (v_iv (n_v vs 5)) (v_iv (n_v vs 7)) (v_iv (n_v vs 8)) (v_iv (n_v vs 9)) (v_iv (n_v vs 10)) (v_iv (n_v vs 11)) (v_iv (n_v vs 12)) (v_iv (n_v vs 13)) (v_iv (n_v vs 14)) (v_iv (n_v vs 16)) (v_iv (n_v vs 17)) (v_iv (n_v vs 20)) (v_iv (n_v vs 21)) (v_iv (n_v vs 22)) (v_iv (n_v vs 24)) (v_iv (n_v vs 25)) (w_fi ws (n_v vs 0) 146) (w_fi ws (n_v vs 0) 147) (w_ei ws (w_ar ws (n_v vs 0) 143)) (w_ei ws (w_ar ws (n_v vs 0) 140)) (w_ei ws (w_ar ws (n_v vs 0) 141)) (w_ei ws (w_ar ws (n_v vs 0) 142)) k1 k2 k3 k5 k7 k8 k9 k10 k11 k12 k13 k14 k16 k17 k20 k21 k22 k24 k25 d0 d1 d2 d3 d4 d5 d6 d7 d8 d9 d10 d11 d12 f1 f2 g3 f4 g5 f6 f7 f8 f9 f10 f11 f12 f13 f14 f15 f16 f17 f18 hK_0_140 hK_0_141 hK_0_142 hK_0_143 kz_0_146 kz_0_147
  have rf25 : tv_ok ta (0, 0, 5999, []) (n_v vs 25) := tv_in t25 (by first | omega | grind) (by first | omega | grind)
  refine ⟨List.forall_mem_cons.mpr ⟨rf25, (fun _ h => (by cases h))⟩, [], trivial, ?_, (fun _ h => (by cases h))⟩
  rw [List.append_nil]
  exact (fun _ h => (by cases h))
set_option maxHeartbeats 4000000 in
theorem vc_Mo_backFrom_9_0 (x1 : Int) (x2 : Int) (x3 : Int) (x5 : Int) (x7 : Int) (x8 : Int) (x9 : Int) (x10 : Int) (x11 : Int) (x12 : Int) (x13 : Int) (x14 : Int) (x16 : Int) (x17 : Int) (x20 : Int) (x21 : Int) (x22 : Int) (x24 : Int) (x25 : Int) (x27 : Int) (barredPoint_0 : Int → Int) (wide_0 : Int) (tall_0 : Int) (costOf_0 : Int → Int) (bucket_0 : Int → Int) (bucketMany_0 : Int → Int) (k1 : 0 ≤ x1 ∧ x1 ≤ 23999) (k2 : 0 ≤ x2 ∧ x2 ≤ 1000000) (k3 : 0 ≤ x3 ∧ x3 ≤ 5999) (k5 : 0 ≤ x5 ∧ x5 ≤ 5999) (k7 : 1 ≤ x7 ∧ x7 ≤ 1) (k8 : 1 ≤ x8 ∧ x8 ≤ 6000) (k9 : 0 ≤ x9 ∧ x9 ≤ 5999) (k10 : 0 ≤ x10 ∧ x10 ≤ 0) (k11 : 0 ≤ x11 ∧ x11 ≤ 5999) (k12 : 0 ≤ x12 ∧ x12 ≤ 5999) (k13 : 1 ≤ x13 ∧ x13 ≤ 1) (k14 : 0 ≤ x14 ∧ x14 ≤ 5998) (k16 : 1 ≤ x16 ∧ x16 ≤ 1) (k17 : 0 ≤ x17 ∧ x17 ≤ 5999) (k20 : 1 ≤ x20 ∧ x20 ≤ 6000) (k21 : 1 ≤ x21 ∧ x21 ≤ 1) (k22 : 0 ≤ x22 ∧ x22 ≤ 5999) (k24 : 0 ≤ x24 ∧ x24 ≤ 35988000) (k25 : 0 ≤ x25 ∧ x25 ≤ 5999) (k27 : 0 ≤ x27 ∧ x27 ≤ 0) (d0 : x11 + 0 ≤ x25 ∧ x25 ≤ x11 + 35988000) (d1 : x9 + 0 ≤ x25 ∧ x25 ≤ x9 + 35988000) (d2 : x24 + 0 ≤ x25 ∧ x25 ≤ x24 + 5999) (d3 : x22 + (-4294967296) ≤ x14 ∧ x14 ≤ x22 + 0) (d4 : x20 + (-1) ≤ x22 ∧ x22 ≤ x20 + (-1)) (d5 : x17 + (-4294967296) ≤ x11 ∧ x11 ≤ x17 + 0) (d6 : x8 + (-1) ≤ x17 ∧ x17 ≤ x8 + (-1)) (d7 : x12 + (-1) ≤ x14 ∧ x14 ≤ x12 + (-1)) (d8 : x9 + 0 ≤ x11 ∧ x11 ≤ x9 + 0) (d9 : x8 + (-4294967295) ≤ x11 ∧ x11 ≤ x8 + (-1)) (d10 : x8 + (-4294967295) ≤ x9 ∧ x9 ≤ x8 + (-1)) (f0 : x27 = 0) (h1 : x27 = barredPoint_0 (x25)) (f3 : x25 = x24 + x11) (f4 : x24 = x14 * x8) (g5 : x8 = wide_0) (f6 : x22 = x20 - x21) (g7 : x20 = tall_0) (f8 : x17 = x8 - x16) (f9 : x14 = x12 - x13) (f10 : ((x7 = 1) ∧ (x13 = 1)) ∨ (((x7 = 3) ∧ (x13 = (-1))) ∨ ((x7 ≠ 1) ∧ ((x7 ≠ 3) ∧ (x13 = 0))))) (f11 : x12 = Int.tdiv (x5) (x8)) (f12 : x11 = x9 - x10) (f13 : ((x7 = 0) ∧ (x10 = 1)) ∨ (((x7 = 2) ∧ (x10 = (-1))) ∨ ((x7 ≠ 0) ∧ ((x7 ≠ 2) ∧ (x10 = 0))))) (f14 : x9 = Int.tmod (x5) (x8)) (f15 : x7 = x1 % 4) (f16 : x5 = x1 / 4) (f17 : RTQ (wide_0) (tall_0) (barredPoint_0) (costOf_0) (bucket_0) (bucketMany_0) (x3) (x2)) (f18 : PIV (costOf_0) (x1) (x2)) (f19 : (0 ≤ x1) ∧ ((x1 + 1) ≤ (4 * (wide_0 * tall_0)))) (f20 : (0 ≤ x2) ∧ (x2 ≤ 999999)) (hK_0_140 : ∀ j : Int, 0 ≤ j → j < 24000 → 0 ≤ costOf_0 j ∧ costOf_0 j ≤ 1000000) (hK_0_141 : ∀ j : Int, 0 ≤ j → j < 96040 → 0 ≤ bucket_0 j ∧ bucket_0 j ≤ 23999) (hK_0_142 : ∀ j : Int, 0 ≤ j → j < 4 → 0 ≤ bucketMany_0 j ∧ bucketMany_0 j ≤ 24009) (hK_0_143 : ∀ j : Int, 0 ≤ j → j < 6000 → 0 ≤ barredPoint_0 j ∧ barredPoint_0 j ≤ 1) (kz_0_146 : (-2147483648) ≤ wide_0 ∧ wide_0 ≤ 2147483647) (kz_0_147 : (-2147483648) ≤ tall_0 ∧ tall_0 ≤ 2147483647) : BFP (wide_0) (tall_0) (barredPoint_0) (x1) (x25) := by
  first
    | assumption
    | (have g0 : GRX wide_0 tall_0 := ‹RTQ _ _ _ _ _ _ _ _›.1
       have g := gok_bd g0
       have e8 : x8 = wide_0 := by assumption
       have e20 : x20 = tall_0 := by assumption
       have tm : x9 = x5 % wide_0 := by rw [← e8, ‹x9 = Int.tmod x5 x8›]; exact Int.tmod_eq_emod_of_nonneg (by omega)
       have td : x12 = x5 / wide_0 := by rw [← e8, ‹x12 = Int.tdiv x5 x8›]; exact Int.tdiv_eq_ediv_of_nonneg (by omega)
       have hx : x11 = x5 % wide_0 - dxf x7 := by rw [← tm]; unfold dxf; split; omega; split <;> omega
       have hy : x14 = x5 / wide_0 - dyf x7 := by rw [← td]; unfold dyf; split; omega; split <;> omega
       have n := nb_back (T := tall_0) (q := x5) (d := x7) (x := x11) (y := x14) (p := x25) (by omega) (by omega) (by omega) hx hy (by omega) (by omega) (by omega) (by omega) (by rw [← e8, ‹x25 = x24 + x11›, ‹x24 = x14 * x8›])
       have b := rtq_bar ‹RTQ _ _ _ _ _ _ _ _› ‹PIV _ _ _› (by omega) (by omega)
       exact ⟨⟨by omega, by omega⟩, by rw [show x1 % 4 = x7 by omega, show x1 / 4 = x5 by omega]; exact n.1, n.2, by rw [← ‹x27 = barredPoint_0 x25›]; omega, b⟩)
set_option maxHeartbeats 4000000 in
theorem vc_Mo_backFrom_9_1 (x1 : Int) (x2 : Int) (x3 : Int) (x5 : Int) (x7 : Int) (x8 : Int) (x9 : Int) (x10 : Int) (x11 : Int) (x12 : Int) (x13 : Int) (x14 : Int) (x16 : Int) (x17 : Int) (x20 : Int) (x21 : Int) (x22 : Int) (x24 : Int) (x25 : Int) (x27 : Int) (barredPoint_0 : Int → Int) (wide_0 : Int) (tall_0 : Int) (costOf_0 : Int → Int) (bucket_0 : Int → Int) (bucketMany_0 : Int → Int) (k1 : 0 ≤ x1 ∧ x1 ≤ 23999) (k2 : 0 ≤ x2 ∧ x2 ≤ 1000000) (k3 : 0 ≤ x3 ∧ x3 ≤ 5999) (k5 : 0 ≤ x5 ∧ x5 ≤ 5999) (k7 : 1 ≤ x7 ∧ x7 ≤ 1) (k8 : 1 ≤ x8 ∧ x8 ≤ 6000) (k9 : 0 ≤ x9 ∧ x9 ≤ 5999) (k10 : 0 ≤ x10 ∧ x10 ≤ 0) (k11 : 0 ≤ x11 ∧ x11 ≤ 5999) (k12 : 0 ≤ x12 ∧ x12 ≤ 5999) (k13 : 1 ≤ x13 ∧ x13 ≤ 1) (k14 : 0 ≤ x14 ∧ x14 ≤ 5998) (k16 : 1 ≤ x16 ∧ x16 ≤ 1) (k17 : 0 ≤ x17 ∧ x17 ≤ 5999) (k20 : 1 ≤ x20 ∧ x20 ≤ 6000) (k21 : 1 ≤ x21 ∧ x21 ≤ 1) (k22 : 0 ≤ x22 ∧ x22 ≤ 5999) (k24 : 0 ≤ x24 ∧ x24 ≤ 35988000) (k25 : 0 ≤ x25 ∧ x25 ≤ 5999) (k27 : 0 ≤ x27 ∧ x27 ≤ 0) (d0 : x11 + 0 ≤ x25 ∧ x25 ≤ x11 + 35988000) (d1 : x9 + 0 ≤ x25 ∧ x25 ≤ x9 + 35988000) (d2 : x24 + 0 ≤ x25 ∧ x25 ≤ x24 + 5999) (d3 : x22 + (-4294967296) ≤ x14 ∧ x14 ≤ x22 + 0) (d4 : x20 + (-1) ≤ x22 ∧ x22 ≤ x20 + (-1)) (d5 : x17 + (-4294967296) ≤ x11 ∧ x11 ≤ x17 + 0) (d6 : x8 + (-1) ≤ x17 ∧ x17 ≤ x8 + (-1)) (d7 : x12 + (-1) ≤ x14 ∧ x14 ≤ x12 + (-1)) (d8 : x9 + 0 ≤ x11 ∧ x11 ≤ x9 + 0) (d9 : x8 + (-4294967295) ≤ x11 ∧ x11 ≤ x8 + (-1)) (d10 : x8 + (-4294967295) ≤ x9 ∧ x9 ≤ x8 + (-1)) (f0 : x27 = 0) (h1 : x27 = barredPoint_0 (x25)) (f3 : x25 = x24 + x11) (f4 : x24 = x14 * x8) (g5 : x8 = wide_0) (f6 : x22 = x20 - x21) (g7 : x20 = tall_0) (f8 : x17 = x8 - x16) (f9 : x14 = x12 - x13) (f10 : ((x7 = 1) ∧ (x13 = 1)) ∨ (((x7 = 3) ∧ (x13 = (-1))) ∨ ((x7 ≠ 1) ∧ ((x7 ≠ 3) ∧ (x13 = 0))))) (f11 : x12 = Int.tdiv (x5) (x8)) (f12 : x11 = x9 - x10) (f13 : ((x7 = 0) ∧ (x10 = 1)) ∨ (((x7 = 2) ∧ (x10 = (-1))) ∨ ((x7 ≠ 0) ∧ ((x7 ≠ 2) ∧ (x10 = 0))))) (f14 : x9 = Int.tmod (x5) (x8)) (f15 : x7 = x1 % 4) (f16 : x5 = x1 / 4) (f17 : RTQ (wide_0) (tall_0) (barredPoint_0) (costOf_0) (bucket_0) (bucketMany_0) (x3) (x2)) (f18 : PIV (costOf_0) (x1) (x2)) (f19 : (0 ≤ x1) ∧ ((x1 + 1) ≤ (4 * (wide_0 * tall_0)))) (f20 : (0 ≤ x2) ∧ (x2 ≤ 999999)) (hK_0_140 : ∀ j : Int, 0 ≤ j → j < 24000 → 0 ≤ costOf_0 j ∧ costOf_0 j ≤ 1000000) (hK_0_141 : ∀ j : Int, 0 ≤ j → j < 96040 → 0 ≤ bucket_0 j ∧ bucket_0 j ≤ 23999) (hK_0_142 : ∀ j : Int, 0 ≤ j → j < 4 → 0 ≤ bucketMany_0 j ∧ bucketMany_0 j ≤ 24009) (hK_0_143 : ∀ j : Int, 0 ≤ j → j < 6000 → 0 ≤ barredPoint_0 j ∧ barredPoint_0 j ≤ 1) (kz_0_146 : (-2147483648) ≤ wide_0 ∧ wide_0 ≤ 2147483647) (kz_0_147 : (-2147483648) ≤ tall_0 ∧ tall_0 ≤ 2147483647) : x7 = (x1 % 4) := by
  first
    | omega
    | (have g := gok_bd (show GRX wide_0 tall_0 from ‹RTQ _ _ _ _ _ _ _ _›.1); omega)
    | (have g0 : GRX wide_0 tall_0 := ‹RTQ _ _ _ _ _ _ _ _›.1
       have g := gok_bd g0
       have e8 : x8 = wide_0 := by assumption
       have e20 : x20 = tall_0 := by assumption
       have c := cell_ix (W := x8) (T := x20) (x := x11) (y := x14) (p := x25) (by omega) (by omega) (by omega) (by omega) (by omega) (by rw [‹x25 = x24 + x11›, ‹x24 = x14 * x8›])
       have g3 := g0.2.2
       rw [e8, e20] at c
       omega)
    | (have h := ‹BFP _ _ _ _ _›.2.2.1; omega)
    | sorry
set_option maxHeartbeats 4000000 in
theorem vc_Mo_backFrom_9_2 (x1 : Int) (x2 : Int) (x3 : Int) (x5 : Int) (x7 : Int) (x8 : Int) (x9 : Int) (x10 : Int) (x11 : Int) (x12 : Int) (x13 : Int) (x14 : Int) (x16 : Int) (x17 : Int) (x20 : Int) (x21 : Int) (x22 : Int) (x24 : Int) (x25 : Int) (x27 : Int) (barredPoint_0 : Int → Int) (wide_0 : Int) (tall_0 : Int) (costOf_0 : Int → Int) (bucket_0 : Int → Int) (bucketMany_0 : Int → Int) (k1 : 0 ≤ x1 ∧ x1 ≤ 23999) (k2 : 0 ≤ x2 ∧ x2 ≤ 1000000) (k3 : 0 ≤ x3 ∧ x3 ≤ 5999) (k5 : 0 ≤ x5 ∧ x5 ≤ 5999) (k7 : 1 ≤ x7 ∧ x7 ≤ 1) (k8 : 1 ≤ x8 ∧ x8 ≤ 6000) (k9 : 0 ≤ x9 ∧ x9 ≤ 5999) (k10 : 0 ≤ x10 ∧ x10 ≤ 0) (k11 : 0 ≤ x11 ∧ x11 ≤ 5999) (k12 : 0 ≤ x12 ∧ x12 ≤ 5999) (k13 : 1 ≤ x13 ∧ x13 ≤ 1) (k14 : 0 ≤ x14 ∧ x14 ≤ 5998) (k16 : 1 ≤ x16 ∧ x16 ≤ 1) (k17 : 0 ≤ x17 ∧ x17 ≤ 5999) (k20 : 1 ≤ x20 ∧ x20 ≤ 6000) (k21 : 1 ≤ x21 ∧ x21 ≤ 1) (k22 : 0 ≤ x22 ∧ x22 ≤ 5999) (k24 : 0 ≤ x24 ∧ x24 ≤ 35988000) (k25 : 0 ≤ x25 ∧ x25 ≤ 5999) (k27 : 0 ≤ x27 ∧ x27 ≤ 0) (d0 : x11 + 0 ≤ x25 ∧ x25 ≤ x11 + 35988000) (d1 : x9 + 0 ≤ x25 ∧ x25 ≤ x9 + 35988000) (d2 : x24 + 0 ≤ x25 ∧ x25 ≤ x24 + 5999) (d3 : x22 + (-4294967296) ≤ x14 ∧ x14 ≤ x22 + 0) (d4 : x20 + (-1) ≤ x22 ∧ x22 ≤ x20 + (-1)) (d5 : x17 + (-4294967296) ≤ x11 ∧ x11 ≤ x17 + 0) (d6 : x8 + (-1) ≤ x17 ∧ x17 ≤ x8 + (-1)) (d7 : x12 + (-1) ≤ x14 ∧ x14 ≤ x12 + (-1)) (d8 : x9 + 0 ≤ x11 ∧ x11 ≤ x9 + 0) (d9 : x8 + (-4294967295) ≤ x11 ∧ x11 ≤ x8 + (-1)) (d10 : x8 + (-4294967295) ≤ x9 ∧ x9 ≤ x8 + (-1)) (f0 : x27 = 0) (h1 : x27 = barredPoint_0 (x25)) (f3 : x25 = x24 + x11) (f4 : x24 = x14 * x8) (g5 : x8 = wide_0) (f6 : x22 = x20 - x21) (g7 : x20 = tall_0) (f8 : x17 = x8 - x16) (f9 : x14 = x12 - x13) (f10 : ((x7 = 1) ∧ (x13 = 1)) ∨ (((x7 = 3) ∧ (x13 = (-1))) ∨ ((x7 ≠ 1) ∧ ((x7 ≠ 3) ∧ (x13 = 0))))) (f11 : x12 = Int.tdiv (x5) (x8)) (f12 : x11 = x9 - x10) (f13 : ((x7 = 0) ∧ (x10 = 1)) ∨ (((x7 = 2) ∧ (x10 = (-1))) ∨ ((x7 ≠ 0) ∧ ((x7 ≠ 2) ∧ (x10 = 0))))) (f14 : x9 = Int.tmod (x5) (x8)) (f15 : x7 = x1 % 4) (f16 : x5 = x1 / 4) (f17 : RTQ (wide_0) (tall_0) (barredPoint_0) (costOf_0) (bucket_0) (bucketMany_0) (x3) (x2)) (f18 : PIV (costOf_0) (x1) (x2)) (f19 : (0 ≤ x1) ∧ ((x1 + 1) ≤ (4 * (wide_0 * tall_0)))) (f20 : (0 ≤ x2) ∧ (x2 ≤ 999999)) (hK_0_140 : ∀ j : Int, 0 ≤ j → j < 24000 → 0 ≤ costOf_0 j ∧ costOf_0 j ≤ 1000000) (hK_0_141 : ∀ j : Int, 0 ≤ j → j < 96040 → 0 ≤ bucket_0 j ∧ bucket_0 j ≤ 23999) (hK_0_142 : ∀ j : Int, 0 ≤ j → j < 4 → 0 ≤ bucketMany_0 j ∧ bucketMany_0 j ≤ 24009) (hK_0_143 : ∀ j : Int, 0 ≤ j → j < 6000 → 0 ≤ barredPoint_0 j ∧ barredPoint_0 j ≤ 1) (kz_0_146 : (-2147483648) ≤ wide_0 ∧ wide_0 ≤ 2147483647) (kz_0_147 : (-2147483648) ≤ tall_0 ∧ tall_0 ≤ 2147483647) : (0 ≤ x25) ∧ ((x25 + 1) ≤ (wide_0 * tall_0)) := by
  first
    | omega
    | (have g := gok_bd (show GRX wide_0 tall_0 from ‹RTQ _ _ _ _ _ _ _ _›.1); omega)
    | (have g0 : GRX wide_0 tall_0 := ‹RTQ _ _ _ _ _ _ _ _›.1
       have g := gok_bd g0
       have e8 : x8 = wide_0 := by assumption
       have e20 : x20 = tall_0 := by assumption
       have c := cell_ix (W := x8) (T := x20) (x := x11) (y := x14) (p := x25) (by omega) (by omega) (by omega) (by omega) (by omega) (by rw [‹x25 = x24 + x11›, ‹x24 = x14 * x8›])
       have g3 := g0.2.2
       rw [e8, e20] at c
       omega)
    | (have h := ‹BFP _ _ _ _ _›.2.2.1; omega)
    | sorry
def o_Mo_backFrom_9 : or_T := (94, 29, [(0, (2, 0, 0, [150])), (1, (0, 0, 23999, [])), (2, (0, 0, 1000000, [])), (3, (0, 0, 5999, [])), (5, (0, 0, 5999, [])), (7, (0, 1, 1, [])), (8, (0, 1, 6000, [])), (9, (0, 0, 5999, [])), (10, (0, 0, 0, [])), (11, (0, 0, 5999, [])), (12, (0, 0, 5999, [])), (13, (0, 1, 1, [])), (14, (0, 0, 5998, [])), (16, (0, 1, 1, [])), (17, (0, 0, 5999, [])), (20, (0, 1, 6000, [])), (21, (0, 1, 1, [])), (22, (0, 0, 5999, [])), (24, (0, 0, 35988000, [])), (25, (0, 0, 5999, [])), (26, (2, 0, 0, [254])), (27, (0, 0, 0, []))], [(8, [27], [0]), (10, [27, 26, 25], []), (9, [26, 0], [143]), (1, [25, 24, 11], []), (3, [24, 14, 8], []), (9, [8, 0], [146]), (2, [22, 20, 21], []), (9, [20, 0], [147]), (2, [17, 8, 16], []), (2, [14, 12, 13], []), (20, [7, 13], [50, 0, 0, 3, 14, 2, 6, 1, 2, 1, 0, 0, 1, 1, 2, 1, 1, 0, 1, 3, 14, 2, 6, 1, 2, 1, 0, 0, 3, 1, 2, 1, 1, 0, -1, 2, 6, 7, 2, 1, 0, 0, 1, 2, 6, 7, 2, 1, 0, 0, 3, 1, 2, 1, 1, 0, 0]), (4, [12, 5, 8], []), (2, [11, 9, 10], []), (20, [7, 10], [50, 0, 0, 3, 14, 2, 6, 1, 2, 1, 0, 0, 0, 1, 2, 1, 1, 0, 1, 3, 14, 2, 6, 1, 2, 1, 0, 0, 2, 1, 2, 1, 1, 0, -1, 2, 6, 7, 2, 1, 0, 0, 0, 2, 6, 7, 2, 1, 0, 0, 2, 1, 2, 1, 1, 0, 0]), (5, [9, 5, 8], []), (12, [7, 1], [4]), (11, [5, 1], [4]), (20, [0, 3, 2], [60, 2, 4, 419, 146, 147, 143, 140, 141, 142]), (20, [0, 1, 2], [60, 0, 1, 421, 140]), (20, [1, 0], [50, 2, 0, 1146, 1147, 2, 6, 0, 2, 0, 0, 1, 0, 0, 6, 4, 2, 1, 0, 0, 1, 6, 2, 0, 4, 6, 3, 2, 1, 146, 2, 1, 147]), (20, [2], [50, 0, 0, 2, 6, 0, 2, 0, 0, 1, 0, 0, 2, 1, 0, 0, 999999])], [], [], [(20, [0, 1, 25], [60, 2, 1, 424, 146, 147, 143]), (20, [7, 1], [50, 0, 0, 1, 2, 1, 0, 9, 2, 1, 1, 0, 4]), (20, [25, 0], [50, 2, 0, 1146, 1147, 2, 6, 0, 2, 0, 0, 1, 0, 0, 6, 4, 2, 1, 0, 0, 1, 6, 3, 2, 1, 146, 2, 1, 147]), (24, [0, 0], []), (24, [1, 1], []), (24, [2, 2], [])], [], [(25, 11, 0, 35988000), (25, 9, 0, 35988000), (25, 24, 0, 5999), (14, 22, -4294967296, 0), (22, 20, -1, -1), (11, 17, -4294967296, 0), (17, 8, -1, -1), (14, 12, -1, -1), (11, 9, 0, 0), (11, 8, -4294967295, -1), (9, 8, -4294967295, -1)])
theorem oo_Mo_backFrom_9 {kA : Nat → ClassId} : or_ok PRD kA GG o_Mo_backFrom_9 := by
  intro A ta ws vs hD hth hl hk hds hf
  have hl : vs.length = 29 := hl
  have hk : ∀ q ∈ ([(0, (2, 0, 0, [150])), (1, (0, 0, 23999, [])), (2, (0, 0, 1000000, [])), (3, (0, 0, 5999, [])), (5, (0, 0, 5999, [])), (7, (0, 1, 1, [])), (8, (0, 1, 6000, [])), (9, (0, 0, 5999, [])), (10, (0, 0, 0, [])), (11, (0, 0, 5999, [])), (12, (0, 0, 5999, [])), (13, (0, 1, 1, [])), (14, (0, 0, 5998, [])), (16, (0, 1, 1, [])), (17, (0, 0, 5999, [])), (20, (0, 1, 6000, [])), (21, (0, 1, 1, [])), (22, (0, 0, 5999, [])), (24, (0, 0, 35988000, [])), (25, (0, 0, 5999, [])), (26, (2, 0, 0, [254])), (27, (0, 0, 0, []))] : List (Nat × tv_T)), tv_ok ta q.2 (n_v vs q.1) := hk
  obtain ⟨t0, hk⟩ := List.forall_mem_cons.mp hk
  have t0 : tv_ok ta (2, 0, 0, [150]) (n_v vs 0) := t0
  have r0 : ta (v_ad (n_v vs 0)) = some 150 := tv_rg t0
  obtain ⟨t1, hk⟩ := List.forall_mem_cons.mp hk
  have t1 : tv_ok ta (0, 0, 23999, []) (n_v vs 1) := t1
  have k1 : 0 ≤ v_iv (n_v vs 1) ∧ v_iv (n_v vs 1) ≤ 23999 := tv_rng t1
  obtain ⟨t2, hk⟩ := List.forall_mem_cons.mp hk
  have t2 : tv_ok ta (0, 0, 1000000, []) (n_v vs 2) := t2
  have k2 : 0 ≤ v_iv (n_v vs 2) ∧ v_iv (n_v vs 2) ≤ 1000000 := tv_rng t2
  obtain ⟨t3, hk⟩ := List.forall_mem_cons.mp hk
  have t3 : tv_ok ta (0, 0, 5999, []) (n_v vs 3) := t3
  have k3 : 0 ≤ v_iv (n_v vs 3) ∧ v_iv (n_v vs 3) ≤ 5999 := tv_rng t3
  obtain ⟨t5, hk⟩ := List.forall_mem_cons.mp hk
  have t5 : tv_ok ta (0, 0, 5999, []) (n_v vs 5) := t5
  have k5 : 0 ≤ v_iv (n_v vs 5) ∧ v_iv (n_v vs 5) ≤ 5999 := tv_rng t5
  obtain ⟨t7, hk⟩ := List.forall_mem_cons.mp hk
  have t7 : tv_ok ta (0, 1, 1, []) (n_v vs 7) := t7
  have k7 : 1 ≤ v_iv (n_v vs 7) ∧ v_iv (n_v vs 7) ≤ 1 := tv_rng t7
  obtain ⟨t8, hk⟩ := List.forall_mem_cons.mp hk
  have t8 : tv_ok ta (0, 1, 6000, []) (n_v vs 8) := t8
  have k8 : 1 ≤ v_iv (n_v vs 8) ∧ v_iv (n_v vs 8) ≤ 6000 := tv_rng t8
  obtain ⟨t9, hk⟩ := List.forall_mem_cons.mp hk
  have t9 : tv_ok ta (0, 0, 5999, []) (n_v vs 9) := t9
  have k9 : 0 ≤ v_iv (n_v vs 9) ∧ v_iv (n_v vs 9) ≤ 5999 := tv_rng t9
  obtain ⟨t10, hk⟩ := List.forall_mem_cons.mp hk
  have t10 : tv_ok ta (0, 0, 0, []) (n_v vs 10) := t10
  have k10 : 0 ≤ v_iv (n_v vs 10) ∧ v_iv (n_v vs 10) ≤ 0 := tv_rng t10
  obtain ⟨t11, hk⟩ := List.forall_mem_cons.mp hk
  have t11 : tv_ok ta (0, 0, 5999, []) (n_v vs 11) := t11
  have k11 : 0 ≤ v_iv (n_v vs 11) ∧ v_iv (n_v vs 11) ≤ 5999 := tv_rng t11
  obtain ⟨t12, hk⟩ := List.forall_mem_cons.mp hk
  have t12 : tv_ok ta (0, 0, 5999, []) (n_v vs 12) := t12
  have k12 : 0 ≤ v_iv (n_v vs 12) ∧ v_iv (n_v vs 12) ≤ 5999 := tv_rng t12
  obtain ⟨t13, hk⟩ := List.forall_mem_cons.mp hk
  have t13 : tv_ok ta (0, 1, 1, []) (n_v vs 13) := t13
  have k13 : 1 ≤ v_iv (n_v vs 13) ∧ v_iv (n_v vs 13) ≤ 1 := tv_rng t13
  obtain ⟨t14, hk⟩ := List.forall_mem_cons.mp hk
  have t14 : tv_ok ta (0, 0, 5998, []) (n_v vs 14) := t14
  have k14 : 0 ≤ v_iv (n_v vs 14) ∧ v_iv (n_v vs 14) ≤ 5998 := tv_rng t14
  obtain ⟨t16, hk⟩ := List.forall_mem_cons.mp hk
  have t16 : tv_ok ta (0, 1, 1, []) (n_v vs 16) := t16
  have k16 : 1 ≤ v_iv (n_v vs 16) ∧ v_iv (n_v vs 16) ≤ 1 := tv_rng t16
  obtain ⟨t17, hk⟩ := List.forall_mem_cons.mp hk
  have t17 : tv_ok ta (0, 0, 5999, []) (n_v vs 17) := t17
  have k17 : 0 ≤ v_iv (n_v vs 17) ∧ v_iv (n_v vs 17) ≤ 5999 := tv_rng t17
  obtain ⟨t20, hk⟩ := List.forall_mem_cons.mp hk
  have t20 : tv_ok ta (0, 1, 6000, []) (n_v vs 20) := t20
  have k20 : 1 ≤ v_iv (n_v vs 20) ∧ v_iv (n_v vs 20) ≤ 6000 := tv_rng t20
  obtain ⟨t21, hk⟩ := List.forall_mem_cons.mp hk
  have t21 : tv_ok ta (0, 1, 1, []) (n_v vs 21) := t21
  have k21 : 1 ≤ v_iv (n_v vs 21) ∧ v_iv (n_v vs 21) ≤ 1 := tv_rng t21
  obtain ⟨t22, hk⟩ := List.forall_mem_cons.mp hk
  have t22 : tv_ok ta (0, 0, 5999, []) (n_v vs 22) := t22
  have k22 : 0 ≤ v_iv (n_v vs 22) ∧ v_iv (n_v vs 22) ≤ 5999 := tv_rng t22
  obtain ⟨t24, hk⟩ := List.forall_mem_cons.mp hk
  have t24 : tv_ok ta (0, 0, 35988000, []) (n_v vs 24) := t24
  have k24 : 0 ≤ v_iv (n_v vs 24) ∧ v_iv (n_v vs 24) ≤ 35988000 := tv_rng t24
  obtain ⟨t25, hk⟩ := List.forall_mem_cons.mp hk
  have t25 : tv_ok ta (0, 0, 5999, []) (n_v vs 25) := t25
  have k25 : 0 ≤ v_iv (n_v vs 25) ∧ v_iv (n_v vs 25) ≤ 5999 := tv_rng t25
  obtain ⟨t26, hk⟩ := List.forall_mem_cons.mp hk
  have t26 : tv_ok ta (2, 0, 0, [254]) (n_v vs 26) := t26
  have r26 : ta (v_ad (n_v vs 26)) = some 254 := tv_rg t26
  obtain ⟨t27, hk⟩ := List.forall_mem_cons.mp hk
  have t27 : tv_ok ta (0, 0, 0, []) (n_v vs 27) := t27
  have k27 : 0 ≤ v_iv (n_v vs 27) ∧ v_iv (n_v vs 27) ≤ 0 := tv_rng t27
  have hds : ∀ q ∈ ([(25, 11, 0, 35988000), (25, 9, 0, 35988000), (25, 24, 0, 5999), (14, 22, -4294967296, 0), (22, 20, -1, -1), (11, 17, -4294967296, 0), (17, 8, -1, -1), (14, 12, -1, -1), (11, 9, 0, 0), (11, 8, -4294967295, -1), (9, 8, -4294967295, -1)] : List of_T), n_iv vs q.2.1 + q.2.2.1 ≤ n_iv vs q.1 ∧ n_iv vs q.1 ≤ n_iv vs q.2.1 + q.2.2.2 := hds
  obtain ⟨d0, hds⟩ := List.forall_mem_cons.mp hds
  have d0 : v_iv (n_v vs 11) + 0 ≤ v_iv (n_v vs 25) ∧ v_iv (n_v vs 25) ≤ v_iv (n_v vs 11) + 35988000 := d0
  obtain ⟨d1, hds⟩ := List.forall_mem_cons.mp hds
  have d1 : v_iv (n_v vs 9) + 0 ≤ v_iv (n_v vs 25) ∧ v_iv (n_v vs 25) ≤ v_iv (n_v vs 9) + 35988000 := d1
  obtain ⟨d2, hds⟩ := List.forall_mem_cons.mp hds
  have d2 : v_iv (n_v vs 24) + 0 ≤ v_iv (n_v vs 25) ∧ v_iv (n_v vs 25) ≤ v_iv (n_v vs 24) + 5999 := d2
  obtain ⟨d3, hds⟩ := List.forall_mem_cons.mp hds
  have d3 : v_iv (n_v vs 22) + (-4294967296) ≤ v_iv (n_v vs 14) ∧ v_iv (n_v vs 14) ≤ v_iv (n_v vs 22) + 0 := d3
  obtain ⟨d4, hds⟩ := List.forall_mem_cons.mp hds
  have d4 : v_iv (n_v vs 20) + (-1) ≤ v_iv (n_v vs 22) ∧ v_iv (n_v vs 22) ≤ v_iv (n_v vs 20) + (-1) := d4
  obtain ⟨d5, hds⟩ := List.forall_mem_cons.mp hds
  have d5 : v_iv (n_v vs 17) + (-4294967296) ≤ v_iv (n_v vs 11) ∧ v_iv (n_v vs 11) ≤ v_iv (n_v vs 17) + 0 := d5
  obtain ⟨d6, hds⟩ := List.forall_mem_cons.mp hds
  have d6 : v_iv (n_v vs 8) + (-1) ≤ v_iv (n_v vs 17) ∧ v_iv (n_v vs 17) ≤ v_iv (n_v vs 8) + (-1) := d6
  obtain ⟨d7, hds⟩ := List.forall_mem_cons.mp hds
  have d7 : v_iv (n_v vs 12) + (-1) ≤ v_iv (n_v vs 14) ∧ v_iv (n_v vs 14) ≤ v_iv (n_v vs 12) + (-1) := d7
  obtain ⟨d8, hds⟩ := List.forall_mem_cons.mp hds
  have d8 : v_iv (n_v vs 9) + 0 ≤ v_iv (n_v vs 11) ∧ v_iv (n_v vs 11) ≤ v_iv (n_v vs 9) + 0 := d8
  obtain ⟨d9, hds⟩ := List.forall_mem_cons.mp hds
  have d9 : v_iv (n_v vs 8) + (-4294967295) ≤ v_iv (n_v vs 11) ∧ v_iv (n_v vs 11) ≤ v_iv (n_v vs 8) + (-1) := d9
  obtain ⟨d10, hds⟩ := List.forall_mem_cons.mp hds
  have d10 : v_iv (n_v vs 8) + (-4294967295) ≤ v_iv (n_v vs 9) ∧ v_iv (n_v vs 9) ≤ v_iv (n_v vs 8) + (-1) := d10
  have hf : fc_ok PRD [(8, [27], [0]), (10, [27, 26, 25], []), (9, [26, 0], [143]), (1, [25, 24, 11], []), (3, [24, 14, 8], []), (9, [8, 0], [146]), (2, [22, 20, 21], []), (9, [20, 0], [147]), (2, [17, 8, 16], []), (2, [14, 12, 13], []), (20, [7, 13], [50, 0, 0, 3, 14, 2, 6, 1, 2, 1, 0, 0, 1, 1, 2, 1, 1, 0, 1, 3, 14, 2, 6, 1, 2, 1, 0, 0, 3, 1, 2, 1, 1, 0, -1, 2, 6, 7, 2, 1, 0, 0, 1, 2, 6, 7, 2, 1, 0, 0, 3, 1, 2, 1, 1, 0, 0]), (4, [12, 5, 8], []), (2, [11, 9, 10], []), (20, [7, 10], [50, 0, 0, 3, 14, 2, 6, 1, 2, 1, 0, 0, 0, 1, 2, 1, 1, 0, 1, 3, 14, 2, 6, 1, 2, 1, 0, 0, 2, 1, 2, 1, 1, 0, -1, 2, 6, 7, 2, 1, 0, 0, 0, 2, 6, 7, 2, 1, 0, 0, 2, 1, 2, 1, 1, 0, 0]), (5, [9, 5, 8], []), (12, [7, 1], [4]), (11, [5, 1], [4]), (20, [0, 3, 2], [60, 2, 4, 419, 146, 147, 143, 140, 141, 142]), (20, [0, 1, 2], [60, 0, 1, 421, 140]), (20, [1, 0], [50, 2, 0, 1146, 1147, 2, 6, 0, 2, 0, 0, 1, 0, 0, 6, 4, 2, 1, 0, 0, 1, 6, 2, 0, 4, 6, 3, 2, 1, 146, 2, 1, 147]), (20, [2], [50, 0, 0, 2, 6, 0, 2, 0, 0, 1, 0, 0, 2, 1, 0, 0, 999999])] ta ws vs := hf
  obtain ⟨f0, hf⟩ := fc_un (show (8 : Nat) < 100 from by decide) hf
  have f0 : v_iv (n_v vs 27) = 0 := f0
  obtain ⟨f1, hf⟩ := fc_un (show (10 : Nat) < 100 from by decide) hf
  have f1 : v_iv (n_v vs 27) = w_el ws (v_ad (n_v vs 26)) (v_iv (n_v vs 25)).toNat := f1
  obtain ⟨f2, hf⟩ := fc_un (show (9 : Nat) < 100 from by decide) hf
  have f2 : n_v vs 26 = w_fd ws (v_ad (n_v vs 0)) 143 := f2
  obtain ⟨f3, hf⟩ := fc_un (show (1 : Nat) < 100 from by decide) hf
  have f3 : v_iv (n_v vs 25) = v_iv (n_v vs 24) + v_iv (n_v vs 11) := f3
  obtain ⟨f4, hf⟩ := fc_un (show (3 : Nat) < 100 from by decide) hf
  have f4 : v_iv (n_v vs 24) = v_iv (n_v vs 14) * v_iv (n_v vs 8) := f4
  obtain ⟨f5, hf⟩ := fc_un (show (9 : Nat) < 100 from by decide) hf
  have f5 : n_v vs 8 = w_fd ws (v_ad (n_v vs 0)) 146 := f5
  obtain ⟨f6, hf⟩ := fc_un (show (2 : Nat) < 100 from by decide) hf
  have f6 : v_iv (n_v vs 22) = v_iv (n_v vs 20) - v_iv (n_v vs 21) := f6
  obtain ⟨f7, hf⟩ := fc_un (show (9 : Nat) < 100 from by decide) hf
  have f7 : n_v vs 20 = w_fd ws (v_ad (n_v vs 0)) 147 := f7
  obtain ⟨f8, hf⟩ := fc_un (show (2 : Nat) < 100 from by decide) hf
  have f8 : v_iv (n_v vs 17) = v_iv (n_v vs 8) - v_iv (n_v vs 16) := f8
  obtain ⟨f9, hf⟩ := fc_un (show (2 : Nat) < 100 from by decide) hf
  have f9 : v_iv (n_v vs 14) = v_iv (n_v vs 12) - v_iv (n_v vs 13) := f9
  obtain ⟨f10, hf⟩ := fc_un (show (20 : Nat) < 100 from by decide) hf
  have f10 : ((v_iv (n_v vs 7) = 1) ∧ (v_iv (n_v vs 13) = 1)) ∨ (((v_iv (n_v vs 7) = 3) ∧ (v_iv (n_v vs 13) = (-1))) ∨ ((v_iv (n_v vs 7) ≠ 1) ∧ ((v_iv (n_v vs 7) ≠ 3) ∧ (v_iv (n_v vs 13) = 0)))) := f10
  obtain ⟨f11, hf⟩ := fc_un (show (4 : Nat) < 100 from by decide) hf
  have f11 : v_iv (n_v vs 12) = Int.tdiv (v_iv (n_v vs 5)) (v_iv (n_v vs 8)) := f11
  have fq11 : 10 ≤ v_iv (n_v vs 12) → 10 * v_iv (n_v vs 8) ≤ v_iv (n_v vs 5) := dv_ten f11 (by omega) (by omega)
  obtain ⟨f12, hf⟩ := fc_un (show (2 : Nat) < 100 from by decide) hf
  have f12 : v_iv (n_v vs 11) = v_iv (n_v vs 9) - v_iv (n_v vs 10) := f12
  obtain ⟨f13, hf⟩ := fc_un (show (20 : Nat) < 100 from by decide) hf
  have f13 : ((v_iv (n_v vs 7) = 0) ∧ (v_iv (n_v vs 10) = 1)) ∨ (((v_iv (n_v vs 7) = 2) ∧ (v_iv (n_v vs 10) = (-1))) ∨ ((v_iv (n_v vs 7) ≠ 0) ∧ ((v_iv (n_v vs 7) ≠ 2) ∧ (v_iv (n_v vs 10) = 0)))) := f13
  obtain ⟨f14, hf⟩ := fc_un (show (5 : Nat) < 100 from by decide) hf
  have f14 : v_iv (n_v vs 9) = Int.tmod (v_iv (n_v vs 5)) (v_iv (n_v vs 8)) := f14
  obtain ⟨f15, hf⟩ := fc_un (show (12 : Nat) < 100 from by decide) hf
  have f15 : v_iv (n_v vs 7) = v_iv (n_v vs 1) % 4 := f15
  obtain ⟨f16, hf⟩ := fc_un (show (11 : Nat) < 100 from by decide) hf
  have f16 : v_iv (n_v vs 5) = v_iv (n_v vs 1) / 4 := f16
  obtain ⟨f17, hf⟩ := fc_un (show (20 : Nat) < 100 from by decide) hf
  have f17 : RTQ (w_fi ws (n_v vs 0) 146) (w_fi ws (n_v vs 0) 147) (w_ei ws (w_ar ws (n_v vs 0) 143)) (w_ei ws (w_ar ws (n_v vs 0) 140)) (w_ei ws (w_ar ws (n_v vs 0) 141)) (w_ei ws (w_ar ws (n_v vs 0) 142)) (v_iv (n_v vs 3)) (v_iv (n_v vs 2)) := f17
  obtain ⟨f18, hf⟩ := fc_un (show (20 : Nat) < 100 from by decide) hf
  have f18 : PIV (w_ei ws (w_ar ws (n_v vs 0) 140)) (v_iv (n_v vs 1)) (v_iv (n_v vs 2)) := f18
  obtain ⟨f19, hf⟩ := fc_un (show (20 : Nat) < 100 from by decide) hf
  have f19 : (0 ≤ v_iv (n_v vs 1)) ∧ ((v_iv (n_v vs 1) + 1) ≤ (4 * (w_fi ws (n_v vs 0) 146 * w_fi ws (n_v vs 0) 147))) := f19
  obtain ⟨f20, hf⟩ := fc_un (show (20 : Nat) < 100 from by decide) hf
  have f20 : (0 ≤ v_iv (n_v vs 2)) ∧ (v_iv (n_v vs 2) ≤ 999999) := f20
  have cr_0_140 : ta (w_ar ws (n_v vs 0) 140) = some 251 := tv_rg (th_fd hD hth r0 (g := GG_150) rfl (k := 140) (t := (2, 0, 0, [251])) rfl rfl)
  have cr_0_141 : ta (w_ar ws (n_v vs 0) 141) = some 252 := tv_rg (th_fd hD hth r0 (g := GG_150) rfl (k := 141) (t := (2, 0, 0, [252])) rfl rfl)
  have cr_0_142 : ta (w_ar ws (n_v vs 0) 142) = some 253 := tv_rg (th_fd hD hth r0 (g := GG_150) rfl (k := 142) (t := (2, 0, 0, [253])) rfl rfl)
  have cr_0_143 : ta (w_ar ws (n_v vs 0) 143) = some 254 := tv_rg (th_fd hD hth r0 (g := GG_150) rfl (k := 143) (t := (2, 0, 0, [254])) rfl rfl)
  have ad_26 : v_ad (n_v vs 26) = w_ar ws (n_v vs 0) 143 := congrArg v_ad f2
  rw [ad_26] at f1
  have h1 : v_iv (n_v vs 27) = w_ei ws (w_ar ws (n_v vs 0) 143) (v_iv (n_v vs 25)) := f1
  have g5 : v_iv (n_v vs 8) = w_fi ws (n_v vs 0) 146 := congrArg v_iv f5
  have g7 : v_iv (n_v vs 20) = w_fi ws (n_v vs 0) 147 := congrArg v_iv f7
  have hK_0_140 : ∀ j : Int, 0 ≤ j → j < 24000 → 0 ≤ w_ei ws (w_ar ws (n_v vs 0) 140) j ∧ w_ei ws (w_ar ws (n_v vs 0) 140) j ≤ 1000000 := fun j h0 h1 => th_el hD hth cr_0_140 (kd := 0) (n := 24000) (m := 24000) (lo := 0) (hi := 1000000) (rs := []) (L := []) rfl (by decide) (j := j.toNat) (by omega)
  have hK_0_141 : ∀ j : Int, 0 ≤ j → j < 96040 → 0 ≤ w_ei ws (w_ar ws (n_v vs 0) 141) j ∧ w_ei ws (w_ar ws (n_v vs 0) 141) j ≤ 23999 := fun j h0 h1 => th_el hD hth cr_0_141 (kd := 0) (n := 96040) (m := 96040) (lo := 0) (hi := 23999) (rs := []) (L := []) rfl (by decide) (j := j.toNat) (by omega)
  have hK_0_142 : ∀ j : Int, 0 ≤ j → j < 4 → 0 ≤ w_ei ws (w_ar ws (n_v vs 0) 142) j ∧ w_ei ws (w_ar ws (n_v vs 0) 142) j ≤ 24009 := fun j h0 h1 => th_el hD hth cr_0_142 (kd := 0) (n := 4) (m := 4) (lo := 0) (hi := 24009) (rs := []) (L := []) rfl (by decide) (j := j.toNat) (by omega)
  have hK_0_143 : ∀ j : Int, 0 ≤ j → j < 6000 → 0 ≤ w_ei ws (w_ar ws (n_v vs 0) 143) j ∧ w_ei ws (w_ar ws (n_v vs 0) 143) j ≤ 1 := fun j h0 h1 => th_el hD hth cr_0_143 (kd := 2) (n := 6000) (m := 6000) (lo := 0) (hi := 1) (rs := []) (L := []) rfl (by decide) (j := j.toNat) (by omega)
  have kz_0_146 : (-2147483648) ≤ w_fi ws (n_v vs 0) 146 ∧ w_fi ws (n_v vs 0) 146 ≤ 2147483647 := tv_rng (th_fd hD hth r0 (g := GG_150) rfl (k := 146) (t := (0, -2147483648, 2147483647, [])) rfl rfl)
  have kz_0_147 : (-2147483648) ≤ w_fi ws (n_v vs 0) 147 ∧ w_fi ws (n_v vs 0) 147 ≤ 2147483647 := tv_rng (th_fd hD hth r0 (g := GG_150) rfl (k := 147) (t := (0, -2147483648, 2147483647, [])) rfl rfl)
  have nf0 : fc_1 PRD (20, [0, 1, 25], [60, 2, 1, 424, 146, 147, 143]) ws (vs) := by
    refine ⟨fun n hn => ?_, ?_⟩
    · have hn : n ∈ [0, 1, 25] := hn
      rw [hl]
      simp only [List.mem_cons, List.not_mem_nil, or_false] at hn
      show n < 29; omega
    · show BFP (w_fi ws (n_v vs 0) 146) (w_fi ws (n_v vs 0) 147) (w_ei ws (w_ar ws (n_v vs 0) 143)) (v_iv (n_v vs 1)) (v_iv (n_v vs 25))
      exact vc_Mo_backFrom_9_0 (v_iv (n_v vs 1)) (v_iv (n_v vs 2)) (v_iv (n_v vs 3)) (v_iv (n_v vs 5)) (v_iv (n_v vs 7)) (v_iv (n_v vs 8)) (v_iv (n_v vs 9)) (v_iv (n_v vs 10)) (v_iv (n_v vs 11)) (v_iv (n_v vs 12)) (v_iv (n_v vs 13)) (v_iv (n_v vs 14)) (v_iv (n_v vs 16)) (v_iv (n_v vs 17)) (v_iv (n_v vs 20)) (v_iv (n_v vs 21)) (v_iv (n_v vs 22)) (v_iv (n_v vs 24)) (v_iv (n_v vs 25)) (v_iv (n_v vs 27)) (w_ei ws (w_ar ws (n_v vs 0) 143)) (w_fi ws (n_v vs 0) 146) (w_fi ws (n_v vs 0) 147) (w_ei ws (w_ar ws (n_v vs 0) 140)) (w_ei ws (w_ar ws (n_v vs 0) 141)) (w_ei ws (w_ar ws (n_v vs 0) 142)) k1 k2 k3 k5 k7 k8 k9 k10 k11 k12 k13 k14 k16 k17 k20 k21 k22 k24 k25 k27 d0 d1 d2 d3 d4 d5 d6 d7 d8 d9 d10 f0 h1 f3 f4 g5 f6 g7 f8 f9 f10 f11 f12 f13 f14 f15 f16 f17 f18 f19 f20 hK_0_140 hK_0_141 hK_0_142 hK_0_143 kz_0_146 kz_0_147
  have nf1 : fc_1 PRD (20, [7, 1], [50, 0, 0, 1, 2, 1, 0, 9, 2, 1, 1, 0, 4]) ws (vs) := by
    refine ⟨fun n hn => ?_, ?_⟩
    · have hn : n ∈ [7, 1] := hn
      rw [hl]
      simp only [List.mem_cons, List.not_mem_nil, or_false] at hn
      show n < 29; omega
    · show v_iv (n_v vs 7) = (v_iv (n_v vs 1) % 4)
      exact vc_Mo_backFrom_9_1 (v_iv (n_v vs 1)) (v_iv (n_v vs 2)) (v_iv (n_v vs 3)) (v_iv (n_v vs 5)) (v_iv (n_v vs 7)) (v_iv (n_v vs 8)) (v_iv (n_v vs 9)) (v_iv (n_v vs 10)) (v_iv (n_v vs 11)) (v_iv (n_v vs 12)) (v_iv (n_v vs 13)) (v_iv (n_v vs 14)) (v_iv (n_v vs 16)) (v_iv (n_v vs 17)) (v_iv (n_v vs 20)) (v_iv (n_v vs 21)) (v_iv (n_v vs 22)) (v_iv (n_v vs 24)) (v_iv (n_v vs 25)) (v_iv (n_v vs 27)) (w_ei ws (w_ar ws (n_v vs 0) 143)) (w_fi ws (n_v vs 0) 146) (w_fi ws (n_v vs 0) 147) (w_ei ws (w_ar ws (n_v vs 0) 140)) (w_ei ws (w_ar ws (n_v vs 0) 141)) (w_ei ws (w_ar ws (n_v vs 0) 142)) k1 k2 k3 k5 k7 k8 k9 k10 k11 k12 k13 k14 k16 k17 k20 k21 k22 k24 k25 k27 d0 d1 d2 d3 d4 d5 d6 d7 d8 d9 d10 f0 h1 f3 f4 g5 f6 g7 f8 f9 f10 f11 f12 f13 f14 f15 f16 f17 f18 f19 f20 hK_0_140 hK_0_141 hK_0_142 hK_0_143 kz_0_146 kz_0_147
  have nf2 : fc_1 PRD (20, [25, 0], [50, 2, 0, 1146, 1147, 2, 6, 0, 2, 0, 0, 1, 0, 0, 6, 4, 2, 1, 0, 0, 1, 6, 3, 2, 1, 146, 2, 1, 147]) ws (vs) := by
    refine ⟨fun n hn => ?_, ?_⟩
    · have hn : n ∈ [25, 0] := hn
      rw [hl]
      simp only [List.mem_cons, List.not_mem_nil, or_false] at hn
      show n < 29; omega
    · show (0 ≤ v_iv (n_v vs 25)) ∧ ((v_iv (n_v vs 25) + 1) ≤ (w_fi ws (n_v vs 0) 146 * w_fi ws (n_v vs 0) 147))
      exact vc_Mo_backFrom_9_2 (v_iv (n_v vs 1)) (v_iv (n_v vs 2)) (v_iv (n_v vs 3)) (v_iv (n_v vs 5)) (v_iv (n_v vs 7)) (v_iv (n_v vs 8)) (v_iv (n_v vs 9)) (v_iv (n_v vs 10)) (v_iv (n_v vs 11)) (v_iv (n_v vs 12)) (v_iv (n_v vs 13)) (v_iv (n_v vs 14)) (v_iv (n_v vs 16)) (v_iv (n_v vs 17)) (v_iv (n_v vs 20)) (v_iv (n_v vs 21)) (v_iv (n_v vs 22)) (v_iv (n_v vs 24)) (v_iv (n_v vs 25)) (v_iv (n_v vs 27)) (w_ei ws (w_ar ws (n_v vs 0) 143)) (w_fi ws (n_v vs 0) 146) (w_fi ws (n_v vs 0) 147) (w_ei ws (w_ar ws (n_v vs 0) 140)) (w_ei ws (w_ar ws (n_v vs 0) 141)) (w_ei ws (w_ar ws (n_v vs 0) 142)) k1 k2 k3 k5 k7 k8 k9 k10 k11 k12 k13 k14 k16 k17 k20 k21 k22 k24 k25 k27 d0 d1 d2 d3 d4 d5 d6 d7 d8 d9 d10 f0 h1 f3 f4 g5 f6 g7 f8 f9 f10 f11 f12 f13 f14 f15 f16 f17 f18 f19 f20 hK_0_140 hK_0_141 hK_0_142 hK_0_143 kz_0_146 kz_0_147
  have nf3 : fc_1 PRD (24, [0, 0], []) ws (vs) := by
    refine ⟨fun n hn => ?_, ?_⟩
    · have hn : n ∈ [0, 0] := hn
      rw [hl]
      simp only [List.mem_cons, List.not_mem_nil, or_false] at hn
      show n < 29; omega
    · show n_v vs 0 = n_v vs 0
      first | rfl | simp only [true_and]
  have nf4 : fc_1 PRD (24, [1, 1], []) ws (vs) := by
    refine ⟨fun n hn => ?_, ?_⟩
    · have hn : n ∈ [1, 1] := hn
      rw [hl]
      simp only [List.mem_cons, List.not_mem_nil, or_false] at hn
      show n < 29; omega
    · show n_v vs 1 = n_v vs 1
      first | rfl | simp only [true_and]
  have nf5 : fc_1 PRD (24, [2, 2], []) ws (vs) := by
    refine ⟨fun n hn => ?_, ?_⟩
    · have hn : n ∈ [2, 2] := hn
      rw [hl]
      simp only [List.mem_cons, List.not_mem_nil, or_false] at hn
      show n < 29; omega
    · show n_v vs 2 = n_v vs 2
      first | rfl | simp only [true_and]
  refine ⟨(fun _ h => (by cases h)), [], trivial, ?_, (fun _ h => (by cases h))⟩
  rw [List.append_nil]
  exact List.forall_mem_cons.mpr ⟨⟨show (20 : Nat) < 100 from by decide, nf0⟩, List.forall_mem_cons.mpr ⟨⟨show (20 : Nat) < 100 from by decide, nf1⟩, List.forall_mem_cons.mpr ⟨⟨show (20 : Nat) < 100 from by decide, nf2⟩, List.forall_mem_cons.mpr ⟨⟨show (24 : Nat) < 100 from by decide, nf3⟩, List.forall_mem_cons.mpr ⟨⟨show (24 : Nat) < 100 from by decide, nf4⟩, List.forall_mem_cons.mpr ⟨⟨show (24 : Nat) < 100 from by decide, nf5⟩, (fun _ h => (by cases h))⟩⟩⟩⟩⟩⟩
set_option maxHeartbeats 4000000 in
theorem vc_Mo_backFrom_10_r0 (x1 : Int) (x2 : Int) (x3 : Int) (x5 : Int) (x7 : Int) (x8 : Int) (x9 : Int) (x10 : Int) (x11 : Int) (x12 : Int) (x13 : Int) (x14 : Int) (x16 : Int) (x17 : Int) (x20 : Int) (tall_0 : Int) (wide_0 : Int) (barredPoint_0 : Int → Int) (costOf_0 : Int → Int) (bucket_0 : Int → Int) (bucketMany_0 : Int → Int) (k1 : 0 ≤ x1 ∧ x1 ≤ 23999) (k2 : 0 ≤ x2 ∧ x2 ≤ 1000000) (k3 : 0 ≤ x3 ∧ x3 ≤ 5999) (k5 : 0 ≤ x5 ∧ x5 ≤ 5999) (k7 : 2 ≤ x7 ∧ x7 ≤ 2) (k8 : 1 ≤ x8 ∧ x8 ≤ 6000) (k9 : 0 ≤ x9 ∧ x9 ≤ 5999) (k10 : (-1) ≤ x10 ∧ x10 ≤ (-1)) (k11 : 1 ≤ x11 ∧ x11 ≤ 5999) (k12 : 0 ≤ x12 ∧ x12 ≤ 5999) (k13 : 0 ≤ x13 ∧ x13 ≤ 0) (k14 : 0 ≤ x14 ∧ x14 ≤ 5999) (k16 : 1 ≤ x16 ∧ x16 ≤ 1) (k17 : 1 ≤ x17 ∧ x17 ≤ 5999) (k20 : (-2147483648) ≤ x20 ∧ x20 ≤ 2147483647) (d0 : x17 + (-4294967296) ≤ x11 ∧ x11 ≤ x17 + 0) (d1 : x8 + (-1) ≤ x17 ∧ x17 ≤ x8 + (-1)) (d2 : x12 + 0 ≤ x14 ∧ x14 ≤ x12 + 0) (d3 : x9 + 1 ≤ x11 ∧ x11 ≤ x9 + 1) (d4 : x8 + (-4294967294) ≤ x11 ∧ x11 ≤ x8 + 0) (d5 : x8 + (-4294967295) ≤ x9 ∧ x9 ≤ x8 + (-1)) (g0 : x20 = tall_0) (f1 : x17 = x8 - x16) (g2 : x8 = wide_0) (f3 : x14 = x12 - x13) (f4 : ((x7 = 1) ∧ (x13 = 1)) ∨ (((x7 = 3) ∧ (x13 = (-1))) ∨ ((x7 ≠ 1) ∧ ((x7 ≠ 3) ∧ (x13 = 0))))) (f5 : x12 = Int.tdiv (x5) (x8)) (f6 : x11 = x9 - x10) (f7 : ((x7 = 0) ∧ (x10 = 1)) ∨ (((x7 = 2) ∧ (x10 = (-1))) ∨ ((x7 ≠ 0) ∧ ((x7 ≠ 2) ∧ (x10 = 0))))) (f8 : x9 = Int.tmod (x5) (x8)) (f9 : x7 = x1 % 4) (f10 : x5 = x1 / 4) (f11 : RTQ (wide_0) (tall_0) (barredPoint_0) (costOf_0) (bucket_0) (bucketMany_0) (x3) (x2)) (f12 : PIV (costOf_0) (x1) (x2)) (f13 : (0 ≤ x1) ∧ ((x1 + 1) ≤ (4 * (wide_0 * tall_0)))) (f14 : (0 ≤ x2) ∧ (x2 ≤ 999999)) (hK_0_140 : ∀ j : Int, 0 ≤ j → j < 24000 → 0 ≤ costOf_0 j ∧ costOf_0 j ≤ 1000000) (hK_0_141 : ∀ j : Int, 0 ≤ j → j < 96040 → 0 ≤ bucket_0 j ∧ bucket_0 j ≤ 23999) (hK_0_142 : ∀ j : Int, 0 ≤ j → j < 4 → 0 ≤ bucketMany_0 j ∧ bucketMany_0 j ≤ 24009) (hK_0_143 : ∀ j : Int, 0 ≤ j → j < 6000 → 0 ≤ barredPoint_0 j ∧ barredPoint_0 j ≤ 1) (kz_0_146 : (-2147483648) ≤ wide_0 ∧ wide_0 ≤ 2147483647) (kz_0_147 : (-2147483648) ≤ tall_0 ∧ tall_0 ≤ 2147483647) : 1 ≤ x20 ∧ x20 ≤ 6000 := by
  first
    | omega
    | (have g := gok_bd (show GRX wide_0 tall_0 from ‹RTQ _ _ _ _ _ _ _ _›.1); omega)
    | (have g0 : GRX wide_0 tall_0 := ‹RTQ _ _ _ _ _ _ _ _›.1
       have g := gok_bd g0
       have e8 : x8 = wide_0 := by assumption
       have e20 : x20 = tall_0 := by assumption
       have c := cell_ix (W := x8) (T := x20) (x := x11) (y := x14) (p := x25) (by omega) (by omega) (by omega) (by omega) (by omega) (by rw [‹x25 = x24 + x11›, ‹x24 = x14 * x8›])
       have g3 := g0.2.2
       rw [e8, e20] at c
       omega)
    | (have h := ‹BFP _ _ _ _ _›.2.2.1; omega)
    | sorry
def o_Mo_backFrom_10 : or_T := (60, 22, [(0, (2, 0, 0, [150])), (1, (0, 0, 23999, [])), (2, (0, 0, 1000000, [])), (3, (0, 0, 5999, [])), (5, (0, 0, 5999, [])), (7, (0, 2, 2, [])), (8, (0, 1, 6000, [])), (9, (0, 0, 5999, [])), (10, (0, -1, -1, [])), (11, (0, 1, 5999, [])), (12, (0, 0, 5999, [])), (13, (0, 0, 0, [])), (14, (0, 0, 5999, [])), (16, (0, 1, 1, [])), (17, (0, 1, 5999, [])), (20, (0, -2147483648, 2147483647, []))], [(9, [20, 0], [147]), (2, [17, 8, 16], []), (9, [8, 0], [146]), (2, [14, 12, 13], []), (20, [7, 13], [50, 0, 0, 3, 14, 2, 6, 1, 2, 1, 0, 0, 1, 1, 2, 1, 1, 0, 1, 3, 14, 2, 6, 1, 2, 1, 0, 0, 3, 1, 2, 1, 1, 0, -1, 2, 6, 7, 2, 1, 0, 0, 1, 2, 6, 7, 2, 1, 0, 0, 3, 1, 2, 1, 1, 0, 0]), (4, [12, 5, 8], []), (2, [11, 9, 10], []), (20, [7, 10], [50, 0, 0, 3, 14, 2, 6, 1, 2, 1, 0, 0, 0, 1, 2, 1, 1, 0, 1, 3, 14, 2, 6, 1, 2, 1, 0, 0, 2, 1, 2, 1, 1, 0, -1, 2, 6, 7, 2, 1, 0, 0, 0, 2, 6, 7, 2, 1, 0, 0, 2, 1, 2, 1, 1, 0, 0]), (5, [9, 5, 8], []), (12, [7, 1], [4]), (11, [5, 1], [4]), (20, [0, 3, 2], [60, 2, 4, 419, 146, 147, 143, 140, 141, 142]), (20, [0, 1, 2], [60, 0, 1, 421, 140]), (20, [1, 0], [50, 2, 0, 1146, 1147, 2, 6, 0, 2, 0, 0, 1, 0, 0, 6, 4, 2, 1, 0, 0, 1, 6, 2, 0, 4, 6, 3, 2, 1, 146, 2, 1, 147]), (20, [2], [50, 0, 0, 2, 6, 0, 2, 0, 0, 1, 0, 0, 2, 1, 0, 0, 999999])], [(20, (0, 1, 6000, []))], [], [], [], [(11, 17, -4294967296, 0), (17, 8, -1, -1), (14, 12, 0, 0), (11, 9, 1, 1), (11, 8, -4294967294, 0), (9, 8, -4294967295, -1)])
theorem oo_Mo_backFrom_10 {kA : Nat → ClassId} : or_ok PRD kA GG o_Mo_backFrom_10 := by
  intro A ta ws vs hD hth hl hk hds hf
  have hl : vs.length = 22 := hl
  have hk : ∀ q ∈ ([(0, (2, 0, 0, [150])), (1, (0, 0, 23999, [])), (2, (0, 0, 1000000, [])), (3, (0, 0, 5999, [])), (5, (0, 0, 5999, [])), (7, (0, 2, 2, [])), (8, (0, 1, 6000, [])), (9, (0, 0, 5999, [])), (10, (0, -1, -1, [])), (11, (0, 1, 5999, [])), (12, (0, 0, 5999, [])), (13, (0, 0, 0, [])), (14, (0, 0, 5999, [])), (16, (0, 1, 1, [])), (17, (0, 1, 5999, [])), (20, (0, -2147483648, 2147483647, []))] : List (Nat × tv_T)), tv_ok ta q.2 (n_v vs q.1) := hk
  obtain ⟨t0, hk⟩ := List.forall_mem_cons.mp hk
  have t0 : tv_ok ta (2, 0, 0, [150]) (n_v vs 0) := t0
  have r0 : ta (v_ad (n_v vs 0)) = some 150 := tv_rg t0
  obtain ⟨t1, hk⟩ := List.forall_mem_cons.mp hk
  have t1 : tv_ok ta (0, 0, 23999, []) (n_v vs 1) := t1
  have k1 : 0 ≤ v_iv (n_v vs 1) ∧ v_iv (n_v vs 1) ≤ 23999 := tv_rng t1
  obtain ⟨t2, hk⟩ := List.forall_mem_cons.mp hk
  have t2 : tv_ok ta (0, 0, 1000000, []) (n_v vs 2) := t2
  have k2 : 0 ≤ v_iv (n_v vs 2) ∧ v_iv (n_v vs 2) ≤ 1000000 := tv_rng t2
  obtain ⟨t3, hk⟩ := List.forall_mem_cons.mp hk
  have t3 : tv_ok ta (0, 0, 5999, []) (n_v vs 3) := t3
  have k3 : 0 ≤ v_iv (n_v vs 3) ∧ v_iv (n_v vs 3) ≤ 5999 := tv_rng t3
  obtain ⟨t5, hk⟩ := List.forall_mem_cons.mp hk
  have t5 : tv_ok ta (0, 0, 5999, []) (n_v vs 5) := t5
  have k5 : 0 ≤ v_iv (n_v vs 5) ∧ v_iv (n_v vs 5) ≤ 5999 := tv_rng t5
  obtain ⟨t7, hk⟩ := List.forall_mem_cons.mp hk
  have t7 : tv_ok ta (0, 2, 2, []) (n_v vs 7) := t7
  have k7 : 2 ≤ v_iv (n_v vs 7) ∧ v_iv (n_v vs 7) ≤ 2 := tv_rng t7
  obtain ⟨t8, hk⟩ := List.forall_mem_cons.mp hk
  have t8 : tv_ok ta (0, 1, 6000, []) (n_v vs 8) := t8
  have k8 : 1 ≤ v_iv (n_v vs 8) ∧ v_iv (n_v vs 8) ≤ 6000 := tv_rng t8
  obtain ⟨t9, hk⟩ := List.forall_mem_cons.mp hk
  have t9 : tv_ok ta (0, 0, 5999, []) (n_v vs 9) := t9
  have k9 : 0 ≤ v_iv (n_v vs 9) ∧ v_iv (n_v vs 9) ≤ 5999 := tv_rng t9
  obtain ⟨t10, hk⟩ := List.forall_mem_cons.mp hk
  have t10 : tv_ok ta (0, -1, -1, []) (n_v vs 10) := t10
  have k10 : (-1) ≤ v_iv (n_v vs 10) ∧ v_iv (n_v vs 10) ≤ (-1) := tv_rng t10
  obtain ⟨t11, hk⟩ := List.forall_mem_cons.mp hk
  have t11 : tv_ok ta (0, 1, 5999, []) (n_v vs 11) := t11
  have k11 : 1 ≤ v_iv (n_v vs 11) ∧ v_iv (n_v vs 11) ≤ 5999 := tv_rng t11
  obtain ⟨t12, hk⟩ := List.forall_mem_cons.mp hk
  have t12 : tv_ok ta (0, 0, 5999, []) (n_v vs 12) := t12
  have k12 : 0 ≤ v_iv (n_v vs 12) ∧ v_iv (n_v vs 12) ≤ 5999 := tv_rng t12
  obtain ⟨t13, hk⟩ := List.forall_mem_cons.mp hk
  have t13 : tv_ok ta (0, 0, 0, []) (n_v vs 13) := t13
  have k13 : 0 ≤ v_iv (n_v vs 13) ∧ v_iv (n_v vs 13) ≤ 0 := tv_rng t13
  obtain ⟨t14, hk⟩ := List.forall_mem_cons.mp hk
  have t14 : tv_ok ta (0, 0, 5999, []) (n_v vs 14) := t14
  have k14 : 0 ≤ v_iv (n_v vs 14) ∧ v_iv (n_v vs 14) ≤ 5999 := tv_rng t14
  obtain ⟨t16, hk⟩ := List.forall_mem_cons.mp hk
  have t16 : tv_ok ta (0, 1, 1, []) (n_v vs 16) := t16
  have k16 : 1 ≤ v_iv (n_v vs 16) ∧ v_iv (n_v vs 16) ≤ 1 := tv_rng t16
  obtain ⟨t17, hk⟩ := List.forall_mem_cons.mp hk
  have t17 : tv_ok ta (0, 1, 5999, []) (n_v vs 17) := t17
  have k17 : 1 ≤ v_iv (n_v vs 17) ∧ v_iv (n_v vs 17) ≤ 5999 := tv_rng t17
  obtain ⟨t20, hk⟩ := List.forall_mem_cons.mp hk
  have t20 : tv_ok ta (0, -2147483648, 2147483647, []) (n_v vs 20) := t20
  have k20 : (-2147483648) ≤ v_iv (n_v vs 20) ∧ v_iv (n_v vs 20) ≤ 2147483647 := tv_rng t20
  have hds : ∀ q ∈ ([(11, 17, -4294967296, 0), (17, 8, -1, -1), (14, 12, 0, 0), (11, 9, 1, 1), (11, 8, -4294967294, 0), (9, 8, -4294967295, -1)] : List of_T), n_iv vs q.2.1 + q.2.2.1 ≤ n_iv vs q.1 ∧ n_iv vs q.1 ≤ n_iv vs q.2.1 + q.2.2.2 := hds
  obtain ⟨d0, hds⟩ := List.forall_mem_cons.mp hds
  have d0 : v_iv (n_v vs 17) + (-4294967296) ≤ v_iv (n_v vs 11) ∧ v_iv (n_v vs 11) ≤ v_iv (n_v vs 17) + 0 := d0
  obtain ⟨d1, hds⟩ := List.forall_mem_cons.mp hds
  have d1 : v_iv (n_v vs 8) + (-1) ≤ v_iv (n_v vs 17) ∧ v_iv (n_v vs 17) ≤ v_iv (n_v vs 8) + (-1) := d1
  obtain ⟨d2, hds⟩ := List.forall_mem_cons.mp hds
  have d2 : v_iv (n_v vs 12) + 0 ≤ v_iv (n_v vs 14) ∧ v_iv (n_v vs 14) ≤ v_iv (n_v vs 12) + 0 := d2
  obtain ⟨d3, hds⟩ := List.forall_mem_cons.mp hds
  have d3 : v_iv (n_v vs 9) + 1 ≤ v_iv (n_v vs 11) ∧ v_iv (n_v vs 11) ≤ v_iv (n_v vs 9) + 1 := d3
  obtain ⟨d4, hds⟩ := List.forall_mem_cons.mp hds
  have d4 : v_iv (n_v vs 8) + (-4294967294) ≤ v_iv (n_v vs 11) ∧ v_iv (n_v vs 11) ≤ v_iv (n_v vs 8) + 0 := d4
  obtain ⟨d5, hds⟩ := List.forall_mem_cons.mp hds
  have d5 : v_iv (n_v vs 8) + (-4294967295) ≤ v_iv (n_v vs 9) ∧ v_iv (n_v vs 9) ≤ v_iv (n_v vs 8) + (-1) := d5
  have hf : fc_ok PRD [(9, [20, 0], [147]), (2, [17, 8, 16], []), (9, [8, 0], [146]), (2, [14, 12, 13], []), (20, [7, 13], [50, 0, 0, 3, 14, 2, 6, 1, 2, 1, 0, 0, 1, 1, 2, 1, 1, 0, 1, 3, 14, 2, 6, 1, 2, 1, 0, 0, 3, 1, 2, 1, 1, 0, -1, 2, 6, 7, 2, 1, 0, 0, 1, 2, 6, 7, 2, 1, 0, 0, 3, 1, 2, 1, 1, 0, 0]), (4, [12, 5, 8], []), (2, [11, 9, 10], []), (20, [7, 10], [50, 0, 0, 3, 14, 2, 6, 1, 2, 1, 0, 0, 0, 1, 2, 1, 1, 0, 1, 3, 14, 2, 6, 1, 2, 1, 0, 0, 2, 1, 2, 1, 1, 0, -1, 2, 6, 7, 2, 1, 0, 0, 0, 2, 6, 7, 2, 1, 0, 0, 2, 1, 2, 1, 1, 0, 0]), (5, [9, 5, 8], []), (12, [7, 1], [4]), (11, [5, 1], [4]), (20, [0, 3, 2], [60, 2, 4, 419, 146, 147, 143, 140, 141, 142]), (20, [0, 1, 2], [60, 0, 1, 421, 140]), (20, [1, 0], [50, 2, 0, 1146, 1147, 2, 6, 0, 2, 0, 0, 1, 0, 0, 6, 4, 2, 1, 0, 0, 1, 6, 2, 0, 4, 6, 3, 2, 1, 146, 2, 1, 147]), (20, [2], [50, 0, 0, 2, 6, 0, 2, 0, 0, 1, 0, 0, 2, 1, 0, 0, 999999])] ta ws vs := hf
  obtain ⟨f0, hf⟩ := fc_un (show (9 : Nat) < 100 from by decide) hf
  have f0 : n_v vs 20 = w_fd ws (v_ad (n_v vs 0)) 147 := f0
  obtain ⟨f1, hf⟩ := fc_un (show (2 : Nat) < 100 from by decide) hf
  have f1 : v_iv (n_v vs 17) = v_iv (n_v vs 8) - v_iv (n_v vs 16) := f1
  obtain ⟨f2, hf⟩ := fc_un (show (9 : Nat) < 100 from by decide) hf
  have f2 : n_v vs 8 = w_fd ws (v_ad (n_v vs 0)) 146 := f2
  obtain ⟨f3, hf⟩ := fc_un (show (2 : Nat) < 100 from by decide) hf
  have f3 : v_iv (n_v vs 14) = v_iv (n_v vs 12) - v_iv (n_v vs 13) := f3
  obtain ⟨f4, hf⟩ := fc_un (show (20 : Nat) < 100 from by decide) hf
  have f4 : ((v_iv (n_v vs 7) = 1) ∧ (v_iv (n_v vs 13) = 1)) ∨ (((v_iv (n_v vs 7) = 3) ∧ (v_iv (n_v vs 13) = (-1))) ∨ ((v_iv (n_v vs 7) ≠ 1) ∧ ((v_iv (n_v vs 7) ≠ 3) ∧ (v_iv (n_v vs 13) = 0)))) := f4
  obtain ⟨f5, hf⟩ := fc_un (show (4 : Nat) < 100 from by decide) hf
  have f5 : v_iv (n_v vs 12) = Int.tdiv (v_iv (n_v vs 5)) (v_iv (n_v vs 8)) := f5
  have fq5 : 10 ≤ v_iv (n_v vs 12) → 10 * v_iv (n_v vs 8) ≤ v_iv (n_v vs 5) := dv_ten f5 (by omega) (by omega)
  obtain ⟨f6, hf⟩ := fc_un (show (2 : Nat) < 100 from by decide) hf
  have f6 : v_iv (n_v vs 11) = v_iv (n_v vs 9) - v_iv (n_v vs 10) := f6
  obtain ⟨f7, hf⟩ := fc_un (show (20 : Nat) < 100 from by decide) hf
  have f7 : ((v_iv (n_v vs 7) = 0) ∧ (v_iv (n_v vs 10) = 1)) ∨ (((v_iv (n_v vs 7) = 2) ∧ (v_iv (n_v vs 10) = (-1))) ∨ ((v_iv (n_v vs 7) ≠ 0) ∧ ((v_iv (n_v vs 7) ≠ 2) ∧ (v_iv (n_v vs 10) = 0)))) := f7
  obtain ⟨f8, hf⟩ := fc_un (show (5 : Nat) < 100 from by decide) hf
  have f8 : v_iv (n_v vs 9) = Int.tmod (v_iv (n_v vs 5)) (v_iv (n_v vs 8)) := f8
  obtain ⟨f9, hf⟩ := fc_un (show (12 : Nat) < 100 from by decide) hf
  have f9 : v_iv (n_v vs 7) = v_iv (n_v vs 1) % 4 := f9
  obtain ⟨f10, hf⟩ := fc_un (show (11 : Nat) < 100 from by decide) hf
  have f10 : v_iv (n_v vs 5) = v_iv (n_v vs 1) / 4 := f10
  obtain ⟨f11, hf⟩ := fc_un (show (20 : Nat) < 100 from by decide) hf
  have f11 : RTQ (w_fi ws (n_v vs 0) 146) (w_fi ws (n_v vs 0) 147) (w_ei ws (w_ar ws (n_v vs 0) 143)) (w_ei ws (w_ar ws (n_v vs 0) 140)) (w_ei ws (w_ar ws (n_v vs 0) 141)) (w_ei ws (w_ar ws (n_v vs 0) 142)) (v_iv (n_v vs 3)) (v_iv (n_v vs 2)) := f11
  obtain ⟨f12, hf⟩ := fc_un (show (20 : Nat) < 100 from by decide) hf
  have f12 : PIV (w_ei ws (w_ar ws (n_v vs 0) 140)) (v_iv (n_v vs 1)) (v_iv (n_v vs 2)) := f12
  obtain ⟨f13, hf⟩ := fc_un (show (20 : Nat) < 100 from by decide) hf
  have f13 : (0 ≤ v_iv (n_v vs 1)) ∧ ((v_iv (n_v vs 1) + 1) ≤ (4 * (w_fi ws (n_v vs 0) 146 * w_fi ws (n_v vs 0) 147))) := f13
  obtain ⟨f14, hf⟩ := fc_un (show (20 : Nat) < 100 from by decide) hf
  have f14 : (0 ≤ v_iv (n_v vs 2)) ∧ (v_iv (n_v vs 2) ≤ 999999) := f14
  have cr_0_140 : ta (w_ar ws (n_v vs 0) 140) = some 251 := tv_rg (th_fd hD hth r0 (g := GG_150) rfl (k := 140) (t := (2, 0, 0, [251])) rfl rfl)
  have cr_0_141 : ta (w_ar ws (n_v vs 0) 141) = some 252 := tv_rg (th_fd hD hth r0 (g := GG_150) rfl (k := 141) (t := (2, 0, 0, [252])) rfl rfl)
  have cr_0_142 : ta (w_ar ws (n_v vs 0) 142) = some 253 := tv_rg (th_fd hD hth r0 (g := GG_150) rfl (k := 142) (t := (2, 0, 0, [253])) rfl rfl)
  have cr_0_143 : ta (w_ar ws (n_v vs 0) 143) = some 254 := tv_rg (th_fd hD hth r0 (g := GG_150) rfl (k := 143) (t := (2, 0, 0, [254])) rfl rfl)
  have g0 : v_iv (n_v vs 20) = w_fi ws (n_v vs 0) 147 := congrArg v_iv f0
  have g2 : v_iv (n_v vs 8) = w_fi ws (n_v vs 0) 146 := congrArg v_iv f2
  have hK_0_140 : ∀ j : Int, 0 ≤ j → j < 24000 → 0 ≤ w_ei ws (w_ar ws (n_v vs 0) 140) j ∧ w_ei ws (w_ar ws (n_v vs 0) 140) j ≤ 1000000 := fun j h0 h1 => th_el hD hth cr_0_140 (kd := 0) (n := 24000) (m := 24000) (lo := 0) (hi := 1000000) (rs := []) (L := []) rfl (by decide) (j := j.toNat) (by omega)
  have hK_0_141 : ∀ j : Int, 0 ≤ j → j < 96040 → 0 ≤ w_ei ws (w_ar ws (n_v vs 0) 141) j ∧ w_ei ws (w_ar ws (n_v vs 0) 141) j ≤ 23999 := fun j h0 h1 => th_el hD hth cr_0_141 (kd := 0) (n := 96040) (m := 96040) (lo := 0) (hi := 23999) (rs := []) (L := []) rfl (by decide) (j := j.toNat) (by omega)
  have hK_0_142 : ∀ j : Int, 0 ≤ j → j < 4 → 0 ≤ w_ei ws (w_ar ws (n_v vs 0) 142) j ∧ w_ei ws (w_ar ws (n_v vs 0) 142) j ≤ 24009 := fun j h0 h1 => th_el hD hth cr_0_142 (kd := 0) (n := 4) (m := 4) (lo := 0) (hi := 24009) (rs := []) (L := []) rfl (by decide) (j := j.toNat) (by omega)
  have hK_0_143 : ∀ j : Int, 0 ≤ j → j < 6000 → 0 ≤ w_ei ws (w_ar ws (n_v vs 0) 143) j ∧ w_ei ws (w_ar ws (n_v vs 0) 143) j ≤ 1 := fun j h0 h1 => th_el hD hth cr_0_143 (kd := 2) (n := 6000) (m := 6000) (lo := 0) (hi := 1) (rs := []) (L := []) rfl (by decide) (j := j.toNat) (by omega)
  have kz_0_146 : (-2147483648) ≤ w_fi ws (n_v vs 0) 146 ∧ w_fi ws (n_v vs 0) 146 ≤ 2147483647 := tv_rng (th_fd hD hth r0 (g := GG_150) rfl (k := 146) (t := (0, -2147483648, 2147483647, [])) rfl rfl)
  have kz_0_147 : (-2147483648) ≤ w_fi ws (n_v vs 0) 147 ∧ w_fi ws (n_v vs 0) 147 ≤ 2147483647 := tv_rng (th_fd hD hth r0 (g := GG_150) rfl (k := 147) (t := (0, -2147483648, 2147483647, [])) rfl rfl)
  have hrf0 : 1 ≤ v_iv (n_v vs 20) ∧ v_iv (n_v vs 20) ≤ 6000 := vc_Mo_backFrom_10_r0 (v_iv (n_v vs 1)) (v_iv (n_v vs 2)) (v_iv (n_v vs 3)) (v_iv (n_v vs 5)) (v_iv (n_v vs 7)) (v_iv (n_v vs 8)) (v_iv (n_v vs 9)) (v_iv (n_v vs 10)) (v_iv (n_v vs 11)) (v_iv (n_v vs 12)) (v_iv (n_v vs 13)) (v_iv (n_v vs 14)) (v_iv (n_v vs 16)) (v_iv (n_v vs 17)) (v_iv (n_v vs 20)) (w_fi ws (n_v vs 0) 147) (w_fi ws (n_v vs 0) 146) (w_ei ws (w_ar ws (n_v vs 0) 143)) (w_ei ws (w_ar ws (n_v vs 0) 140)) (w_ei ws (w_ar ws (n_v vs 0) 141)) (w_ei ws (w_ar ws (n_v vs 0) 142)) k1 k2 k3 k5 k7 k8 k9 k10 k11 k12 k13 k14 k16 k17 k20 d0 d1 d2 d3 d4 d5 g0 f1 g2 f3 f4 f5 f6 f7 f8 f9 f10 f11 f12 f13 f14 hK_0_140 hK_0_141 hK_0_142 hK_0_143 kz_0_146 kz_0_147
  have rf20 : tv_ok ta (0, 1, 6000, []) (n_v vs 20) := tv_in t20 (by first | omega | grind) (by first | omega | grind)
  refine ⟨List.forall_mem_cons.mpr ⟨rf20, (fun _ h => (by cases h))⟩, [], trivial, ?_, (fun _ h => (by cases h))⟩
  rw [List.append_nil]
  exact (fun _ h => (by cases h))
set_option maxHeartbeats 4000000 in
theorem vc_Mo_backFrom_11_r0 (x1 : Int) (x2 : Int) (x3 : Int) (x5 : Int) (x7 : Int) (x8 : Int) (x9 : Int) (x10 : Int) (x11 : Int) (x12 : Int) (x13 : Int) (x14 : Int) (x16 : Int) (x17 : Int) (x20 : Int) (x21 : Int) (x22 : Int) (x24 : Int) (x25 : Int) (wide_0 : Int) (tall_0 : Int) (barredPoint_0 : Int → Int) (costOf_0 : Int → Int) (bucket_0 : Int → Int) (bucketMany_0 : Int → Int) (k1 : 0 ≤ x1 ∧ x1 ≤ 23999) (k2 : 0 ≤ x2 ∧ x2 ≤ 1000000) (k3 : 0 ≤ x3 ∧ x3 ≤ 5999) (k5 : 0 ≤ x5 ∧ x5 ≤ 5999) (k7 : 2 ≤ x7 ∧ x7 ≤ 2) (k8 : 1 ≤ x8 ∧ x8 ≤ 6000) (k9 : 0 ≤ x9 ∧ x9 ≤ 5999) (k10 : (-1) ≤ x10 ∧ x10 ≤ (-1)) (k11 : 1 ≤ x11 ∧ x11 ≤ 5999) (k12 : 0 ≤ x12 ∧ x12 ≤ 5999) (k13 : 0 ≤ x13 ∧ x13 ≤ 0) (k14 : 0 ≤ x14 ∧ x14 ≤ 5999) (k16 : 1 ≤ x16 ∧ x16 ≤ 1) (k17 : 1 ≤ x17 ∧ x17 ≤ 5999) (k20 : 1 ≤ x20 ∧ x20 ≤ 6000) (k21 : 1 ≤ x21 ∧ x21 ≤ 1) (k22 : 0 ≤ x22 ∧ x22 ≤ 5999) (k24 : 0 ≤ x24 ∧ x24 ≤ 35994000) (k25 : 1 ≤ x25 ∧ x25 ≤ 35999999) (d0 : x11 + 0 ≤ x25 ∧ x25 ≤ x11 + 35994000) (d1 : x17 + (-4294967296) ≤ x25 ∧ x25 ≤ x17 + 35994000) (d2 : x9 + 1 ≤ x25 ∧ x25 ≤ x9 + 35994001) (d3 : x8 + (-4294967294) ≤ x25 ∧ x25 ≤ x8 + 35994000) (d4 : x24 + 1 ≤ x25 ∧ x25 ≤ x24 + 5999) (d5 : x22 + (-4294967296) ≤ x14 ∧ x14 ≤ x22 + 0) (d6 : x20 + (-1) ≤ x22 ∧ x22 ≤ x20 + (-1)) (d7 : x17 + (-4294967296) ≤ x11 ∧ x11 ≤ x17 + 0) (d8 : x8 + (-1) ≤ x17 ∧ x17 ≤ x8 + (-1)) (d9 : x12 + 0 ≤ x14 ∧ x14 ≤ x12 + 0) (d10 : x9 + 1 ≤ x11 ∧ x11 ≤ x9 + 1) (d11 : x8 + (-4294967294) ≤ x11 ∧ x11 ≤ x8 + 0) (d12 : x8 + (-4294967295) ≤ x9 ∧ x9 ≤ x8 + (-1)) (f1 : x25 = x24 + x11) (f2 : x24 = x14 * x8) (g3 : x8 = wide_0) (f4 : x22 = x20 - x21) (g5 : x20 = tall_0) (f6 : x17 = x8 - x16) (f7 : x14 = x12 - x13) (f8 : ((x7 = 1) ∧ (x13 = 1)) ∨ (((x7 = 3) ∧ (x13 = (-1))) ∨ ((x7 ≠ 1) ∧ ((x7 ≠ 3) ∧ (x13 = 0))))) (f9 : x12 = Int.tdiv (x5) (x8)) (f10 : x11 = x9 - x10) (f11 : ((x7 = 0) ∧ (x10 = 1)) ∨ (((x7 = 2) ∧ (x10 = (-1))) ∨ ((x7 ≠ 0) ∧ ((x7 ≠ 2) ∧ (x10 = 0))))) (f12 : x9 = Int.tmod (x5) (x8)) (f13 : x7 = x1 % 4) (f14 : x5 = x1 / 4) (f15 : RTQ (wide_0) (tall_0) (barredPoint_0) (costOf_0) (bucket_0) (bucketMany_0) (x3) (x2)) (f16 : PIV (costOf_0) (x1) (x2)) (f17 : (0 ≤ x1) ∧ ((x1 + 1) ≤ (4 * (wide_0 * tall_0)))) (f18 : (0 ≤ x2) ∧ (x2 ≤ 999999)) (hK_0_140 : ∀ j : Int, 0 ≤ j → j < 24000 → 0 ≤ costOf_0 j ∧ costOf_0 j ≤ 1000000) (hK_0_141 : ∀ j : Int, 0 ≤ j → j < 96040 → 0 ≤ bucket_0 j ∧ bucket_0 j ≤ 23999) (hK_0_142 : ∀ j : Int, 0 ≤ j → j < 4 → 0 ≤ bucketMany_0 j ∧ bucketMany_0 j ≤ 24009) (hK_0_143 : ∀ j : Int, 0 ≤ j → j < 6000 → 0 ≤ barredPoint_0 j ∧ barredPoint_0 j ≤ 1) (kz_0_146 : (-2147483648) ≤ wide_0 ∧ wide_0 ≤ 2147483647) (kz_0_147 : (-2147483648) ≤ tall_0 ∧ tall_0 ≤ 2147483647) : 1 ≤ x25 ∧ x25 ≤ 5999 := by
  first
    | omega
    | (have g := gok_bd (show GRX wide_0 tall_0 from ‹RTQ _ _ _ _ _ _ _ _›.1); omega)
    | (have g0 : GRX wide_0 tall_0 := ‹RTQ _ _ _ _ _ _ _ _›.1
       have g := gok_bd g0
       have e8 : x8 = wide_0 := by assumption
       have e20 : x20 = tall_0 := by assumption
       have c := cell_ix (W := x8) (T := x20) (x := x11) (y := x14) (p := x25) (by omega) (by omega) (by omega) (by omega) (by omega) (by rw [‹x25 = x24 + x11›, ‹x24 = x14 * x8›])
       have g3 := g0.2.2
       rw [e8, e20] at c
       omega)
    | (have h := ‹BFP _ _ _ _ _›.2.2.1; omega)
    | sorry
def o_Mo_backFrom_11 : or_T := (86, 27, [(0, (2, 0, 0, [150])), (1, (0, 0, 23999, [])), (2, (0, 0, 1000000, [])), (3, (0, 0, 5999, [])), (5, (0, 0, 5999, [])), (7, (0, 2, 2, [])), (8, (0, 1, 6000, [])), (9, (0, 0, 5999, [])), (10, (0, -1, -1, [])), (11, (0, 1, 5999, [])), (12, (0, 0, 5999, [])), (13, (0, 0, 0, [])), (14, (0, 0, 5999, [])), (16, (0, 1, 1, [])), (17, (0, 1, 5999, [])), (20, (0, 1, 6000, [])), (21, (0, 1, 1, [])), (22, (0, 0, 5999, [])), (24, (0, 0, 35994000, [])), (25, (0, 1, 35999999, [])), (26, (2, 0, 0, [254]))], [(9, [26, 0], [143]), (1, [25, 24, 11], []), (3, [24, 14, 8], []), (9, [8, 0], [146]), (2, [22, 20, 21], []), (9, [20, 0], [147]), (2, [17, 8, 16], []), (2, [14, 12, 13], []), (20, [7, 13], [50, 0, 0, 3, 14, 2, 6, 1, 2, 1, 0, 0, 1, 1, 2, 1, 1, 0, 1, 3, 14, 2, 6, 1, 2, 1, 0, 0, 3, 1, 2, 1, 1, 0, -1, 2, 6, 7, 2, 1, 0, 0, 1, 2, 6, 7, 2, 1, 0, 0, 3, 1, 2, 1, 1, 0, 0]), (4, [12, 5, 8], []), (2, [11, 9, 10], []), (20, [7, 10], [50, 0, 0, 3, 14, 2, 6, 1, 2, 1, 0, 0, 0, 1, 2, 1, 1, 0, 1, 3, 14, 2, 6, 1, 2, 1, 0, 0, 2, 1, 2, 1, 1, 0, -1, 2, 6, 7, 2, 1, 0, 0, 0, 2, 6, 7, 2, 1, 0, 0, 2, 1, 2, 1, 1, 0, 0]), (5, [9, 5, 8], []), (12, [7, 1], [4]), (11, [5, 1], [4]), (20, [0, 3, 2], [60, 2, 4, 419, 146, 147, 143, 140, 141, 142]), (20, [0, 1, 2], [60, 0, 1, 421, 140]), (20, [1, 0], [50, 2, 0, 1146, 1147, 2, 6, 0, 2, 0, 0, 1, 0, 0, 6, 4, 2, 1, 0, 0, 1, 6, 2, 0, 4, 6, 3, 2, 1, 146, 2, 1, 147]), (20, [2], [50, 0, 0, 2, 6, 0, 2, 0, 0, 1, 0, 0, 2, 1, 0, 0, 999999])], [(25, (0, 1, 5999, []))], [], [], [], [(25, 11, 0, 35994000), (25, 17, -4294967296, 35994000), (25, 9, 1, 35994001), (25, 8, -4294967294, 35994000), (25, 24, 1, 5999), (14, 22, -4294967296, 0), (22, 20, -1, -1), (11, 17, -4294967296, 0), (17, 8, -1, -1), (14, 12, 0, 0), (11, 9, 1, 1), (11, 8, -4294967294, 0), (9, 8, -4294967295, -1)])
theorem oo_Mo_backFrom_11 {kA : Nat → ClassId} : or_ok PRD kA GG o_Mo_backFrom_11 := by
  intro A ta ws vs hD hth hl hk hds hf
  have hl : vs.length = 27 := hl
  have hk : ∀ q ∈ ([(0, (2, 0, 0, [150])), (1, (0, 0, 23999, [])), (2, (0, 0, 1000000, [])), (3, (0, 0, 5999, [])), (5, (0, 0, 5999, [])), (7, (0, 2, 2, [])), (8, (0, 1, 6000, [])), (9, (0, 0, 5999, [])), (10, (0, -1, -1, [])), (11, (0, 1, 5999, [])), (12, (0, 0, 5999, [])), (13, (0, 0, 0, [])), (14, (0, 0, 5999, [])), (16, (0, 1, 1, [])), (17, (0, 1, 5999, [])), (20, (0, 1, 6000, [])), (21, (0, 1, 1, [])), (22, (0, 0, 5999, [])), (24, (0, 0, 35994000, [])), (25, (0, 1, 35999999, [])), (26, (2, 0, 0, [254]))] : List (Nat × tv_T)), tv_ok ta q.2 (n_v vs q.1) := hk
  obtain ⟨t0, hk⟩ := List.forall_mem_cons.mp hk
  have t0 : tv_ok ta (2, 0, 0, [150]) (n_v vs 0) := t0
  have r0 : ta (v_ad (n_v vs 0)) = some 150 := tv_rg t0
  obtain ⟨t1, hk⟩ := List.forall_mem_cons.mp hk
  have t1 : tv_ok ta (0, 0, 23999, []) (n_v vs 1) := t1
  have k1 : 0 ≤ v_iv (n_v vs 1) ∧ v_iv (n_v vs 1) ≤ 23999 := tv_rng t1
  obtain ⟨t2, hk⟩ := List.forall_mem_cons.mp hk
  have t2 : tv_ok ta (0, 0, 1000000, []) (n_v vs 2) := t2
  have k2 : 0 ≤ v_iv (n_v vs 2) ∧ v_iv (n_v vs 2) ≤ 1000000 := tv_rng t2
  obtain ⟨t3, hk⟩ := List.forall_mem_cons.mp hk
  have t3 : tv_ok ta (0, 0, 5999, []) (n_v vs 3) := t3
  have k3 : 0 ≤ v_iv (n_v vs 3) ∧ v_iv (n_v vs 3) ≤ 5999 := tv_rng t3
  obtain ⟨t5, hk⟩ := List.forall_mem_cons.mp hk
  have t5 : tv_ok ta (0, 0, 5999, []) (n_v vs 5) := t5
  have k5 : 0 ≤ v_iv (n_v vs 5) ∧ v_iv (n_v vs 5) ≤ 5999 := tv_rng t5
  obtain ⟨t7, hk⟩ := List.forall_mem_cons.mp hk
  have t7 : tv_ok ta (0, 2, 2, []) (n_v vs 7) := t7
  have k7 : 2 ≤ v_iv (n_v vs 7) ∧ v_iv (n_v vs 7) ≤ 2 := tv_rng t7
  obtain ⟨t8, hk⟩ := List.forall_mem_cons.mp hk
  have t8 : tv_ok ta (0, 1, 6000, []) (n_v vs 8) := t8
  have k8 : 1 ≤ v_iv (n_v vs 8) ∧ v_iv (n_v vs 8) ≤ 6000 := tv_rng t8
  obtain ⟨t9, hk⟩ := List.forall_mem_cons.mp hk
  have t9 : tv_ok ta (0, 0, 5999, []) (n_v vs 9) := t9
  have k9 : 0 ≤ v_iv (n_v vs 9) ∧ v_iv (n_v vs 9) ≤ 5999 := tv_rng t9
  obtain ⟨t10, hk⟩ := List.forall_mem_cons.mp hk
  have t10 : tv_ok ta (0, -1, -1, []) (n_v vs 10) := t10
  have k10 : (-1) ≤ v_iv (n_v vs 10) ∧ v_iv (n_v vs 10) ≤ (-1) := tv_rng t10
  obtain ⟨t11, hk⟩ := List.forall_mem_cons.mp hk
  have t11 : tv_ok ta (0, 1, 5999, []) (n_v vs 11) := t11
  have k11 : 1 ≤ v_iv (n_v vs 11) ∧ v_iv (n_v vs 11) ≤ 5999 := tv_rng t11
  obtain ⟨t12, hk⟩ := List.forall_mem_cons.mp hk
  have t12 : tv_ok ta (0, 0, 5999, []) (n_v vs 12) := t12
  have k12 : 0 ≤ v_iv (n_v vs 12) ∧ v_iv (n_v vs 12) ≤ 5999 := tv_rng t12
  obtain ⟨t13, hk⟩ := List.forall_mem_cons.mp hk
  have t13 : tv_ok ta (0, 0, 0, []) (n_v vs 13) := t13
  have k13 : 0 ≤ v_iv (n_v vs 13) ∧ v_iv (n_v vs 13) ≤ 0 := tv_rng t13
  obtain ⟨t14, hk⟩ := List.forall_mem_cons.mp hk
  have t14 : tv_ok ta (0, 0, 5999, []) (n_v vs 14) := t14
  have k14 : 0 ≤ v_iv (n_v vs 14) ∧ v_iv (n_v vs 14) ≤ 5999 := tv_rng t14
  obtain ⟨t16, hk⟩ := List.forall_mem_cons.mp hk
  have t16 : tv_ok ta (0, 1, 1, []) (n_v vs 16) := t16
  have k16 : 1 ≤ v_iv (n_v vs 16) ∧ v_iv (n_v vs 16) ≤ 1 := tv_rng t16
  obtain ⟨t17, hk⟩ := List.forall_mem_cons.mp hk
  have t17 : tv_ok ta (0, 1, 5999, []) (n_v vs 17) := t17
  have k17 : 1 ≤ v_iv (n_v vs 17) ∧ v_iv (n_v vs 17) ≤ 5999 := tv_rng t17
  obtain ⟨t20, hk⟩ := List.forall_mem_cons.mp hk
  have t20 : tv_ok ta (0, 1, 6000, []) (n_v vs 20) := t20
  have k20 : 1 ≤ v_iv (n_v vs 20) ∧ v_iv (n_v vs 20) ≤ 6000 := tv_rng t20
  obtain ⟨t21, hk⟩ := List.forall_mem_cons.mp hk
  have t21 : tv_ok ta (0, 1, 1, []) (n_v vs 21) := t21
  have k21 : 1 ≤ v_iv (n_v vs 21) ∧ v_iv (n_v vs 21) ≤ 1 := tv_rng t21
  obtain ⟨t22, hk⟩ := List.forall_mem_cons.mp hk
  have t22 : tv_ok ta (0, 0, 5999, []) (n_v vs 22) := t22
  have k22 : 0 ≤ v_iv (n_v vs 22) ∧ v_iv (n_v vs 22) ≤ 5999 := tv_rng t22
  obtain ⟨t24, hk⟩ := List.forall_mem_cons.mp hk
  have t24 : tv_ok ta (0, 0, 35994000, []) (n_v vs 24) := t24
  have k24 : 0 ≤ v_iv (n_v vs 24) ∧ v_iv (n_v vs 24) ≤ 35994000 := tv_rng t24
  obtain ⟨t25, hk⟩ := List.forall_mem_cons.mp hk
  have t25 : tv_ok ta (0, 1, 35999999, []) (n_v vs 25) := t25
  have k25 : 1 ≤ v_iv (n_v vs 25) ∧ v_iv (n_v vs 25) ≤ 35999999 := tv_rng t25
  obtain ⟨t26, hk⟩ := List.forall_mem_cons.mp hk
  have t26 : tv_ok ta (2, 0, 0, [254]) (n_v vs 26) := t26
  have r26 : ta (v_ad (n_v vs 26)) = some 254 := tv_rg t26
  have hds : ∀ q ∈ ([(25, 11, 0, 35994000), (25, 17, -4294967296, 35994000), (25, 9, 1, 35994001), (25, 8, -4294967294, 35994000), (25, 24, 1, 5999), (14, 22, -4294967296, 0), (22, 20, -1, -1), (11, 17, -4294967296, 0), (17, 8, -1, -1), (14, 12, 0, 0), (11, 9, 1, 1), (11, 8, -4294967294, 0), (9, 8, -4294967295, -1)] : List of_T), n_iv vs q.2.1 + q.2.2.1 ≤ n_iv vs q.1 ∧ n_iv vs q.1 ≤ n_iv vs q.2.1 + q.2.2.2 := hds
  obtain ⟨d0, hds⟩ := List.forall_mem_cons.mp hds
  have d0 : v_iv (n_v vs 11) + 0 ≤ v_iv (n_v vs 25) ∧ v_iv (n_v vs 25) ≤ v_iv (n_v vs 11) + 35994000 := d0
  obtain ⟨d1, hds⟩ := List.forall_mem_cons.mp hds
  have d1 : v_iv (n_v vs 17) + (-4294967296) ≤ v_iv (n_v vs 25) ∧ v_iv (n_v vs 25) ≤ v_iv (n_v vs 17) + 35994000 := d1
  obtain ⟨d2, hds⟩ := List.forall_mem_cons.mp hds
  have d2 : v_iv (n_v vs 9) + 1 ≤ v_iv (n_v vs 25) ∧ v_iv (n_v vs 25) ≤ v_iv (n_v vs 9) + 35994001 := d2
  obtain ⟨d3, hds⟩ := List.forall_mem_cons.mp hds
  have d3 : v_iv (n_v vs 8) + (-4294967294) ≤ v_iv (n_v vs 25) ∧ v_iv (n_v vs 25) ≤ v_iv (n_v vs 8) + 35994000 := d3
  obtain ⟨d4, hds⟩ := List.forall_mem_cons.mp hds
  have d4 : v_iv (n_v vs 24) + 1 ≤ v_iv (n_v vs 25) ∧ v_iv (n_v vs 25) ≤ v_iv (n_v vs 24) + 5999 := d4
  obtain ⟨d5, hds⟩ := List.forall_mem_cons.mp hds
  have d5 : v_iv (n_v vs 22) + (-4294967296) ≤ v_iv (n_v vs 14) ∧ v_iv (n_v vs 14) ≤ v_iv (n_v vs 22) + 0 := d5
  obtain ⟨d6, hds⟩ := List.forall_mem_cons.mp hds
  have d6 : v_iv (n_v vs 20) + (-1) ≤ v_iv (n_v vs 22) ∧ v_iv (n_v vs 22) ≤ v_iv (n_v vs 20) + (-1) := d6
  obtain ⟨d7, hds⟩ := List.forall_mem_cons.mp hds
  have d7 : v_iv (n_v vs 17) + (-4294967296) ≤ v_iv (n_v vs 11) ∧ v_iv (n_v vs 11) ≤ v_iv (n_v vs 17) + 0 := d7
  obtain ⟨d8, hds⟩ := List.forall_mem_cons.mp hds
  have d8 : v_iv (n_v vs 8) + (-1) ≤ v_iv (n_v vs 17) ∧ v_iv (n_v vs 17) ≤ v_iv (n_v vs 8) + (-1) := d8
  obtain ⟨d9, hds⟩ := List.forall_mem_cons.mp hds
  have d9 : v_iv (n_v vs 12) + 0 ≤ v_iv (n_v vs 14) ∧ v_iv (n_v vs 14) ≤ v_iv (n_v vs 12) + 0 := d9
  obtain ⟨d10, hds⟩ := List.forall_mem_cons.mp hds
  have d10 : v_iv (n_v vs 9) + 1 ≤ v_iv (n_v vs 11) ∧ v_iv (n_v vs 11) ≤ v_iv (n_v vs 9) + 1 := d10
  obtain ⟨d11, hds⟩ := List.forall_mem_cons.mp hds
  have d11 : v_iv (n_v vs 8) + (-4294967294) ≤ v_iv (n_v vs 11) ∧ v_iv (n_v vs 11) ≤ v_iv (n_v vs 8) + 0 := d11
  obtain ⟨d12, hds⟩ := List.forall_mem_cons.mp hds
  have d12 : v_iv (n_v vs 8) + (-4294967295) ≤ v_iv (n_v vs 9) ∧ v_iv (n_v vs 9) ≤ v_iv (n_v vs 8) + (-1) := d12
  have hf : fc_ok PRD [(9, [26, 0], [143]), (1, [25, 24, 11], []), (3, [24, 14, 8], []), (9, [8, 0], [146]), (2, [22, 20, 21], []), (9, [20, 0], [147]), (2, [17, 8, 16], []), (2, [14, 12, 13], []), (20, [7, 13], [50, 0, 0, 3, 14, 2, 6, 1, 2, 1, 0, 0, 1, 1, 2, 1, 1, 0, 1, 3, 14, 2, 6, 1, 2, 1, 0, 0, 3, 1, 2, 1, 1, 0, -1, 2, 6, 7, 2, 1, 0, 0, 1, 2, 6, 7, 2, 1, 0, 0, 3, 1, 2, 1, 1, 0, 0]), (4, [12, 5, 8], []), (2, [11, 9, 10], []), (20, [7, 10], [50, 0, 0, 3, 14, 2, 6, 1, 2, 1, 0, 0, 0, 1, 2, 1, 1, 0, 1, 3, 14, 2, 6, 1, 2, 1, 0, 0, 2, 1, 2, 1, 1, 0, -1, 2, 6, 7, 2, 1, 0, 0, 0, 2, 6, 7, 2, 1, 0, 0, 2, 1, 2, 1, 1, 0, 0]), (5, [9, 5, 8], []), (12, [7, 1], [4]), (11, [5, 1], [4]), (20, [0, 3, 2], [60, 2, 4, 419, 146, 147, 143, 140, 141, 142]), (20, [0, 1, 2], [60, 0, 1, 421, 140]), (20, [1, 0], [50, 2, 0, 1146, 1147, 2, 6, 0, 2, 0, 0, 1, 0, 0, 6, 4, 2, 1, 0, 0, 1, 6, 2, 0, 4, 6, 3, 2, 1, 146, 2, 1, 147]), (20, [2], [50, 0, 0, 2, 6, 0, 2, 0, 0, 1, 0, 0, 2, 1, 0, 0, 999999])] ta ws vs := hf
  obtain ⟨f0, hf⟩ := fc_un (show (9 : Nat) < 100 from by decide) hf
  have f0 : n_v vs 26 = w_fd ws (v_ad (n_v vs 0)) 143 := f0
  obtain ⟨f1, hf⟩ := fc_un (show (1 : Nat) < 100 from by decide) hf
  have f1 : v_iv (n_v vs 25) = v_iv (n_v vs 24) + v_iv (n_v vs 11) := f1
  obtain ⟨f2, hf⟩ := fc_un (show (3 : Nat) < 100 from by decide) hf
  have f2 : v_iv (n_v vs 24) = v_iv (n_v vs 14) * v_iv (n_v vs 8) := f2
  obtain ⟨f3, hf⟩ := fc_un (show (9 : Nat) < 100 from by decide) hf
  have f3 : n_v vs 8 = w_fd ws (v_ad (n_v vs 0)) 146 := f3
  obtain ⟨f4, hf⟩ := fc_un (show (2 : Nat) < 100 from by decide) hf
  have f4 : v_iv (n_v vs 22) = v_iv (n_v vs 20) - v_iv (n_v vs 21) := f4
  obtain ⟨f5, hf⟩ := fc_un (show (9 : Nat) < 100 from by decide) hf
  have f5 : n_v vs 20 = w_fd ws (v_ad (n_v vs 0)) 147 := f5
  obtain ⟨f6, hf⟩ := fc_un (show (2 : Nat) < 100 from by decide) hf
  have f6 : v_iv (n_v vs 17) = v_iv (n_v vs 8) - v_iv (n_v vs 16) := f6
  obtain ⟨f7, hf⟩ := fc_un (show (2 : Nat) < 100 from by decide) hf
  have f7 : v_iv (n_v vs 14) = v_iv (n_v vs 12) - v_iv (n_v vs 13) := f7
  obtain ⟨f8, hf⟩ := fc_un (show (20 : Nat) < 100 from by decide) hf
  have f8 : ((v_iv (n_v vs 7) = 1) ∧ (v_iv (n_v vs 13) = 1)) ∨ (((v_iv (n_v vs 7) = 3) ∧ (v_iv (n_v vs 13) = (-1))) ∨ ((v_iv (n_v vs 7) ≠ 1) ∧ ((v_iv (n_v vs 7) ≠ 3) ∧ (v_iv (n_v vs 13) = 0)))) := f8
  obtain ⟨f9, hf⟩ := fc_un (show (4 : Nat) < 100 from by decide) hf
  have f9 : v_iv (n_v vs 12) = Int.tdiv (v_iv (n_v vs 5)) (v_iv (n_v vs 8)) := f9
  have fq9 : 10 ≤ v_iv (n_v vs 12) → 10 * v_iv (n_v vs 8) ≤ v_iv (n_v vs 5) := dv_ten f9 (by omega) (by omega)
  obtain ⟨f10, hf⟩ := fc_un (show (2 : Nat) < 100 from by decide) hf
  have f10 : v_iv (n_v vs 11) = v_iv (n_v vs 9) - v_iv (n_v vs 10) := f10
  obtain ⟨f11, hf⟩ := fc_un (show (20 : Nat) < 100 from by decide) hf
  have f11 : ((v_iv (n_v vs 7) = 0) ∧ (v_iv (n_v vs 10) = 1)) ∨ (((v_iv (n_v vs 7) = 2) ∧ (v_iv (n_v vs 10) = (-1))) ∨ ((v_iv (n_v vs 7) ≠ 0) ∧ ((v_iv (n_v vs 7) ≠ 2) ∧ (v_iv (n_v vs 10) = 0)))) := f11
  obtain ⟨f12, hf⟩ := fc_un (show (5 : Nat) < 100 from by decide) hf
  have f12 : v_iv (n_v vs 9) = Int.tmod (v_iv (n_v vs 5)) (v_iv (n_v vs 8)) := f12
  obtain ⟨f13, hf⟩ := fc_un (show (12 : Nat) < 100 from by decide) hf
  have f13 : v_iv (n_v vs 7) = v_iv (n_v vs 1) % 4 := f13
  obtain ⟨f14, hf⟩ := fc_un (show (11 : Nat) < 100 from by decide) hf
  have f14 : v_iv (n_v vs 5) = v_iv (n_v vs 1) / 4 := f14
  obtain ⟨f15, hf⟩ := fc_un (show (20 : Nat) < 100 from by decide) hf
  have f15 : RTQ (w_fi ws (n_v vs 0) 146) (w_fi ws (n_v vs 0) 147) (w_ei ws (w_ar ws (n_v vs 0) 143)) (w_ei ws (w_ar ws (n_v vs 0) 140)) (w_ei ws (w_ar ws (n_v vs 0) 141)) (w_ei ws (w_ar ws (n_v vs 0) 142)) (v_iv (n_v vs 3)) (v_iv (n_v vs 2)) := f15
  obtain ⟨f16, hf⟩ := fc_un (show (20 : Nat) < 100 from by decide) hf
  have f16 : PIV (w_ei ws (w_ar ws (n_v vs 0) 140)) (v_iv (n_v vs 1)) (v_iv (n_v vs 2)) := f16
  obtain ⟨f17, hf⟩ := fc_un (show (20 : Nat) < 100 from by decide) hf
  have f17 : (0 ≤ v_iv (n_v vs 1)) ∧ ((v_iv (n_v vs 1) + 1) ≤ (4 * (w_fi ws (n_v vs 0) 146 * w_fi ws (n_v vs 0) 147))) := f17
  obtain ⟨f18, hf⟩ := fc_un (show (20 : Nat) < 100 from by decide) hf
  have f18 : (0 ≤ v_iv (n_v vs 2)) ∧ (v_iv (n_v vs 2) ≤ 999999) := f18
  have cr_0_140 : ta (w_ar ws (n_v vs 0) 140) = some 251 := tv_rg (th_fd hD hth r0 (g := GG_150) rfl (k := 140) (t := (2, 0, 0, [251])) rfl rfl)
  have cr_0_141 : ta (w_ar ws (n_v vs 0) 141) = some 252 := tv_rg (th_fd hD hth r0 (g := GG_150) rfl (k := 141) (t := (2, 0, 0, [252])) rfl rfl)
  have cr_0_142 : ta (w_ar ws (n_v vs 0) 142) = some 253 := tv_rg (th_fd hD hth r0 (g := GG_150) rfl (k := 142) (t := (2, 0, 0, [253])) rfl rfl)
  have cr_0_143 : ta (w_ar ws (n_v vs 0) 143) = some 254 := tv_rg (th_fd hD hth r0 (g := GG_150) rfl (k := 143) (t := (2, 0, 0, [254])) rfl rfl)
  have ad_26 : v_ad (n_v vs 26) = w_ar ws (n_v vs 0) 143 := congrArg v_ad f0
  have g3 : v_iv (n_v vs 8) = w_fi ws (n_v vs 0) 146 := congrArg v_iv f3
  have g5 : v_iv (n_v vs 20) = w_fi ws (n_v vs 0) 147 := congrArg v_iv f5
  have hK_0_140 : ∀ j : Int, 0 ≤ j → j < 24000 → 0 ≤ w_ei ws (w_ar ws (n_v vs 0) 140) j ∧ w_ei ws (w_ar ws (n_v vs 0) 140) j ≤ 1000000 := fun j h0 h1 => th_el hD hth cr_0_140 (kd := 0) (n := 24000) (m := 24000) (lo := 0) (hi := 1000000) (rs := []) (L := []) rfl (by decide) (j := j.toNat) (by omega)
  have hK_0_141 : ∀ j : Int, 0 ≤ j → j < 96040 → 0 ≤ w_ei ws (w_ar ws (n_v vs 0) 141) j ∧ w_ei ws (w_ar ws (n_v vs 0) 141) j ≤ 23999 := fun j h0 h1 => th_el hD hth cr_0_141 (kd := 0) (n := 96040) (m := 96040) (lo := 0) (hi := 23999) (rs := []) (L := []) rfl (by decide) (j := j.toNat) (by omega)
  have hK_0_142 : ∀ j : Int, 0 ≤ j → j < 4 → 0 ≤ w_ei ws (w_ar ws (n_v vs 0) 142) j ∧ w_ei ws (w_ar ws (n_v vs 0) 142) j ≤ 24009 := fun j h0 h1 => th_el hD hth cr_0_142 (kd := 0) (n := 4) (m := 4) (lo := 0) (hi := 24009) (rs := []) (L := []) rfl (by decide) (j := j.toNat) (by omega)
  have hK_0_143 : ∀ j : Int, 0 ≤ j → j < 6000 → 0 ≤ w_ei ws (w_ar ws (n_v vs 0) 143) j ∧ w_ei ws (w_ar ws (n_v vs 0) 143) j ≤ 1 := fun j h0 h1 => th_el hD hth cr_0_143 (kd := 2) (n := 6000) (m := 6000) (lo := 0) (hi := 1) (rs := []) (L := []) rfl (by decide) (j := j.toNat) (by omega)
  have kz_0_146 : (-2147483648) ≤ w_fi ws (n_v vs 0) 146 ∧ w_fi ws (n_v vs 0) 146 ≤ 2147483647 := tv_rng (th_fd hD hth r0 (g := GG_150) rfl (k := 146) (t := (0, -2147483648, 2147483647, [])) rfl rfl)
  have kz_0_147 : (-2147483648) ≤ w_fi ws (n_v vs 0) 147 ∧ w_fi ws (n_v vs 0) 147 ≤ 2147483647 := tv_rng (th_fd hD hth r0 (g := GG_150) rfl (k := 147) (t := (0, -2147483648, 2147483647, [])) rfl rfl)
  have hrf0 : 1 ≤ v_iv (n_v vs 25) ∧ v_iv (n_v vs 25) ≤ 5999 := vc_Mo_backFrom_11_r0 (v_iv (n_v vs 1)) (v_iv (n_v vs 2)) (v_iv (n_v vs 3)) (v_iv (n_v vs 5)) (v_iv (n_v vs 7)) (v_iv (n_v vs 8)) (v_iv (n_v vs 9)) (v_iv (n_v vs 10)) (v_iv (n_v vs 11)) (v_iv (n_v vs 12)) (v_iv (n_v vs 13)) (v_iv (n_v vs 14)) (v_iv (n_v vs 16)) (v_iv (n_v vs 17)) (v_iv (n_v vs 20)) (v_iv (n_v vs 21)) (v_iv (n_v vs 22)) (v_iv (n_v vs 24)) (v_iv (n_v vs 25)) (w_fi ws (n_v vs 0) 146) (w_fi ws (n_v vs 0) 147) (w_ei ws (w_ar ws (n_v vs 0) 143)) (w_ei ws (w_ar ws (n_v vs 0) 140)) (w_ei ws (w_ar ws (n_v vs 0) 141)) (w_ei ws (w_ar ws (n_v vs 0) 142)) k1 k2 k3 k5 k7 k8 k9 k10 k11 k12 k13 k14 k16 k17 k20 k21 k22 k24 k25 d0 d1 d2 d3 d4 d5 d6 d7 d8 d9 d10 d11 d12 f1 f2 g3 f4 g5 f6 f7 f8 f9 f10 f11 f12 f13 f14 f15 f16 f17 f18 hK_0_140 hK_0_141 hK_0_142 hK_0_143 kz_0_146 kz_0_147
  have rf25 : tv_ok ta (0, 1, 5999, []) (n_v vs 25) := tv_in t25 (by first | omega | grind) (by first | omega | grind)
  refine ⟨List.forall_mem_cons.mpr ⟨rf25, (fun _ h => (by cases h))⟩, [], trivial, ?_, (fun _ h => (by cases h))⟩
  rw [List.append_nil]
  exact (fun _ h => (by cases h))
set_option maxHeartbeats 4000000 in
theorem vc_Mo_backFrom_12_0 (x1 : Int) (x2 : Int) (x3 : Int) (x5 : Int) (x7 : Int) (x8 : Int) (x9 : Int) (x10 : Int) (x11 : Int) (x12 : Int) (x13 : Int) (x14 : Int) (x16 : Int) (x17 : Int) (x20 : Int) (x21 : Int) (x22 : Int) (x24 : Int) (x25 : Int) (x27 : Int) (barredPoint_0 : Int → Int) (wide_0 : Int) (tall_0 : Int) (costOf_0 : Int → Int) (bucket_0 : Int → Int) (bucketMany_0 : Int → Int) (k1 : 0 ≤ x1 ∧ x1 ≤ 23999) (k2 : 0 ≤ x2 ∧ x2 ≤ 1000000) (k3 : 0 ≤ x3 ∧ x3 ≤ 5999) (k5 : 0 ≤ x5 ∧ x5 ≤ 5999) (k7 : 2 ≤ x7 ∧ x7 ≤ 2) (k8 : 1 ≤ x8 ∧ x8 ≤ 6000) (k9 : 0 ≤ x9 ∧ x9 ≤ 5999) (k10 : (-1) ≤ x10 ∧ x10 ≤ (-1)) (k11 : 1 ≤ x11 ∧ x11 ≤ 5999) (k12 : 0 ≤ x12 ∧ x12 ≤ 5999) (k13 : 0 ≤ x13 ∧ x13 ≤ 0) (k14 : 0 ≤ x14 ∧ x14 ≤ 5999) (k16 : 1 ≤ x16 ∧ x16 ≤ 1) (k17 : 1 ≤ x17 ∧ x17 ≤ 5999) (k20 : 1 ≤ x20 ∧ x20 ≤ 6000) (k21 : 1 ≤ x21 ∧ x21 ≤ 1) (k22 : 0 ≤ x22 ∧ x22 ≤ 5999) (k24 : 0 ≤ x24 ∧ x24 ≤ 35994000) (k25 : 1 ≤ x25 ∧ x25 ≤ 5999) (k27 : 0 ≤ x27 ∧ x27 ≤ 0) (d0 : x11 + 0 ≤ x25 ∧ x25 ≤ x11 + 35994000) (d1 : x9 + 1 ≤ x25 ∧ x25 ≤ x9 + 35994001) (d2 : x24 + 1 ≤ x25 ∧ x25 ≤ x24 + 5999) (d3 : x22 + (-4294967296) ≤ x14 ∧ x14 ≤ x22 + 0) (d4 : x20 + (-1) ≤ x22 ∧ x22 ≤ x20 + (-1)) (d5 : x17 + (-4294967296) ≤ x11 ∧ x11 ≤ x17 + 0) (d6 : x8 + (-1) ≤ x17 ∧ x17 ≤ x8 + (-1)) (d7 : x12 + 0 ≤ x14 ∧ x14 ≤ x12 + 0) (d8 : x9 + 1 ≤ x11 ∧ x11 ≤ x9 + 1) (d9 : x8 + (-4294967294) ≤ x11 ∧ x11 ≤ x8 + 0) (d10 : x8 + (-4294967295) ≤ x9 ∧ x9 ≤ x8 + (-1)) (f0 : x27 = 0) (h1 : x27 = barredPoint_0 (x25)) (f3 : x25 = x24 + x11) (f4 : x24 = x14 * x8) (g5 : x8 = wide_0) (f6 : x22 = x20 - x21) (g7 : x20 = tall_0) (f8 : x17 = x8 - x16) (f9 : x14 = x12 - x13) (f10 : ((x7 = 1) ∧ (x13 = 1)) ∨ (((x7 = 3) ∧ (x13 = (-1))) ∨ ((x7 ≠ 1) ∧ ((x7 ≠ 3) ∧ (x13 = 0))))) (f11 : x12 = Int.tdiv (x5) (x8)) (f12 : x11 = x9 - x10) (f13 : ((x7 = 0) ∧ (x10 = 1)) ∨ (((x7 = 2) ∧ (x10 = (-1))) ∨ ((x7 ≠ 0) ∧ ((x7 ≠ 2) ∧ (x10 = 0))))) (f14 : x9 = Int.tmod (x5) (x8)) (f15 : x7 = x1 % 4) (f16 : x5 = x1 / 4) (f17 : RTQ (wide_0) (tall_0) (barredPoint_0) (costOf_0) (bucket_0) (bucketMany_0) (x3) (x2)) (f18 : PIV (costOf_0) (x1) (x2)) (f19 : (0 ≤ x1) ∧ ((x1 + 1) ≤ (4 * (wide_0 * tall_0)))) (f20 : (0 ≤ x2) ∧ (x2 ≤ 999999)) (hK_0_140 : ∀ j : Int, 0 ≤ j → j < 24000 → 0 ≤ costOf_0 j ∧ costOf_0 j ≤ 1000000) (hK_0_141 : ∀ j : Int, 0 ≤ j → j < 96040 → 0 ≤ bucket_0 j ∧ bucket_0 j ≤ 23999) (hK_0_142 : ∀ j : Int, 0 ≤ j → j < 4 → 0 ≤ bucketMany_0 j ∧ bucketMany_0 j ≤ 24009) (hK_0_143 : ∀ j : Int, 0 ≤ j → j < 6000 → 0 ≤ barredPoint_0 j ∧ barredPoint_0 j ≤ 1) (kz_0_146 : (-2147483648) ≤ wide_0 ∧ wide_0 ≤ 2147483647) (kz_0_147 : (-2147483648) ≤ tall_0 ∧ tall_0 ≤ 2147483647) : BFP (wide_0) (tall_0) (barredPoint_0) (x1) (x25) := by
  first
    | assumption
    | (have g0 : GRX wide_0 tall_0 := ‹RTQ _ _ _ _ _ _ _ _›.1
       have g := gok_bd g0
       have e8 : x8 = wide_0 := by assumption
       have e20 : x20 = tall_0 := by assumption
       have tm : x9 = x5 % wide_0 := by rw [← e8, ‹x9 = Int.tmod x5 x8›]; exact Int.tmod_eq_emod_of_nonneg (by omega)
       have td : x12 = x5 / wide_0 := by rw [← e8, ‹x12 = Int.tdiv x5 x8›]; exact Int.tdiv_eq_ediv_of_nonneg (by omega)
       have hx : x11 = x5 % wide_0 - dxf x7 := by rw [← tm]; unfold dxf; split; omega; split <;> omega
       have hy : x14 = x5 / wide_0 - dyf x7 := by rw [← td]; unfold dyf; split; omega; split <;> omega
       have n := nb_back (T := tall_0) (q := x5) (d := x7) (x := x11) (y := x14) (p := x25) (by omega) (by omega) (by omega) hx hy (by omega) (by omega) (by omega) (by omega) (by rw [← e8, ‹x25 = x24 + x11›, ‹x24 = x14 * x8›])
       have b := rtq_bar ‹RTQ _ _ _ _ _ _ _ _› ‹PIV _ _ _› (by omega) (by omega)
       exact ⟨⟨by omega, by omega⟩, by rw [show x1 % 4 = x7 by omega, show x1 / 4 = x5 by omega]; exact n.1, n.2, by rw [← ‹x27 = barredPoint_0 x25›]; omega, b⟩)
set_option maxHeartbeats 4000000 in
theorem vc_Mo_backFrom_12_1 (x1 : Int) (x2 : Int) (x3 : Int) (x5 : Int) (x7 : Int) (x8 : Int) (x9 : Int) (x10 : Int) (x11 : Int) (x12 : Int) (x13 : Int) (x14 : Int) (x16 : Int) (x17 : Int) (x20 : Int) (x21 : Int) (x22 : Int) (x24 : Int) (x25 : Int) (x27 : Int) (barredPoint_0 : Int → Int) (wide_0 : Int) (tall_0 : Int) (costOf_0 : Int → Int) (bucket_0 : Int → Int) (bucketMany_0 : Int → Int) (k1 : 0 ≤ x1 ∧ x1 ≤ 23999) (k2 : 0 ≤ x2 ∧ x2 ≤ 1000000) (k3 : 0 ≤ x3 ∧ x3 ≤ 5999) (k5 : 0 ≤ x5 ∧ x5 ≤ 5999) (k7 : 2 ≤ x7 ∧ x7 ≤ 2) (k8 : 1 ≤ x8 ∧ x8 ≤ 6000) (k9 : 0 ≤ x9 ∧ x9 ≤ 5999) (k10 : (-1) ≤ x10 ∧ x10 ≤ (-1)) (k11 : 1 ≤ x11 ∧ x11 ≤ 5999) (k12 : 0 ≤ x12 ∧ x12 ≤ 5999) (k13 : 0 ≤ x13 ∧ x13 ≤ 0) (k14 : 0 ≤ x14 ∧ x14 ≤ 5999) (k16 : 1 ≤ x16 ∧ x16 ≤ 1) (k17 : 1 ≤ x17 ∧ x17 ≤ 5999) (k20 : 1 ≤ x20 ∧ x20 ≤ 6000) (k21 : 1 ≤ x21 ∧ x21 ≤ 1) (k22 : 0 ≤ x22 ∧ x22 ≤ 5999) (k24 : 0 ≤ x24 ∧ x24 ≤ 35994000) (k25 : 1 ≤ x25 ∧ x25 ≤ 5999) (k27 : 0 ≤ x27 ∧ x27 ≤ 0) (d0 : x11 + 0 ≤ x25 ∧ x25 ≤ x11 + 35994000) (d1 : x9 + 1 ≤ x25 ∧ x25 ≤ x9 + 35994001) (d2 : x24 + 1 ≤ x25 ∧ x25 ≤ x24 + 5999) (d3 : x22 + (-4294967296) ≤ x14 ∧ x14 ≤ x22 + 0) (d4 : x20 + (-1) ≤ x22 ∧ x22 ≤ x20 + (-1)) (d5 : x17 + (-4294967296) ≤ x11 ∧ x11 ≤ x17 + 0) (d6 : x8 + (-1) ≤ x17 ∧ x17 ≤ x8 + (-1)) (d7 : x12 + 0 ≤ x14 ∧ x14 ≤ x12 + 0) (d8 : x9 + 1 ≤ x11 ∧ x11 ≤ x9 + 1) (d9 : x8 + (-4294967294) ≤ x11 ∧ x11 ≤ x8 + 0) (d10 : x8 + (-4294967295) ≤ x9 ∧ x9 ≤ x8 + (-1)) (f0 : x27 = 0) (h1 : x27 = barredPoint_0 (x25)) (f3 : x25 = x24 + x11) (f4 : x24 = x14 * x8) (g5 : x8 = wide_0) (f6 : x22 = x20 - x21) (g7 : x20 = tall_0) (f8 : x17 = x8 - x16) (f9 : x14 = x12 - x13) (f10 : ((x7 = 1) ∧ (x13 = 1)) ∨ (((x7 = 3) ∧ (x13 = (-1))) ∨ ((x7 ≠ 1) ∧ ((x7 ≠ 3) ∧ (x13 = 0))))) (f11 : x12 = Int.tdiv (x5) (x8)) (f12 : x11 = x9 - x10) (f13 : ((x7 = 0) ∧ (x10 = 1)) ∨ (((x7 = 2) ∧ (x10 = (-1))) ∨ ((x7 ≠ 0) ∧ ((x7 ≠ 2) ∧ (x10 = 0))))) (f14 : x9 = Int.tmod (x5) (x8)) (f15 : x7 = x1 % 4) (f16 : x5 = x1 / 4) (f17 : RTQ (wide_0) (tall_0) (barredPoint_0) (costOf_0) (bucket_0) (bucketMany_0) (x3) (x2)) (f18 : PIV (costOf_0) (x1) (x2)) (f19 : (0 ≤ x1) ∧ ((x1 + 1) ≤ (4 * (wide_0 * tall_0)))) (f20 : (0 ≤ x2) ∧ (x2 ≤ 999999)) (hK_0_140 : ∀ j : Int, 0 ≤ j → j < 24000 → 0 ≤ costOf_0 j ∧ costOf_0 j ≤ 1000000) (hK_0_141 : ∀ j : Int, 0 ≤ j → j < 96040 → 0 ≤ bucket_0 j ∧ bucket_0 j ≤ 23999) (hK_0_142 : ∀ j : Int, 0 ≤ j → j < 4 → 0 ≤ bucketMany_0 j ∧ bucketMany_0 j ≤ 24009) (hK_0_143 : ∀ j : Int, 0 ≤ j → j < 6000 → 0 ≤ barredPoint_0 j ∧ barredPoint_0 j ≤ 1) (kz_0_146 : (-2147483648) ≤ wide_0 ∧ wide_0 ≤ 2147483647) (kz_0_147 : (-2147483648) ≤ tall_0 ∧ tall_0 ≤ 2147483647) : x7 = (x1 % 4) := by
  first
    | omega
    | (have g := gok_bd (show GRX wide_0 tall_0 from ‹RTQ _ _ _ _ _ _ _ _›.1); omega)
    | (have g0 : GRX wide_0 tall_0 := ‹RTQ _ _ _ _ _ _ _ _›.1
       have g := gok_bd g0
       have e8 : x8 = wide_0 := by assumption
       have e20 : x20 = tall_0 := by assumption
       have c := cell_ix (W := x8) (T := x20) (x := x11) (y := x14) (p := x25) (by omega) (by omega) (by omega) (by omega) (by omega) (by rw [‹x25 = x24 + x11›, ‹x24 = x14 * x8›])
       have g3 := g0.2.2
       rw [e8, e20] at c
       omega)
    | (have h := ‹BFP _ _ _ _ _›.2.2.1; omega)
    | sorry
set_option maxHeartbeats 4000000 in
theorem vc_Mo_backFrom_12_2 (x1 : Int) (x2 : Int) (x3 : Int) (x5 : Int) (x7 : Int) (x8 : Int) (x9 : Int) (x10 : Int) (x11 : Int) (x12 : Int) (x13 : Int) (x14 : Int) (x16 : Int) (x17 : Int) (x20 : Int) (x21 : Int) (x22 : Int) (x24 : Int) (x25 : Int) (x27 : Int) (barredPoint_0 : Int → Int) (wide_0 : Int) (tall_0 : Int) (costOf_0 : Int → Int) (bucket_0 : Int → Int) (bucketMany_0 : Int → Int) (k1 : 0 ≤ x1 ∧ x1 ≤ 23999) (k2 : 0 ≤ x2 ∧ x2 ≤ 1000000) (k3 : 0 ≤ x3 ∧ x3 ≤ 5999) (k5 : 0 ≤ x5 ∧ x5 ≤ 5999) (k7 : 2 ≤ x7 ∧ x7 ≤ 2) (k8 : 1 ≤ x8 ∧ x8 ≤ 6000) (k9 : 0 ≤ x9 ∧ x9 ≤ 5999) (k10 : (-1) ≤ x10 ∧ x10 ≤ (-1)) (k11 : 1 ≤ x11 ∧ x11 ≤ 5999) (k12 : 0 ≤ x12 ∧ x12 ≤ 5999) (k13 : 0 ≤ x13 ∧ x13 ≤ 0) (k14 : 0 ≤ x14 ∧ x14 ≤ 5999) (k16 : 1 ≤ x16 ∧ x16 ≤ 1) (k17 : 1 ≤ x17 ∧ x17 ≤ 5999) (k20 : 1 ≤ x20 ∧ x20 ≤ 6000) (k21 : 1 ≤ x21 ∧ x21 ≤ 1) (k22 : 0 ≤ x22 ∧ x22 ≤ 5999) (k24 : 0 ≤ x24 ∧ x24 ≤ 35994000) (k25 : 1 ≤ x25 ∧ x25 ≤ 5999) (k27 : 0 ≤ x27 ∧ x27 ≤ 0) (d0 : x11 + 0 ≤ x25 ∧ x25 ≤ x11 + 35994000) (d1 : x9 + 1 ≤ x25 ∧ x25 ≤ x9 + 35994001) (d2 : x24 + 1 ≤ x25 ∧ x25 ≤ x24 + 5999) (d3 : x22 + (-4294967296) ≤ x14 ∧ x14 ≤ x22 + 0) (d4 : x20 + (-1) ≤ x22 ∧ x22 ≤ x20 + (-1)) (d5 : x17 + (-4294967296) ≤ x11 ∧ x11 ≤ x17 + 0) (d6 : x8 + (-1) ≤ x17 ∧ x17 ≤ x8 + (-1)) (d7 : x12 + 0 ≤ x14 ∧ x14 ≤ x12 + 0) (d8 : x9 + 1 ≤ x11 ∧ x11 ≤ x9 + 1) (d9 : x8 + (-4294967294) ≤ x11 ∧ x11 ≤ x8 + 0) (d10 : x8 + (-4294967295) ≤ x9 ∧ x9 ≤ x8 + (-1)) (f0 : x27 = 0) (h1 : x27 = barredPoint_0 (x25)) (f3 : x25 = x24 + x11) (f4 : x24 = x14 * x8) (g5 : x8 = wide_0) (f6 : x22 = x20 - x21) (g7 : x20 = tall_0) (f8 : x17 = x8 - x16) (f9 : x14 = x12 - x13) (f10 : ((x7 = 1) ∧ (x13 = 1)) ∨ (((x7 = 3) ∧ (x13 = (-1))) ∨ ((x7 ≠ 1) ∧ ((x7 ≠ 3) ∧ (x13 = 0))))) (f11 : x12 = Int.tdiv (x5) (x8)) (f12 : x11 = x9 - x10) (f13 : ((x7 = 0) ∧ (x10 = 1)) ∨ (((x7 = 2) ∧ (x10 = (-1))) ∨ ((x7 ≠ 0) ∧ ((x7 ≠ 2) ∧ (x10 = 0))))) (f14 : x9 = Int.tmod (x5) (x8)) (f15 : x7 = x1 % 4) (f16 : x5 = x1 / 4) (f17 : RTQ (wide_0) (tall_0) (barredPoint_0) (costOf_0) (bucket_0) (bucketMany_0) (x3) (x2)) (f18 : PIV (costOf_0) (x1) (x2)) (f19 : (0 ≤ x1) ∧ ((x1 + 1) ≤ (4 * (wide_0 * tall_0)))) (f20 : (0 ≤ x2) ∧ (x2 ≤ 999999)) (hK_0_140 : ∀ j : Int, 0 ≤ j → j < 24000 → 0 ≤ costOf_0 j ∧ costOf_0 j ≤ 1000000) (hK_0_141 : ∀ j : Int, 0 ≤ j → j < 96040 → 0 ≤ bucket_0 j ∧ bucket_0 j ≤ 23999) (hK_0_142 : ∀ j : Int, 0 ≤ j → j < 4 → 0 ≤ bucketMany_0 j ∧ bucketMany_0 j ≤ 24009) (hK_0_143 : ∀ j : Int, 0 ≤ j → j < 6000 → 0 ≤ barredPoint_0 j ∧ barredPoint_0 j ≤ 1) (kz_0_146 : (-2147483648) ≤ wide_0 ∧ wide_0 ≤ 2147483647) (kz_0_147 : (-2147483648) ≤ tall_0 ∧ tall_0 ≤ 2147483647) : (0 ≤ x25) ∧ ((x25 + 1) ≤ (wide_0 * tall_0)) := by
  first
    | omega
    | (have g := gok_bd (show GRX wide_0 tall_0 from ‹RTQ _ _ _ _ _ _ _ _›.1); omega)
    | (have g0 : GRX wide_0 tall_0 := ‹RTQ _ _ _ _ _ _ _ _›.1
       have g := gok_bd g0
       have e8 : x8 = wide_0 := by assumption
       have e20 : x20 = tall_0 := by assumption
       have c := cell_ix (W := x8) (T := x20) (x := x11) (y := x14) (p := x25) (by omega) (by omega) (by omega) (by omega) (by omega) (by rw [‹x25 = x24 + x11›, ‹x24 = x14 * x8›])
       have g3 := g0.2.2
       rw [e8, e20] at c
       omega)
    | (have h := ‹BFP _ _ _ _ _›.2.2.1; omega)
    | sorry
def o_Mo_backFrom_12 : or_T := (94, 29, [(0, (2, 0, 0, [150])), (1, (0, 0, 23999, [])), (2, (0, 0, 1000000, [])), (3, (0, 0, 5999, [])), (5, (0, 0, 5999, [])), (7, (0, 2, 2, [])), (8, (0, 1, 6000, [])), (9, (0, 0, 5999, [])), (10, (0, -1, -1, [])), (11, (0, 1, 5999, [])), (12, (0, 0, 5999, [])), (13, (0, 0, 0, [])), (14, (0, 0, 5999, [])), (16, (0, 1, 1, [])), (17, (0, 1, 5999, [])), (20, (0, 1, 6000, [])), (21, (0, 1, 1, [])), (22, (0, 0, 5999, [])), (24, (0, 0, 35994000, [])), (25, (0, 1, 5999, [])), (26, (2, 0, 0, [254])), (27, (0, 0, 0, []))], [(8, [27], [0]), (10, [27, 26, 25], []), (9, [26, 0], [143]), (1, [25, 24, 11], []), (3, [24, 14, 8], []), (9, [8, 0], [146]), (2, [22, 20, 21], []), (9, [20, 0], [147]), (2, [17, 8, 16], []), (2, [14, 12, 13], []), (20, [7, 13], [50, 0, 0, 3, 14, 2, 6, 1, 2, 1, 0, 0, 1, 1, 2, 1, 1, 0, 1, 3, 14, 2, 6, 1, 2, 1, 0, 0, 3, 1, 2, 1, 1, 0, -1, 2, 6, 7, 2, 1, 0, 0, 1, 2, 6, 7, 2, 1, 0, 0, 3, 1, 2, 1, 1, 0, 0]), (4, [12, 5, 8], []), (2, [11, 9, 10], []), (20, [7, 10], [50, 0, 0, 3, 14, 2, 6, 1, 2, 1, 0, 0, 0, 1, 2, 1, 1, 0, 1, 3, 14, 2, 6, 1, 2, 1, 0, 0, 2, 1, 2, 1, 1, 0, -1, 2, 6, 7, 2, 1, 0, 0, 0, 2, 6, 7, 2, 1, 0, 0, 2, 1, 2, 1, 1, 0, 0]), (5, [9, 5, 8], []), (12, [7, 1], [4]), (11, [5, 1], [4]), (20, [0, 3, 2], [60, 2, 4, 419, 146, 147, 143, 140, 141, 142]), (20, [0, 1, 2], [60, 0, 1, 421, 140]), (20, [1, 0], [50, 2, 0, 1146, 1147, 2, 6, 0, 2, 0, 0, 1, 0, 0, 6, 4, 2, 1, 0, 0, 1, 6, 2, 0, 4, 6, 3, 2, 1, 146, 2, 1, 147]), (20, [2], [50, 0, 0, 2, 6, 0, 2, 0, 0, 1, 0, 0, 2, 1, 0, 0, 999999])], [], [], [(20, [0, 1, 25], [60, 2, 1, 424, 146, 147, 143]), (20, [7, 1], [50, 0, 0, 1, 2, 1, 0, 9, 2, 1, 1, 0, 4]), (20, [25, 0], [50, 2, 0, 1146, 1147, 2, 6, 0, 2, 0, 0, 1, 0, 0, 6, 4, 2, 1, 0, 0, 1, 6, 3, 2, 1, 146, 2, 1, 147]), (24, [0, 0], []), (24, [1, 1], []), (24, [2, 2], [])], [], [(25, 11, 0, 35994000), (25, 9, 1, 35994001), (25, 24, 1, 5999), (14, 22, -4294967296, 0), (22, 20, -1, -1), (11, 17, -4294967296, 0), (17, 8, -1, -1), (14, 12, 0, 0), (11, 9, 1, 1), (11, 8, -4294967294, 0), (9, 8, -4294967295, -1)])
theorem oo_Mo_backFrom_12 {kA : Nat → ClassId} : or_ok PRD kA GG o_Mo_backFrom_12 := by
  intro A ta ws vs hD hth hl hk hds hf
  have hl : vs.length = 29 := hl
  have hk : ∀ q ∈ ([(0, (2, 0, 0, [150])), (1, (0, 0, 23999, [])), (2, (0, 0, 1000000, [])), (3, (0, 0, 5999, [])), (5, (0, 0, 5999, [])), (7, (0, 2, 2, [])), (8, (0, 1, 6000, [])), (9, (0, 0, 5999, [])), (10, (0, -1, -1, [])), (11, (0, 1, 5999, [])), (12, (0, 0, 5999, [])), (13, (0, 0, 0, [])), (14, (0, 0, 5999, [])), (16, (0, 1, 1, [])), (17, (0, 1, 5999, [])), (20, (0, 1, 6000, [])), (21, (0, 1, 1, [])), (22, (0, 0, 5999, [])), (24, (0, 0, 35994000, [])), (25, (0, 1, 5999, [])), (26, (2, 0, 0, [254])), (27, (0, 0, 0, []))] : List (Nat × tv_T)), tv_ok ta q.2 (n_v vs q.1) := hk
  obtain ⟨t0, hk⟩ := List.forall_mem_cons.mp hk
  have t0 : tv_ok ta (2, 0, 0, [150]) (n_v vs 0) := t0
  have r0 : ta (v_ad (n_v vs 0)) = some 150 := tv_rg t0
  obtain ⟨t1, hk⟩ := List.forall_mem_cons.mp hk
  have t1 : tv_ok ta (0, 0, 23999, []) (n_v vs 1) := t1
  have k1 : 0 ≤ v_iv (n_v vs 1) ∧ v_iv (n_v vs 1) ≤ 23999 := tv_rng t1
  obtain ⟨t2, hk⟩ := List.forall_mem_cons.mp hk
  have t2 : tv_ok ta (0, 0, 1000000, []) (n_v vs 2) := t2
  have k2 : 0 ≤ v_iv (n_v vs 2) ∧ v_iv (n_v vs 2) ≤ 1000000 := tv_rng t2
  obtain ⟨t3, hk⟩ := List.forall_mem_cons.mp hk
  have t3 : tv_ok ta (0, 0, 5999, []) (n_v vs 3) := t3
  have k3 : 0 ≤ v_iv (n_v vs 3) ∧ v_iv (n_v vs 3) ≤ 5999 := tv_rng t3
  obtain ⟨t5, hk⟩ := List.forall_mem_cons.mp hk
  have t5 : tv_ok ta (0, 0, 5999, []) (n_v vs 5) := t5
  have k5 : 0 ≤ v_iv (n_v vs 5) ∧ v_iv (n_v vs 5) ≤ 5999 := tv_rng t5
  obtain ⟨t7, hk⟩ := List.forall_mem_cons.mp hk
  have t7 : tv_ok ta (0, 2, 2, []) (n_v vs 7) := t7
  have k7 : 2 ≤ v_iv (n_v vs 7) ∧ v_iv (n_v vs 7) ≤ 2 := tv_rng t7
  obtain ⟨t8, hk⟩ := List.forall_mem_cons.mp hk
  have t8 : tv_ok ta (0, 1, 6000, []) (n_v vs 8) := t8
  have k8 : 1 ≤ v_iv (n_v vs 8) ∧ v_iv (n_v vs 8) ≤ 6000 := tv_rng t8
  obtain ⟨t9, hk⟩ := List.forall_mem_cons.mp hk
  have t9 : tv_ok ta (0, 0, 5999, []) (n_v vs 9) := t9
  have k9 : 0 ≤ v_iv (n_v vs 9) ∧ v_iv (n_v vs 9) ≤ 5999 := tv_rng t9
  obtain ⟨t10, hk⟩ := List.forall_mem_cons.mp hk
  have t10 : tv_ok ta (0, -1, -1, []) (n_v vs 10) := t10
  have k10 : (-1) ≤ v_iv (n_v vs 10) ∧ v_iv (n_v vs 10) ≤ (-1) := tv_rng t10
  obtain ⟨t11, hk⟩ := List.forall_mem_cons.mp hk
  have t11 : tv_ok ta (0, 1, 5999, []) (n_v vs 11) := t11
  have k11 : 1 ≤ v_iv (n_v vs 11) ∧ v_iv (n_v vs 11) ≤ 5999 := tv_rng t11
  obtain ⟨t12, hk⟩ := List.forall_mem_cons.mp hk
  have t12 : tv_ok ta (0, 0, 5999, []) (n_v vs 12) := t12
  have k12 : 0 ≤ v_iv (n_v vs 12) ∧ v_iv (n_v vs 12) ≤ 5999 := tv_rng t12
  obtain ⟨t13, hk⟩ := List.forall_mem_cons.mp hk
  have t13 : tv_ok ta (0, 0, 0, []) (n_v vs 13) := t13
  have k13 : 0 ≤ v_iv (n_v vs 13) ∧ v_iv (n_v vs 13) ≤ 0 := tv_rng t13
  obtain ⟨t14, hk⟩ := List.forall_mem_cons.mp hk
  have t14 : tv_ok ta (0, 0, 5999, []) (n_v vs 14) := t14
  have k14 : 0 ≤ v_iv (n_v vs 14) ∧ v_iv (n_v vs 14) ≤ 5999 := tv_rng t14
  obtain ⟨t16, hk⟩ := List.forall_mem_cons.mp hk
  have t16 : tv_ok ta (0, 1, 1, []) (n_v vs 16) := t16
  have k16 : 1 ≤ v_iv (n_v vs 16) ∧ v_iv (n_v vs 16) ≤ 1 := tv_rng t16
  obtain ⟨t17, hk⟩ := List.forall_mem_cons.mp hk
  have t17 : tv_ok ta (0, 1, 5999, []) (n_v vs 17) := t17
  have k17 : 1 ≤ v_iv (n_v vs 17) ∧ v_iv (n_v vs 17) ≤ 5999 := tv_rng t17
  obtain ⟨t20, hk⟩ := List.forall_mem_cons.mp hk
  have t20 : tv_ok ta (0, 1, 6000, []) (n_v vs 20) := t20
  have k20 : 1 ≤ v_iv (n_v vs 20) ∧ v_iv (n_v vs 20) ≤ 6000 := tv_rng t20
  obtain ⟨t21, hk⟩ := List.forall_mem_cons.mp hk
  have t21 : tv_ok ta (0, 1, 1, []) (n_v vs 21) := t21
  have k21 : 1 ≤ v_iv (n_v vs 21) ∧ v_iv (n_v vs 21) ≤ 1 := tv_rng t21
  obtain ⟨t22, hk⟩ := List.forall_mem_cons.mp hk
  have t22 : tv_ok ta (0, 0, 5999, []) (n_v vs 22) := t22
  have k22 : 0 ≤ v_iv (n_v vs 22) ∧ v_iv (n_v vs 22) ≤ 5999 := tv_rng t22
  obtain ⟨t24, hk⟩ := List.forall_mem_cons.mp hk
  have t24 : tv_ok ta (0, 0, 35994000, []) (n_v vs 24) := t24
  have k24 : 0 ≤ v_iv (n_v vs 24) ∧ v_iv (n_v vs 24) ≤ 35994000 := tv_rng t24
  obtain ⟨t25, hk⟩ := List.forall_mem_cons.mp hk
  have t25 : tv_ok ta (0, 1, 5999, []) (n_v vs 25) := t25
  have k25 : 1 ≤ v_iv (n_v vs 25) ∧ v_iv (n_v vs 25) ≤ 5999 := tv_rng t25
  obtain ⟨t26, hk⟩ := List.forall_mem_cons.mp hk
  have t26 : tv_ok ta (2, 0, 0, [254]) (n_v vs 26) := t26
  have r26 : ta (v_ad (n_v vs 26)) = some 254 := tv_rg t26
  obtain ⟨t27, hk⟩ := List.forall_mem_cons.mp hk
  have t27 : tv_ok ta (0, 0, 0, []) (n_v vs 27) := t27
  have k27 : 0 ≤ v_iv (n_v vs 27) ∧ v_iv (n_v vs 27) ≤ 0 := tv_rng t27
  have hds : ∀ q ∈ ([(25, 11, 0, 35994000), (25, 9, 1, 35994001), (25, 24, 1, 5999), (14, 22, -4294967296, 0), (22, 20, -1, -1), (11, 17, -4294967296, 0), (17, 8, -1, -1), (14, 12, 0, 0), (11, 9, 1, 1), (11, 8, -4294967294, 0), (9, 8, -4294967295, -1)] : List of_T), n_iv vs q.2.1 + q.2.2.1 ≤ n_iv vs q.1 ∧ n_iv vs q.1 ≤ n_iv vs q.2.1 + q.2.2.2 := hds
  obtain ⟨d0, hds⟩ := List.forall_mem_cons.mp hds
  have d0 : v_iv (n_v vs 11) + 0 ≤ v_iv (n_v vs 25) ∧ v_iv (n_v vs 25) ≤ v_iv (n_v vs 11) + 35994000 := d0
  obtain ⟨d1, hds⟩ := List.forall_mem_cons.mp hds
  have d1 : v_iv (n_v vs 9) + 1 ≤ v_iv (n_v vs 25) ∧ v_iv (n_v vs 25) ≤ v_iv (n_v vs 9) + 35994001 := d1
  obtain ⟨d2, hds⟩ := List.forall_mem_cons.mp hds
  have d2 : v_iv (n_v vs 24) + 1 ≤ v_iv (n_v vs 25) ∧ v_iv (n_v vs 25) ≤ v_iv (n_v vs 24) + 5999 := d2
  obtain ⟨d3, hds⟩ := List.forall_mem_cons.mp hds
  have d3 : v_iv (n_v vs 22) + (-4294967296) ≤ v_iv (n_v vs 14) ∧ v_iv (n_v vs 14) ≤ v_iv (n_v vs 22) + 0 := d3
  obtain ⟨d4, hds⟩ := List.forall_mem_cons.mp hds
  have d4 : v_iv (n_v vs 20) + (-1) ≤ v_iv (n_v vs 22) ∧ v_iv (n_v vs 22) ≤ v_iv (n_v vs 20) + (-1) := d4
  obtain ⟨d5, hds⟩ := List.forall_mem_cons.mp hds
  have d5 : v_iv (n_v vs 17) + (-4294967296) ≤ v_iv (n_v vs 11) ∧ v_iv (n_v vs 11) ≤ v_iv (n_v vs 17) + 0 := d5
  obtain ⟨d6, hds⟩ := List.forall_mem_cons.mp hds
  have d6 : v_iv (n_v vs 8) + (-1) ≤ v_iv (n_v vs 17) ∧ v_iv (n_v vs 17) ≤ v_iv (n_v vs 8) + (-1) := d6
  obtain ⟨d7, hds⟩ := List.forall_mem_cons.mp hds
  have d7 : v_iv (n_v vs 12) + 0 ≤ v_iv (n_v vs 14) ∧ v_iv (n_v vs 14) ≤ v_iv (n_v vs 12) + 0 := d7
  obtain ⟨d8, hds⟩ := List.forall_mem_cons.mp hds
  have d8 : v_iv (n_v vs 9) + 1 ≤ v_iv (n_v vs 11) ∧ v_iv (n_v vs 11) ≤ v_iv (n_v vs 9) + 1 := d8
  obtain ⟨d9, hds⟩ := List.forall_mem_cons.mp hds
  have d9 : v_iv (n_v vs 8) + (-4294967294) ≤ v_iv (n_v vs 11) ∧ v_iv (n_v vs 11) ≤ v_iv (n_v vs 8) + 0 := d9
  obtain ⟨d10, hds⟩ := List.forall_mem_cons.mp hds
  have d10 : v_iv (n_v vs 8) + (-4294967295) ≤ v_iv (n_v vs 9) ∧ v_iv (n_v vs 9) ≤ v_iv (n_v vs 8) + (-1) := d10
  have hf : fc_ok PRD [(8, [27], [0]), (10, [27, 26, 25], []), (9, [26, 0], [143]), (1, [25, 24, 11], []), (3, [24, 14, 8], []), (9, [8, 0], [146]), (2, [22, 20, 21], []), (9, [20, 0], [147]), (2, [17, 8, 16], []), (2, [14, 12, 13], []), (20, [7, 13], [50, 0, 0, 3, 14, 2, 6, 1, 2, 1, 0, 0, 1, 1, 2, 1, 1, 0, 1, 3, 14, 2, 6, 1, 2, 1, 0, 0, 3, 1, 2, 1, 1, 0, -1, 2, 6, 7, 2, 1, 0, 0, 1, 2, 6, 7, 2, 1, 0, 0, 3, 1, 2, 1, 1, 0, 0]), (4, [12, 5, 8], []), (2, [11, 9, 10], []), (20, [7, 10], [50, 0, 0, 3, 14, 2, 6, 1, 2, 1, 0, 0, 0, 1, 2, 1, 1, 0, 1, 3, 14, 2, 6, 1, 2, 1, 0, 0, 2, 1, 2, 1, 1, 0, -1, 2, 6, 7, 2, 1, 0, 0, 0, 2, 6, 7, 2, 1, 0, 0, 2, 1, 2, 1, 1, 0, 0]), (5, [9, 5, 8], []), (12, [7, 1], [4]), (11, [5, 1], [4]), (20, [0, 3, 2], [60, 2, 4, 419, 146, 147, 143, 140, 141, 142]), (20, [0, 1, 2], [60, 0, 1, 421, 140]), (20, [1, 0], [50, 2, 0, 1146, 1147, 2, 6, 0, 2, 0, 0, 1, 0, 0, 6, 4, 2, 1, 0, 0, 1, 6, 2, 0, 4, 6, 3, 2, 1, 146, 2, 1, 147]), (20, [2], [50, 0, 0, 2, 6, 0, 2, 0, 0, 1, 0, 0, 2, 1, 0, 0, 999999])] ta ws vs := hf
  obtain ⟨f0, hf⟩ := fc_un (show (8 : Nat) < 100 from by decide) hf
  have f0 : v_iv (n_v vs 27) = 0 := f0
  obtain ⟨f1, hf⟩ := fc_un (show (10 : Nat) < 100 from by decide) hf
  have f1 : v_iv (n_v vs 27) = w_el ws (v_ad (n_v vs 26)) (v_iv (n_v vs 25)).toNat := f1
  obtain ⟨f2, hf⟩ := fc_un (show (9 : Nat) < 100 from by decide) hf
  have f2 : n_v vs 26 = w_fd ws (v_ad (n_v vs 0)) 143 := f2
  obtain ⟨f3, hf⟩ := fc_un (show (1 : Nat) < 100 from by decide) hf
  have f3 : v_iv (n_v vs 25) = v_iv (n_v vs 24) + v_iv (n_v vs 11) := f3
  obtain ⟨f4, hf⟩ := fc_un (show (3 : Nat) < 100 from by decide) hf
  have f4 : v_iv (n_v vs 24) = v_iv (n_v vs 14) * v_iv (n_v vs 8) := f4
  obtain ⟨f5, hf⟩ := fc_un (show (9 : Nat) < 100 from by decide) hf
  have f5 : n_v vs 8 = w_fd ws (v_ad (n_v vs 0)) 146 := f5
  obtain ⟨f6, hf⟩ := fc_un (show (2 : Nat) < 100 from by decide) hf
  have f6 : v_iv (n_v vs 22) = v_iv (n_v vs 20) - v_iv (n_v vs 21) := f6
  obtain ⟨f7, hf⟩ := fc_un (show (9 : Nat) < 100 from by decide) hf
  have f7 : n_v vs 20 = w_fd ws (v_ad (n_v vs 0)) 147 := f7
  obtain ⟨f8, hf⟩ := fc_un (show (2 : Nat) < 100 from by decide) hf
  have f8 : v_iv (n_v vs 17) = v_iv (n_v vs 8) - v_iv (n_v vs 16) := f8
  obtain ⟨f9, hf⟩ := fc_un (show (2 : Nat) < 100 from by decide) hf
  have f9 : v_iv (n_v vs 14) = v_iv (n_v vs 12) - v_iv (n_v vs 13) := f9
  obtain ⟨f10, hf⟩ := fc_un (show (20 : Nat) < 100 from by decide) hf
  have f10 : ((v_iv (n_v vs 7) = 1) ∧ (v_iv (n_v vs 13) = 1)) ∨ (((v_iv (n_v vs 7) = 3) ∧ (v_iv (n_v vs 13) = (-1))) ∨ ((v_iv (n_v vs 7) ≠ 1) ∧ ((v_iv (n_v vs 7) ≠ 3) ∧ (v_iv (n_v vs 13) = 0)))) := f10
  obtain ⟨f11, hf⟩ := fc_un (show (4 : Nat) < 100 from by decide) hf
  have f11 : v_iv (n_v vs 12) = Int.tdiv (v_iv (n_v vs 5)) (v_iv (n_v vs 8)) := f11
  have fq11 : 10 ≤ v_iv (n_v vs 12) → 10 * v_iv (n_v vs 8) ≤ v_iv (n_v vs 5) := dv_ten f11 (by omega) (by omega)
  obtain ⟨f12, hf⟩ := fc_un (show (2 : Nat) < 100 from by decide) hf
  have f12 : v_iv (n_v vs 11) = v_iv (n_v vs 9) - v_iv (n_v vs 10) := f12
  obtain ⟨f13, hf⟩ := fc_un (show (20 : Nat) < 100 from by decide) hf
  have f13 : ((v_iv (n_v vs 7) = 0) ∧ (v_iv (n_v vs 10) = 1)) ∨ (((v_iv (n_v vs 7) = 2) ∧ (v_iv (n_v vs 10) = (-1))) ∨ ((v_iv (n_v vs 7) ≠ 0) ∧ ((v_iv (n_v vs 7) ≠ 2) ∧ (v_iv (n_v vs 10) = 0)))) := f13
  obtain ⟨f14, hf⟩ := fc_un (show (5 : Nat) < 100 from by decide) hf
  have f14 : v_iv (n_v vs 9) = Int.tmod (v_iv (n_v vs 5)) (v_iv (n_v vs 8)) := f14
  obtain ⟨f15, hf⟩ := fc_un (show (12 : Nat) < 100 from by decide) hf
  have f15 : v_iv (n_v vs 7) = v_iv (n_v vs 1) % 4 := f15
  obtain ⟨f16, hf⟩ := fc_un (show (11 : Nat) < 100 from by decide) hf
  have f16 : v_iv (n_v vs 5) = v_iv (n_v vs 1) / 4 := f16
  obtain ⟨f17, hf⟩ := fc_un (show (20 : Nat) < 100 from by decide) hf
  have f17 : RTQ (w_fi ws (n_v vs 0) 146) (w_fi ws (n_v vs 0) 147) (w_ei ws (w_ar ws (n_v vs 0) 143)) (w_ei ws (w_ar ws (n_v vs 0) 140)) (w_ei ws (w_ar ws (n_v vs 0) 141)) (w_ei ws (w_ar ws (n_v vs 0) 142)) (v_iv (n_v vs 3)) (v_iv (n_v vs 2)) := f17
  obtain ⟨f18, hf⟩ := fc_un (show (20 : Nat) < 100 from by decide) hf
  have f18 : PIV (w_ei ws (w_ar ws (n_v vs 0) 140)) (v_iv (n_v vs 1)) (v_iv (n_v vs 2)) := f18
  obtain ⟨f19, hf⟩ := fc_un (show (20 : Nat) < 100 from by decide) hf
  have f19 : (0 ≤ v_iv (n_v vs 1)) ∧ ((v_iv (n_v vs 1) + 1) ≤ (4 * (w_fi ws (n_v vs 0) 146 * w_fi ws (n_v vs 0) 147))) := f19
  obtain ⟨f20, hf⟩ := fc_un (show (20 : Nat) < 100 from by decide) hf
  have f20 : (0 ≤ v_iv (n_v vs 2)) ∧ (v_iv (n_v vs 2) ≤ 999999) := f20
  have cr_0_140 : ta (w_ar ws (n_v vs 0) 140) = some 251 := tv_rg (th_fd hD hth r0 (g := GG_150) rfl (k := 140) (t := (2, 0, 0, [251])) rfl rfl)
  have cr_0_141 : ta (w_ar ws (n_v vs 0) 141) = some 252 := tv_rg (th_fd hD hth r0 (g := GG_150) rfl (k := 141) (t := (2, 0, 0, [252])) rfl rfl)
  have cr_0_142 : ta (w_ar ws (n_v vs 0) 142) = some 253 := tv_rg (th_fd hD hth r0 (g := GG_150) rfl (k := 142) (t := (2, 0, 0, [253])) rfl rfl)
  have cr_0_143 : ta (w_ar ws (n_v vs 0) 143) = some 254 := tv_rg (th_fd hD hth r0 (g := GG_150) rfl (k := 143) (t := (2, 0, 0, [254])) rfl rfl)
  have ad_26 : v_ad (n_v vs 26) = w_ar ws (n_v vs 0) 143 := congrArg v_ad f2
  rw [ad_26] at f1
  have h1 : v_iv (n_v vs 27) = w_ei ws (w_ar ws (n_v vs 0) 143) (v_iv (n_v vs 25)) := f1
  have g5 : v_iv (n_v vs 8) = w_fi ws (n_v vs 0) 146 := congrArg v_iv f5
  have g7 : v_iv (n_v vs 20) = w_fi ws (n_v vs 0) 147 := congrArg v_iv f7
  have hK_0_140 : ∀ j : Int, 0 ≤ j → j < 24000 → 0 ≤ w_ei ws (w_ar ws (n_v vs 0) 140) j ∧ w_ei ws (w_ar ws (n_v vs 0) 140) j ≤ 1000000 := fun j h0 h1 => th_el hD hth cr_0_140 (kd := 0) (n := 24000) (m := 24000) (lo := 0) (hi := 1000000) (rs := []) (L := []) rfl (by decide) (j := j.toNat) (by omega)
  have hK_0_141 : ∀ j : Int, 0 ≤ j → j < 96040 → 0 ≤ w_ei ws (w_ar ws (n_v vs 0) 141) j ∧ w_ei ws (w_ar ws (n_v vs 0) 141) j ≤ 23999 := fun j h0 h1 => th_el hD hth cr_0_141 (kd := 0) (n := 96040) (m := 96040) (lo := 0) (hi := 23999) (rs := []) (L := []) rfl (by decide) (j := j.toNat) (by omega)
  have hK_0_142 : ∀ j : Int, 0 ≤ j → j < 4 → 0 ≤ w_ei ws (w_ar ws (n_v vs 0) 142) j ∧ w_ei ws (w_ar ws (n_v vs 0) 142) j ≤ 24009 := fun j h0 h1 => th_el hD hth cr_0_142 (kd := 0) (n := 4) (m := 4) (lo := 0) (hi := 24009) (rs := []) (L := []) rfl (by decide) (j := j.toNat) (by omega)
  have hK_0_143 : ∀ j : Int, 0 ≤ j → j < 6000 → 0 ≤ w_ei ws (w_ar ws (n_v vs 0) 143) j ∧ w_ei ws (w_ar ws (n_v vs 0) 143) j ≤ 1 := fun j h0 h1 => th_el hD hth cr_0_143 (kd := 2) (n := 6000) (m := 6000) (lo := 0) (hi := 1) (rs := []) (L := []) rfl (by decide) (j := j.toNat) (by omega)
  have kz_0_146 : (-2147483648) ≤ w_fi ws (n_v vs 0) 146 ∧ w_fi ws (n_v vs 0) 146 ≤ 2147483647 := tv_rng (th_fd hD hth r0 (g := GG_150) rfl (k := 146) (t := (0, -2147483648, 2147483647, [])) rfl rfl)
  have kz_0_147 : (-2147483648) ≤ w_fi ws (n_v vs 0) 147 ∧ w_fi ws (n_v vs 0) 147 ≤ 2147483647 := tv_rng (th_fd hD hth r0 (g := GG_150) rfl (k := 147) (t := (0, -2147483648, 2147483647, [])) rfl rfl)
  have nf0 : fc_1 PRD (20, [0, 1, 25], [60, 2, 1, 424, 146, 147, 143]) ws (vs) := by
    refine ⟨fun n hn => ?_, ?_⟩
    · have hn : n ∈ [0, 1, 25] := hn
      rw [hl]
      simp only [List.mem_cons, List.not_mem_nil, or_false] at hn
      show n < 29; omega
    · show BFP (w_fi ws (n_v vs 0) 146) (w_fi ws (n_v vs 0) 147) (w_ei ws (w_ar ws (n_v vs 0) 143)) (v_iv (n_v vs 1)) (v_iv (n_v vs 25))
      exact vc_Mo_backFrom_12_0 (v_iv (n_v vs 1)) (v_iv (n_v vs 2)) (v_iv (n_v vs 3)) (v_iv (n_v vs 5)) (v_iv (n_v vs 7)) (v_iv (n_v vs 8)) (v_iv (n_v vs 9)) (v_iv (n_v vs 10)) (v_iv (n_v vs 11)) (v_iv (n_v vs 12)) (v_iv (n_v vs 13)) (v_iv (n_v vs 14)) (v_iv (n_v vs 16)) (v_iv (n_v vs 17)) (v_iv (n_v vs 20)) (v_iv (n_v vs 21)) (v_iv (n_v vs 22)) (v_iv (n_v vs 24)) (v_iv (n_v vs 25)) (v_iv (n_v vs 27)) (w_ei ws (w_ar ws (n_v vs 0) 143)) (w_fi ws (n_v vs 0) 146) (w_fi ws (n_v vs 0) 147) (w_ei ws (w_ar ws (n_v vs 0) 140)) (w_ei ws (w_ar ws (n_v vs 0) 141)) (w_ei ws (w_ar ws (n_v vs 0) 142)) k1 k2 k3 k5 k7 k8 k9 k10 k11 k12 k13 k14 k16 k17 k20 k21 k22 k24 k25 k27 d0 d1 d2 d3 d4 d5 d6 d7 d8 d9 d10 f0 h1 f3 f4 g5 f6 g7 f8 f9 f10 f11 f12 f13 f14 f15 f16 f17 f18 f19 f20 hK_0_140 hK_0_141 hK_0_142 hK_0_143 kz_0_146 kz_0_147
  have nf1 : fc_1 PRD (20, [7, 1], [50, 0, 0, 1, 2, 1, 0, 9, 2, 1, 1, 0, 4]) ws (vs) := by
    refine ⟨fun n hn => ?_, ?_⟩
    · have hn : n ∈ [7, 1] := hn
      rw [hl]
      simp only [List.mem_cons, List.not_mem_nil, or_false] at hn
      show n < 29; omega
    · show v_iv (n_v vs 7) = (v_iv (n_v vs 1) % 4)
      exact vc_Mo_backFrom_12_1 (v_iv (n_v vs 1)) (v_iv (n_v vs 2)) (v_iv (n_v vs 3)) (v_iv (n_v vs 5)) (v_iv (n_v vs 7)) (v_iv (n_v vs 8)) (v_iv (n_v vs 9)) (v_iv (n_v vs 10)) (v_iv (n_v vs 11)) (v_iv (n_v vs 12)) (v_iv (n_v vs 13)) (v_iv (n_v vs 14)) (v_iv (n_v vs 16)) (v_iv (n_v vs 17)) (v_iv (n_v vs 20)) (v_iv (n_v vs 21)) (v_iv (n_v vs 22)) (v_iv (n_v vs 24)) (v_iv (n_v vs 25)) (v_iv (n_v vs 27)) (w_ei ws (w_ar ws (n_v vs 0) 143)) (w_fi ws (n_v vs 0) 146) (w_fi ws (n_v vs 0) 147) (w_ei ws (w_ar ws (n_v vs 0) 140)) (w_ei ws (w_ar ws (n_v vs 0) 141)) (w_ei ws (w_ar ws (n_v vs 0) 142)) k1 k2 k3 k5 k7 k8 k9 k10 k11 k12 k13 k14 k16 k17 k20 k21 k22 k24 k25 k27 d0 d1 d2 d3 d4 d5 d6 d7 d8 d9 d10 f0 h1 f3 f4 g5 f6 g7 f8 f9 f10 f11 f12 f13 f14 f15 f16 f17 f18 f19 f20 hK_0_140 hK_0_141 hK_0_142 hK_0_143 kz_0_146 kz_0_147
  have nf2 : fc_1 PRD (20, [25, 0], [50, 2, 0, 1146, 1147, 2, 6, 0, 2, 0, 0, 1, 0, 0, 6, 4, 2, 1, 0, 0, 1, 6, 3, 2, 1, 146, 2, 1, 147]) ws (vs) := by
    refine ⟨fun n hn => ?_, ?_⟩
    · have hn : n ∈ [25, 0] := hn
      rw [hl]
      simp only [List.mem_cons, List.not_mem_nil, or_false] at hn
      show n < 29; omega
    · show (0 ≤ v_iv (n_v vs 25)) ∧ ((v_iv (n_v vs 25) + 1) ≤ (w_fi ws (n_v vs 0) 146 * w_fi ws (n_v vs 0) 147))
      exact vc_Mo_backFrom_12_2 (v_iv (n_v vs 1)) (v_iv (n_v vs 2)) (v_iv (n_v vs 3)) (v_iv (n_v vs 5)) (v_iv (n_v vs 7)) (v_iv (n_v vs 8)) (v_iv (n_v vs 9)) (v_iv (n_v vs 10)) (v_iv (n_v vs 11)) (v_iv (n_v vs 12)) (v_iv (n_v vs 13)) (v_iv (n_v vs 14)) (v_iv (n_v vs 16)) (v_iv (n_v vs 17)) (v_iv (n_v vs 20)) (v_iv (n_v vs 21)) (v_iv (n_v vs 22)) (v_iv (n_v vs 24)) (v_iv (n_v vs 25)) (v_iv (n_v vs 27)) (w_ei ws (w_ar ws (n_v vs 0) 143)) (w_fi ws (n_v vs 0) 146) (w_fi ws (n_v vs 0) 147) (w_ei ws (w_ar ws (n_v vs 0) 140)) (w_ei ws (w_ar ws (n_v vs 0) 141)) (w_ei ws (w_ar ws (n_v vs 0) 142)) k1 k2 k3 k5 k7 k8 k9 k10 k11 k12 k13 k14 k16 k17 k20 k21 k22 k24 k25 k27 d0 d1 d2 d3 d4 d5 d6 d7 d8 d9 d10 f0 h1 f3 f4 g5 f6 g7 f8 f9 f10 f11 f12 f13 f14 f15 f16 f17 f18 f19 f20 hK_0_140 hK_0_141 hK_0_142 hK_0_143 kz_0_146 kz_0_147
  have nf3 : fc_1 PRD (24, [0, 0], []) ws (vs) := by
    refine ⟨fun n hn => ?_, ?_⟩
    · have hn : n ∈ [0, 0] := hn
      rw [hl]
      simp only [List.mem_cons, List.not_mem_nil, or_false] at hn
      show n < 29; omega
    · show n_v vs 0 = n_v vs 0
      first | rfl | simp only [true_and]
  have nf4 : fc_1 PRD (24, [1, 1], []) ws (vs) := by
    refine ⟨fun n hn => ?_, ?_⟩
    · have hn : n ∈ [1, 1] := hn
      rw [hl]
      simp only [List.mem_cons, List.not_mem_nil, or_false] at hn
      show n < 29; omega
    · show n_v vs 1 = n_v vs 1
      first | rfl | simp only [true_and]
  have nf5 : fc_1 PRD (24, [2, 2], []) ws (vs) := by
    refine ⟨fun n hn => ?_, ?_⟩
    · have hn : n ∈ [2, 2] := hn
      rw [hl]
      simp only [List.mem_cons, List.not_mem_nil, or_false] at hn
      show n < 29; omega
    · show n_v vs 2 = n_v vs 2
      first | rfl | simp only [true_and]
  refine ⟨(fun _ h => (by cases h)), [], trivial, ?_, (fun _ h => (by cases h))⟩
  rw [List.append_nil]
  exact List.forall_mem_cons.mpr ⟨⟨show (20 : Nat) < 100 from by decide, nf0⟩, List.forall_mem_cons.mpr ⟨⟨show (20 : Nat) < 100 from by decide, nf1⟩, List.forall_mem_cons.mpr ⟨⟨show (20 : Nat) < 100 from by decide, nf2⟩, List.forall_mem_cons.mpr ⟨⟨show (24 : Nat) < 100 from by decide, nf3⟩, List.forall_mem_cons.mpr ⟨⟨show (24 : Nat) < 100 from by decide, nf4⟩, List.forall_mem_cons.mpr ⟨⟨show (24 : Nat) < 100 from by decide, nf5⟩, (fun _ h => (by cases h))⟩⟩⟩⟩⟩⟩
set_option maxHeartbeats 4000000 in
theorem vc_Mo_backFrom_13_r0 (x1 : Int) (x2 : Int) (x3 : Int) (x5 : Int) (x7 : Int) (x8 : Int) (x9 : Int) (x10 : Int) (x11 : Int) (x12 : Int) (x13 : Int) (x14 : Int) (x16 : Int) (x17 : Int) (x20 : Int) (tall_0 : Int) (wide_0 : Int) (barredPoint_0 : Int → Int) (costOf_0 : Int → Int) (bucket_0 : Int → Int) (bucketMany_0 : Int → Int) (k1 : 0 ≤ x1 ∧ x1 ≤ 23999) (k2 : 0 ≤ x2 ∧ x2 ≤ 1000000) (k3 : 0 ≤ x3 ∧ x3 ≤ 5999) (k5 : 0 ≤ x5 ∧ x5 ≤ 5999) (k7 : 0 ≤ x7 ∧ x7 ≤ 0) (k8 : 1 ≤ x8 ∧ x8 ≤ 6000) (k9 : 0 ≤ x9 ∧ x9 ≤ 5999) (k10 : 1 ≤ x10 ∧ x10 ≤ 1) (k11 : 0 ≤ x11 ∧ x11 ≤ 5998) (k12 : 0 ≤ x12 ∧ x12 ≤ 5999) (k13 : 0 ≤ x13 ∧ x13 ≤ 0) (k14 : 0 ≤ x14 ∧ x14 ≤ 5999) (k16 : 1 ≤ x16 ∧ x16 ≤ 1) (k17 : 0 ≤ x17 ∧ x17 ≤ 5999) (k20 : (-2147483648) ≤ x20 ∧ x20 ≤ 2147483647) (d0 : x17 + (-4294967296) ≤ x11 ∧ x11 ≤ x17 + 0) (d1 : x8 + (-1) ≤ x17 ∧ x17 ≤ x8 + (-1)) (d2 : x12 + 0 ≤ x14 ∧ x14 ≤ x12 + 0) (d3 : x9 + (-1) ≤ x11 ∧ x11 ≤ x9 + (-1)) (d4 : x8 + (-4294967296) ≤ x11 ∧ x11 ≤ x8 + (-2)) (d5 : x8 + (-4294967295) ≤ x9 ∧ x9 ≤ x8 + (-1)) (g0 : x20 = tall_0) (f1 : x17 = x8 - x16) (g2 : x8 = wide_0) (f3 : x14 = x12 - x13) (f4 : ((x7 = 1) ∧ (x13 = 1)) ∨ (((x7 = 3) ∧ (x13 = (-1))) ∨ ((x7 ≠ 1) ∧ ((x7 ≠ 3) ∧ (x13 = 0))))) (f5 : x12 = Int.tdiv (x5) (x8)) (f6 : x11 = x9 - x10) (f7 : ((x7 = 0) ∧ (x10 = 1)) ∨ (((x7 = 2) ∧ (x10 = (-1))) ∨ ((x7 ≠ 0) ∧ ((x7 ≠ 2) ∧ (x10 = 0))))) (f8 : x9 = Int.tmod (x5) (x8)) (f9 : x7 = x1 % 4) (f10 : x5 = x1 / 4) (f11 : RTQ (wide_0) (tall_0) (barredPoint_0) (costOf_0) (bucket_0) (bucketMany_0) (x3) (x2)) (f12 : PIV (costOf_0) (x1) (x2)) (f13 : (0 ≤ x1) ∧ ((x1 + 1) ≤ (4 * (wide_0 * tall_0)))) (f14 : (0 ≤ x2) ∧ (x2 ≤ 999999)) (hK_0_140 : ∀ j : Int, 0 ≤ j → j < 24000 → 0 ≤ costOf_0 j ∧ costOf_0 j ≤ 1000000) (hK_0_141 : ∀ j : Int, 0 ≤ j → j < 96040 → 0 ≤ bucket_0 j ∧ bucket_0 j ≤ 23999) (hK_0_142 : ∀ j : Int, 0 ≤ j → j < 4 → 0 ≤ bucketMany_0 j ∧ bucketMany_0 j ≤ 24009) (hK_0_143 : ∀ j : Int, 0 ≤ j → j < 6000 → 0 ≤ barredPoint_0 j ∧ barredPoint_0 j ≤ 1) (kz_0_146 : (-2147483648) ≤ wide_0 ∧ wide_0 ≤ 2147483647) (kz_0_147 : (-2147483648) ≤ tall_0 ∧ tall_0 ≤ 2147483647) : 1 ≤ x20 ∧ x20 ≤ 6000 := by
  first
    | omega
    | (have g := gok_bd (show GRX wide_0 tall_0 from ‹RTQ _ _ _ _ _ _ _ _›.1); omega)
    | (have g0 : GRX wide_0 tall_0 := ‹RTQ _ _ _ _ _ _ _ _›.1
       have g := gok_bd g0
       have e8 : x8 = wide_0 := by assumption
       have e20 : x20 = tall_0 := by assumption
       have c := cell_ix (W := x8) (T := x20) (x := x11) (y := x14) (p := x25) (by omega) (by omega) (by omega) (by omega) (by omega) (by rw [‹x25 = x24 + x11›, ‹x24 = x14 * x8›])
       have g3 := g0.2.2
       rw [e8, e20] at c
       omega)
    | (have h := ‹BFP _ _ _ _ _›.2.2.1; omega)
    | sorry
def o_Mo_backFrom_13 : or_T := (60, 22, [(0, (2, 0, 0, [150])), (1, (0, 0, 23999, [])), (2, (0, 0, 1000000, [])), (3, (0, 0, 5999, [])), (5, (0, 0, 5999, [])), (7, (0, 0, 0, [])), (8, (0, 1, 6000, [])), (9, (0, 0, 5999, [])), (10, (0, 1, 1, [])), (11, (0, 0, 5998, [])), (12, (0, 0, 5999, [])), (13, (0, 0, 0, [])), (14, (0, 0, 5999, [])), (16, (0, 1, 1, [])), (17, (0, 0, 5999, [])), (20, (0, -2147483648, 2147483647, []))], [(9, [20, 0], [147]), (2, [17, 8, 16], []), (9, [8, 0], [146]), (2, [14, 12, 13], []), (20, [7, 13], [50, 0, 0, 3, 14, 2, 6, 1, 2, 1, 0, 0, 1, 1, 2, 1, 1, 0, 1, 3, 14, 2, 6, 1, 2, 1, 0, 0, 3, 1, 2, 1, 1, 0, -1, 2, 6, 7, 2, 1, 0, 0, 1, 2, 6, 7, 2, 1, 0, 0, 3, 1, 2, 1, 1, 0, 0]), (4, [12, 5, 8], []), (2, [11, 9, 10], []), (20, [7, 10], [50, 0, 0, 3, 14, 2, 6, 1, 2, 1, 0, 0, 0, 1, 2, 1, 1, 0, 1, 3, 14, 2, 6, 1, 2, 1, 0, 0, 2, 1, 2, 1, 1, 0, -1, 2, 6, 7, 2, 1, 0, 0, 0, 2, 6, 7, 2, 1, 0, 0, 2, 1, 2, 1, 1, 0, 0]), (5, [9, 5, 8], []), (12, [7, 1], [4]), (11, [5, 1], [4]), (20, [0, 3, 2], [60, 2, 4, 419, 146, 147, 143, 140, 141, 142]), (20, [0, 1, 2], [60, 0, 1, 421, 140]), (20, [1, 0], [50, 2, 0, 1146, 1147, 2, 6, 0, 2, 0, 0, 1, 0, 0, 6, 4, 2, 1, 0, 0, 1, 6, 2, 0, 4, 6, 3, 2, 1, 146, 2, 1, 147]), (20, [2], [50, 0, 0, 2, 6, 0, 2, 0, 0, 1, 0, 0, 2, 1, 0, 0, 999999])], [(20, (0, 1, 6000, []))], [], [], [], [(11, 17, -4294967296, 0), (17, 8, -1, -1), (14, 12, 0, 0), (11, 9, -1, -1), (11, 8, -4294967296, -2), (9, 8, -4294967295, -1)])
theorem oo_Mo_backFrom_13 {kA : Nat → ClassId} : or_ok PRD kA GG o_Mo_backFrom_13 := by
  intro A ta ws vs hD hth hl hk hds hf
  have hl : vs.length = 22 := hl
  have hk : ∀ q ∈ ([(0, (2, 0, 0, [150])), (1, (0, 0, 23999, [])), (2, (0, 0, 1000000, [])), (3, (0, 0, 5999, [])), (5, (0, 0, 5999, [])), (7, (0, 0, 0, [])), (8, (0, 1, 6000, [])), (9, (0, 0, 5999, [])), (10, (0, 1, 1, [])), (11, (0, 0, 5998, [])), (12, (0, 0, 5999, [])), (13, (0, 0, 0, [])), (14, (0, 0, 5999, [])), (16, (0, 1, 1, [])), (17, (0, 0, 5999, [])), (20, (0, -2147483648, 2147483647, []))] : List (Nat × tv_T)), tv_ok ta q.2 (n_v vs q.1) := hk
  obtain ⟨t0, hk⟩ := List.forall_mem_cons.mp hk
  have t0 : tv_ok ta (2, 0, 0, [150]) (n_v vs 0) := t0
  have r0 : ta (v_ad (n_v vs 0)) = some 150 := tv_rg t0
  obtain ⟨t1, hk⟩ := List.forall_mem_cons.mp hk
  have t1 : tv_ok ta (0, 0, 23999, []) (n_v vs 1) := t1
  have k1 : 0 ≤ v_iv (n_v vs 1) ∧ v_iv (n_v vs 1) ≤ 23999 := tv_rng t1
  obtain ⟨t2, hk⟩ := List.forall_mem_cons.mp hk
  have t2 : tv_ok ta (0, 0, 1000000, []) (n_v vs 2) := t2
  have k2 : 0 ≤ v_iv (n_v vs 2) ∧ v_iv (n_v vs 2) ≤ 1000000 := tv_rng t2
  obtain ⟨t3, hk⟩ := List.forall_mem_cons.mp hk
  have t3 : tv_ok ta (0, 0, 5999, []) (n_v vs 3) := t3
  have k3 : 0 ≤ v_iv (n_v vs 3) ∧ v_iv (n_v vs 3) ≤ 5999 := tv_rng t3
  obtain ⟨t5, hk⟩ := List.forall_mem_cons.mp hk
  have t5 : tv_ok ta (0, 0, 5999, []) (n_v vs 5) := t5
  have k5 : 0 ≤ v_iv (n_v vs 5) ∧ v_iv (n_v vs 5) ≤ 5999 := tv_rng t5
  obtain ⟨t7, hk⟩ := List.forall_mem_cons.mp hk
  have t7 : tv_ok ta (0, 0, 0, []) (n_v vs 7) := t7
  have k7 : 0 ≤ v_iv (n_v vs 7) ∧ v_iv (n_v vs 7) ≤ 0 := tv_rng t7
  obtain ⟨t8, hk⟩ := List.forall_mem_cons.mp hk
  have t8 : tv_ok ta (0, 1, 6000, []) (n_v vs 8) := t8
  have k8 : 1 ≤ v_iv (n_v vs 8) ∧ v_iv (n_v vs 8) ≤ 6000 := tv_rng t8
  obtain ⟨t9, hk⟩ := List.forall_mem_cons.mp hk
  have t9 : tv_ok ta (0, 0, 5999, []) (n_v vs 9) := t9
  have k9 : 0 ≤ v_iv (n_v vs 9) ∧ v_iv (n_v vs 9) ≤ 5999 := tv_rng t9
  obtain ⟨t10, hk⟩ := List.forall_mem_cons.mp hk
  have t10 : tv_ok ta (0, 1, 1, []) (n_v vs 10) := t10
  have k10 : 1 ≤ v_iv (n_v vs 10) ∧ v_iv (n_v vs 10) ≤ 1 := tv_rng t10
  obtain ⟨t11, hk⟩ := List.forall_mem_cons.mp hk
  have t11 : tv_ok ta (0, 0, 5998, []) (n_v vs 11) := t11
  have k11 : 0 ≤ v_iv (n_v vs 11) ∧ v_iv (n_v vs 11) ≤ 5998 := tv_rng t11
  obtain ⟨t12, hk⟩ := List.forall_mem_cons.mp hk
  have t12 : tv_ok ta (0, 0, 5999, []) (n_v vs 12) := t12
  have k12 : 0 ≤ v_iv (n_v vs 12) ∧ v_iv (n_v vs 12) ≤ 5999 := tv_rng t12
  obtain ⟨t13, hk⟩ := List.forall_mem_cons.mp hk
  have t13 : tv_ok ta (0, 0, 0, []) (n_v vs 13) := t13
  have k13 : 0 ≤ v_iv (n_v vs 13) ∧ v_iv (n_v vs 13) ≤ 0 := tv_rng t13
  obtain ⟨t14, hk⟩ := List.forall_mem_cons.mp hk
  have t14 : tv_ok ta (0, 0, 5999, []) (n_v vs 14) := t14
  have k14 : 0 ≤ v_iv (n_v vs 14) ∧ v_iv (n_v vs 14) ≤ 5999 := tv_rng t14
  obtain ⟨t16, hk⟩ := List.forall_mem_cons.mp hk
  have t16 : tv_ok ta (0, 1, 1, []) (n_v vs 16) := t16
  have k16 : 1 ≤ v_iv (n_v vs 16) ∧ v_iv (n_v vs 16) ≤ 1 := tv_rng t16
  obtain ⟨t17, hk⟩ := List.forall_mem_cons.mp hk
  have t17 : tv_ok ta (0, 0, 5999, []) (n_v vs 17) := t17
  have k17 : 0 ≤ v_iv (n_v vs 17) ∧ v_iv (n_v vs 17) ≤ 5999 := tv_rng t17
  obtain ⟨t20, hk⟩ := List.forall_mem_cons.mp hk
  have t20 : tv_ok ta (0, -2147483648, 2147483647, []) (n_v vs 20) := t20
  have k20 : (-2147483648) ≤ v_iv (n_v vs 20) ∧ v_iv (n_v vs 20) ≤ 2147483647 := tv_rng t20
  have hds : ∀ q ∈ ([(11, 17, -4294967296, 0), (17, 8, -1, -1), (14, 12, 0, 0), (11, 9, -1, -1), (11, 8, -4294967296, -2), (9, 8, -4294967295, -1)] : List of_T), n_iv vs q.2.1 + q.2.2.1 ≤ n_iv vs q.1 ∧ n_iv vs q.1 ≤ n_iv vs q.2.1 + q.2.2.2 := hds
  obtain ⟨d0, hds⟩ := List.forall_mem_cons.mp hds
  have d0 : v_iv (n_v vs 17) + (-4294967296) ≤ v_iv (n_v vs 11) ∧ v_iv (n_v vs 11) ≤ v_iv (n_v vs 17) + 0 := d0
  obtain ⟨d1, hds⟩ := List.forall_mem_cons.mp hds
  have d1 : v_iv (n_v vs 8) + (-1) ≤ v_iv (n_v vs 17) ∧ v_iv (n_v vs 17) ≤ v_iv (n_v vs 8) + (-1) := d1
  obtain ⟨d2, hds⟩ := List.forall_mem_cons.mp hds
  have d2 : v_iv (n_v vs 12) + 0 ≤ v_iv (n_v vs 14) ∧ v_iv (n_v vs 14) ≤ v_iv (n_v vs 12) + 0 := d2
  obtain ⟨d3, hds⟩ := List.forall_mem_cons.mp hds
  have d3 : v_iv (n_v vs 9) + (-1) ≤ v_iv (n_v vs 11) ∧ v_iv (n_v vs 11) ≤ v_iv (n_v vs 9) + (-1) := d3
  obtain ⟨d4, hds⟩ := List.forall_mem_cons.mp hds
  have d4 : v_iv (n_v vs 8) + (-4294967296) ≤ v_iv (n_v vs 11) ∧ v_iv (n_v vs 11) ≤ v_iv (n_v vs 8) + (-2) := d4
  obtain ⟨d5, hds⟩ := List.forall_mem_cons.mp hds
  have d5 : v_iv (n_v vs 8) + (-4294967295) ≤ v_iv (n_v vs 9) ∧ v_iv (n_v vs 9) ≤ v_iv (n_v vs 8) + (-1) := d5
  have hf : fc_ok PRD [(9, [20, 0], [147]), (2, [17, 8, 16], []), (9, [8, 0], [146]), (2, [14, 12, 13], []), (20, [7, 13], [50, 0, 0, 3, 14, 2, 6, 1, 2, 1, 0, 0, 1, 1, 2, 1, 1, 0, 1, 3, 14, 2, 6, 1, 2, 1, 0, 0, 3, 1, 2, 1, 1, 0, -1, 2, 6, 7, 2, 1, 0, 0, 1, 2, 6, 7, 2, 1, 0, 0, 3, 1, 2, 1, 1, 0, 0]), (4, [12, 5, 8], []), (2, [11, 9, 10], []), (20, [7, 10], [50, 0, 0, 3, 14, 2, 6, 1, 2, 1, 0, 0, 0, 1, 2, 1, 1, 0, 1, 3, 14, 2, 6, 1, 2, 1, 0, 0, 2, 1, 2, 1, 1, 0, -1, 2, 6, 7, 2, 1, 0, 0, 0, 2, 6, 7, 2, 1, 0, 0, 2, 1, 2, 1, 1, 0, 0]), (5, [9, 5, 8], []), (12, [7, 1], [4]), (11, [5, 1], [4]), (20, [0, 3, 2], [60, 2, 4, 419, 146, 147, 143, 140, 141, 142]), (20, [0, 1, 2], [60, 0, 1, 421, 140]), (20, [1, 0], [50, 2, 0, 1146, 1147, 2, 6, 0, 2, 0, 0, 1, 0, 0, 6, 4, 2, 1, 0, 0, 1, 6, 2, 0, 4, 6, 3, 2, 1, 146, 2, 1, 147]), (20, [2], [50, 0, 0, 2, 6, 0, 2, 0, 0, 1, 0, 0, 2, 1, 0, 0, 999999])] ta ws vs := hf
  obtain ⟨f0, hf⟩ := fc_un (show (9 : Nat) < 100 from by decide) hf
  have f0 : n_v vs 20 = w_fd ws (v_ad (n_v vs 0)) 147 := f0
  obtain ⟨f1, hf⟩ := fc_un (show (2 : Nat) < 100 from by decide) hf
  have f1 : v_iv (n_v vs 17) = v_iv (n_v vs 8) - v_iv (n_v vs 16) := f1
  obtain ⟨f2, hf⟩ := fc_un (show (9 : Nat) < 100 from by decide) hf
  have f2 : n_v vs 8 = w_fd ws (v_ad (n_v vs 0)) 146 := f2
  obtain ⟨f3, hf⟩ := fc_un (show (2 : Nat) < 100 from by decide) hf
  have f3 : v_iv (n_v vs 14) = v_iv (n_v vs 12) - v_iv (n_v vs 13) := f3
  obtain ⟨f4, hf⟩ := fc_un (show (20 : Nat) < 100 from by decide) hf
  have f4 : ((v_iv (n_v vs 7) = 1) ∧ (v_iv (n_v vs 13) = 1)) ∨ (((v_iv (n_v vs 7) = 3) ∧ (v_iv (n_v vs 13) = (-1))) ∨ ((v_iv (n_v vs 7) ≠ 1) ∧ ((v_iv (n_v vs 7) ≠ 3) ∧ (v_iv (n_v vs 13) = 0)))) := f4
  obtain ⟨f5, hf⟩ := fc_un (show (4 : Nat) < 100 from by decide) hf
  have f5 : v_iv (n_v vs 12) = Int.tdiv (v_iv (n_v vs 5)) (v_iv (n_v vs 8)) := f5
  have fq5 : 10 ≤ v_iv (n_v vs 12) → 10 * v_iv (n_v vs 8) ≤ v_iv (n_v vs 5) := dv_ten f5 (by omega) (by omega)
  obtain ⟨f6, hf⟩ := fc_un (show (2 : Nat) < 100 from by decide) hf
  have f6 : v_iv (n_v vs 11) = v_iv (n_v vs 9) - v_iv (n_v vs 10) := f6
  obtain ⟨f7, hf⟩ := fc_un (show (20 : Nat) < 100 from by decide) hf
  have f7 : ((v_iv (n_v vs 7) = 0) ∧ (v_iv (n_v vs 10) = 1)) ∨ (((v_iv (n_v vs 7) = 2) ∧ (v_iv (n_v vs 10) = (-1))) ∨ ((v_iv (n_v vs 7) ≠ 0) ∧ ((v_iv (n_v vs 7) ≠ 2) ∧ (v_iv (n_v vs 10) = 0)))) := f7
  obtain ⟨f8, hf⟩ := fc_un (show (5 : Nat) < 100 from by decide) hf
  have f8 : v_iv (n_v vs 9) = Int.tmod (v_iv (n_v vs 5)) (v_iv (n_v vs 8)) := f8
  obtain ⟨f9, hf⟩ := fc_un (show (12 : Nat) < 100 from by decide) hf
  have f9 : v_iv (n_v vs 7) = v_iv (n_v vs 1) % 4 := f9
  obtain ⟨f10, hf⟩ := fc_un (show (11 : Nat) < 100 from by decide) hf
  have f10 : v_iv (n_v vs 5) = v_iv (n_v vs 1) / 4 := f10
  obtain ⟨f11, hf⟩ := fc_un (show (20 : Nat) < 100 from by decide) hf
  have f11 : RTQ (w_fi ws (n_v vs 0) 146) (w_fi ws (n_v vs 0) 147) (w_ei ws (w_ar ws (n_v vs 0) 143)) (w_ei ws (w_ar ws (n_v vs 0) 140)) (w_ei ws (w_ar ws (n_v vs 0) 141)) (w_ei ws (w_ar ws (n_v vs 0) 142)) (v_iv (n_v vs 3)) (v_iv (n_v vs 2)) := f11
  obtain ⟨f12, hf⟩ := fc_un (show (20 : Nat) < 100 from by decide) hf
  have f12 : PIV (w_ei ws (w_ar ws (n_v vs 0) 140)) (v_iv (n_v vs 1)) (v_iv (n_v vs 2)) := f12
  obtain ⟨f13, hf⟩ := fc_un (show (20 : Nat) < 100 from by decide) hf
  have f13 : (0 ≤ v_iv (n_v vs 1)) ∧ ((v_iv (n_v vs 1) + 1) ≤ (4 * (w_fi ws (n_v vs 0) 146 * w_fi ws (n_v vs 0) 147))) := f13
  obtain ⟨f14, hf⟩ := fc_un (show (20 : Nat) < 100 from by decide) hf
  have f14 : (0 ≤ v_iv (n_v vs 2)) ∧ (v_iv (n_v vs 2) ≤ 999999) := f14
  have cr_0_140 : ta (w_ar ws (n_v vs 0) 140) = some 251 := tv_rg (th_fd hD hth r0 (g := GG_150) rfl (k := 140) (t := (2, 0, 0, [251])) rfl rfl)
  have cr_0_141 : ta (w_ar ws (n_v vs 0) 141) = some 252 := tv_rg (th_fd hD hth r0 (g := GG_150) rfl (k := 141) (t := (2, 0, 0, [252])) rfl rfl)
  have cr_0_142 : ta (w_ar ws (n_v vs 0) 142) = some 253 := tv_rg (th_fd hD hth r0 (g := GG_150) rfl (k := 142) (t := (2, 0, 0, [253])) rfl rfl)
  have cr_0_143 : ta (w_ar ws (n_v vs 0) 143) = some 254 := tv_rg (th_fd hD hth r0 (g := GG_150) rfl (k := 143) (t := (2, 0, 0, [254])) rfl rfl)
  have g0 : v_iv (n_v vs 20) = w_fi ws (n_v vs 0) 147 := congrArg v_iv f0
  have g2 : v_iv (n_v vs 8) = w_fi ws (n_v vs 0) 146 := congrArg v_iv f2
  have hK_0_140 : ∀ j : Int, 0 ≤ j → j < 24000 → 0 ≤ w_ei ws (w_ar ws (n_v vs 0) 140) j ∧ w_ei ws (w_ar ws (n_v vs 0) 140) j ≤ 1000000 := fun j h0 h1 => th_el hD hth cr_0_140 (kd := 0) (n := 24000) (m := 24000) (lo := 0) (hi := 1000000) (rs := []) (L := []) rfl (by decide) (j := j.toNat) (by omega)
  have hK_0_141 : ∀ j : Int, 0 ≤ j → j < 96040 → 0 ≤ w_ei ws (w_ar ws (n_v vs 0) 141) j ∧ w_ei ws (w_ar ws (n_v vs 0) 141) j ≤ 23999 := fun j h0 h1 => th_el hD hth cr_0_141 (kd := 0) (n := 96040) (m := 96040) (lo := 0) (hi := 23999) (rs := []) (L := []) rfl (by decide) (j := j.toNat) (by omega)
  have hK_0_142 : ∀ j : Int, 0 ≤ j → j < 4 → 0 ≤ w_ei ws (w_ar ws (n_v vs 0) 142) j ∧ w_ei ws (w_ar ws (n_v vs 0) 142) j ≤ 24009 := fun j h0 h1 => th_el hD hth cr_0_142 (kd := 0) (n := 4) (m := 4) (lo := 0) (hi := 24009) (rs := []) (L := []) rfl (by decide) (j := j.toNat) (by omega)
  have hK_0_143 : ∀ j : Int, 0 ≤ j → j < 6000 → 0 ≤ w_ei ws (w_ar ws (n_v vs 0) 143) j ∧ w_ei ws (w_ar ws (n_v vs 0) 143) j ≤ 1 := fun j h0 h1 => th_el hD hth cr_0_143 (kd := 2) (n := 6000) (m := 6000) (lo := 0) (hi := 1) (rs := []) (L := []) rfl (by decide) (j := j.toNat) (by omega)
  have kz_0_146 : (-2147483648) ≤ w_fi ws (n_v vs 0) 146 ∧ w_fi ws (n_v vs 0) 146 ≤ 2147483647 := tv_rng (th_fd hD hth r0 (g := GG_150) rfl (k := 146) (t := (0, -2147483648, 2147483647, [])) rfl rfl)
  have kz_0_147 : (-2147483648) ≤ w_fi ws (n_v vs 0) 147 ∧ w_fi ws (n_v vs 0) 147 ≤ 2147483647 := tv_rng (th_fd hD hth r0 (g := GG_150) rfl (k := 147) (t := (0, -2147483648, 2147483647, [])) rfl rfl)
  have hrf0 : 1 ≤ v_iv (n_v vs 20) ∧ v_iv (n_v vs 20) ≤ 6000 := vc_Mo_backFrom_13_r0 (v_iv (n_v vs 1)) (v_iv (n_v vs 2)) (v_iv (n_v vs 3)) (v_iv (n_v vs 5)) (v_iv (n_v vs 7)) (v_iv (n_v vs 8)) (v_iv (n_v vs 9)) (v_iv (n_v vs 10)) (v_iv (n_v vs 11)) (v_iv (n_v vs 12)) (v_iv (n_v vs 13)) (v_iv (n_v vs 14)) (v_iv (n_v vs 16)) (v_iv (n_v vs 17)) (v_iv (n_v vs 20)) (w_fi ws (n_v vs 0) 147) (w_fi ws (n_v vs 0) 146) (w_ei ws (w_ar ws (n_v vs 0) 143)) (w_ei ws (w_ar ws (n_v vs 0) 140)) (w_ei ws (w_ar ws (n_v vs 0) 141)) (w_ei ws (w_ar ws (n_v vs 0) 142)) k1 k2 k3 k5 k7 k8 k9 k10 k11 k12 k13 k14 k16 k17 k20 d0 d1 d2 d3 d4 d5 g0 f1 g2 f3 f4 f5 f6 f7 f8 f9 f10 f11 f12 f13 f14 hK_0_140 hK_0_141 hK_0_142 hK_0_143 kz_0_146 kz_0_147
  have rf20 : tv_ok ta (0, 1, 6000, []) (n_v vs 20) := tv_in t20 (by first | omega | grind) (by first | omega | grind)
  refine ⟨List.forall_mem_cons.mpr ⟨rf20, (fun _ h => (by cases h))⟩, [], trivial, ?_, (fun _ h => (by cases h))⟩
  rw [List.append_nil]
  exact (fun _ h => (by cases h))
set_option maxHeartbeats 4000000 in
theorem vc_Mo_backFrom_14_r0 (x1 : Int) (x2 : Int) (x3 : Int) (x5 : Int) (x7 : Int) (x8 : Int) (x9 : Int) (x10 : Int) (x11 : Int) (x12 : Int) (x13 : Int) (x14 : Int) (x16 : Int) (x17 : Int) (x20 : Int) (x21 : Int) (x22 : Int) (x24 : Int) (x25 : Int) (wide_0 : Int) (tall_0 : Int) (barredPoint_0 : Int → Int) (costOf_0 : Int → Int) (bucket_0 : Int → Int) (bucketMany_0 : Int → Int) (k1 : 0 ≤ x1 ∧ x1 ≤ 23999) (k2 : 0 ≤ x2 ∧ x2 ≤ 1000000) (k3 : 0 ≤ x3 ∧ x3 ≤ 5999) (k5 : 0 ≤ x5 ∧ x5 ≤ 5999) (k7 : 0 ≤ x7 ∧ x7 ≤ 0) (k8 : 1 ≤ x8 ∧ x8 ≤ 6000) (k9 : 0 ≤ x9 ∧ x9 ≤ 5999) (k10 : 1 ≤ x10 ∧ x10 ≤ 1) (k11 : 0 ≤ x11 ∧ x11 ≤ 5998) (k12 : 0 ≤ x12 ∧ x12 ≤ 5999) (k13 : 0 ≤ x13 ∧ x13 ≤ 0) (k14 : 0 ≤ x14 ∧ x14 ≤ 5999) (k16 : 1 ≤ x16 ∧ x16 ≤ 1) (k17 : 0 ≤ x17 ∧ x17 ≤ 5999) (k20 : 1 ≤ x20 ∧ x20 ≤ 6000) (k21 : 1 ≤ x21 ∧ x21 ≤ 1) (k22 : 0 ≤ x22 ∧ x22 ≤ 5999) (k24 : 0 ≤ x24 ∧ x24 ≤ 35994000) (k25 : 0 ≤ x25 ∧ x25 ≤ 35999998) (d0 : x11 + 0 ≤ x25 ∧ x25 ≤ x11 + 35994000) (d1 : x17 + (-4294967296) ≤ x25 ∧ x25 ≤ x17 + 35994000) (d2 : x9 + (-1) ≤ x25 ∧ x25 ≤ x9 + 35993999) (d3 : x8 + (-4294967296) ≤ x25 ∧ x25 ≤ x8 + 35993998) (d4 : x24 + 0 ≤ x25 ∧ x25 ≤ x24 + 5998) (d5 : x22 + (-4294967296) ≤ x14 ∧ x14 ≤ x22 + 0) (d6 : x20 + (-1) ≤ x22 ∧ x22 ≤ x20 + (-1)) (d7 : x17 + (-4294967296) ≤ x11 ∧ x11 ≤ x17 + 0) (d8 : x8 + (-1) ≤ x17 ∧ x17 ≤ x8 + (-1)) (d9 : x12 + 0 ≤ x14 ∧ x14 ≤ x12 + 0) (d10 : x9 + (-1) ≤ x11 ∧ x11 ≤ x9 + (-1)) (d11 : x8 + (-4294967296) ≤ x11 ∧ x11 ≤ x8 + (-2)) (d12 : x8 + (-4294967295) ≤ x9 ∧ x9 ≤ x8 + (-1)) (f1 : x25 = x24 + x11) (f2 : x24 = x14 * x8) (g3 : x8 = wide_0) (f4 : x22 = x20 - x21) (g5 : x20 = tall_0) (f6 : x17 = x8 - x16) (f7 : x14 = x12 - x13) (f8 : ((x7 = 1) ∧ (x13 = 1)) ∨ (((x7 = 3) ∧ (x13 = (-1))) ∨ ((x7 ≠ 1) ∧ ((x7 ≠ 3) ∧ (x13 = 0))))) (f9 : x12 = Int.tdiv (x5) (x8)) (f10 : x11 = x9 - x10) (f11 : ((x7 = 0) ∧ (x10 = 1)) ∨ (((x7 = 2) ∧ (x10 = (-1))) ∨ ((x7 ≠ 0) ∧ ((x7 ≠ 2) ∧ (x10 = 0))))) (f12 : x9 = Int.tmod (x5) (x8)) (f13 : x7 = x1 % 4) (f14 : x5 = x1 / 4) (f15 : RTQ (wide_0) (tall_0) (barredPoint_0) (costOf_0) (bucket_0) (bucketMany_0) (x3) (x2)) (f16 : PIV (costOf_0) (x1) (x2)) (f17 : (0 ≤ x1) ∧ ((x1 + 1) ≤ (4 * (wide_0 * tall_0)))) (f18 : (0 ≤ x2) ∧ (x2 ≤ 999999)) (hK_0_140 : ∀ j : Int, 0 ≤ j → j < 24000 → 0 ≤ costOf_0 j ∧ costOf_0 j ≤ 1000000) (hK_0_141 : ∀ j : Int, 0 ≤ j → j < 96040 → 0 ≤ bucket_0 j ∧ bucket_0 j ≤ 23999) (hK_0_142 : ∀ j : Int, 0 ≤ j → j < 4 → 0 ≤ bucketMany_0 j ∧ bucketMany_0 j ≤ 24009) (hK_0_143 : ∀ j : Int, 0 ≤ j → j < 6000 → 0 ≤ barredPoint_0 j ∧ barredPoint_0 j ≤ 1) (kz_0_146 : (-2147483648) ≤ wide_0 ∧ wide_0 ≤ 2147483647) (kz_0_147 : (-2147483648) ≤ tall_0 ∧ tall_0 ≤ 2147483647) : 0 ≤ x25 ∧ x25 ≤ 5999 := by
  first
    | omega
    | (have g := gok_bd (show GRX wide_0 tall_0 from ‹RTQ _ _ _ _ _ _ _ _›.1); omega)
    | (have g0 : GRX wide_0 tall_0 := ‹RTQ _ _ _ _ _ _ _ _›.1
       have g := gok_bd g0
       have e8 : x8 = wide_0 := by assumption
       have e20 : x20 = tall_0 := by assumption
       have c := cell_ix (W := x8) (T := x20) (x := x11) (y := x14) (p := x25) (by omega) (by omega) (by omega) (by omega) (by omega) (by rw [‹x25 = x24 + x11›, ‹x24 = x14 * x8›])
       have g3 := g0.2.2
       rw [e8, e20] at c
       omega)
    | (have h := ‹BFP _ _ _ _ _›.2.2.1; omega)
    | sorry
def o_Mo_backFrom_14 : or_T := (86, 27, [(0, (2, 0, 0, [150])), (1, (0, 0, 23999, [])), (2, (0, 0, 1000000, [])), (3, (0, 0, 5999, [])), (5, (0, 0, 5999, [])), (7, (0, 0, 0, [])), (8, (0, 1, 6000, [])), (9, (0, 0, 5999, [])), (10, (0, 1, 1, [])), (11, (0, 0, 5998, [])), (12, (0, 0, 5999, [])), (13, (0, 0, 0, [])), (14, (0, 0, 5999, [])), (16, (0, 1, 1, [])), (17, (0, 0, 5999, [])), (20, (0, 1, 6000, [])), (21, (0, 1, 1, [])), (22, (0, 0, 5999, [])), (24, (0, 0, 35994000, [])), (25, (0, 0, 35999998, [])), (26, (2, 0, 0, [254]))], [(9, [26, 0], [143]), (1, [25, 24, 11], []), (3, [24, 14, 8], []), (9, [8, 0], [146]), (2, [22, 20, 21], []), (9, [20, 0], [147]), (2, [17, 8, 16], []), (2, [14, 12, 13], []), (20, [7, 13], [50, 0, 0, 3, 14, 2, 6, 1, 2, 1, 0, 0, 1, 1, 2, 1, 1, 0, 1, 3, 14, 2, 6, 1, 2, 1, 0, 0, 3, 1, 2, 1, 1, 0, -1, 2, 6, 7, 2, 1, 0, 0, 1, 2, 6, 7, 2, 1, 0, 0, 3, 1, 2, 1, 1, 0, 0]), (4, [12, 5, 8], []), (2, [11, 9, 10], []), (20, [7, 10], [50, 0, 0, 3, 14, 2, 6, 1, 2, 1, 0, 0, 0, 1, 2, 1, 1, 0, 1, 3, 14, 2, 6, 1, 2, 1, 0, 0, 2, 1, 2, 1, 1, 0, -1, 2, 6, 7, 2, 1, 0, 0, 0, 2, 6, 7, 2, 1, 0, 0, 2, 1, 2, 1, 1, 0, 0]), (5, [9, 5, 8], []), (12, [7, 1], [4]), (11, [5, 1], [4]), (20, [0, 3, 2], [60, 2, 4, 419, 146, 147, 143, 140, 141, 142]), (20, [0, 1, 2], [60, 0, 1, 421, 140]), (20, [1, 0], [50, 2, 0, 1146, 1147, 2, 6, 0, 2, 0, 0, 1, 0, 0, 6, 4, 2, 1, 0, 0, 1, 6, 2, 0, 4, 6, 3, 2, 1, 146, 2, 1, 147]), (20, [2], [50, 0, 0, 2, 6, 0, 2, 0, 0, 1, 0, 0, 2, 1, 0, 0, 999999])], [(25, (0, 0, 5999, []))], [], [], [], [(25, 11, 0, 35994000), (25, 17, -4294967296, 35994000), (25, 9, -1, 35993999), (25, 8, -4294967296, 35993998), (25, 24, 0, 5998), (14, 22, -4294967296, 0), (22, 20, -1, -1), (11, 17, -4294967296, 0), (17, 8, -1, -1), (14, 12, 0, 0), (11, 9, -1, -1), (11, 8, -4294967296, -2), (9, 8, -4294967295, -1)])
theorem oo_Mo_backFrom_14 {kA : Nat → ClassId} : or_ok PRD kA GG o_Mo_backFrom_14 := by
  intro A ta ws vs hD hth hl hk hds hf
  have hl : vs.length = 27 := hl
  have hk : ∀ q ∈ ([(0, (2, 0, 0, [150])), (1, (0, 0, 23999, [])), (2, (0, 0, 1000000, [])), (3, (0, 0, 5999, [])), (5, (0, 0, 5999, [])), (7, (0, 0, 0, [])), (8, (0, 1, 6000, [])), (9, (0, 0, 5999, [])), (10, (0, 1, 1, [])), (11, (0, 0, 5998, [])), (12, (0, 0, 5999, [])), (13, (0, 0, 0, [])), (14, (0, 0, 5999, [])), (16, (0, 1, 1, [])), (17, (0, 0, 5999, [])), (20, (0, 1, 6000, [])), (21, (0, 1, 1, [])), (22, (0, 0, 5999, [])), (24, (0, 0, 35994000, [])), (25, (0, 0, 35999998, [])), (26, (2, 0, 0, [254]))] : List (Nat × tv_T)), tv_ok ta q.2 (n_v vs q.1) := hk
  obtain ⟨t0, hk⟩ := List.forall_mem_cons.mp hk
  have t0 : tv_ok ta (2, 0, 0, [150]) (n_v vs 0) := t0
  have r0 : ta (v_ad (n_v vs 0)) = some 150 := tv_rg t0
  obtain ⟨t1, hk⟩ := List.forall_mem_cons.mp hk
  have t1 : tv_ok ta (0, 0, 23999, []) (n_v vs 1) := t1
  have k1 : 0 ≤ v_iv (n_v vs 1) ∧ v_iv (n_v vs 1) ≤ 23999 := tv_rng t1
  obtain ⟨t2, hk⟩ := List.forall_mem_cons.mp hk
  have t2 : tv_ok ta (0, 0, 1000000, []) (n_v vs 2) := t2
  have k2 : 0 ≤ v_iv (n_v vs 2) ∧ v_iv (n_v vs 2) ≤ 1000000 := tv_rng t2
  obtain ⟨t3, hk⟩ := List.forall_mem_cons.mp hk
  have t3 : tv_ok ta (0, 0, 5999, []) (n_v vs 3) := t3
  have k3 : 0 ≤ v_iv (n_v vs 3) ∧ v_iv (n_v vs 3) ≤ 5999 := tv_rng t3
  obtain ⟨t5, hk⟩ := List.forall_mem_cons.mp hk
  have t5 : tv_ok ta (0, 0, 5999, []) (n_v vs 5) := t5
  have k5 : 0 ≤ v_iv (n_v vs 5) ∧ v_iv (n_v vs 5) ≤ 5999 := tv_rng t5
  obtain ⟨t7, hk⟩ := List.forall_mem_cons.mp hk
  have t7 : tv_ok ta (0, 0, 0, []) (n_v vs 7) := t7
  have k7 : 0 ≤ v_iv (n_v vs 7) ∧ v_iv (n_v vs 7) ≤ 0 := tv_rng t7
  obtain ⟨t8, hk⟩ := List.forall_mem_cons.mp hk
  have t8 : tv_ok ta (0, 1, 6000, []) (n_v vs 8) := t8
  have k8 : 1 ≤ v_iv (n_v vs 8) ∧ v_iv (n_v vs 8) ≤ 6000 := tv_rng t8
  obtain ⟨t9, hk⟩ := List.forall_mem_cons.mp hk
  have t9 : tv_ok ta (0, 0, 5999, []) (n_v vs 9) := t9
  have k9 : 0 ≤ v_iv (n_v vs 9) ∧ v_iv (n_v vs 9) ≤ 5999 := tv_rng t9
  obtain ⟨t10, hk⟩ := List.forall_mem_cons.mp hk
  have t10 : tv_ok ta (0, 1, 1, []) (n_v vs 10) := t10
  have k10 : 1 ≤ v_iv (n_v vs 10) ∧ v_iv (n_v vs 10) ≤ 1 := tv_rng t10
  obtain ⟨t11, hk⟩ := List.forall_mem_cons.mp hk
  have t11 : tv_ok ta (0, 0, 5998, []) (n_v vs 11) := t11
  have k11 : 0 ≤ v_iv (n_v vs 11) ∧ v_iv (n_v vs 11) ≤ 5998 := tv_rng t11
  obtain ⟨t12, hk⟩ := List.forall_mem_cons.mp hk
  have t12 : tv_ok ta (0, 0, 5999, []) (n_v vs 12) := t12
  have k12 : 0 ≤ v_iv (n_v vs 12) ∧ v_iv (n_v vs 12) ≤ 5999 := tv_rng t12
  obtain ⟨t13, hk⟩ := List.forall_mem_cons.mp hk
  have t13 : tv_ok ta (0, 0, 0, []) (n_v vs 13) := t13
  have k13 : 0 ≤ v_iv (n_v vs 13) ∧ v_iv (n_v vs 13) ≤ 0 := tv_rng t13
  obtain ⟨t14, hk⟩ := List.forall_mem_cons.mp hk
  have t14 : tv_ok ta (0, 0, 5999, []) (n_v vs 14) := t14
  have k14 : 0 ≤ v_iv (n_v vs 14) ∧ v_iv (n_v vs 14) ≤ 5999 := tv_rng t14
  obtain ⟨t16, hk⟩ := List.forall_mem_cons.mp hk
  have t16 : tv_ok ta (0, 1, 1, []) (n_v vs 16) := t16
  have k16 : 1 ≤ v_iv (n_v vs 16) ∧ v_iv (n_v vs 16) ≤ 1 := tv_rng t16
  obtain ⟨t17, hk⟩ := List.forall_mem_cons.mp hk
  have t17 : tv_ok ta (0, 0, 5999, []) (n_v vs 17) := t17
  have k17 : 0 ≤ v_iv (n_v vs 17) ∧ v_iv (n_v vs 17) ≤ 5999 := tv_rng t17
  obtain ⟨t20, hk⟩ := List.forall_mem_cons.mp hk
  have t20 : tv_ok ta (0, 1, 6000, []) (n_v vs 20) := t20
  have k20 : 1 ≤ v_iv (n_v vs 20) ∧ v_iv (n_v vs 20) ≤ 6000 := tv_rng t20
  obtain ⟨t21, hk⟩ := List.forall_mem_cons.mp hk
  have t21 : tv_ok ta (0, 1, 1, []) (n_v vs 21) := t21
  have k21 : 1 ≤ v_iv (n_v vs 21) ∧ v_iv (n_v vs 21) ≤ 1 := tv_rng t21
  obtain ⟨t22, hk⟩ := List.forall_mem_cons.mp hk
  have t22 : tv_ok ta (0, 0, 5999, []) (n_v vs 22) := t22
  have k22 : 0 ≤ v_iv (n_v vs 22) ∧ v_iv (n_v vs 22) ≤ 5999 := tv_rng t22
  obtain ⟨t24, hk⟩ := List.forall_mem_cons.mp hk
  have t24 : tv_ok ta (0, 0, 35994000, []) (n_v vs 24) := t24
  have k24 : 0 ≤ v_iv (n_v vs 24) ∧ v_iv (n_v vs 24) ≤ 35994000 := tv_rng t24
  obtain ⟨t25, hk⟩ := List.forall_mem_cons.mp hk
  have t25 : tv_ok ta (0, 0, 35999998, []) (n_v vs 25) := t25
  have k25 : 0 ≤ v_iv (n_v vs 25) ∧ v_iv (n_v vs 25) ≤ 35999998 := tv_rng t25
  obtain ⟨t26, hk⟩ := List.forall_mem_cons.mp hk
  have t26 : tv_ok ta (2, 0, 0, [254]) (n_v vs 26) := t26
  have r26 : ta (v_ad (n_v vs 26)) = some 254 := tv_rg t26
  have hds : ∀ q ∈ ([(25, 11, 0, 35994000), (25, 17, -4294967296, 35994000), (25, 9, -1, 35993999), (25, 8, -4294967296, 35993998), (25, 24, 0, 5998), (14, 22, -4294967296, 0), (22, 20, -1, -1), (11, 17, -4294967296, 0), (17, 8, -1, -1), (14, 12, 0, 0), (11, 9, -1, -1), (11, 8, -4294967296, -2), (9, 8, -4294967295, -1)] : List of_T), n_iv vs q.2.1 + q.2.2.1 ≤ n_iv vs q.1 ∧ n_iv vs q.1 ≤ n_iv vs q.2.1 + q.2.2.2 := hds
  obtain ⟨d0, hds⟩ := List.forall_mem_cons.mp hds
  have d0 : v_iv (n_v vs 11) + 0 ≤ v_iv (n_v vs 25) ∧ v_iv (n_v vs 25) ≤ v_iv (n_v vs 11) + 35994000 := d0
  obtain ⟨d1, hds⟩ := List.forall_mem_cons.mp hds
  have d1 : v_iv (n_v vs 17) + (-4294967296) ≤ v_iv (n_v vs 25) ∧ v_iv (n_v vs 25) ≤ v_iv (n_v vs 17) + 35994000 := d1
  obtain ⟨d2, hds⟩ := List.forall_mem_cons.mp hds
  have d2 : v_iv (n_v vs 9) + (-1) ≤ v_iv (n_v vs 25) ∧ v_iv (n_v vs 25) ≤ v_iv (n_v vs 9) + 35993999 := d2
  obtain ⟨d3, hds⟩ := List.forall_mem_cons.mp hds
  have d3 : v_iv (n_v vs 8) + (-4294967296) ≤ v_iv (n_v vs 25) ∧ v_iv (n_v vs 25) ≤ v_iv (n_v vs 8) + 35993998 := d3
  obtain ⟨d4, hds⟩ := List.forall_mem_cons.mp hds
  have d4 : v_iv (n_v vs 24) + 0 ≤ v_iv (n_v vs 25) ∧ v_iv (n_v vs 25) ≤ v_iv (n_v vs 24) + 5998 := d4
  obtain ⟨d5, hds⟩ := List.forall_mem_cons.mp hds
  have d5 : v_iv (n_v vs 22) + (-4294967296) ≤ v_iv (n_v vs 14) ∧ v_iv (n_v vs 14) ≤ v_iv (n_v vs 22) + 0 := d5
  obtain ⟨d6, hds⟩ := List.forall_mem_cons.mp hds
  have d6 : v_iv (n_v vs 20) + (-1) ≤ v_iv (n_v vs 22) ∧ v_iv (n_v vs 22) ≤ v_iv (n_v vs 20) + (-1) := d6
  obtain ⟨d7, hds⟩ := List.forall_mem_cons.mp hds
  have d7 : v_iv (n_v vs 17) + (-4294967296) ≤ v_iv (n_v vs 11) ∧ v_iv (n_v vs 11) ≤ v_iv (n_v vs 17) + 0 := d7
  obtain ⟨d8, hds⟩ := List.forall_mem_cons.mp hds
  have d8 : v_iv (n_v vs 8) + (-1) ≤ v_iv (n_v vs 17) ∧ v_iv (n_v vs 17) ≤ v_iv (n_v vs 8) + (-1) := d8
  obtain ⟨d9, hds⟩ := List.forall_mem_cons.mp hds
  have d9 : v_iv (n_v vs 12) + 0 ≤ v_iv (n_v vs 14) ∧ v_iv (n_v vs 14) ≤ v_iv (n_v vs 12) + 0 := d9
  obtain ⟨d10, hds⟩ := List.forall_mem_cons.mp hds
  have d10 : v_iv (n_v vs 9) + (-1) ≤ v_iv (n_v vs 11) ∧ v_iv (n_v vs 11) ≤ v_iv (n_v vs 9) + (-1) := d10
  obtain ⟨d11, hds⟩ := List.forall_mem_cons.mp hds
  have d11 : v_iv (n_v vs 8) + (-4294967296) ≤ v_iv (n_v vs 11) ∧ v_iv (n_v vs 11) ≤ v_iv (n_v vs 8) + (-2) := d11
  obtain ⟨d12, hds⟩ := List.forall_mem_cons.mp hds
  have d12 : v_iv (n_v vs 8) + (-4294967295) ≤ v_iv (n_v vs 9) ∧ v_iv (n_v vs 9) ≤ v_iv (n_v vs 8) + (-1) := d12
  have hf : fc_ok PRD [(9, [26, 0], [143]), (1, [25, 24, 11], []), (3, [24, 14, 8], []), (9, [8, 0], [146]), (2, [22, 20, 21], []), (9, [20, 0], [147]), (2, [17, 8, 16], []), (2, [14, 12, 13], []), (20, [7, 13], [50, 0, 0, 3, 14, 2, 6, 1, 2, 1, 0, 0, 1, 1, 2, 1, 1, 0, 1, 3, 14, 2, 6, 1, 2, 1, 0, 0, 3, 1, 2, 1, 1, 0, -1, 2, 6, 7, 2, 1, 0, 0, 1, 2, 6, 7, 2, 1, 0, 0, 3, 1, 2, 1, 1, 0, 0]), (4, [12, 5, 8], []), (2, [11, 9, 10], []), (20, [7, 10], [50, 0, 0, 3, 14, 2, 6, 1, 2, 1, 0, 0, 0, 1, 2, 1, 1, 0, 1, 3, 14, 2, 6, 1, 2, 1, 0, 0, 2, 1, 2, 1, 1, 0, -1, 2, 6, 7, 2, 1, 0, 0, 0, 2, 6, 7, 2, 1, 0, 0, 2, 1, 2, 1, 1, 0, 0]), (5, [9, 5, 8], []), (12, [7, 1], [4]), (11, [5, 1], [4]), (20, [0, 3, 2], [60, 2, 4, 419, 146, 147, 143, 140, 141, 142]), (20, [0, 1, 2], [60, 0, 1, 421, 140]), (20, [1, 0], [50, 2, 0, 1146, 1147, 2, 6, 0, 2, 0, 0, 1, 0, 0, 6, 4, 2, 1, 0, 0, 1, 6, 2, 0, 4, 6, 3, 2, 1, 146, 2, 1, 147]), (20, [2], [50, 0, 0, 2, 6, 0, 2, 0, 0, 1, 0, 0, 2, 1, 0, 0, 999999])] ta ws vs := hf
  obtain ⟨f0, hf⟩ := fc_un (show (9 : Nat) < 100 from by decide) hf
  have f0 : n_v vs 26 = w_fd ws (v_ad (n_v vs 0)) 143 := f0
  obtain ⟨f1, hf⟩ := fc_un (show (1 : Nat) < 100 from by decide) hf
  have f1 : v_iv (n_v vs 25) = v_iv (n_v vs 24) + v_iv (n_v vs 11) := f1
  obtain ⟨f2, hf⟩ := fc_un (show (3 : Nat) < 100 from by decide) hf
  have f2 : v_iv (n_v vs 24) = v_iv (n_v vs 14) * v_iv (n_v vs 8) := f2
  obtain ⟨f3, hf⟩ := fc_un (show (9 : Nat) < 100 from by decide) hf
  have f3 : n_v vs 8 = w_fd ws (v_ad (n_v vs 0)) 146 := f3
  obtain ⟨f4, hf⟩ := fc_un (show (2 : Nat) < 100 from by decide) hf
  have f4 : v_iv (n_v vs 22) = v_iv (n_v vs 20) - v_iv (n_v vs 21) := f4
  obtain ⟨f5, hf⟩ := fc_un (show (9 : Nat) < 100 from by decide) hf
  have f5 : n_v vs 20 = w_fd ws (v_ad (n_v vs 0)) 147 := f5
  obtain ⟨f6, hf⟩ := fc_un (show (2 : Nat) < 100 from by decide) hf
  have f6 : v_iv (n_v vs 17) = v_iv (n_v vs 8) - v_iv (n_v vs 16) := f6
  obtain ⟨f7, hf⟩ := fc_un (show (2 : Nat) < 100 from by decide) hf
  have f7 : v_iv (n_v vs 14) = v_iv (n_v vs 12) - v_iv (n_v vs 13) := f7
  obtain ⟨f8, hf⟩ := fc_un (show (20 : Nat) < 100 from by decide) hf
  have f8 : ((v_iv (n_v vs 7) = 1) ∧ (v_iv (n_v vs 13) = 1)) ∨ (((v_iv (n_v vs 7) = 3) ∧ (v_iv (n_v vs 13) = (-1))) ∨ ((v_iv (n_v vs 7) ≠ 1) ∧ ((v_iv (n_v vs 7) ≠ 3) ∧ (v_iv (n_v vs 13) = 0)))) := f8
  obtain ⟨f9, hf⟩ := fc_un (show (4 : Nat) < 100 from by decide) hf
  have f9 : v_iv (n_v vs 12) = Int.tdiv (v_iv (n_v vs 5)) (v_iv (n_v vs 8)) := f9
  have fq9 : 10 ≤ v_iv (n_v vs 12) → 10 * v_iv (n_v vs 8) ≤ v_iv (n_v vs 5) := dv_ten f9 (by omega) (by omega)
  obtain ⟨f10, hf⟩ := fc_un (show (2 : Nat) < 100 from by decide) hf
  have f10 : v_iv (n_v vs 11) = v_iv (n_v vs 9) - v_iv (n_v vs 10) := f10
  obtain ⟨f11, hf⟩ := fc_un (show (20 : Nat) < 100 from by decide) hf
  have f11 : ((v_iv (n_v vs 7) = 0) ∧ (v_iv (n_v vs 10) = 1)) ∨ (((v_iv (n_v vs 7) = 2) ∧ (v_iv (n_v vs 10) = (-1))) ∨ ((v_iv (n_v vs 7) ≠ 0) ∧ ((v_iv (n_v vs 7) ≠ 2) ∧ (v_iv (n_v vs 10) = 0)))) := f11
  obtain ⟨f12, hf⟩ := fc_un (show (5 : Nat) < 100 from by decide) hf
  have f12 : v_iv (n_v vs 9) = Int.tmod (v_iv (n_v vs 5)) (v_iv (n_v vs 8)) := f12
  obtain ⟨f13, hf⟩ := fc_un (show (12 : Nat) < 100 from by decide) hf
  have f13 : v_iv (n_v vs 7) = v_iv (n_v vs 1) % 4 := f13
  obtain ⟨f14, hf⟩ := fc_un (show (11 : Nat) < 100 from by decide) hf
  have f14 : v_iv (n_v vs 5) = v_iv (n_v vs 1) / 4 := f14
  obtain ⟨f15, hf⟩ := fc_un (show (20 : Nat) < 100 from by decide) hf
  have f15 : RTQ (w_fi ws (n_v vs 0) 146) (w_fi ws (n_v vs 0) 147) (w_ei ws (w_ar ws (n_v vs 0) 143)) (w_ei ws (w_ar ws (n_v vs 0) 140)) (w_ei ws (w_ar ws (n_v vs 0) 141)) (w_ei ws (w_ar ws (n_v vs 0) 142)) (v_iv (n_v vs 3)) (v_iv (n_v vs 2)) := f15
  obtain ⟨f16, hf⟩ := fc_un (show (20 : Nat) < 100 from by decide) hf
  have f16 : PIV (w_ei ws (w_ar ws (n_v vs 0) 140)) (v_iv (n_v vs 1)) (v_iv (n_v vs 2)) := f16
  obtain ⟨f17, hf⟩ := fc_un (show (20 : Nat) < 100 from by decide) hf
  have f17 : (0 ≤ v_iv (n_v vs 1)) ∧ ((v_iv (n_v vs 1) + 1) ≤ (4 * (w_fi ws (n_v vs 0) 146 * w_fi ws (n_v vs 0) 147))) := f17
  obtain ⟨f18, hf⟩ := fc_un (show (20 : Nat) < 100 from by decide) hf
  have f18 : (0 ≤ v_iv (n_v vs 2)) ∧ (v_iv (n_v vs 2) ≤ 999999) := f18
  have cr_0_140 : ta (w_ar ws (n_v vs 0) 140) = some 251 := tv_rg (th_fd hD hth r0 (g := GG_150) rfl (k := 140) (t := (2, 0, 0, [251])) rfl rfl)
  have cr_0_141 : ta (w_ar ws (n_v vs 0) 141) = some 252 := tv_rg (th_fd hD hth r0 (g := GG_150) rfl (k := 141) (t := (2, 0, 0, [252])) rfl rfl)
  have cr_0_142 : ta (w_ar ws (n_v vs 0) 142) = some 253 := tv_rg (th_fd hD hth r0 (g := GG_150) rfl (k := 142) (t := (2, 0, 0, [253])) rfl rfl)
  have cr_0_143 : ta (w_ar ws (n_v vs 0) 143) = some 254 := tv_rg (th_fd hD hth r0 (g := GG_150) rfl (k := 143) (t := (2, 0, 0, [254])) rfl rfl)
  have ad_26 : v_ad (n_v vs 26) = w_ar ws (n_v vs 0) 143 := congrArg v_ad f0
  have g3 : v_iv (n_v vs 8) = w_fi ws (n_v vs 0) 146 := congrArg v_iv f3
  have g5 : v_iv (n_v vs 20) = w_fi ws (n_v vs 0) 147 := congrArg v_iv f5
  have hK_0_140 : ∀ j : Int, 0 ≤ j → j < 24000 → 0 ≤ w_ei ws (w_ar ws (n_v vs 0) 140) j ∧ w_ei ws (w_ar ws (n_v vs 0) 140) j ≤ 1000000 := fun j h0 h1 => th_el hD hth cr_0_140 (kd := 0) (n := 24000) (m := 24000) (lo := 0) (hi := 1000000) (rs := []) (L := []) rfl (by decide) (j := j.toNat) (by omega)
  have hK_0_141 : ∀ j : Int, 0 ≤ j → j < 96040 → 0 ≤ w_ei ws (w_ar ws (n_v vs 0) 141) j ∧ w_ei ws (w_ar ws (n_v vs 0) 141) j ≤ 23999 := fun j h0 h1 => th_el hD hth cr_0_141 (kd := 0) (n := 96040) (m := 96040) (lo := 0) (hi := 23999) (rs := []) (L := []) rfl (by decide) (j := j.toNat) (by omega)
  have hK_0_142 : ∀ j : Int, 0 ≤ j → j < 4 → 0 ≤ w_ei ws (w_ar ws (n_v vs 0) 142) j ∧ w_ei ws (w_ar ws (n_v vs 0) 142) j ≤ 24009 := fun j h0 h1 => th_el hD hth cr_0_142 (kd := 0) (n := 4) (m := 4) (lo := 0) (hi := 24009) (rs := []) (L := []) rfl (by decide) (j := j.toNat) (by omega)
  have hK_0_143 : ∀ j : Int, 0 ≤ j → j < 6000 → 0 ≤ w_ei ws (w_ar ws (n_v vs 0) 143) j ∧ w_ei ws (w_ar ws (n_v vs 0) 143) j ≤ 1 := fun j h0 h1 => th_el hD hth cr_0_143 (kd := 2) (n := 6000) (m := 6000) (lo := 0) (hi := 1) (rs := []) (L := []) rfl (by decide) (j := j.toNat) (by omega)
  have kz_0_146 : (-2147483648) ≤ w_fi ws (n_v vs 0) 146 ∧ w_fi ws (n_v vs 0) 146 ≤ 2147483647 := tv_rng (th_fd hD hth r0 (g := GG_150) rfl (k := 146) (t := (0, -2147483648, 2147483647, [])) rfl rfl)
  have kz_0_147 : (-2147483648) ≤ w_fi ws (n_v vs 0) 147 ∧ w_fi ws (n_v vs 0) 147 ≤ 2147483647 := tv_rng (th_fd hD hth r0 (g := GG_150) rfl (k := 147) (t := (0, -2147483648, 2147483647, [])) rfl rfl)
  have hrf0 : 0 ≤ v_iv (n_v vs 25) ∧ v_iv (n_v vs 25) ≤ 5999 := vc_Mo_backFrom_14_r0 (v_iv (n_v vs 1)) (v_iv (n_v vs 2)) (v_iv (n_v vs 3)) (v_iv (n_v vs 5)) (v_iv (n_v vs 7)) (v_iv (n_v vs 8)) (v_iv (n_v vs 9)) (v_iv (n_v vs 10)) (v_iv (n_v vs 11)) (v_iv (n_v vs 12)) (v_iv (n_v vs 13)) (v_iv (n_v vs 14)) (v_iv (n_v vs 16)) (v_iv (n_v vs 17)) (v_iv (n_v vs 20)) (v_iv (n_v vs 21)) (v_iv (n_v vs 22)) (v_iv (n_v vs 24)) (v_iv (n_v vs 25)) (w_fi ws (n_v vs 0) 146) (w_fi ws (n_v vs 0) 147) (w_ei ws (w_ar ws (n_v vs 0) 143)) (w_ei ws (w_ar ws (n_v vs 0) 140)) (w_ei ws (w_ar ws (n_v vs 0) 141)) (w_ei ws (w_ar ws (n_v vs 0) 142)) k1 k2 k3 k5 k7 k8 k9 k10 k11 k12 k13 k14 k16 k17 k20 k21 k22 k24 k25 d0 d1 d2 d3 d4 d5 d6 d7 d8 d9 d10 d11 d12 f1 f2 g3 f4 g5 f6 f7 f8 f9 f10 f11 f12 f13 f14 f15 f16 f17 f18 hK_0_140 hK_0_141 hK_0_142 hK_0_143 kz_0_146 kz_0_147
  have rf25 : tv_ok ta (0, 0, 5999, []) (n_v vs 25) := tv_in t25 (by first | omega | grind) (by first | omega | grind)
  refine ⟨List.forall_mem_cons.mpr ⟨rf25, (fun _ h => (by cases h))⟩, [], trivial, ?_, (fun _ h => (by cases h))⟩
  rw [List.append_nil]
  exact (fun _ h => (by cases h))
set_option maxHeartbeats 4000000 in
theorem vc_Mo_backFrom_15_0 (x1 : Int) (x2 : Int) (x3 : Int) (x5 : Int) (x7 : Int) (x8 : Int) (x9 : Int) (x10 : Int) (x11 : Int) (x12 : Int) (x13 : Int) (x14 : Int) (x16 : Int) (x17 : Int) (x20 : Int) (x21 : Int) (x22 : Int) (x24 : Int) (x25 : Int) (x27 : Int) (barredPoint_0 : Int → Int) (wide_0 : Int) (tall_0 : Int) (costOf_0 : Int → Int) (bucket_0 : Int → Int) (bucketMany_0 : Int → Int) (k1 : 0 ≤ x1 ∧ x1 ≤ 23999) (k2 : 0 ≤ x2 ∧ x2 ≤ 1000000) (k3 : 0 ≤ x3 ∧ x3 ≤ 5999) (k5 : 0 ≤ x5 ∧ x5 ≤ 5999) (k7 : 0 ≤ x7 ∧ x7 ≤ 0) (k8 : 1 ≤ x8 ∧ x8 ≤ 6000) (k9 : 0 ≤ x9 ∧ x9 ≤ 5999) (k10 : 1 ≤ x10 ∧ x10 ≤ 1) (k11 : 0 ≤ x11 ∧ x11 ≤ 5998) (k12 : 0 ≤ x12 ∧ x12 ≤ 5999) (k13 : 0 ≤ x13 ∧ x13 ≤ 0) (k14 : 0 ≤ x14 ∧ x14 ≤ 5999) (k16 : 1 ≤ x16 ∧ x16 ≤ 1) (k17 : 0 ≤ x17 ∧ x17 ≤ 5999) (k20 : 1 ≤ x20 ∧ x20 ≤ 6000) (k21 : 1 ≤ x21 ∧ x21 ≤ 1) (k22 : 0 ≤ x22 ∧ x22 ≤ 5999) (k24 : 0 ≤ x24 ∧ x24 ≤ 35994000) (k25 : 0 ≤ x25 ∧ x25 ≤ 5999) (k27 : 0 ≤ x27 ∧ x27 ≤ 0) (d0 : x11 + 0 ≤ x25 ∧ x25 ≤ x11 + 35994000) (d1 : x9 + (-1) ≤ x25 ∧ x25 ≤ x9 + 35993999) (d2 : x24 + 0 ≤ x25 ∧ x25 ≤ x24 + 5998) (d3 : x22 + (-4294967296) ≤ x14 ∧ x14 ≤ x22 + 0) (d4 : x20 + (-1) ≤ x22 ∧ x22 ≤ x20 + (-1)) (d5 : x17 + (-4294967296) ≤ x11 ∧ x11 ≤ x17 + 0) (d6 : x8 + (-1) ≤ x17 ∧ x17 ≤ x8 + (-1)) (d7 : x12 + 0 ≤ x14 ∧ x14 ≤ x12 + 0) (d8 : x9 + (-1) ≤ x11 ∧ x11 ≤ x9 + (-1)) (d9 : x8 + (-4294967296) ≤ x11 ∧ x11 ≤ x8 + (-2)) (d10 : x8 + (-4294967295) ≤ x9 ∧ x9 ≤ x8 + (-1)) (f0 : x27 = 0) (h1 : x27 = barredPoint_0 (x25)) (f3 : x25 = x24 + x11) (f4 : x24 = x14 * x8) (g5 : x8 = wide_0) (f6 : x22 = x20 - x21) (g7 : x20 = tall_0) (f8 : x17 = x8 - x16) (f9 : x14 = x12 - x13) (f10 : ((x7 = 1) ∧ (x13 = 1)) ∨ (((x7 = 3) ∧ (x13 = (-1))) ∨ ((x7 ≠ 1) ∧ ((x7 ≠ 3) ∧ (x13 = 0))))) (f11 : x12 = Int.tdiv (x5) (x8)) (f12 : x11 = x9 - x10) (f13 : ((x7 = 0) ∧ (x10 = 1)) ∨ (((x7 = 2) ∧ (x10 = (-1))) ∨ ((x7 ≠ 0) ∧ ((x7 ≠ 2) ∧ (x10 = 0))))) (f14 : x9 = Int.tmod (x5) (x8)) (f15 : x7 = x1 % 4) (f16 : x5 = x1 / 4) (f17 : RTQ (wide_0) (tall_0) (barredPoint_0) (costOf_0) (bucket_0) (bucketMany_0) (x3) (x2)) (f18 : PIV (costOf_0) (x1) (x2)) (f19 : (0 ≤ x1) ∧ ((x1 + 1) ≤ (4 * (wide_0 * tall_0)))) (f20 : (0 ≤ x2) ∧ (x2 ≤ 999999)) (hK_0_140 : ∀ j : Int, 0 ≤ j → j < 24000 → 0 ≤ costOf_0 j ∧ costOf_0 j ≤ 1000000) (hK_0_141 : ∀ j : Int, 0 ≤ j → j < 96040 → 0 ≤ bucket_0 j ∧ bucket_0 j ≤ 23999) (hK_0_142 : ∀ j : Int, 0 ≤ j → j < 4 → 0 ≤ bucketMany_0 j ∧ bucketMany_0 j ≤ 24009) (hK_0_143 : ∀ j : Int, 0 ≤ j → j < 6000 → 0 ≤ barredPoint_0 j ∧ barredPoint_0 j ≤ 1) (kz_0_146 : (-2147483648) ≤ wide_0 ∧ wide_0 ≤ 2147483647) (kz_0_147 : (-2147483648) ≤ tall_0 ∧ tall_0 ≤ 2147483647) : BFP (wide_0) (tall_0) (barredPoint_0) (x1) (x25) := by
  first
    | assumption
    | (have g0 : GRX wide_0 tall_0 := ‹RTQ _ _ _ _ _ _ _ _›.1
       have g := gok_bd g0
       have e8 : x8 = wide_0 := by assumption
       have e20 : x20 = tall_0 := by assumption
       have tm : x9 = x5 % wide_0 := by rw [← e8, ‹x9 = Int.tmod x5 x8›]; exact Int.tmod_eq_emod_of_nonneg (by omega)
       have td : x12 = x5 / wide_0 := by rw [← e8, ‹x12 = Int.tdiv x5 x8›]; exact Int.tdiv_eq_ediv_of_nonneg (by omega)
       have hx : x11 = x5 % wide_0 - dxf x7 := by rw [← tm]; unfold dxf; split; omega; split <;> omega
       have hy : x14 = x5 / wide_0 - dyf x7 := by rw [← td]; unfold dyf; split; omega; split <;> omega
       have n := nb_back (T := tall_0) (q := x5) (d := x7) (x := x11) (y := x14) (p := x25) (by omega) (by omega) (by omega) hx hy (by omega) (by omega) (by omega) (by omega) (by rw [← e8, ‹x25 = x24 + x11›, ‹x24 = x14 * x8›])
       have b := rtq_bar ‹RTQ _ _ _ _ _ _ _ _› ‹PIV _ _ _› (by omega) (by omega)
       exact ⟨⟨by omega, by omega⟩, by rw [show x1 % 4 = x7 by omega, show x1 / 4 = x5 by omega]; exact n.1, n.2, by rw [← ‹x27 = barredPoint_0 x25›]; omega, b⟩)
set_option maxHeartbeats 4000000 in
theorem vc_Mo_backFrom_15_1 (x1 : Int) (x2 : Int) (x3 : Int) (x5 : Int) (x7 : Int) (x8 : Int) (x9 : Int) (x10 : Int) (x11 : Int) (x12 : Int) (x13 : Int) (x14 : Int) (x16 : Int) (x17 : Int) (x20 : Int) (x21 : Int) (x22 : Int) (x24 : Int) (x25 : Int) (x27 : Int) (barredPoint_0 : Int → Int) (wide_0 : Int) (tall_0 : Int) (costOf_0 : Int → Int) (bucket_0 : Int → Int) (bucketMany_0 : Int → Int) (k1 : 0 ≤ x1 ∧ x1 ≤ 23999) (k2 : 0 ≤ x2 ∧ x2 ≤ 1000000) (k3 : 0 ≤ x3 ∧ x3 ≤ 5999) (k5 : 0 ≤ x5 ∧ x5 ≤ 5999) (k7 : 0 ≤ x7 ∧ x7 ≤ 0) (k8 : 1 ≤ x8 ∧ x8 ≤ 6000) (k9 : 0 ≤ x9 ∧ x9 ≤ 5999) (k10 : 1 ≤ x10 ∧ x10 ≤ 1) (k11 : 0 ≤ x11 ∧ x11 ≤ 5998) (k12 : 0 ≤ x12 ∧ x12 ≤ 5999) (k13 : 0 ≤ x13 ∧ x13 ≤ 0) (k14 : 0 ≤ x14 ∧ x14 ≤ 5999) (k16 : 1 ≤ x16 ∧ x16 ≤ 1) (k17 : 0 ≤ x17 ∧ x17 ≤ 5999) (k20 : 1 ≤ x20 ∧ x20 ≤ 6000) (k21 : 1 ≤ x21 ∧ x21 ≤ 1) (k22 : 0 ≤ x22 ∧ x22 ≤ 5999) (k24 : 0 ≤ x24 ∧ x24 ≤ 35994000) (k25 : 0 ≤ x25 ∧ x25 ≤ 5999) (k27 : 0 ≤ x27 ∧ x27 ≤ 0) (d0 : x11 + 0 ≤ x25 ∧ x25 ≤ x11 + 35994000) (d1 : x9 + (-1) ≤ x25 ∧ x25 ≤ x9 + 35993999) (d2 : x24 + 0 ≤ x25 ∧ x25 ≤ x24 + 5998) (d3 : x22 + (-4294967296) ≤ x14 ∧ x14 ≤ x22 + 0) (d4 : x20 + (-1) ≤ x22 ∧ x22 ≤ x20 + (-1)) (d5 : x17 + (-4294967296) ≤ x11 ∧ x11 ≤ x17 + 0) (d6 : x8 + (-1) ≤ x17 ∧ x17 ≤ x8 + (-1)) (d7 : x12 + 0 ≤ x14 ∧ x14 ≤ x12 + 0) (d8 : x9 + (-1) ≤ x11 ∧ x11 ≤ x9 + (-1)) (d9 : x8 + (-4294967296) ≤ x11 ∧ x11 ≤ x8 + (-2)) (d10 : x8 + (-4294967295) ≤ x9 ∧ x9 ≤ x8 + (-1)) (f0 : x27 = 0) (h1 : x27 = barredPoint_0 (x25)) (f3 : x25 = x24 + x11) (f4 : x24 = x14 * x8) (g5 : x8 = wide_0) (f6 : x22 = x20 - x21) (g7 : x20 = tall_0) (f8 : x17 = x8 - x16) (f9 : x14 = x12 - x13) (f10 : ((x7 = 1) ∧ (x13 = 1)) ∨ (((x7 = 3) ∧ (x13 = (-1))) ∨ ((x7 ≠ 1) ∧ ((x7 ≠ 3) ∧ (x13 = 0))))) (f11 : x12 = Int.tdiv (x5) (x8)) (f12 : x11 = x9 - x10) (f13 : ((x7 = 0) ∧ (x10 = 1)) ∨ (((x7 = 2) ∧ (x10 = (-1))) ∨ ((x7 ≠ 0) ∧ ((x7 ≠ 2) ∧ (x10 = 0))))) (f14 : x9 = Int.tmod (x5) (x8)) (f15 : x7 = x1 % 4) (f16 : x5 = x1 / 4) (f17 : RTQ (wide_0) (tall_0) (barredPoint_0) (costOf_0) (bucket_0) (bucketMany_0) (x3) (x2)) (f18 : PIV (costOf_0) (x1) (x2)) (f19 : (0 ≤ x1) ∧ ((x1 + 1) ≤ (4 * (wide_0 * tall_0)))) (f20 : (0 ≤ x2) ∧ (x2 ≤ 999999)) (hK_0_140 : ∀ j : Int, 0 ≤ j → j < 24000 → 0 ≤ costOf_0 j ∧ costOf_0 j ≤ 1000000) (hK_0_141 : ∀ j : Int, 0 ≤ j → j < 96040 → 0 ≤ bucket_0 j ∧ bucket_0 j ≤ 23999) (hK_0_142 : ∀ j : Int, 0 ≤ j → j < 4 → 0 ≤ bucketMany_0 j ∧ bucketMany_0 j ≤ 24009) (hK_0_143 : ∀ j : Int, 0 ≤ j → j < 6000 → 0 ≤ barredPoint_0 j ∧ barredPoint_0 j ≤ 1) (kz_0_146 : (-2147483648) ≤ wide_0 ∧ wide_0 ≤ 2147483647) (kz_0_147 : (-2147483648) ≤ tall_0 ∧ tall_0 ≤ 2147483647) : x7 = (x1 % 4) := by
  first
    | omega
    | (have g := gok_bd (show GRX wide_0 tall_0 from ‹RTQ _ _ _ _ _ _ _ _›.1); omega)
    | (have g0 : GRX wide_0 tall_0 := ‹RTQ _ _ _ _ _ _ _ _›.1
       have g := gok_bd g0
       have e8 : x8 = wide_0 := by assumption
       have e20 : x20 = tall_0 := by assumption
       have c := cell_ix (W := x8) (T := x20) (x := x11) (y := x14) (p := x25) (by omega) (by omega) (by omega) (by omega) (by omega) (by rw [‹x25 = x24 + x11›, ‹x24 = x14 * x8›])
       have g3 := g0.2.2
       rw [e8, e20] at c
       omega)
    | (have h := ‹BFP _ _ _ _ _›.2.2.1; omega)
    | sorry
set_option maxHeartbeats 4000000 in
theorem vc_Mo_backFrom_15_2 (x1 : Int) (x2 : Int) (x3 : Int) (x5 : Int) (x7 : Int) (x8 : Int) (x9 : Int) (x10 : Int) (x11 : Int) (x12 : Int) (x13 : Int) (x14 : Int) (x16 : Int) (x17 : Int) (x20 : Int) (x21 : Int) (x22 : Int) (x24 : Int) (x25 : Int) (x27 : Int) (barredPoint_0 : Int → Int) (wide_0 : Int) (tall_0 : Int) (costOf_0 : Int → Int) (bucket_0 : Int → Int) (bucketMany_0 : Int → Int) (k1 : 0 ≤ x1 ∧ x1 ≤ 23999) (k2 : 0 ≤ x2 ∧ x2 ≤ 1000000) (k3 : 0 ≤ x3 ∧ x3 ≤ 5999) (k5 : 0 ≤ x5 ∧ x5 ≤ 5999) (k7 : 0 ≤ x7 ∧ x7 ≤ 0) (k8 : 1 ≤ x8 ∧ x8 ≤ 6000) (k9 : 0 ≤ x9 ∧ x9 ≤ 5999) (k10 : 1 ≤ x10 ∧ x10 ≤ 1) (k11 : 0 ≤ x11 ∧ x11 ≤ 5998) (k12 : 0 ≤ x12 ∧ x12 ≤ 5999) (k13 : 0 ≤ x13 ∧ x13 ≤ 0) (k14 : 0 ≤ x14 ∧ x14 ≤ 5999) (k16 : 1 ≤ x16 ∧ x16 ≤ 1) (k17 : 0 ≤ x17 ∧ x17 ≤ 5999) (k20 : 1 ≤ x20 ∧ x20 ≤ 6000) (k21 : 1 ≤ x21 ∧ x21 ≤ 1) (k22 : 0 ≤ x22 ∧ x22 ≤ 5999) (k24 : 0 ≤ x24 ∧ x24 ≤ 35994000) (k25 : 0 ≤ x25 ∧ x25 ≤ 5999) (k27 : 0 ≤ x27 ∧ x27 ≤ 0) (d0 : x11 + 0 ≤ x25 ∧ x25 ≤ x11 + 35994000) (d1 : x9 + (-1) ≤ x25 ∧ x25 ≤ x9 + 35993999) (d2 : x24 + 0 ≤ x25 ∧ x25 ≤ x24 + 5998) (d3 : x22 + (-4294967296) ≤ x14 ∧ x14 ≤ x22 + 0) (d4 : x20 + (-1) ≤ x22 ∧ x22 ≤ x20 + (-1)) (d5 : x17 + (-4294967296) ≤ x11 ∧ x11 ≤ x17 + 0) (d6 : x8 + (-1) ≤ x17 ∧ x17 ≤ x8 + (-1)) (d7 : x12 + 0 ≤ x14 ∧ x14 ≤ x12 + 0) (d8 : x9 + (-1) ≤ x11 ∧ x11 ≤ x9 + (-1)) (d9 : x8 + (-4294967296) ≤ x11 ∧ x11 ≤ x8 + (-2)) (d10 : x8 + (-4294967295) ≤ x9 ∧ x9 ≤ x8 + (-1)) (f0 : x27 = 0) (h1 : x27 = barredPoint_0 (x25)) (f3 : x25 = x24 + x11) (f4 : x24 = x14 * x8) (g5 : x8 = wide_0) (f6 : x22 = x20 - x21) (g7 : x20 = tall_0) (f8 : x17 = x8 - x16) (f9 : x14 = x12 - x13) (f10 : ((x7 = 1) ∧ (x13 = 1)) ∨ (((x7 = 3) ∧ (x13 = (-1))) ∨ ((x7 ≠ 1) ∧ ((x7 ≠ 3) ∧ (x13 = 0))))) (f11 : x12 = Int.tdiv (x5) (x8)) (f12 : x11 = x9 - x10) (f13 : ((x7 = 0) ∧ (x10 = 1)) ∨ (((x7 = 2) ∧ (x10 = (-1))) ∨ ((x7 ≠ 0) ∧ ((x7 ≠ 2) ∧ (x10 = 0))))) (f14 : x9 = Int.tmod (x5) (x8)) (f15 : x7 = x1 % 4) (f16 : x5 = x1 / 4) (f17 : RTQ (wide_0) (tall_0) (barredPoint_0) (costOf_0) (bucket_0) (bucketMany_0) (x3) (x2)) (f18 : PIV (costOf_0) (x1) (x2)) (f19 : (0 ≤ x1) ∧ ((x1 + 1) ≤ (4 * (wide_0 * tall_0)))) (f20 : (0 ≤ x2) ∧ (x2 ≤ 999999)) (hK_0_140 : ∀ j : Int, 0 ≤ j → j < 24000 → 0 ≤ costOf_0 j ∧ costOf_0 j ≤ 1000000) (hK_0_141 : ∀ j : Int, 0 ≤ j → j < 96040 → 0 ≤ bucket_0 j ∧ bucket_0 j ≤ 23999) (hK_0_142 : ∀ j : Int, 0 ≤ j → j < 4 → 0 ≤ bucketMany_0 j ∧ bucketMany_0 j ≤ 24009) (hK_0_143 : ∀ j : Int, 0 ≤ j → j < 6000 → 0 ≤ barredPoint_0 j ∧ barredPoint_0 j ≤ 1) (kz_0_146 : (-2147483648) ≤ wide_0 ∧ wide_0 ≤ 2147483647) (kz_0_147 : (-2147483648) ≤ tall_0 ∧ tall_0 ≤ 2147483647) : (0 ≤ x25) ∧ ((x25 + 1) ≤ (wide_0 * tall_0)) := by
  first
    | omega
    | (have g := gok_bd (show GRX wide_0 tall_0 from ‹RTQ _ _ _ _ _ _ _ _›.1); omega)
    | (have g0 : GRX wide_0 tall_0 := ‹RTQ _ _ _ _ _ _ _ _›.1
       have g := gok_bd g0
       have e8 : x8 = wide_0 := by assumption
       have e20 : x20 = tall_0 := by assumption
       have c := cell_ix (W := x8) (T := x20) (x := x11) (y := x14) (p := x25) (by omega) (by omega) (by omega) (by omega) (by omega) (by rw [‹x25 = x24 + x11›, ‹x24 = x14 * x8›])
       have g3 := g0.2.2
       rw [e8, e20] at c
       omega)
    | (have h := ‹BFP _ _ _ _ _›.2.2.1; omega)
    | sorry
def o_Mo_backFrom_15 : or_T := (94, 29, [(0, (2, 0, 0, [150])), (1, (0, 0, 23999, [])), (2, (0, 0, 1000000, [])), (3, (0, 0, 5999, [])), (5, (0, 0, 5999, [])), (7, (0, 0, 0, [])), (8, (0, 1, 6000, [])), (9, (0, 0, 5999, [])), (10, (0, 1, 1, [])), (11, (0, 0, 5998, [])), (12, (0, 0, 5999, [])), (13, (0, 0, 0, [])), (14, (0, 0, 5999, [])), (16, (0, 1, 1, [])), (17, (0, 0, 5999, [])), (20, (0, 1, 6000, [])), (21, (0, 1, 1, [])), (22, (0, 0, 5999, [])), (24, (0, 0, 35994000, [])), (25, (0, 0, 5999, [])), (26, (2, 0, 0, [254])), (27, (0, 0, 0, []))], [(8, [27], [0]), (10, [27, 26, 25], []), (9, [26, 0], [143]), (1, [25, 24, 11], []), (3, [24, 14, 8], []), (9, [8, 0], [146]), (2, [22, 20, 21], []), (9, [20, 0], [147]), (2, [17, 8, 16], []), (2, [14, 12, 13], []), (20, [7, 13], [50, 0, 0, 3, 14, 2, 6, 1, 2, 1, 0, 0, 1, 1, 2, 1, 1, 0, 1, 3, 14, 2, 6, 1, 2, 1, 0, 0, 3, 1, 2, 1, 1, 0, -1, 2, 6, 7, 2, 1, 0, 0, 1, 2, 6, 7, 2, 1, 0, 0, 3, 1, 2, 1, 1, 0, 0]), (4, [12, 5, 8], []), (2, [11, 9, 10], []), (20, [7, 10], [50, 0, 0, 3, 14, 2, 6, 1, 2, 1, 0, 0, 0, 1, 2, 1, 1, 0, 1, 3, 14, 2, 6, 1, 2, 1, 0, 0, 2, 1, 2, 1, 1, 0, -1, 2, 6, 7, 2, 1, 0, 0, 0, 2, 6, 7, 2, 1, 0, 0, 2, 1, 2, 1, 1, 0, 0]), (5, [9, 5, 8], []), (12, [7, 1], [4]), (11, [5, 1], [4]), (20, [0, 3, 2], [60, 2, 4, 419, 146, 147, 143, 140, 141, 142]), (20, [0, 1, 2], [60, 0, 1, 421, 140]), (20, [1, 0], [50, 2, 0, 1146, 1147, 2, 6, 0, 2, 0, 0, 1, 0, 0, 6, 4, 2, 1, 0, 0, 1, 6, 2, 0, 4, 6, 3, 2, 1, 146, 2, 1, 147]), (20, [2], [50, 0, 0, 2, 6, 0, 2, 0, 0, 1, 0, 0, 2, 1, 0, 0, 999999])], [], [], [(20, [0, 1, 25], [60, 2, 1, 424, 146, 147, 143]), (20, [7, 1], [50, 0, 0, 1, 2, 1, 0, 9, 2, 1, 1, 0, 4]), (20, [25, 0], [50, 2, 0, 1146, 1147, 2, 6, 0, 2, 0, 0, 1, 0, 0, 6, 4, 2, 1, 0, 0, 1, 6, 3, 2, 1, 146, 2, 1, 147]), (24, [0, 0], []), (24, [1, 1], []), (24, [2, 2], [])], [], [(25, 11, 0, 35994000), (25, 9, -1, 35993999), (25, 24, 0, 5998), (14, 22, -4294967296, 0), (22, 20, -1, -1), (11, 17, -4294967296, 0), (17, 8, -1, -1), (14, 12, 0, 0), (11, 9, -1, -1), (11, 8, -4294967296, -2), (9, 8, -4294967295, -1)])
theorem oo_Mo_backFrom_15 {kA : Nat → ClassId} : or_ok PRD kA GG o_Mo_backFrom_15 := by
  intro A ta ws vs hD hth hl hk hds hf
  have hl : vs.length = 29 := hl
  have hk : ∀ q ∈ ([(0, (2, 0, 0, [150])), (1, (0, 0, 23999, [])), (2, (0, 0, 1000000, [])), (3, (0, 0, 5999, [])), (5, (0, 0, 5999, [])), (7, (0, 0, 0, [])), (8, (0, 1, 6000, [])), (9, (0, 0, 5999, [])), (10, (0, 1, 1, [])), (11, (0, 0, 5998, [])), (12, (0, 0, 5999, [])), (13, (0, 0, 0, [])), (14, (0, 0, 5999, [])), (16, (0, 1, 1, [])), (17, (0, 0, 5999, [])), (20, (0, 1, 6000, [])), (21, (0, 1, 1, [])), (22, (0, 0, 5999, [])), (24, (0, 0, 35994000, [])), (25, (0, 0, 5999, [])), (26, (2, 0, 0, [254])), (27, (0, 0, 0, []))] : List (Nat × tv_T)), tv_ok ta q.2 (n_v vs q.1) := hk
  obtain ⟨t0, hk⟩ := List.forall_mem_cons.mp hk
  have t0 : tv_ok ta (2, 0, 0, [150]) (n_v vs 0) := t0
  have r0 : ta (v_ad (n_v vs 0)) = some 150 := tv_rg t0
  obtain ⟨t1, hk⟩ := List.forall_mem_cons.mp hk
  have t1 : tv_ok ta (0, 0, 23999, []) (n_v vs 1) := t1
  have k1 : 0 ≤ v_iv (n_v vs 1) ∧ v_iv (n_v vs 1) ≤ 23999 := tv_rng t1
  obtain ⟨t2, hk⟩ := List.forall_mem_cons.mp hk
  have t2 : tv_ok ta (0, 0, 1000000, []) (n_v vs 2) := t2
  have k2 : 0 ≤ v_iv (n_v vs 2) ∧ v_iv (n_v vs 2) ≤ 1000000 := tv_rng t2
  obtain ⟨t3, hk⟩ := List.forall_mem_cons.mp hk
  have t3 : tv_ok ta (0, 0, 5999, []) (n_v vs 3) := t3
  have k3 : 0 ≤ v_iv (n_v vs 3) ∧ v_iv (n_v vs 3) ≤ 5999 := tv_rng t3
  obtain ⟨t5, hk⟩ := List.forall_mem_cons.mp hk
  have t5 : tv_ok ta (0, 0, 5999, []) (n_v vs 5) := t5
  have k5 : 0 ≤ v_iv (n_v vs 5) ∧ v_iv (n_v vs 5) ≤ 5999 := tv_rng t5
  obtain ⟨t7, hk⟩ := List.forall_mem_cons.mp hk
  have t7 : tv_ok ta (0, 0, 0, []) (n_v vs 7) := t7
  have k7 : 0 ≤ v_iv (n_v vs 7) ∧ v_iv (n_v vs 7) ≤ 0 := tv_rng t7
  obtain ⟨t8, hk⟩ := List.forall_mem_cons.mp hk
  have t8 : tv_ok ta (0, 1, 6000, []) (n_v vs 8) := t8
  have k8 : 1 ≤ v_iv (n_v vs 8) ∧ v_iv (n_v vs 8) ≤ 6000 := tv_rng t8
  obtain ⟨t9, hk⟩ := List.forall_mem_cons.mp hk
  have t9 : tv_ok ta (0, 0, 5999, []) (n_v vs 9) := t9
  have k9 : 0 ≤ v_iv (n_v vs 9) ∧ v_iv (n_v vs 9) ≤ 5999 := tv_rng t9
  obtain ⟨t10, hk⟩ := List.forall_mem_cons.mp hk
  have t10 : tv_ok ta (0, 1, 1, []) (n_v vs 10) := t10
  have k10 : 1 ≤ v_iv (n_v vs 10) ∧ v_iv (n_v vs 10) ≤ 1 := tv_rng t10
  obtain ⟨t11, hk⟩ := List.forall_mem_cons.mp hk
  have t11 : tv_ok ta (0, 0, 5998, []) (n_v vs 11) := t11
  have k11 : 0 ≤ v_iv (n_v vs 11) ∧ v_iv (n_v vs 11) ≤ 5998 := tv_rng t11
  obtain ⟨t12, hk⟩ := List.forall_mem_cons.mp hk
  have t12 : tv_ok ta (0, 0, 5999, []) (n_v vs 12) := t12
  have k12 : 0 ≤ v_iv (n_v vs 12) ∧ v_iv (n_v vs 12) ≤ 5999 := tv_rng t12
  obtain ⟨t13, hk⟩ := List.forall_mem_cons.mp hk
  have t13 : tv_ok ta (0, 0, 0, []) (n_v vs 13) := t13
  have k13 : 0 ≤ v_iv (n_v vs 13) ∧ v_iv (n_v vs 13) ≤ 0 := tv_rng t13
  obtain ⟨t14, hk⟩ := List.forall_mem_cons.mp hk
  have t14 : tv_ok ta (0, 0, 5999, []) (n_v vs 14) := t14
  have k14 : 0 ≤ v_iv (n_v vs 14) ∧ v_iv (n_v vs 14) ≤ 5999 := tv_rng t14
  obtain ⟨t16, hk⟩ := List.forall_mem_cons.mp hk
  have t16 : tv_ok ta (0, 1, 1, []) (n_v vs 16) := t16
  have k16 : 1 ≤ v_iv (n_v vs 16) ∧ v_iv (n_v vs 16) ≤ 1 := tv_rng t16
  obtain ⟨t17, hk⟩ := List.forall_mem_cons.mp hk
  have t17 : tv_ok ta (0, 0, 5999, []) (n_v vs 17) := t17
  have k17 : 0 ≤ v_iv (n_v vs 17) ∧ v_iv (n_v vs 17) ≤ 5999 := tv_rng t17
  obtain ⟨t20, hk⟩ := List.forall_mem_cons.mp hk
  have t20 : tv_ok ta (0, 1, 6000, []) (n_v vs 20) := t20
  have k20 : 1 ≤ v_iv (n_v vs 20) ∧ v_iv (n_v vs 20) ≤ 6000 := tv_rng t20
  obtain ⟨t21, hk⟩ := List.forall_mem_cons.mp hk
  have t21 : tv_ok ta (0, 1, 1, []) (n_v vs 21) := t21
  have k21 : 1 ≤ v_iv (n_v vs 21) ∧ v_iv (n_v vs 21) ≤ 1 := tv_rng t21
  obtain ⟨t22, hk⟩ := List.forall_mem_cons.mp hk
  have t22 : tv_ok ta (0, 0, 5999, []) (n_v vs 22) := t22
  have k22 : 0 ≤ v_iv (n_v vs 22) ∧ v_iv (n_v vs 22) ≤ 5999 := tv_rng t22
  obtain ⟨t24, hk⟩ := List.forall_mem_cons.mp hk
  have t24 : tv_ok ta (0, 0, 35994000, []) (n_v vs 24) := t24
  have k24 : 0 ≤ v_iv (n_v vs 24) ∧ v_iv (n_v vs 24) ≤ 35994000 := tv_rng t24
  obtain ⟨t25, hk⟩ := List.forall_mem_cons.mp hk
  have t25 : tv_ok ta (0, 0, 5999, []) (n_v vs 25) := t25
  have k25 : 0 ≤ v_iv (n_v vs 25) ∧ v_iv (n_v vs 25) ≤ 5999 := tv_rng t25
  obtain ⟨t26, hk⟩ := List.forall_mem_cons.mp hk
  have t26 : tv_ok ta (2, 0, 0, [254]) (n_v vs 26) := t26
  have r26 : ta (v_ad (n_v vs 26)) = some 254 := tv_rg t26
  obtain ⟨t27, hk⟩ := List.forall_mem_cons.mp hk
  have t27 : tv_ok ta (0, 0, 0, []) (n_v vs 27) := t27
  have k27 : 0 ≤ v_iv (n_v vs 27) ∧ v_iv (n_v vs 27) ≤ 0 := tv_rng t27
  have hds : ∀ q ∈ ([(25, 11, 0, 35994000), (25, 9, -1, 35993999), (25, 24, 0, 5998), (14, 22, -4294967296, 0), (22, 20, -1, -1), (11, 17, -4294967296, 0), (17, 8, -1, -1), (14, 12, 0, 0), (11, 9, -1, -1), (11, 8, -4294967296, -2), (9, 8, -4294967295, -1)] : List of_T), n_iv vs q.2.1 + q.2.2.1 ≤ n_iv vs q.1 ∧ n_iv vs q.1 ≤ n_iv vs q.2.1 + q.2.2.2 := hds
  obtain ⟨d0, hds⟩ := List.forall_mem_cons.mp hds
  have d0 : v_iv (n_v vs 11) + 0 ≤ v_iv (n_v vs 25) ∧ v_iv (n_v vs 25) ≤ v_iv (n_v vs 11) + 35994000 := d0
  obtain ⟨d1, hds⟩ := List.forall_mem_cons.mp hds
  have d1 : v_iv (n_v vs 9) + (-1) ≤ v_iv (n_v vs 25) ∧ v_iv (n_v vs 25) ≤ v_iv (n_v vs 9) + 35993999 := d1
  obtain ⟨d2, hds⟩ := List.forall_mem_cons.mp hds
  have d2 : v_iv (n_v vs 24) + 0 ≤ v_iv (n_v vs 25) ∧ v_iv (n_v vs 25) ≤ v_iv (n_v vs 24) + 5998 := d2
  obtain ⟨d3, hds⟩ := List.forall_mem_cons.mp hds
  have d3 : v_iv (n_v vs 22) + (-4294967296) ≤ v_iv (n_v vs 14) ∧ v_iv (n_v vs 14) ≤ v_iv (n_v vs 22) + 0 := d3
  obtain ⟨d4, hds⟩ := List.forall_mem_cons.mp hds
  have d4 : v_iv (n_v vs 20) + (-1) ≤ v_iv (n_v vs 22) ∧ v_iv (n_v vs 22) ≤ v_iv (n_v vs 20) + (-1) := d4
  obtain ⟨d5, hds⟩ := List.forall_mem_cons.mp hds
  have d5 : v_iv (n_v vs 17) + (-4294967296) ≤ v_iv (n_v vs 11) ∧ v_iv (n_v vs 11) ≤ v_iv (n_v vs 17) + 0 := d5
  obtain ⟨d6, hds⟩ := List.forall_mem_cons.mp hds
  have d6 : v_iv (n_v vs 8) + (-1) ≤ v_iv (n_v vs 17) ∧ v_iv (n_v vs 17) ≤ v_iv (n_v vs 8) + (-1) := d6
  obtain ⟨d7, hds⟩ := List.forall_mem_cons.mp hds
  have d7 : v_iv (n_v vs 12) + 0 ≤ v_iv (n_v vs 14) ∧ v_iv (n_v vs 14) ≤ v_iv (n_v vs 12) + 0 := d7
  obtain ⟨d8, hds⟩ := List.forall_mem_cons.mp hds
  have d8 : v_iv (n_v vs 9) + (-1) ≤ v_iv (n_v vs 11) ∧ v_iv (n_v vs 11) ≤ v_iv (n_v vs 9) + (-1) := d8
  obtain ⟨d9, hds⟩ := List.forall_mem_cons.mp hds
  have d9 : v_iv (n_v vs 8) + (-4294967296) ≤ v_iv (n_v vs 11) ∧ v_iv (n_v vs 11) ≤ v_iv (n_v vs 8) + (-2) := d9
  obtain ⟨d10, hds⟩ := List.forall_mem_cons.mp hds
  have d10 : v_iv (n_v vs 8) + (-4294967295) ≤ v_iv (n_v vs 9) ∧ v_iv (n_v vs 9) ≤ v_iv (n_v vs 8) + (-1) := d10
  have hf : fc_ok PRD [(8, [27], [0]), (10, [27, 26, 25], []), (9, [26, 0], [143]), (1, [25, 24, 11], []), (3, [24, 14, 8], []), (9, [8, 0], [146]), (2, [22, 20, 21], []), (9, [20, 0], [147]), (2, [17, 8, 16], []), (2, [14, 12, 13], []), (20, [7, 13], [50, 0, 0, 3, 14, 2, 6, 1, 2, 1, 0, 0, 1, 1, 2, 1, 1, 0, 1, 3, 14, 2, 6, 1, 2, 1, 0, 0, 3, 1, 2, 1, 1, 0, -1, 2, 6, 7, 2, 1, 0, 0, 1, 2, 6, 7, 2, 1, 0, 0, 3, 1, 2, 1, 1, 0, 0]), (4, [12, 5, 8], []), (2, [11, 9, 10], []), (20, [7, 10], [50, 0, 0, 3, 14, 2, 6, 1, 2, 1, 0, 0, 0, 1, 2, 1, 1, 0, 1, 3, 14, 2, 6, 1, 2, 1, 0, 0, 2, 1, 2, 1, 1, 0, -1, 2, 6, 7, 2, 1, 0, 0, 0, 2, 6, 7, 2, 1, 0, 0, 2, 1, 2, 1, 1, 0, 0]), (5, [9, 5, 8], []), (12, [7, 1], [4]), (11, [5, 1], [4]), (20, [0, 3, 2], [60, 2, 4, 419, 146, 147, 143, 140, 141, 142]), (20, [0, 1, 2], [60, 0, 1, 421, 140]), (20, [1, 0], [50, 2, 0, 1146, 1147, 2, 6, 0, 2, 0, 0, 1, 0, 0, 6, 4, 2, 1, 0, 0, 1, 6, 2, 0, 4, 6, 3, 2, 1, 146, 2, 1, 147]), (20, [2], [50, 0, 0, 2, 6, 0, 2, 0, 0, 1, 0, 0, 2, 1, 0, 0, 999999])] ta ws vs := hf
  obtain ⟨f0, hf⟩ := fc_un (show (8 : Nat) < 100 from by decide) hf
  have f0 : v_iv (n_v vs 27) = 0 := f0
  obtain ⟨f1, hf⟩ := fc_un (show (10 : Nat) < 100 from by decide) hf
  have f1 : v_iv (n_v vs 27) = w_el ws (v_ad (n_v vs 26)) (v_iv (n_v vs 25)).toNat := f1
  obtain ⟨f2, hf⟩ := fc_un (show (9 : Nat) < 100 from by decide) hf
  have f2 : n_v vs 26 = w_fd ws (v_ad (n_v vs 0)) 143 := f2
  obtain ⟨f3, hf⟩ := fc_un (show (1 : Nat) < 100 from by decide) hf
  have f3 : v_iv (n_v vs 25) = v_iv (n_v vs 24) + v_iv (n_v vs 11) := f3
  obtain ⟨f4, hf⟩ := fc_un (show (3 : Nat) < 100 from by decide) hf
  have f4 : v_iv (n_v vs 24) = v_iv (n_v vs 14) * v_iv (n_v vs 8) := f4
  obtain ⟨f5, hf⟩ := fc_un (show (9 : Nat) < 100 from by decide) hf
  have f5 : n_v vs 8 = w_fd ws (v_ad (n_v vs 0)) 146 := f5
  obtain ⟨f6, hf⟩ := fc_un (show (2 : Nat) < 100 from by decide) hf
  have f6 : v_iv (n_v vs 22) = v_iv (n_v vs 20) - v_iv (n_v vs 21) := f6
  obtain ⟨f7, hf⟩ := fc_un (show (9 : Nat) < 100 from by decide) hf
  have f7 : n_v vs 20 = w_fd ws (v_ad (n_v vs 0)) 147 := f7
  obtain ⟨f8, hf⟩ := fc_un (show (2 : Nat) < 100 from by decide) hf
  have f8 : v_iv (n_v vs 17) = v_iv (n_v vs 8) - v_iv (n_v vs 16) := f8
  obtain ⟨f9, hf⟩ := fc_un (show (2 : Nat) < 100 from by decide) hf
  have f9 : v_iv (n_v vs 14) = v_iv (n_v vs 12) - v_iv (n_v vs 13) := f9
  obtain ⟨f10, hf⟩ := fc_un (show (20 : Nat) < 100 from by decide) hf
  have f10 : ((v_iv (n_v vs 7) = 1) ∧ (v_iv (n_v vs 13) = 1)) ∨ (((v_iv (n_v vs 7) = 3) ∧ (v_iv (n_v vs 13) = (-1))) ∨ ((v_iv (n_v vs 7) ≠ 1) ∧ ((v_iv (n_v vs 7) ≠ 3) ∧ (v_iv (n_v vs 13) = 0)))) := f10
  obtain ⟨f11, hf⟩ := fc_un (show (4 : Nat) < 100 from by decide) hf
  have f11 : v_iv (n_v vs 12) = Int.tdiv (v_iv (n_v vs 5)) (v_iv (n_v vs 8)) := f11
  have fq11 : 10 ≤ v_iv (n_v vs 12) → 10 * v_iv (n_v vs 8) ≤ v_iv (n_v vs 5) := dv_ten f11 (by omega) (by omega)
  obtain ⟨f12, hf⟩ := fc_un (show (2 : Nat) < 100 from by decide) hf
  have f12 : v_iv (n_v vs 11) = v_iv (n_v vs 9) - v_iv (n_v vs 10) := f12
  obtain ⟨f13, hf⟩ := fc_un (show (20 : Nat) < 100 from by decide) hf
  have f13 : ((v_iv (n_v vs 7) = 0) ∧ (v_iv (n_v vs 10) = 1)) ∨ (((v_iv (n_v vs 7) = 2) ∧ (v_iv (n_v vs 10) = (-1))) ∨ ((v_iv (n_v vs 7) ≠ 0) ∧ ((v_iv (n_v vs 7) ≠ 2) ∧ (v_iv (n_v vs 10) = 0)))) := f13
  obtain ⟨f14, hf⟩ := fc_un (show (5 : Nat) < 100 from by decide) hf
  have f14 : v_iv (n_v vs 9) = Int.tmod (v_iv (n_v vs 5)) (v_iv (n_v vs 8)) := f14
  obtain ⟨f15, hf⟩ := fc_un (show (12 : Nat) < 100 from by decide) hf
  have f15 : v_iv (n_v vs 7) = v_iv (n_v vs 1) % 4 := f15
  obtain ⟨f16, hf⟩ := fc_un (show (11 : Nat) < 100 from by decide) hf
  have f16 : v_iv (n_v vs 5) = v_iv (n_v vs 1) / 4 := f16
  obtain ⟨f17, hf⟩ := fc_un (show (20 : Nat) < 100 from by decide) hf
  have f17 : RTQ (w_fi ws (n_v vs 0) 146) (w_fi ws (n_v vs 0) 147) (w_ei ws (w_ar ws (n_v vs 0) 143)) (w_ei ws (w_ar ws (n_v vs 0) 140)) (w_ei ws (w_ar ws (n_v vs 0) 141)) (w_ei ws (w_ar ws (n_v vs 0) 142)) (v_iv (n_v vs 3)) (v_iv (n_v vs 2)) := f17
  obtain ⟨f18, hf⟩ := fc_un (show (20 : Nat) < 100 from by decide) hf
  have f18 : PIV (w_ei ws (w_ar ws (n_v vs 0) 140)) (v_iv (n_v vs 1)) (v_iv (n_v vs 2)) := f18
  obtain ⟨f19, hf⟩ := fc_un (show (20 : Nat) < 100 from by decide) hf
  have f19 : (0 ≤ v_iv (n_v vs 1)) ∧ ((v_iv (n_v vs 1) + 1) ≤ (4 * (w_fi ws (n_v vs 0) 146 * w_fi ws (n_v vs 0) 147))) := f19
  obtain ⟨f20, hf⟩ := fc_un (show (20 : Nat) < 100 from by decide) hf
  have f20 : (0 ≤ v_iv (n_v vs 2)) ∧ (v_iv (n_v vs 2) ≤ 999999) := f20
  have cr_0_140 : ta (w_ar ws (n_v vs 0) 140) = some 251 := tv_rg (th_fd hD hth r0 (g := GG_150) rfl (k := 140) (t := (2, 0, 0, [251])) rfl rfl)
  have cr_0_141 : ta (w_ar ws (n_v vs 0) 141) = some 252 := tv_rg (th_fd hD hth r0 (g := GG_150) rfl (k := 141) (t := (2, 0, 0, [252])) rfl rfl)
  have cr_0_142 : ta (w_ar ws (n_v vs 0) 142) = some 253 := tv_rg (th_fd hD hth r0 (g := GG_150) rfl (k := 142) (t := (2, 0, 0, [253])) rfl rfl)
  have cr_0_143 : ta (w_ar ws (n_v vs 0) 143) = some 254 := tv_rg (th_fd hD hth r0 (g := GG_150) rfl (k := 143) (t := (2, 0, 0, [254])) rfl rfl)
  have ad_26 : v_ad (n_v vs 26) = w_ar ws (n_v vs 0) 143 := congrArg v_ad f2
  rw [ad_26] at f1
  have h1 : v_iv (n_v vs 27) = w_ei ws (w_ar ws (n_v vs 0) 143) (v_iv (n_v vs 25)) := f1
  have g5 : v_iv (n_v vs 8) = w_fi ws (n_v vs 0) 146 := congrArg v_iv f5
  have g7 : v_iv (n_v vs 20) = w_fi ws (n_v vs 0) 147 := congrArg v_iv f7
  have hK_0_140 : ∀ j : Int, 0 ≤ j → j < 24000 → 0 ≤ w_ei ws (w_ar ws (n_v vs 0) 140) j ∧ w_ei ws (w_ar ws (n_v vs 0) 140) j ≤ 1000000 := fun j h0 h1 => th_el hD hth cr_0_140 (kd := 0) (n := 24000) (m := 24000) (lo := 0) (hi := 1000000) (rs := []) (L := []) rfl (by decide) (j := j.toNat) (by omega)
  have hK_0_141 : ∀ j : Int, 0 ≤ j → j < 96040 → 0 ≤ w_ei ws (w_ar ws (n_v vs 0) 141) j ∧ w_ei ws (w_ar ws (n_v vs 0) 141) j ≤ 23999 := fun j h0 h1 => th_el hD hth cr_0_141 (kd := 0) (n := 96040) (m := 96040) (lo := 0) (hi := 23999) (rs := []) (L := []) rfl (by decide) (j := j.toNat) (by omega)
  have hK_0_142 : ∀ j : Int, 0 ≤ j → j < 4 → 0 ≤ w_ei ws (w_ar ws (n_v vs 0) 142) j ∧ w_ei ws (w_ar ws (n_v vs 0) 142) j ≤ 24009 := fun j h0 h1 => th_el hD hth cr_0_142 (kd := 0) (n := 4) (m := 4) (lo := 0) (hi := 24009) (rs := []) (L := []) rfl (by decide) (j := j.toNat) (by omega)
  have hK_0_143 : ∀ j : Int, 0 ≤ j → j < 6000 → 0 ≤ w_ei ws (w_ar ws (n_v vs 0) 143) j ∧ w_ei ws (w_ar ws (n_v vs 0) 143) j ≤ 1 := fun j h0 h1 => th_el hD hth cr_0_143 (kd := 2) (n := 6000) (m := 6000) (lo := 0) (hi := 1) (rs := []) (L := []) rfl (by decide) (j := j.toNat) (by omega)
  have kz_0_146 : (-2147483648) ≤ w_fi ws (n_v vs 0) 146 ∧ w_fi ws (n_v vs 0) 146 ≤ 2147483647 := tv_rng (th_fd hD hth r0 (g := GG_150) rfl (k := 146) (t := (0, -2147483648, 2147483647, [])) rfl rfl)
  have kz_0_147 : (-2147483648) ≤ w_fi ws (n_v vs 0) 147 ∧ w_fi ws (n_v vs 0) 147 ≤ 2147483647 := tv_rng (th_fd hD hth r0 (g := GG_150) rfl (k := 147) (t := (0, -2147483648, 2147483647, [])) rfl rfl)
  have nf0 : fc_1 PRD (20, [0, 1, 25], [60, 2, 1, 424, 146, 147, 143]) ws (vs) := by
    refine ⟨fun n hn => ?_, ?_⟩
    · have hn : n ∈ [0, 1, 25] := hn
      rw [hl]
      simp only [List.mem_cons, List.not_mem_nil, or_false] at hn
      show n < 29; omega
    · show BFP (w_fi ws (n_v vs 0) 146) (w_fi ws (n_v vs 0) 147) (w_ei ws (w_ar ws (n_v vs 0) 143)) (v_iv (n_v vs 1)) (v_iv (n_v vs 25))
      exact vc_Mo_backFrom_15_0 (v_iv (n_v vs 1)) (v_iv (n_v vs 2)) (v_iv (n_v vs 3)) (v_iv (n_v vs 5)) (v_iv (n_v vs 7)) (v_iv (n_v vs 8)) (v_iv (n_v vs 9)) (v_iv (n_v vs 10)) (v_iv (n_v vs 11)) (v_iv (n_v vs 12)) (v_iv (n_v vs 13)) (v_iv (n_v vs 14)) (v_iv (n_v vs 16)) (v_iv (n_v vs 17)) (v_iv (n_v vs 20)) (v_iv (n_v vs 21)) (v_iv (n_v vs 22)) (v_iv (n_v vs 24)) (v_iv (n_v vs 25)) (v_iv (n_v vs 27)) (w_ei ws (w_ar ws (n_v vs 0) 143)) (w_fi ws (n_v vs 0) 146) (w_fi ws (n_v vs 0) 147) (w_ei ws (w_ar ws (n_v vs 0) 140)) (w_ei ws (w_ar ws (n_v vs 0) 141)) (w_ei ws (w_ar ws (n_v vs 0) 142)) k1 k2 k3 k5 k7 k8 k9 k10 k11 k12 k13 k14 k16 k17 k20 k21 k22 k24 k25 k27 d0 d1 d2 d3 d4 d5 d6 d7 d8 d9 d10 f0 h1 f3 f4 g5 f6 g7 f8 f9 f10 f11 f12 f13 f14 f15 f16 f17 f18 f19 f20 hK_0_140 hK_0_141 hK_0_142 hK_0_143 kz_0_146 kz_0_147
  have nf1 : fc_1 PRD (20, [7, 1], [50, 0, 0, 1, 2, 1, 0, 9, 2, 1, 1, 0, 4]) ws (vs) := by
    refine ⟨fun n hn => ?_, ?_⟩
    · have hn : n ∈ [7, 1] := hn
      rw [hl]
      simp only [List.mem_cons, List.not_mem_nil, or_false] at hn
      show n < 29; omega
    · show v_iv (n_v vs 7) = (v_iv (n_v vs 1) % 4)
      exact vc_Mo_backFrom_15_1 (v_iv (n_v vs 1)) (v_iv (n_v vs 2)) (v_iv (n_v vs 3)) (v_iv (n_v vs 5)) (v_iv (n_v vs 7)) (v_iv (n_v vs 8)) (v_iv (n_v vs 9)) (v_iv (n_v vs 10)) (v_iv (n_v vs 11)) (v_iv (n_v vs 12)) (v_iv (n_v vs 13)) (v_iv (n_v vs 14)) (v_iv (n_v vs 16)) (v_iv (n_v vs 17)) (v_iv (n_v vs 20)) (v_iv (n_v vs 21)) (v_iv (n_v vs 22)) (v_iv (n_v vs 24)) (v_iv (n_v vs 25)) (v_iv (n_v vs 27)) (w_ei ws (w_ar ws (n_v vs 0) 143)) (w_fi ws (n_v vs 0) 146) (w_fi ws (n_v vs 0) 147) (w_ei ws (w_ar ws (n_v vs 0) 140)) (w_ei ws (w_ar ws (n_v vs 0) 141)) (w_ei ws (w_ar ws (n_v vs 0) 142)) k1 k2 k3 k5 k7 k8 k9 k10 k11 k12 k13 k14 k16 k17 k20 k21 k22 k24 k25 k27 d0 d1 d2 d3 d4 d5 d6 d7 d8 d9 d10 f0 h1 f3 f4 g5 f6 g7 f8 f9 f10 f11 f12 f13 f14 f15 f16 f17 f18 f19 f20 hK_0_140 hK_0_141 hK_0_142 hK_0_143 kz_0_146 kz_0_147
  have nf2 : fc_1 PRD (20, [25, 0], [50, 2, 0, 1146, 1147, 2, 6, 0, 2, 0, 0, 1, 0, 0, 6, 4, 2, 1, 0, 0, 1, 6, 3, 2, 1, 146, 2, 1, 147]) ws (vs) := by
    refine ⟨fun n hn => ?_, ?_⟩
    · have hn : n ∈ [25, 0] := hn
      rw [hl]
      simp only [List.mem_cons, List.not_mem_nil, or_false] at hn
      show n < 29; omega
    · show (0 ≤ v_iv (n_v vs 25)) ∧ ((v_iv (n_v vs 25) + 1) ≤ (w_fi ws (n_v vs 0) 146 * w_fi ws (n_v vs 0) 147))
      exact vc_Mo_backFrom_15_2 (v_iv (n_v vs 1)) (v_iv (n_v vs 2)) (v_iv (n_v vs 3)) (v_iv (n_v vs 5)) (v_iv (n_v vs 7)) (v_iv (n_v vs 8)) (v_iv (n_v vs 9)) (v_iv (n_v vs 10)) (v_iv (n_v vs 11)) (v_iv (n_v vs 12)) (v_iv (n_v vs 13)) (v_iv (n_v vs 14)) (v_iv (n_v vs 16)) (v_iv (n_v vs 17)) (v_iv (n_v vs 20)) (v_iv (n_v vs 21)) (v_iv (n_v vs 22)) (v_iv (n_v vs 24)) (v_iv (n_v vs 25)) (v_iv (n_v vs 27)) (w_ei ws (w_ar ws (n_v vs 0) 143)) (w_fi ws (n_v vs 0) 146) (w_fi ws (n_v vs 0) 147) (w_ei ws (w_ar ws (n_v vs 0) 140)) (w_ei ws (w_ar ws (n_v vs 0) 141)) (w_ei ws (w_ar ws (n_v vs 0) 142)) k1 k2 k3 k5 k7 k8 k9 k10 k11 k12 k13 k14 k16 k17 k20 k21 k22 k24 k25 k27 d0 d1 d2 d3 d4 d5 d6 d7 d8 d9 d10 f0 h1 f3 f4 g5 f6 g7 f8 f9 f10 f11 f12 f13 f14 f15 f16 f17 f18 f19 f20 hK_0_140 hK_0_141 hK_0_142 hK_0_143 kz_0_146 kz_0_147
  have nf3 : fc_1 PRD (24, [0, 0], []) ws (vs) := by
    refine ⟨fun n hn => ?_, ?_⟩
    · have hn : n ∈ [0, 0] := hn
      rw [hl]
      simp only [List.mem_cons, List.not_mem_nil, or_false] at hn
      show n < 29; omega
    · show n_v vs 0 = n_v vs 0
      first | rfl | simp only [true_and]
  have nf4 : fc_1 PRD (24, [1, 1], []) ws (vs) := by
    refine ⟨fun n hn => ?_, ?_⟩
    · have hn : n ∈ [1, 1] := hn
      rw [hl]
      simp only [List.mem_cons, List.not_mem_nil, or_false] at hn
      show n < 29; omega
    · show n_v vs 1 = n_v vs 1
      first | rfl | simp only [true_and]
  have nf5 : fc_1 PRD (24, [2, 2], []) ws (vs) := by
    refine ⟨fun n hn => ?_, ?_⟩
    · have hn : n ∈ [2, 2] := hn
      rw [hl]
      simp only [List.mem_cons, List.not_mem_nil, or_false] at hn
      show n < 29; omega
    · show n_v vs 2 = n_v vs 2
      first | rfl | simp only [true_and]
  refine ⟨(fun _ h => (by cases h)), [], trivial, ?_, (fun _ h => (by cases h))⟩
  rw [List.append_nil]
  exact List.forall_mem_cons.mpr ⟨⟨show (20 : Nat) < 100 from by decide, nf0⟩, List.forall_mem_cons.mpr ⟨⟨show (20 : Nat) < 100 from by decide, nf1⟩, List.forall_mem_cons.mpr ⟨⟨show (20 : Nat) < 100 from by decide, nf2⟩, List.forall_mem_cons.mpr ⟨⟨show (24 : Nat) < 100 from by decide, nf3⟩, List.forall_mem_cons.mpr ⟨⟨show (24 : Nat) < 100 from by decide, nf4⟩, List.forall_mem_cons.mpr ⟨⟨show (24 : Nat) < 100 from by decide, nf5⟩, (fun _ h => (by cases h))⟩⟩⟩⟩⟩⟩
set_option maxHeartbeats 4000000 in
theorem vc_Mo_backFrom_16_0 (x1 : Int) (x2 : Int) (x3 : Int) (x5 : Int) (x6 : Int) (x8 : Int) (x11 : Int) (barredPoint_0 : Int → Int) (costOf_0 : Int → Int) (bucket_0 : Int → Int) (bucketMany_0 : Int → Int) (wide_0 : Int) (tall_0 : Int) (k1 : 0 ≤ x1 ∧ x1 ≤ 23999) (k2 : 0 ≤ x2 ∧ x2 ≤ 1000000) (k3 : 0 ≤ x3 ∧ x3 ≤ 5999) (k5 : 0 ≤ x5 ∧ x5 ≤ 23999) (k6 : 0 ≤ x6 ∧ x6 ≤ 1000000) (k8 : 0 ≤ x8 ∧ x8 ≤ 3) (k11 : 0 ≤ x11 ∧ x11 ≤ 5999) (d0 : x5 + (-4294967296) ≤ x1 ∧ x1 ≤ x5 + 0) (d1 : x6 + (-4294967296) ≤ x2 ∧ x2 ≤ x6 + 0) (d2 : x1 + (-4294967296) ≤ x5 ∧ x5 ≤ x1 + 0) (d3 : x2 + (-4294967296) ≤ x6 ∧ x6 ≤ x2 + 0) (d4 : x11 + (-4294967296) ≤ x8 ∧ x8 ≤ x11 + 2) (f0 : RTQ (wide_0) (tall_0) (barredPoint_0) (costOf_0) (bucket_0) (bucketMany_0) (x3) (x2)) (f1 : PIV (costOf_0) (x1) (x2)) (f2 : BFP (wide_0) (tall_0) (barredPoint_0) (x1) (x11)) (f3 : x8 = (x1 % 4)) (f4 : (0 ≤ x2) ∧ (x2 ≤ 999999)) (f5 : (0 ≤ x11) ∧ ((x11 + 1) ≤ (wide_0 * tall_0))) (hK_0_140 : ∀ j : Int, 0 ≤ j → j < 24000 → 0 ≤ costOf_0 j ∧ costOf_0 j ≤ 1000000) (hK_0_141 : ∀ j : Int, 0 ≤ j → j < 96040 → 0 ≤ bucket_0 j ∧ bucket_0 j ≤ 23999) (hK_0_142 : ∀ j : Int, 0 ≤ j → j < 4 → 0 ≤ bucketMany_0 j ∧ bucketMany_0 j ≤ 24009) (hK_0_143 : ∀ j : Int, 0 ≤ j → j < 6000 → 0 ≤ barredPoint_0 j ∧ barredPoint_0 j ≤ 1) (kz_0_146 : (-2147483648) ≤ wide_0 ∧ wide_0 ≤ 2147483647) (kz_0_147 : (-2147483648) ≤ tall_0 ∧ tall_0 ≤ 2147483647) : RTQ (wide_0) (tall_0) (barredPoint_0) (costOf_0) (bucket_0) (bucketMany_0) (x3) (x2) := by
  first
    | assumption
    | (rw [ex2, ey2]; assumption)
def o_Mo_backFrom_16 : or_T := (131, 14, [(0, (2, 0, 0, [150])), (1, (0, 0, 23999, [])), (2, (0, 0, 1000000, [])), (3, (0, 0, 5999, [])), (4, (2, 0, 0, [150])), (5, (0, 0, 23999, [])), (6, (0, 0, 1000000, [])), (8, (0, 0, 3, [])), (11, (0, 0, 5999, []))], [(20, [4, 3, 6], [60, 2, 4, 419, 146, 147, 143, 140, 141, 142]), (20, [4, 5, 6], [60, 0, 1, 421, 140]), (20, [4, 5, 11], [60, 2, 1, 424, 146, 147, 143]), (20, [8, 5], [50, 0, 0, 1, 2, 1, 0, 9, 2, 1, 1, 0, 4]), (20, [6], [50, 0, 0, 2, 6, 0, 2, 0, 0, 1, 0, 0, 2, 1, 0, 0, 999999]), (20, [11, 4], [50, 2, 0, 1146, 1147, 2, 6, 0, 2, 0, 0, 1, 0, 0, 6, 4, 2, 1, 0, 0, 1, 6, 3, 2, 1, 146, 2, 1, 147]), (24, [0, 4], []), (24, [1, 5], []), (24, [2, 6], [])], [], [], [(20, [0, 3, 2], [60, 2, 4, 419, 146, 147, 143, 140, 141, 142])], [], [(1, 5, -4294967296, 0), (2, 6, -4294967296, 0), (5, 1, -4294967296, 0), (6, 2, -4294967296, 0), (8, 11, -4294967296, 2)])
theorem oo_Mo_backFrom_16 {kA : Nat → ClassId} : or_ok PRD kA GG o_Mo_backFrom_16 := by
  intro A ta ws vs hD hth hl hk hds hf
  have hl : vs.length = 14 := hl
  have hk : ∀ q ∈ ([(0, (2, 0, 0, [150])), (1, (0, 0, 23999, [])), (2, (0, 0, 1000000, [])), (3, (0, 0, 5999, [])), (4, (2, 0, 0, [150])), (5, (0, 0, 23999, [])), (6, (0, 0, 1000000, [])), (8, (0, 0, 3, [])), (11, (0, 0, 5999, []))] : List (Nat × tv_T)), tv_ok ta q.2 (n_v vs q.1) := hk
  obtain ⟨t0, hk⟩ := List.forall_mem_cons.mp hk
  have t0 : tv_ok ta (2, 0, 0, [150]) (n_v vs 0) := t0
  have r0 : ta (v_ad (n_v vs 0)) = some 150 := tv_rg t0
  obtain ⟨t1, hk⟩ := List.forall_mem_cons.mp hk
  have t1 : tv_ok ta (0, 0, 23999, []) (n_v vs 1) := t1
  have k1 : 0 ≤ v_iv (n_v vs 1) ∧ v_iv (n_v vs 1) ≤ 23999 := tv_rng t1
  obtain ⟨t2, hk⟩ := List.forall_mem_cons.mp hk
  have t2 : tv_ok ta (0, 0, 1000000, []) (n_v vs 2) := t2
  have k2 : 0 ≤ v_iv (n_v vs 2) ∧ v_iv (n_v vs 2) ≤ 1000000 := tv_rng t2
  obtain ⟨t3, hk⟩ := List.forall_mem_cons.mp hk
  have t3 : tv_ok ta (0, 0, 5999, []) (n_v vs 3) := t3
  have k3 : 0 ≤ v_iv (n_v vs 3) ∧ v_iv (n_v vs 3) ≤ 5999 := tv_rng t3
  obtain ⟨t4, hk⟩ := List.forall_mem_cons.mp hk
  have t4 : tv_ok ta (2, 0, 0, [150]) (n_v vs 4) := t4
  have r4 : ta (v_ad (n_v vs 4)) = some 150 := tv_rg t4
  obtain ⟨t5, hk⟩ := List.forall_mem_cons.mp hk
  have t5 : tv_ok ta (0, 0, 23999, []) (n_v vs 5) := t5
  have k5 : 0 ≤ v_iv (n_v vs 5) ∧ v_iv (n_v vs 5) ≤ 23999 := tv_rng t5
  obtain ⟨t6, hk⟩ := List.forall_mem_cons.mp hk
  have t6 : tv_ok ta (0, 0, 1000000, []) (n_v vs 6) := t6
  have k6 : 0 ≤ v_iv (n_v vs 6) ∧ v_iv (n_v vs 6) ≤ 1000000 := tv_rng t6
  obtain ⟨t8, hk⟩ := List.forall_mem_cons.mp hk
  have t8 : tv_ok ta (0, 0, 3, []) (n_v vs 8) := t8
  have k8 : 0 ≤ v_iv (n_v vs 8) ∧ v_iv (n_v vs 8) ≤ 3 := tv_rng t8
  obtain ⟨t11, hk⟩ := List.forall_mem_cons.mp hk
  have t11 : tv_ok ta (0, 0, 5999, []) (n_v vs 11) := t11
  have k11 : 0 ≤ v_iv (n_v vs 11) ∧ v_iv (n_v vs 11) ≤ 5999 := tv_rng t11
  have hds : ∀ q ∈ ([(1, 5, -4294967296, 0), (2, 6, -4294967296, 0), (5, 1, -4294967296, 0), (6, 2, -4294967296, 0), (8, 11, -4294967296, 2)] : List of_T), n_iv vs q.2.1 + q.2.2.1 ≤ n_iv vs q.1 ∧ n_iv vs q.1 ≤ n_iv vs q.2.1 + q.2.2.2 := hds
  obtain ⟨d0, hds⟩ := List.forall_mem_cons.mp hds
  have d0 : v_iv (n_v vs 5) + (-4294967296) ≤ v_iv (n_v vs 1) ∧ v_iv (n_v vs 1) ≤ v_iv (n_v vs 5) + 0 := d0
  obtain ⟨d1, hds⟩ := List.forall_mem_cons.mp hds
  have d1 : v_iv (n_v vs 6) + (-4294967296) ≤ v_iv (n_v vs 2) ∧ v_iv (n_v vs 2) ≤ v_iv (n_v vs 6) + 0 := d1
  obtain ⟨d2, hds⟩ := List.forall_mem_cons.mp hds
  have d2 : v_iv (n_v vs 1) + (-4294967296) ≤ v_iv (n_v vs 5) ∧ v_iv (n_v vs 5) ≤ v_iv (n_v vs 1) + 0 := d2
  obtain ⟨d3, hds⟩ := List.forall_mem_cons.mp hds
  have d3 : v_iv (n_v vs 2) + (-4294967296) ≤ v_iv (n_v vs 6) ∧ v_iv (n_v vs 6) ≤ v_iv (n_v vs 2) + 0 := d3
  obtain ⟨d4, hds⟩ := List.forall_mem_cons.mp hds
  have d4 : v_iv (n_v vs 11) + (-4294967296) ≤ v_iv (n_v vs 8) ∧ v_iv (n_v vs 8) ≤ v_iv (n_v vs 11) + 2 := d4
  have hf : fc_ok PRD [(20, [4, 3, 6], [60, 2, 4, 419, 146, 147, 143, 140, 141, 142]), (20, [4, 5, 6], [60, 0, 1, 421, 140]), (20, [4, 5, 11], [60, 2, 1, 424, 146, 147, 143]), (20, [8, 5], [50, 0, 0, 1, 2, 1, 0, 9, 2, 1, 1, 0, 4]), (20, [6], [50, 0, 0, 2, 6, 0, 2, 0, 0, 1, 0, 0, 2, 1, 0, 0, 999999]), (20, [11, 4], [50, 2, 0, 1146, 1147, 2, 6, 0, 2, 0, 0, 1, 0, 0, 6, 4, 2, 1, 0, 0, 1, 6, 3, 2, 1, 146, 2, 1, 147]), (24, [0, 4], []), (24, [1, 5], []), (24, [2, 6], [])] ta ws vs := hf
  obtain ⟨f0, hf⟩ := fc_un (show (20 : Nat) < 100 from by decide) hf
  have f0 : RTQ (w_fi ws (n_v vs 4) 146) (w_fi ws (n_v vs 4) 147) (w_ei ws (w_ar ws (n_v vs 4) 143)) (w_ei ws (w_ar ws (n_v vs 4) 140)) (w_ei ws (w_ar ws (n_v vs 4) 141)) (w_ei ws (w_ar ws (n_v vs 4) 142)) (v_iv (n_v vs 3)) (v_iv (n_v vs 6)) := f0
  obtain ⟨f1, hf⟩ := fc_un (show (20 : Nat) < 100 from by decide) hf
  have f1 : PIV (w_ei ws (w_ar ws (n_v vs 4) 140)) (v_iv (n_v vs 5)) (v_iv (n_v vs 6)) := f1
  obtain ⟨f2, hf⟩ := fc_un (show (20 : Nat) < 100 from by decide) hf
  have f2 : BFP (w_fi ws (n_v vs 4) 146) (w_fi ws (n_v vs 4) 147) (w_ei ws (w_ar ws (n_v vs 4) 143)) (v_iv (n_v vs 5)) (v_iv (n_v vs 11)) := f2
  obtain ⟨f3, hf⟩ := fc_un (show (20 : Nat) < 100 from by decide) hf
  have f3 : v_iv (n_v vs 8) = (v_iv (n_v vs 5) % 4) := f3
  obtain ⟨f4, hf⟩ := fc_un (show (20 : Nat) < 100 from by decide) hf
  have f4 : (0 ≤ v_iv (n_v vs 6)) ∧ (v_iv (n_v vs 6) ≤ 999999) := f4
  obtain ⟨f5, hf⟩ := fc_un (show (20 : Nat) < 100 from by decide) hf
  have f5 : (0 ≤ v_iv (n_v vs 11)) ∧ ((v_iv (n_v vs 11) + 1) ≤ (w_fi ws (n_v vs 4) 146 * w_fi ws (n_v vs 4) 147)) := f5
  obtain ⟨f6, hf⟩ := fc_un (show (24 : Nat) < 100 from by decide) hf
  have f6 : n_v vs 0 = n_v vs 4 := f6
  obtain ⟨f7, hf⟩ := fc_un (show (24 : Nat) < 100 from by decide) hf
  have f7 : n_v vs 1 = n_v vs 5 := f7
  obtain ⟨f8, hf⟩ := fc_un (show (24 : Nat) < 100 from by decide) hf
  have f8 : n_v vs 2 = n_v vs 6 := f8
  have q4 : n_v vs 4 = n_v vs 0 := f6.symm
  have q5 : n_v vs 5 = n_v vs 1 := f7.symm
  have q6 : n_v vs 6 = n_v vs 2 := f8.symm
  rw [q4] at f0
  rw [q6] at f0
  rw [q4] at f1
  rw [q5] at f1
  rw [q6] at f1
  rw [q4] at f2
  rw [q5] at f2
  rw [q5] at f3
  rw [q6] at f4
  rw [q4] at f5
  have cr_0_140 : ta (w_ar ws (n_v vs 0) 140) = some 251 := tv_rg (th_fd hD hth r0 (g := GG_150) rfl (k := 140) (t := (2, 0, 0, [251])) rfl rfl)
  have cr_0_141 : ta (w_ar ws (n_v vs 0) 141) = some 252 := tv_rg (th_fd hD hth r0 (g := GG_150) rfl (k := 141) (t := (2, 0, 0, [252])) rfl rfl)
  have cr_0_142 : ta (w_ar ws (n_v vs 0) 142) = some 253 := tv_rg (th_fd hD hth r0 (g := GG_150) rfl (k := 142) (t := (2, 0, 0, [253])) rfl rfl)
  have cr_0_143 : ta (w_ar ws (n_v vs 0) 143) = some 254 := tv_rg (th_fd hD hth r0 (g := GG_150) rfl (k := 143) (t := (2, 0, 0, [254])) rfl rfl)
  have hK_0_140 : ∀ j : Int, 0 ≤ j → j < 24000 → 0 ≤ w_ei ws (w_ar ws (n_v vs 0) 140) j ∧ w_ei ws (w_ar ws (n_v vs 0) 140) j ≤ 1000000 := fun j h0 h1 => th_el hD hth cr_0_140 (kd := 0) (n := 24000) (m := 24000) (lo := 0) (hi := 1000000) (rs := []) (L := []) rfl (by decide) (j := j.toNat) (by omega)
  have hK_0_141 : ∀ j : Int, 0 ≤ j → j < 96040 → 0 ≤ w_ei ws (w_ar ws (n_v vs 0) 141) j ∧ w_ei ws (w_ar ws (n_v vs 0) 141) j ≤ 23999 := fun j h0 h1 => th_el hD hth cr_0_141 (kd := 0) (n := 96040) (m := 96040) (lo := 0) (hi := 23999) (rs := []) (L := []) rfl (by decide) (j := j.toNat) (by omega)
  have hK_0_142 : ∀ j : Int, 0 ≤ j → j < 4 → 0 ≤ w_ei ws (w_ar ws (n_v vs 0) 142) j ∧ w_ei ws (w_ar ws (n_v vs 0) 142) j ≤ 24009 := fun j h0 h1 => th_el hD hth cr_0_142 (kd := 0) (n := 4) (m := 4) (lo := 0) (hi := 24009) (rs := []) (L := []) rfl (by decide) (j := j.toNat) (by omega)
  have hK_0_143 : ∀ j : Int, 0 ≤ j → j < 6000 → 0 ≤ w_ei ws (w_ar ws (n_v vs 0) 143) j ∧ w_ei ws (w_ar ws (n_v vs 0) 143) j ≤ 1 := fun j h0 h1 => th_el hD hth cr_0_143 (kd := 2) (n := 6000) (m := 6000) (lo := 0) (hi := 1) (rs := []) (L := []) rfl (by decide) (j := j.toNat) (by omega)
  have kz_0_146 : (-2147483648) ≤ w_fi ws (n_v vs 0) 146 ∧ w_fi ws (n_v vs 0) 146 ≤ 2147483647 := tv_rng (th_fd hD hth r0 (g := GG_150) rfl (k := 146) (t := (0, -2147483648, 2147483647, [])) rfl rfl)
  have kz_0_147 : (-2147483648) ≤ w_fi ws (n_v vs 0) 147 ∧ w_fi ws (n_v vs 0) 147 ≤ 2147483647 := tv_rng (th_fd hD hth r0 (g := GG_150) rfl (k := 147) (t := (0, -2147483648, 2147483647, [])) rfl rfl)
  have nf0 : fc_1 PRD (20, [0, 3, 2], [60, 2, 4, 419, 146, 147, 143, 140, 141, 142]) ws (vs) := by
    refine ⟨fun n hn => ?_, ?_⟩
    · have hn : n ∈ [0, 3, 2] := hn
      rw [hl]
      simp only [List.mem_cons, List.not_mem_nil, or_false] at hn
      show n < 14; omega
    · show RTQ (w_fi ws (n_v vs 0) 146) (w_fi ws (n_v vs 0) 147) (w_ei ws (w_ar ws (n_v vs 0) 143)) (w_ei ws (w_ar ws (n_v vs 0) 140)) (w_ei ws (w_ar ws (n_v vs 0) 141)) (w_ei ws (w_ar ws (n_v vs 0) 142)) (v_iv (n_v vs 3)) (v_iv (n_v vs 2))
      exact vc_Mo_backFrom_16_0 (v_iv (n_v vs 1)) (v_iv (n_v vs 2)) (v_iv (n_v vs 3)) (v_iv (n_v vs 5)) (v_iv (n_v vs 6)) (v_iv (n_v vs 8)) (v_iv (n_v vs 11)) (w_ei ws (w_ar ws (n_v vs 0) 143)) (w_ei ws (w_ar ws (n_v vs 0) 140)) (w_ei ws (w_ar ws (n_v vs 0) 141)) (w_ei ws (w_ar ws (n_v vs 0) 142)) (w_fi ws (n_v vs 0) 146) (w_fi ws (n_v vs 0) 147) k1 k2 k3 k5 k6 k8 k11 d0 d1 d2 d3 d4 f0 f1 f2 f3 f4 f5 hK_0_140 hK_0_141 hK_0_142 hK_0_143 kz_0_146 kz_0_147
  refine ⟨(fun _ h => (by cases h)), [], trivial, ?_, (fun _ h => (by cases h))⟩
  rw [List.append_nil]
  exact List.forall_mem_cons.mpr ⟨⟨show (20 : Nat) < 100 from by decide, nf0⟩, (fun _ h => (by cases h))⟩
set_option maxHeartbeats 4000000 in
theorem vc_Mo_backFrom_17_0 (x1 : Int) (x2 : Int) (x3 : Int) (x5 : Int) (x6 : Int) (x8 : Int) (x11 : Int) (x12 : Int) (x13 : Int) (x14 : Int) (x15 : Int) (x16 : Int) (x17 : Int) (x18 : Int) (barredPoint_0 : Int → Int) (costOf_0 : Int → Int) (bucket_0 : Int → Int) (bucketMany_0 : Int → Int) (wide_0 : Int) (tall_0 : Int) (gx : Int) (gy : Int) (gu : Int) (k1 : 0 ≤ x1 ∧ x1 ≤ 23999) (k2 : 0 ≤ x2 ∧ x2 ≤ 1000000) (k3 : 0 ≤ x3 ∧ x3 ≤ 5999) (k5 : 0 ≤ x5 ∧ x5 ≤ 23999) (k6 : 0 ≤ x6 ∧ x6 ≤ 1000000) (k8 : 0 ≤ x8 ∧ x8 ≤ 3) (k11 : 0 ≤ x11 ∧ x11 ≤ 5999) (k12 : 0 ≤ x12 ∧ x12 ≤ 3) (k13 : 4 ≤ x13 ∧ x13 ≤ 4) (k14 : 4 ≤ x14 ∧ x14 ≤ 4) (k15 : 0 ≤ x15 ∧ x15 ≤ 23996) (k16 : 0 ≤ x16 ∧ x16 ≤ 23999) (k17 : 3 ≤ x17 ∧ x17 ≤ 3) (k18 : 3 ≤ x18 ∧ x18 ≤ 1000003) (d0 : x6 + 3 ≤ x18 ∧ x18 ≤ x6 + 3) (d1 : x2 + (-4294967296) ≤ x18 ∧ x18 ≤ x2 + 3) (d2 : x12 + 0 ≤ x16 ∧ x16 ≤ x12 + 23996) (d3 : x15 + 0 ≤ x16 ∧ x16 ≤ x15 + 3) (d4 : x5 + (-4294967296) ≤ x1 ∧ x1 ≤ x5 + 0) (d5 : x6 + (-4294967296) ≤ x2 ∧ x2 ≤ x6 + 0) (d6 : x1 + (-4294967296) ≤ x5 ∧ x5 ≤ x1 + 0) (d7 : x2 + (-4294967296) ≤ x6 ∧ x6 ≤ x2 + 0) (d8 : x11 + (-4294967296) ≤ x8 ∧ x8 ≤ x11 + 2) (f0 : x18 = x2 + x17) (f1 : x12 ≠ x8) (f2 : x16 = x15 + x12) (f3 : x15 = 4 * x11) (f4 : x12 < x13) (f5 : RTQ (wide_0) (tall_0) (barredPoint_0) (costOf_0) (bucket_0) (bucketMany_0) (x3) (x2)) (f6 : PIV (costOf_0) (x1) (x2)) (f7 : BFP (wide_0) (tall_0) (barredPoint_0) (x1) (x11)) (f8 : x8 = (x1 % 4)) (f9 : (0 ≤ x2) ∧ (x2 ≤ 999999)) (f10 : (0 ≤ x11) ∧ ((x11 + 1) ≤ (wide_0 * tall_0))) (hK_0_140 : ∀ j : Int, 0 ≤ j → j < 24000 → 0 ≤ costOf_0 j ∧ costOf_0 j ≤ 1000000) (hK_0_141 : ∀ j : Int, 0 ≤ j → j < 96040 → 0 ≤ bucket_0 j ∧ bucket_0 j ≤ 23999) (hK_0_142 : ∀ j : Int, 0 ≤ j → j < 4 → 0 ≤ bucketMany_0 j ∧ bucketMany_0 j ≤ 24009) (hK_0_143 : ∀ j : Int, 0 ≤ j → j < 6000 → 0 ≤ barredPoint_0 j ∧ barredPoint_0 j ≤ 1) (kz_0_146 : (-2147483648) ≤ wide_0 ∧ wide_0 ≤ 2147483647) (kz_0_147 : (-2147483648) ≤ tall_0 ∧ tall_0 ≤ 2147483647) (ex2 : gx = x3) (ex3 : 0 ≤ gx ∧ gx ≤ 5999) (ey2 : gy = x2) (ey3 : 0 ≤ gy ∧ gy ≤ 1000008) (eu2 : gu = x1) (eu3 : 0 ≤ gu ∧ gu ≤ 23999) : 1 * gx + ((-1) * x3 + 0) ≤ 0 := by
  first
    | omega
    | (have g := gok_bd (show GRX wide_0 tall_0 from ‹RTQ _ _ _ _ _ _ _ _›.1); omega)
    | (have g0 : GRX wide_0 tall_0 := ‹RTQ _ _ _ _ _ _ _ _›.1
       have g := gok_bd g0
       have e8 : x8 = wide_0 := by assumption
       have e20 : x20 = tall_0 := by assumption
       have c := cell_ix (W := x8) (T := x20) (x := x11) (y := x14) (p := x25) (by omega) (by omega) (by omega) (by omega) (by omega) (by rw [‹x25 = x24 + x11›, ‹x24 = x14 * x8›])
       have g3 := g0.2.2
       rw [e8, e20] at c
       omega)
    | (have h := ‹BFP _ _ _ _ _›.2.2.1; omega)
    | sorry
set_option maxHeartbeats 4000000 in
theorem vc_Mo_backFrom_17_1 (x1 : Int) (x2 : Int) (x3 : Int) (x5 : Int) (x6 : Int) (x8 : Int) (x11 : Int) (x12 : Int) (x13 : Int) (x14 : Int) (x15 : Int) (x16 : Int) (x17 : Int) (x18 : Int) (barredPoint_0 : Int → Int) (costOf_0 : Int → Int) (bucket_0 : Int → Int) (bucketMany_0 : Int → Int) (wide_0 : Int) (tall_0 : Int) (gx : Int) (gy : Int) (gu : Int) (k1 : 0 ≤ x1 ∧ x1 ≤ 23999) (k2 : 0 ≤ x2 ∧ x2 ≤ 1000000) (k3 : 0 ≤ x3 ∧ x3 ≤ 5999) (k5 : 0 ≤ x5 ∧ x5 ≤ 23999) (k6 : 0 ≤ x6 ∧ x6 ≤ 1000000) (k8 : 0 ≤ x8 ∧ x8 ≤ 3) (k11 : 0 ≤ x11 ∧ x11 ≤ 5999) (k12 : 0 ≤ x12 ∧ x12 ≤ 3) (k13 : 4 ≤ x13 ∧ x13 ≤ 4) (k14 : 4 ≤ x14 ∧ x14 ≤ 4) (k15 : 0 ≤ x15 ∧ x15 ≤ 23996) (k16 : 0 ≤ x16 ∧ x16 ≤ 23999) (k17 : 3 ≤ x17 ∧ x17 ≤ 3) (k18 : 3 ≤ x18 ∧ x18 ≤ 1000003) (d0 : x6 + 3 ≤ x18 ∧ x18 ≤ x6 + 3) (d1 : x2 + (-4294967296) ≤ x18 ∧ x18 ≤ x2 + 3) (d2 : x12 + 0 ≤ x16 ∧ x16 ≤ x12 + 23996) (d3 : x15 + 0 ≤ x16 ∧ x16 ≤ x15 + 3) (d4 : x5 + (-4294967296) ≤ x1 ∧ x1 ≤ x5 + 0) (d5 : x6 + (-4294967296) ≤ x2 ∧ x2 ≤ x6 + 0) (d6 : x1 + (-4294967296) ≤ x5 ∧ x5 ≤ x1 + 0) (d7 : x2 + (-4294967296) ≤ x6 ∧ x6 ≤ x2 + 0) (d8 : x11 + (-4294967296) ≤ x8 ∧ x8 ≤ x11 + 2) (f0 : x18 = x2 + x17) (f1 : x12 ≠ x8) (f2 : x16 = x15 + x12) (f3 : x15 = 4 * x11) (f4 : x12 < x13) (f5 : RTQ (wide_0) (tall_0) (barredPoint_0) (costOf_0) (bucket_0) (bucketMany_0) (x3) (x2)) (f6 : PIV (costOf_0) (x1) (x2)) (f7 : BFP (wide_0) (tall_0) (barredPoint_0) (x1) (x11)) (f8 : x8 = (x1 % 4)) (f9 : (0 ≤ x2) ∧ (x2 ≤ 999999)) (f10 : (0 ≤ x11) ∧ ((x11 + 1) ≤ (wide_0 * tall_0))) (hK_0_140 : ∀ j : Int, 0 ≤ j → j < 24000 → 0 ≤ costOf_0 j ∧ costOf_0 j ≤ 1000000) (hK_0_141 : ∀ j : Int, 0 ≤ j → j < 96040 → 0 ≤ bucket_0 j ∧ bucket_0 j ≤ 23999) (hK_0_142 : ∀ j : Int, 0 ≤ j → j < 4 → 0 ≤ bucketMany_0 j ∧ bucketMany_0 j ≤ 24009) (hK_0_143 : ∀ j : Int, 0 ≤ j → j < 6000 → 0 ≤ barredPoint_0 j ∧ barredPoint_0 j ≤ 1) (kz_0_146 : (-2147483648) ≤ wide_0 ∧ wide_0 ≤ 2147483647) (kz_0_147 : (-2147483648) ≤ tall_0 ∧ tall_0 ≤ 2147483647) (ex2 : gx = x3) (ex3 : 0 ≤ gx ∧ gx ≤ 5999) (ey2 : gy = x2) (ey3 : 0 ≤ gy ∧ gy ≤ 1000008) (eu2 : gu = x1) (eu3 : 0 ≤ gu ∧ gu ≤ 23999) : (-1) * gx + (1 * x3 + 0) ≤ 0 := by
  first
    | omega
    | (have g := gok_bd (show GRX wide_0 tall_0 from ‹RTQ _ _ _ _ _ _ _ _›.1); omega)
    | (have g0 : GRX wide_0 tall_0 := ‹RTQ _ _ _ _ _ _ _ _›.1
       have g := gok_bd g0
       have e8 : x8 = wide_0 := by assumption
       have e20 : x20 = tall_0 := by assumption
       have c := cell_ix (W := x8) (T := x20) (x := x11) (y := x14) (p := x25) (by omega) (by omega) (by omega) (by omega) (by omega) (by rw [‹x25 = x24 + x11›, ‹x24 = x14 * x8›])
       have g3 := g0.2.2
       rw [e8, e20] at c
       omega)
    | (have h := ‹BFP _ _ _ _ _›.2.2.1; omega)
    | sorry
set_option maxHeartbeats 4000000 in
theorem vc_Mo_backFrom_17_2 (x1 : Int) (x2 : Int) (x3 : Int) (x5 : Int) (x6 : Int) (x8 : Int) (x11 : Int) (x12 : Int) (x13 : Int) (x14 : Int) (x15 : Int) (x16 : Int) (x17 : Int) (x18 : Int) (barredPoint_0 : Int → Int) (costOf_0 : Int → Int) (bucket_0 : Int → Int) (bucketMany_0 : Int → Int) (wide_0 : Int) (tall_0 : Int) (gx : Int) (gy : Int) (gu : Int) (k1 : 0 ≤ x1 ∧ x1 ≤ 23999) (k2 : 0 ≤ x2 ∧ x2 ≤ 1000000) (k3 : 0 ≤ x3 ∧ x3 ≤ 5999) (k5 : 0 ≤ x5 ∧ x5 ≤ 23999) (k6 : 0 ≤ x6 ∧ x6 ≤ 1000000) (k8 : 0 ≤ x8 ∧ x8 ≤ 3) (k11 : 0 ≤ x11 ∧ x11 ≤ 5999) (k12 : 0 ≤ x12 ∧ x12 ≤ 3) (k13 : 4 ≤ x13 ∧ x13 ≤ 4) (k14 : 4 ≤ x14 ∧ x14 ≤ 4) (k15 : 0 ≤ x15 ∧ x15 ≤ 23996) (k16 : 0 ≤ x16 ∧ x16 ≤ 23999) (k17 : 3 ≤ x17 ∧ x17 ≤ 3) (k18 : 3 ≤ x18 ∧ x18 ≤ 1000003) (d0 : x6 + 3 ≤ x18 ∧ x18 ≤ x6 + 3) (d1 : x2 + (-4294967296) ≤ x18 ∧ x18 ≤ x2 + 3) (d2 : x12 + 0 ≤ x16 ∧ x16 ≤ x12 + 23996) (d3 : x15 + 0 ≤ x16 ∧ x16 ≤ x15 + 3) (d4 : x5 + (-4294967296) ≤ x1 ∧ x1 ≤ x5 + 0) (d5 : x6 + (-4294967296) ≤ x2 ∧ x2 ≤ x6 + 0) (d6 : x1 + (-4294967296) ≤ x5 ∧ x5 ≤ x1 + 0) (d7 : x2 + (-4294967296) ≤ x6 ∧ x6 ≤ x2 + 0) (d8 : x11 + (-4294967296) ≤ x8 ∧ x8 ≤ x11 + 2) (f0 : x18 = x2 + x17) (f1 : x12 ≠ x8) (f2 : x16 = x15 + x12) (f3 : x15 = 4 * x11) (f4 : x12 < x13) (f5 : RTQ (wide_0) (tall_0) (barredPoint_0) (costOf_0) (bucket_0) (bucketMany_0) (x3) (x2)) (f6 : PIV (costOf_0) (x1) (x2)) (f7 : BFP (wide_0) (tall_0) (barredPoint_0) (x1) (x11)) (f8 : x8 = (x1 % 4)) (f9 : (0 ≤ x2) ∧ (x2 ≤ 999999)) (f10 : (0 ≤ x11) ∧ ((x11 + 1) ≤ (wide_0 * tall_0))) (hK_0_140 : ∀ j : Int, 0 ≤ j → j < 24000 → 0 ≤ costOf_0 j ∧ costOf_0 j ≤ 1000000) (hK_0_141 : ∀ j : Int, 0 ≤ j → j < 96040 → 0 ≤ bucket_0 j ∧ bucket_0 j ≤ 23999) (hK_0_142 : ∀ j : Int, 0 ≤ j → j < 4 → 0 ≤ bucketMany_0 j ∧ bucketMany_0 j ≤ 24009) (hK_0_143 : ∀ j : Int, 0 ≤ j → j < 6000 → 0 ≤ barredPoint_0 j ∧ barredPoint_0 j ≤ 1) (kz_0_146 : (-2147483648) ≤ wide_0 ∧ wide_0 ≤ 2147483647) (kz_0_147 : (-2147483648) ≤ tall_0 ∧ tall_0 ≤ 2147483647) (ex2 : gx = x3) (ex3 : 0 ≤ gx ∧ gx ≤ 5999) (ey2 : gy = x2) (ey3 : 0 ≤ gy ∧ gy ≤ 1000008) (eu2 : gu = x1) (eu3 : 0 ≤ gu ∧ gu ≤ 23999) : 1 * gy + ((-1) * x2 + 0) ≤ 0 := by
  first
    | omega
    | (have g := gok_bd (show GRX wide_0 tall_0 from ‹RTQ _ _ _ _ _ _ _ _›.1); omega)
    | (have g0 : GRX wide_0 tall_0 := ‹RTQ _ _ _ _ _ _ _ _›.1
       have g := gok_bd g0
       have e8 : x8 = wide_0 := by assumption
       have e20 : x20 = tall_0 := by assumption
       have c := cell_ix (W := x8) (T := x20) (x := x11) (y := x14) (p := x25) (by omega) (by omega) (by omega) (by omega) (by omega) (by rw [‹x25 = x24 + x11›, ‹x24 = x14 * x8›])
       have g3 := g0.2.2
       rw [e8, e20] at c
       omega)
    | (have h := ‹BFP _ _ _ _ _›.2.2.1; omega)
    | sorry
set_option maxHeartbeats 4000000 in
theorem vc_Mo_backFrom_17_3 (x1 : Int) (x2 : Int) (x3 : Int) (x5 : Int) (x6 : Int) (x8 : Int) (x11 : Int) (x12 : Int) (x13 : Int) (x14 : Int) (x15 : Int) (x16 : Int) (x17 : Int) (x18 : Int) (barredPoint_0 : Int → Int) (costOf_0 : Int → Int) (bucket_0 : Int → Int) (bucketMany_0 : Int → Int) (wide_0 : Int) (tall_0 : Int) (gx : Int) (gy : Int) (gu : Int) (k1 : 0 ≤ x1 ∧ x1 ≤ 23999) (k2 : 0 ≤ x2 ∧ x2 ≤ 1000000) (k3 : 0 ≤ x3 ∧ x3 ≤ 5999) (k5 : 0 ≤ x5 ∧ x5 ≤ 23999) (k6 : 0 ≤ x6 ∧ x6 ≤ 1000000) (k8 : 0 ≤ x8 ∧ x8 ≤ 3) (k11 : 0 ≤ x11 ∧ x11 ≤ 5999) (k12 : 0 ≤ x12 ∧ x12 ≤ 3) (k13 : 4 ≤ x13 ∧ x13 ≤ 4) (k14 : 4 ≤ x14 ∧ x14 ≤ 4) (k15 : 0 ≤ x15 ∧ x15 ≤ 23996) (k16 : 0 ≤ x16 ∧ x16 ≤ 23999) (k17 : 3 ≤ x17 ∧ x17 ≤ 3) (k18 : 3 ≤ x18 ∧ x18 ≤ 1000003) (d0 : x6 + 3 ≤ x18 ∧ x18 ≤ x6 + 3) (d1 : x2 + (-4294967296) ≤ x18 ∧ x18 ≤ x2 + 3) (d2 : x12 + 0 ≤ x16 ∧ x16 ≤ x12 + 23996) (d3 : x15 + 0 ≤ x16 ∧ x16 ≤ x15 + 3) (d4 : x5 + (-4294967296) ≤ x1 ∧ x1 ≤ x5 + 0) (d5 : x6 + (-4294967296) ≤ x2 ∧ x2 ≤ x6 + 0) (d6 : x1 + (-4294967296) ≤ x5 ∧ x5 ≤ x1 + 0) (d7 : x2 + (-4294967296) ≤ x6 ∧ x6 ≤ x2 + 0) (d8 : x11 + (-4294967296) ≤ x8 ∧ x8 ≤ x11 + 2) (f0 : x18 = x2 + x17) (f1 : x12 ≠ x8) (f2 : x16 = x15 + x12) (f3 : x15 = 4 * x11) (f4 : x12 < x13) (f5 : RTQ (wide_0) (tall_0) (barredPoint_0) (costOf_0) (bucket_0) (bucketMany_0) (x3) (x2)) (f6 : PIV (costOf_0) (x1) (x2)) (f7 : BFP (wide_0) (tall_0) (barredPoint_0) (x1) (x11)) (f8 : x8 = (x1 % 4)) (f9 : (0 ≤ x2) ∧ (x2 ≤ 999999)) (f10 : (0 ≤ x11) ∧ ((x11 + 1) ≤ (wide_0 * tall_0))) (hK_0_140 : ∀ j : Int, 0 ≤ j → j < 24000 → 0 ≤ costOf_0 j ∧ costOf_0 j ≤ 1000000) (hK_0_141 : ∀ j : Int, 0 ≤ j → j < 96040 → 0 ≤ bucket_0 j ∧ bucket_0 j ≤ 23999) (hK_0_142 : ∀ j : Int, 0 ≤ j → j < 4 → 0 ≤ bucketMany_0 j ∧ bucketMany_0 j ≤ 24009) (hK_0_143 : ∀ j : Int, 0 ≤ j → j < 6000 → 0 ≤ barredPoint_0 j ∧ barredPoint_0 j ≤ 1) (kz_0_146 : (-2147483648) ≤ wide_0 ∧ wide_0 ≤ 2147483647) (kz_0_147 : (-2147483648) ≤ tall_0 ∧ tall_0 ≤ 2147483647) (ex2 : gx = x3) (ex3 : 0 ≤ gx ∧ gx ≤ 5999) (ey2 : gy = x2) (ey3 : 0 ≤ gy ∧ gy ≤ 1000008) (eu2 : gu = x1) (eu3 : 0 ≤ gu ∧ gu ≤ 23999) : (-1) * gy + (1 * x2 + 0) ≤ 0 := by
  first
    | omega
    | (have g := gok_bd (show GRX wide_0 tall_0 from ‹RTQ _ _ _ _ _ _ _ _›.1); omega)
    | (have g0 : GRX wide_0 tall_0 := ‹RTQ _ _ _ _ _ _ _ _›.1
       have g := gok_bd g0
       have e8 : x8 = wide_0 := by assumption
       have e20 : x20 = tall_0 := by assumption
       have c := cell_ix (W := x8) (T := x20) (x := x11) (y := x14) (p := x25) (by omega) (by omega) (by omega) (by omega) (by omega) (by rw [‹x25 = x24 + x11›, ‹x24 = x14 * x8›])
       have g3 := g0.2.2
       rw [e8, e20] at c
       omega)
    | (have h := ‹BFP _ _ _ _ _›.2.2.1; omega)
    | sorry
set_option maxHeartbeats 4000000 in
theorem vc_Mo_backFrom_17_4 (x1 : Int) (x2 : Int) (x3 : Int) (x5 : Int) (x6 : Int) (x8 : Int) (x11 : Int) (x12 : Int) (x13 : Int) (x14 : Int) (x15 : Int) (x16 : Int) (x17 : Int) (x18 : Int) (barredPoint_0 : Int → Int) (costOf_0 : Int → Int) (bucket_0 : Int → Int) (bucketMany_0 : Int → Int) (wide_0 : Int) (tall_0 : Int) (gx : Int) (gy : Int) (gu : Int) (k1 : 0 ≤ x1 ∧ x1 ≤ 23999) (k2 : 0 ≤ x2 ∧ x2 ≤ 1000000) (k3 : 0 ≤ x3 ∧ x3 ≤ 5999) (k5 : 0 ≤ x5 ∧ x5 ≤ 23999) (k6 : 0 ≤ x6 ∧ x6 ≤ 1000000) (k8 : 0 ≤ x8 ∧ x8 ≤ 3) (k11 : 0 ≤ x11 ∧ x11 ≤ 5999) (k12 : 0 ≤ x12 ∧ x12 ≤ 3) (k13 : 4 ≤ x13 ∧ x13 ≤ 4) (k14 : 4 ≤ x14 ∧ x14 ≤ 4) (k15 : 0 ≤ x15 ∧ x15 ≤ 23996) (k16 : 0 ≤ x16 ∧ x16 ≤ 23999) (k17 : 3 ≤ x17 ∧ x17 ≤ 3) (k18 : 3 ≤ x18 ∧ x18 ≤ 1000003) (d0 : x6 + 3 ≤ x18 ∧ x18 ≤ x6 + 3) (d1 : x2 + (-4294967296) ≤ x18 ∧ x18 ≤ x2 + 3) (d2 : x12 + 0 ≤ x16 ∧ x16 ≤ x12 + 23996) (d3 : x15 + 0 ≤ x16 ∧ x16 ≤ x15 + 3) (d4 : x5 + (-4294967296) ≤ x1 ∧ x1 ≤ x5 + 0) (d5 : x6 + (-4294967296) ≤ x2 ∧ x2 ≤ x6 + 0) (d6 : x1 + (-4294967296) ≤ x5 ∧ x5 ≤ x1 + 0) (d7 : x2 + (-4294967296) ≤ x6 ∧ x6 ≤ x2 + 0) (d8 : x11 + (-4294967296) ≤ x8 ∧ x8 ≤ x11 + 2) (f0 : x18 = x2 + x17) (f1 : x12 ≠ x8) (f2 : x16 = x15 + x12) (f3 : x15 = 4 * x11) (f4 : x12 < x13) (f5 : RTQ (wide_0) (tall_0) (barredPoint_0) (costOf_0) (bucket_0) (bucketMany_0) (x3) (x2)) (f6 : PIV (costOf_0) (x1) (x2)) (f7 : BFP (wide_0) (tall_0) (barredPoint_0) (x1) (x11)) (f8 : x8 = (x1 % 4)) (f9 : (0 ≤ x2) ∧ (x2 ≤ 999999)) (f10 : (0 ≤ x11) ∧ ((x11 + 1) ≤ (wide_0 * tall_0))) (hK_0_140 : ∀ j : Int, 0 ≤ j → j < 24000 → 0 ≤ costOf_0 j ∧ costOf_0 j ≤ 1000000) (hK_0_141 : ∀ j : Int, 0 ≤ j → j < 96040 → 0 ≤ bucket_0 j ∧ bucket_0 j ≤ 23999) (hK_0_142 : ∀ j : Int, 0 ≤ j → j < 4 → 0 ≤ bucketMany_0 j ∧ bucketMany_0 j ≤ 24009) (hK_0_143 : ∀ j : Int, 0 ≤ j → j < 6000 → 0 ≤ barredPoint_0 j ∧ barredPoint_0 j ≤ 1) (kz_0_146 : (-2147483648) ≤ wide_0 ∧ wide_0 ≤ 2147483647) (kz_0_147 : (-2147483648) ≤ tall_0 ∧ tall_0 ≤ 2147483647) (ex2 : gx = x3) (ex3 : 0 ≤ gx ∧ gx ≤ 5999) (ey2 : gy = x2) (ey3 : 0 ≤ gy ∧ gy ≤ 1000008) (eu2 : gu = x1) (eu3 : 0 ≤ gu ∧ gu ≤ 23999) : 1 * gu + ((-1) * x1 + 0) ≤ 0 := by
  first
    | omega
    | (have g := gok_bd (show GRX wide_0 tall_0 from ‹RTQ _ _ _ _ _ _ _ _›.1); omega)
    | (have g0 : GRX wide_0 tall_0 := ‹RTQ _ _ _ _ _ _ _ _›.1
       have g := gok_bd g0
       have e8 : x8 = wide_0 := by assumption
       have e20 : x20 = tall_0 := by assumption
       have c := cell_ix (W := x8) (T := x20) (x := x11) (y := x14) (p := x25) (by omega) (by omega) (by omega) (by omega) (by omega) (by rw [‹x25 = x24 + x11›, ‹x24 = x14 * x8›])
       have g3 := g0.2.2
       rw [e8, e20] at c
       omega)
    | (have h := ‹BFP _ _ _ _ _›.2.2.1; omega)
    | sorry
set_option maxHeartbeats 4000000 in
theorem vc_Mo_backFrom_17_5 (x1 : Int) (x2 : Int) (x3 : Int) (x5 : Int) (x6 : Int) (x8 : Int) (x11 : Int) (x12 : Int) (x13 : Int) (x14 : Int) (x15 : Int) (x16 : Int) (x17 : Int) (x18 : Int) (barredPoint_0 : Int → Int) (costOf_0 : Int → Int) (bucket_0 : Int → Int) (bucketMany_0 : Int → Int) (wide_0 : Int) (tall_0 : Int) (gx : Int) (gy : Int) (gu : Int) (k1 : 0 ≤ x1 ∧ x1 ≤ 23999) (k2 : 0 ≤ x2 ∧ x2 ≤ 1000000) (k3 : 0 ≤ x3 ∧ x3 ≤ 5999) (k5 : 0 ≤ x5 ∧ x5 ≤ 23999) (k6 : 0 ≤ x6 ∧ x6 ≤ 1000000) (k8 : 0 ≤ x8 ∧ x8 ≤ 3) (k11 : 0 ≤ x11 ∧ x11 ≤ 5999) (k12 : 0 ≤ x12 ∧ x12 ≤ 3) (k13 : 4 ≤ x13 ∧ x13 ≤ 4) (k14 : 4 ≤ x14 ∧ x14 ≤ 4) (k15 : 0 ≤ x15 ∧ x15 ≤ 23996) (k16 : 0 ≤ x16 ∧ x16 ≤ 23999) (k17 : 3 ≤ x17 ∧ x17 ≤ 3) (k18 : 3 ≤ x18 ∧ x18 ≤ 1000003) (d0 : x6 + 3 ≤ x18 ∧ x18 ≤ x6 + 3) (d1 : x2 + (-4294967296) ≤ x18 ∧ x18 ≤ x2 + 3) (d2 : x12 + 0 ≤ x16 ∧ x16 ≤ x12 + 23996) (d3 : x15 + 0 ≤ x16 ∧ x16 ≤ x15 + 3) (d4 : x5 + (-4294967296) ≤ x1 ∧ x1 ≤ x5 + 0) (d5 : x6 + (-4294967296) ≤ x2 ∧ x2 ≤ x6 + 0) (d6 : x1 + (-4294967296) ≤ x5 ∧ x5 ≤ x1 + 0) (d7 : x2 + (-4294967296) ≤ x6 ∧ x6 ≤ x2 + 0) (d8 : x11 + (-4294967296) ≤ x8 ∧ x8 ≤ x11 + 2) (f0 : x18 = x2 + x17) (f1 : x12 ≠ x8) (f2 : x16 = x15 + x12) (f3 : x15 = 4 * x11) (f4 : x12 < x13) (f5 : RTQ (wide_0) (tall_0) (barredPoint_0) (costOf_0) (bucket_0) (bucketMany_0) (x3) (x2)) (f6 : PIV (costOf_0) (x1) (x2)) (f7 : BFP (wide_0) (tall_0) (barredPoint_0) (x1) (x11)) (f8 : x8 = (x1 % 4)) (f9 : (0 ≤ x2) ∧ (x2 ≤ 999999)) (f10 : (0 ≤ x11) ∧ ((x11 + 1) ≤ (wide_0 * tall_0))) (hK_0_140 : ∀ j : Int, 0 ≤ j → j < 24000 → 0 ≤ costOf_0 j ∧ costOf_0 j ≤ 1000000) (hK_0_141 : ∀ j : Int, 0 ≤ j → j < 96040 → 0 ≤ bucket_0 j ∧ bucket_0 j ≤ 23999) (hK_0_142 : ∀ j : Int, 0 ≤ j → j < 4 → 0 ≤ bucketMany_0 j ∧ bucketMany_0 j ≤ 24009) (hK_0_143 : ∀ j : Int, 0 ≤ j → j < 6000 → 0 ≤ barredPoint_0 j ∧ barredPoint_0 j ≤ 1) (kz_0_146 : (-2147483648) ≤ wide_0 ∧ wide_0 ≤ 2147483647) (kz_0_147 : (-2147483648) ≤ tall_0 ∧ tall_0 ≤ 2147483647) (ex2 : gx = x3) (ex3 : 0 ≤ gx ∧ gx ≤ 5999) (ey2 : gy = x2) (ey3 : 0 ≤ gy ∧ gy ≤ 1000008) (eu2 : gu = x1) (eu3 : 0 ≤ gu ∧ gu ≤ 23999) : (-1) * gu + (1 * x1 + 0) ≤ 0 := by
  first
    | omega
    | (have g := gok_bd (show GRX wide_0 tall_0 from ‹RTQ _ _ _ _ _ _ _ _›.1); omega)
    | (have g0 : GRX wide_0 tall_0 := ‹RTQ _ _ _ _ _ _ _ _›.1
       have g := gok_bd g0
       have e8 : x8 = wide_0 := by assumption
       have e20 : x20 = tall_0 := by assumption
       have c := cell_ix (W := x8) (T := x20) (x := x11) (y := x14) (p := x25) (by omega) (by omega) (by omega) (by omega) (by omega) (by rw [‹x25 = x24 + x11›, ‹x24 = x14 * x8›])
       have g3 := g0.2.2
       rw [e8, e20] at c
       omega)
    | (have h := ‹BFP _ _ _ _ _›.2.2.1; omega)
    | sorry
set_option maxHeartbeats 4000000 in
theorem vc_Mo_backFrom_17_6 (x1 : Int) (x2 : Int) (x3 : Int) (x5 : Int) (x6 : Int) (x8 : Int) (x11 : Int) (x12 : Int) (x13 : Int) (x14 : Int) (x15 : Int) (x16 : Int) (x17 : Int) (x18 : Int) (barredPoint_0 : Int → Int) (costOf_0 : Int → Int) (bucket_0 : Int → Int) (bucketMany_0 : Int → Int) (wide_0 : Int) (tall_0 : Int) (gx : Int) (gy : Int) (gu : Int) (k1 : 0 ≤ x1 ∧ x1 ≤ 23999) (k2 : 0 ≤ x2 ∧ x2 ≤ 1000000) (k3 : 0 ≤ x3 ∧ x3 ≤ 5999) (k5 : 0 ≤ x5 ∧ x5 ≤ 23999) (k6 : 0 ≤ x6 ∧ x6 ≤ 1000000) (k8 : 0 ≤ x8 ∧ x8 ≤ 3) (k11 : 0 ≤ x11 ∧ x11 ≤ 5999) (k12 : 0 ≤ x12 ∧ x12 ≤ 3) (k13 : 4 ≤ x13 ∧ x13 ≤ 4) (k14 : 4 ≤ x14 ∧ x14 ≤ 4) (k15 : 0 ≤ x15 ∧ x15 ≤ 23996) (k16 : 0 ≤ x16 ∧ x16 ≤ 23999) (k17 : 3 ≤ x17 ∧ x17 ≤ 3) (k18 : 3 ≤ x18 ∧ x18 ≤ 1000003) (d0 : x6 + 3 ≤ x18 ∧ x18 ≤ x6 + 3) (d1 : x2 + (-4294967296) ≤ x18 ∧ x18 ≤ x2 + 3) (d2 : x12 + 0 ≤ x16 ∧ x16 ≤ x12 + 23996) (d3 : x15 + 0 ≤ x16 ∧ x16 ≤ x15 + 3) (d4 : x5 + (-4294967296) ≤ x1 ∧ x1 ≤ x5 + 0) (d5 : x6 + (-4294967296) ≤ x2 ∧ x2 ≤ x6 + 0) (d6 : x1 + (-4294967296) ≤ x5 ∧ x5 ≤ x1 + 0) (d7 : x2 + (-4294967296) ≤ x6 ∧ x6 ≤ x2 + 0) (d8 : x11 + (-4294967296) ≤ x8 ∧ x8 ≤ x11 + 2) (f0 : x18 = x2 + x17) (f1 : x12 ≠ x8) (f2 : x16 = x15 + x12) (f3 : x15 = 4 * x11) (f4 : x12 < x13) (f5 : RTQ (wide_0) (tall_0) (barredPoint_0) (costOf_0) (bucket_0) (bucketMany_0) (x3) (x2)) (f6 : PIV (costOf_0) (x1) (x2)) (f7 : BFP (wide_0) (tall_0) (barredPoint_0) (x1) (x11)) (f8 : x8 = (x1 % 4)) (f9 : (0 ≤ x2) ∧ (x2 ≤ 999999)) (f10 : (0 ≤ x11) ∧ ((x11 + 1) ≤ (wide_0 * tall_0))) (hK_0_140 : ∀ j : Int, 0 ≤ j → j < 24000 → 0 ≤ costOf_0 j ∧ costOf_0 j ≤ 1000000) (hK_0_141 : ∀ j : Int, 0 ≤ j → j < 96040 → 0 ≤ bucket_0 j ∧ bucket_0 j ≤ 23999) (hK_0_142 : ∀ j : Int, 0 ≤ j → j < 4 → 0 ≤ bucketMany_0 j ∧ bucketMany_0 j ≤ 24009) (hK_0_143 : ∀ j : Int, 0 ≤ j → j < 6000 → 0 ≤ barredPoint_0 j ∧ barredPoint_0 j ≤ 1) (kz_0_146 : (-2147483648) ≤ wide_0 ∧ wide_0 ≤ 2147483647) (kz_0_147 : (-2147483648) ≤ tall_0 ∧ tall_0 ≤ 2147483647) (ex2 : gx = x3) (ex3 : 0 ≤ gx ∧ gx ≤ 5999) (ey2 : gy = x2) (ey3 : 0 ≤ gy ∧ gy ≤ 1000008) (eu2 : gu = x1) (eu3 : 0 ≤ gu ∧ gu ≤ 23999) : RTQ (wide_0) (tall_0) (barredPoint_0) (costOf_0) (bucket_0) (bucketMany_0) (gx) (gy) := by
  first
    | assumption
    | (rw [ex2, ey2]; assumption)
set_option maxHeartbeats 4000000 in
theorem vc_Mo_backFrom_17_7 (x1 : Int) (x2 : Int) (x3 : Int) (x5 : Int) (x6 : Int) (x8 : Int) (x11 : Int) (x12 : Int) (x13 : Int) (x14 : Int) (x15 : Int) (x16 : Int) (x17 : Int) (x18 : Int) (barredPoint_0 : Int → Int) (costOf_0 : Int → Int) (bucket_0 : Int → Int) (bucketMany_0 : Int → Int) (wide_0 : Int) (tall_0 : Int) (gx : Int) (gy : Int) (gu : Int) (k1 : 0 ≤ x1 ∧ x1 ≤ 23999) (k2 : 0 ≤ x2 ∧ x2 ≤ 1000000) (k3 : 0 ≤ x3 ∧ x3 ≤ 5999) (k5 : 0 ≤ x5 ∧ x5 ≤ 23999) (k6 : 0 ≤ x6 ∧ x6 ≤ 1000000) (k8 : 0 ≤ x8 ∧ x8 ≤ 3) (k11 : 0 ≤ x11 ∧ x11 ≤ 5999) (k12 : 0 ≤ x12 ∧ x12 ≤ 3) (k13 : 4 ≤ x13 ∧ x13 ≤ 4) (k14 : 4 ≤ x14 ∧ x14 ≤ 4) (k15 : 0 ≤ x15 ∧ x15 ≤ 23996) (k16 : 0 ≤ x16 ∧ x16 ≤ 23999) (k17 : 3 ≤ x17 ∧ x17 ≤ 3) (k18 : 3 ≤ x18 ∧ x18 ≤ 1000003) (d0 : x6 + 3 ≤ x18 ∧ x18 ≤ x6 + 3) (d1 : x2 + (-4294967296) ≤ x18 ∧ x18 ≤ x2 + 3) (d2 : x12 + 0 ≤ x16 ∧ x16 ≤ x12 + 23996) (d3 : x15 + 0 ≤ x16 ∧ x16 ≤ x15 + 3) (d4 : x5 + (-4294967296) ≤ x1 ∧ x1 ≤ x5 + 0) (d5 : x6 + (-4294967296) ≤ x2 ∧ x2 ≤ x6 + 0) (d6 : x1 + (-4294967296) ≤ x5 ∧ x5 ≤ x1 + 0) (d7 : x2 + (-4294967296) ≤ x6 ∧ x6 ≤ x2 + 0) (d8 : x11 + (-4294967296) ≤ x8 ∧ x8 ≤ x11 + 2) (f0 : x18 = x2 + x17) (f1 : x12 ≠ x8) (f2 : x16 = x15 + x12) (f3 : x15 = 4 * x11) (f4 : x12 < x13) (f5 : RTQ (wide_0) (tall_0) (barredPoint_0) (costOf_0) (bucket_0) (bucketMany_0) (x3) (x2)) (f6 : PIV (costOf_0) (x1) (x2)) (f7 : BFP (wide_0) (tall_0) (barredPoint_0) (x1) (x11)) (f8 : x8 = (x1 % 4)) (f9 : (0 ≤ x2) ∧ (x2 ≤ 999999)) (f10 : (0 ≤ x11) ∧ ((x11 + 1) ≤ (wide_0 * tall_0))) (hK_0_140 : ∀ j : Int, 0 ≤ j → j < 24000 → 0 ≤ costOf_0 j ∧ costOf_0 j ≤ 1000000) (hK_0_141 : ∀ j : Int, 0 ≤ j → j < 96040 → 0 ≤ bucket_0 j ∧ bucket_0 j ≤ 23999) (hK_0_142 : ∀ j : Int, 0 ≤ j → j < 4 → 0 ≤ bucketMany_0 j ∧ bucketMany_0 j ≤ 24009) (hK_0_143 : ∀ j : Int, 0 ≤ j → j < 6000 → 0 ≤ barredPoint_0 j ∧ barredPoint_0 j ≤ 1) (kz_0_146 : (-2147483648) ≤ wide_0 ∧ wide_0 ≤ 2147483647) (kz_0_147 : (-2147483648) ≤ tall_0 ∧ tall_0 ≤ 2147483647) (ex2 : gx = x3) (ex3 : 0 ≤ gx ∧ gx ≤ 5999) (ey2 : gy = x2) (ey3 : 0 ≤ gy ∧ gy ≤ 1000008) (eu2 : gu = x1) (eu3 : 0 ≤ gu ∧ gu ≤ 23999) : RJB (wide_0) (tall_0) (barredPoint_0) (costOf_0) (gx) (gy) (x16) (x18) := by
  rw [ex2, ey2]
  exact rjb_b (p := x11) (f := x12) (d := x8) ‹BFP _ _ _ _ _› ‹PIV _ _ _› (by omega) (by omega) (by omega) (by omega) (by omega) (by omega)
set_option maxHeartbeats 4000000 in
theorem vc_Mo_backFrom_17_8 (x1 : Int) (x2 : Int) (x3 : Int) (x5 : Int) (x6 : Int) (x8 : Int) (x11 : Int) (x12 : Int) (x13 : Int) (x14 : Int) (x15 : Int) (x16 : Int) (x17 : Int) (x18 : Int) (barredPoint_0 : Int → Int) (costOf_0 : Int → Int) (bucket_0 : Int → Int) (bucketMany_0 : Int → Int) (wide_0 : Int) (tall_0 : Int) (gx : Int) (gy : Int) (gu : Int) (k1 : 0 ≤ x1 ∧ x1 ≤ 23999) (k2 : 0 ≤ x2 ∧ x2 ≤ 1000000) (k3 : 0 ≤ x3 ∧ x3 ≤ 5999) (k5 : 0 ≤ x5 ∧ x5 ≤ 23999) (k6 : 0 ≤ x6 ∧ x6 ≤ 1000000) (k8 : 0 ≤ x8 ∧ x8 ≤ 3) (k11 : 0 ≤ x11 ∧ x11 ≤ 5999) (k12 : 0 ≤ x12 ∧ x12 ≤ 3) (k13 : 4 ≤ x13 ∧ x13 ≤ 4) (k14 : 4 ≤ x14 ∧ x14 ≤ 4) (k15 : 0 ≤ x15 ∧ x15 ≤ 23996) (k16 : 0 ≤ x16 ∧ x16 ≤ 23999) (k17 : 3 ≤ x17 ∧ x17 ≤ 3) (k18 : 3 ≤ x18 ∧ x18 ≤ 1000003) (d0 : x6 + 3 ≤ x18 ∧ x18 ≤ x6 + 3) (d1 : x2 + (-4294967296) ≤ x18 ∧ x18 ≤ x2 + 3) (d2 : x12 + 0 ≤ x16 ∧ x16 ≤ x12 + 23996) (d3 : x15 + 0 ≤ x16 ∧ x16 ≤ x15 + 3) (d4 : x5 + (-4294967296) ≤ x1 ∧ x1 ≤ x5 + 0) (d5 : x6 + (-4294967296) ≤ x2 ∧ x2 ≤ x6 + 0) (d6 : x1 + (-4294967296) ≤ x5 ∧ x5 ≤ x1 + 0) (d7 : x2 + (-4294967296) ≤ x6 ∧ x6 ≤ x2 + 0) (d8 : x11 + (-4294967296) ≤ x8 ∧ x8 ≤ x11 + 2) (f0 : x18 = x2 + x17) (f1 : x12 ≠ x8) (f2 : x16 = x15 + x12) (f3 : x15 = 4 * x11) (f4 : x12 < x13) (f5 : RTQ (wide_0) (tall_0) (barredPoint_0) (costOf_0) (bucket_0) (bucketMany_0) (x3) (x2)) (f6 : PIV (costOf_0) (x1) (x2)) (f7 : BFP (wide_0) (tall_0) (barredPoint_0) (x1) (x11)) (f8 : x8 = (x1 % 4)) (f9 : (0 ≤ x2) ∧ (x2 ≤ 999999)) (f10 : (0 ≤ x11) ∧ ((x11 + 1) ≤ (wide_0 * tall_0))) (hK_0_140 : ∀ j : Int, 0 ≤ j → j < 24000 → 0 ≤ costOf_0 j ∧ costOf_0 j ≤ 1000000) (hK_0_141 : ∀ j : Int, 0 ≤ j → j < 96040 → 0 ≤ bucket_0 j ∧ bucket_0 j ≤ 23999) (hK_0_142 : ∀ j : Int, 0 ≤ j → j < 4 → 0 ≤ bucketMany_0 j ∧ bucketMany_0 j ≤ 24009) (hK_0_143 : ∀ j : Int, 0 ≤ j → j < 6000 → 0 ≤ barredPoint_0 j ∧ barredPoint_0 j ≤ 1) (kz_0_146 : (-2147483648) ≤ wide_0 ∧ wide_0 ≤ 2147483647) (kz_0_147 : (-2147483648) ≤ tall_0 ∧ tall_0 ≤ 2147483647) (ex2 : gx = x3) (ex3 : 0 ≤ gx ∧ gx ≤ 5999) (ey2 : gy = x2) (ey3 : 0 ≤ gy ∧ gy ≤ 1000008) (eu2 : gu = x1) (eu3 : 0 ≤ gu ∧ gu ≤ 23999) : PIV (costOf_0) (gu) (gy) := by
  first
    | assumption
    | (rw [eu2, ey2]; assumption)
    | (rw [ey2, eu2]; assumption)
set_option maxHeartbeats 4000000 in
theorem vc_Mo_backFrom_17_9 (x1 : Int) (x2 : Int) (x3 : Int) (x5 : Int) (x6 : Int) (x8 : Int) (x11 : Int) (x12 : Int) (x13 : Int) (x14 : Int) (x15 : Int) (x16 : Int) (x17 : Int) (x18 : Int) (barredPoint_0 : Int → Int) (costOf_0 : Int → Int) (bucket_0 : Int → Int) (bucketMany_0 : Int → Int) (wide_0 : Int) (tall_0 : Int) (gx : Int) (gy : Int) (gu : Int) (k1 : 0 ≤ x1 ∧ x1 ≤ 23999) (k2 : 0 ≤ x2 ∧ x2 ≤ 1000000) (k3 : 0 ≤ x3 ∧ x3 ≤ 5999) (k5 : 0 ≤ x5 ∧ x5 ≤ 23999) (k6 : 0 ≤ x6 ∧ x6 ≤ 1000000) (k8 : 0 ≤ x8 ∧ x8 ≤ 3) (k11 : 0 ≤ x11 ∧ x11 ≤ 5999) (k12 : 0 ≤ x12 ∧ x12 ≤ 3) (k13 : 4 ≤ x13 ∧ x13 ≤ 4) (k14 : 4 ≤ x14 ∧ x14 ≤ 4) (k15 : 0 ≤ x15 ∧ x15 ≤ 23996) (k16 : 0 ≤ x16 ∧ x16 ≤ 23999) (k17 : 3 ≤ x17 ∧ x17 ≤ 3) (k18 : 3 ≤ x18 ∧ x18 ≤ 1000003) (d0 : x6 + 3 ≤ x18 ∧ x18 ≤ x6 + 3) (d1 : x2 + (-4294967296) ≤ x18 ∧ x18 ≤ x2 + 3) (d2 : x12 + 0 ≤ x16 ∧ x16 ≤ x12 + 23996) (d3 : x15 + 0 ≤ x16 ∧ x16 ≤ x15 + 3) (d4 : x5 + (-4294967296) ≤ x1 ∧ x1 ≤ x5 + 0) (d5 : x6 + (-4294967296) ≤ x2 ∧ x2 ≤ x6 + 0) (d6 : x1 + (-4294967296) ≤ x5 ∧ x5 ≤ x1 + 0) (d7 : x2 + (-4294967296) ≤ x6 ∧ x6 ≤ x2 + 0) (d8 : x11 + (-4294967296) ≤ x8 ∧ x8 ≤ x11 + 2) (f0 : x18 = x2 + x17) (f1 : x12 ≠ x8) (f2 : x16 = x15 + x12) (f3 : x15 = 4 * x11) (f4 : x12 < x13) (f5 : RTQ (wide_0) (tall_0) (barredPoint_0) (costOf_0) (bucket_0) (bucketMany_0) (x3) (x2)) (f6 : PIV (costOf_0) (x1) (x2)) (f7 : BFP (wide_0) (tall_0) (barredPoint_0) (x1) (x11)) (f8 : x8 = (x1 % 4)) (f9 : (0 ≤ x2) ∧ (x2 ≤ 999999)) (f10 : (0 ≤ x11) ∧ ((x11 + 1) ≤ (wide_0 * tall_0))) (hK_0_140 : ∀ j : Int, 0 ≤ j → j < 24000 → 0 ≤ costOf_0 j ∧ costOf_0 j ≤ 1000000) (hK_0_141 : ∀ j : Int, 0 ≤ j → j < 96040 → 0 ≤ bucket_0 j ∧ bucket_0 j ≤ 23999) (hK_0_142 : ∀ j : Int, 0 ≤ j → j < 4 → 0 ≤ bucketMany_0 j ∧ bucketMany_0 j ≤ 24009) (hK_0_143 : ∀ j : Int, 0 ≤ j → j < 6000 → 0 ≤ barredPoint_0 j ∧ barredPoint_0 j ≤ 1) (kz_0_146 : (-2147483648) ≤ wide_0 ∧ wide_0 ≤ 2147483647) (kz_0_147 : (-2147483648) ≤ tall_0 ∧ tall_0 ≤ 2147483647) (ex2 : gx = x3) (ex3 : 0 ≤ gx ∧ gx ≤ 5999) (ey2 : gy = x2) (ey3 : 0 ≤ gy ∧ gy ≤ 1000008) (eu2 : gu = x1) (eu3 : 0 ≤ gu ∧ gu ≤ 23999) : gx = x3 := by
  first
    | omega
    | (have g := gok_bd (show GRX wide_0 tall_0 from ‹RTQ _ _ _ _ _ _ _ _›.1); omega)
    | (have g0 : GRX wide_0 tall_0 := ‹RTQ _ _ _ _ _ _ _ _›.1
       have g := gok_bd g0
       have e8 : x8 = wide_0 := by assumption
       have e20 : x20 = tall_0 := by assumption
       have c := cell_ix (W := x8) (T := x20) (x := x11) (y := x14) (p := x25) (by omega) (by omega) (by omega) (by omega) (by omega) (by rw [‹x25 = x24 + x11›, ‹x24 = x14 * x8›])
       have g3 := g0.2.2
       rw [e8, e20] at c
       omega)
    | (have h := ‹BFP _ _ _ _ _›.2.2.1; omega)
    | sorry
set_option maxHeartbeats 4000000 in
theorem vc_Mo_backFrom_17_10 (x1 : Int) (x2 : Int) (x3 : Int) (x5 : Int) (x6 : Int) (x8 : Int) (x11 : Int) (x12 : Int) (x13 : Int) (x14 : Int) (x15 : Int) (x16 : Int) (x17 : Int) (x18 : Int) (barredPoint_0 : Int → Int) (costOf_0 : Int → Int) (bucket_0 : Int → Int) (bucketMany_0 : Int → Int) (wide_0 : Int) (tall_0 : Int) (gx : Int) (gy : Int) (gu : Int) (k1 : 0 ≤ x1 ∧ x1 ≤ 23999) (k2 : 0 ≤ x2 ∧ x2 ≤ 1000000) (k3 : 0 ≤ x3 ∧ x3 ≤ 5999) (k5 : 0 ≤ x5 ∧ x5 ≤ 23999) (k6 : 0 ≤ x6 ∧ x6 ≤ 1000000) (k8 : 0 ≤ x8 ∧ x8 ≤ 3) (k11 : 0 ≤ x11 ∧ x11 ≤ 5999) (k12 : 0 ≤ x12 ∧ x12 ≤ 3) (k13 : 4 ≤ x13 ∧ x13 ≤ 4) (k14 : 4 ≤ x14 ∧ x14 ≤ 4) (k15 : 0 ≤ x15 ∧ x15 ≤ 23996) (k16 : 0 ≤ x16 ∧ x16 ≤ 23999) (k17 : 3 ≤ x17 ∧ x17 ≤ 3) (k18 : 3 ≤ x18 ∧ x18 ≤ 1000003) (d0 : x6 + 3 ≤ x18 ∧ x18 ≤ x6 + 3) (d1 : x2 + (-4294967296) ≤ x18 ∧ x18 ≤ x2 + 3) (d2 : x12 + 0 ≤ x16 ∧ x16 ≤ x12 + 23996) (d3 : x15 + 0 ≤ x16 ∧ x16 ≤ x15 + 3) (d4 : x5 + (-4294967296) ≤ x1 ∧ x1 ≤ x5 + 0) (d5 : x6 + (-4294967296) ≤ x2 ∧ x2 ≤ x6 + 0) (d6 : x1 + (-4294967296) ≤ x5 ∧ x5 ≤ x1 + 0) (d7 : x2 + (-4294967296) ≤ x6 ∧ x6 ≤ x2 + 0) (d8 : x11 + (-4294967296) ≤ x8 ∧ x8 ≤ x11 + 2) (f0 : x18 = x2 + x17) (f1 : x12 ≠ x8) (f2 : x16 = x15 + x12) (f3 : x15 = 4 * x11) (f4 : x12 < x13) (f5 : RTQ (wide_0) (tall_0) (barredPoint_0) (costOf_0) (bucket_0) (bucketMany_0) (x3) (x2)) (f6 : PIV (costOf_0) (x1) (x2)) (f7 : BFP (wide_0) (tall_0) (barredPoint_0) (x1) (x11)) (f8 : x8 = (x1 % 4)) (f9 : (0 ≤ x2) ∧ (x2 ≤ 999999)) (f10 : (0 ≤ x11) ∧ ((x11 + 1) ≤ (wide_0 * tall_0))) (hK_0_140 : ∀ j : Int, 0 ≤ j → j < 24000 → 0 ≤ costOf_0 j ∧ costOf_0 j ≤ 1000000) (hK_0_141 : ∀ j : Int, 0 ≤ j → j < 96040 → 0 ≤ bucket_0 j ∧ bucket_0 j ≤ 23999) (hK_0_142 : ∀ j : Int, 0 ≤ j → j < 4 → 0 ≤ bucketMany_0 j ∧ bucketMany_0 j ≤ 24009) (hK_0_143 : ∀ j : Int, 0 ≤ j → j < 6000 → 0 ≤ barredPoint_0 j ∧ barredPoint_0 j ≤ 1) (kz_0_146 : (-2147483648) ≤ wide_0 ∧ wide_0 ≤ 2147483647) (kz_0_147 : (-2147483648) ≤ tall_0 ∧ tall_0 ≤ 2147483647) (ex2 : gx = x3) (ex3 : 0 ≤ gx ∧ gx ≤ 5999) (ey2 : gy = x2) (ey3 : 0 ≤ gy ∧ gy ≤ 1000008) (eu2 : gu = x1) (eu3 : 0 ≤ gu ∧ gu ≤ 23999) : gy = x2 := by
  first
    | omega
    | (have g := gok_bd (show GRX wide_0 tall_0 from ‹RTQ _ _ _ _ _ _ _ _›.1); omega)
    | (have g0 : GRX wide_0 tall_0 := ‹RTQ _ _ _ _ _ _ _ _›.1
       have g := gok_bd g0
       have e8 : x8 = wide_0 := by assumption
       have e20 : x20 = tall_0 := by assumption
       have c := cell_ix (W := x8) (T := x20) (x := x11) (y := x14) (p := x25) (by omega) (by omega) (by omega) (by omega) (by omega) (by rw [‹x25 = x24 + x11›, ‹x24 = x14 * x8›])
       have g3 := g0.2.2
       rw [e8, e20] at c
       omega)
    | (have h := ‹BFP _ _ _ _ _›.2.2.1; omega)
    | sorry
set_option maxHeartbeats 4000000 in
theorem vc_Mo_backFrom_17_11 (x1 : Int) (x2 : Int) (x3 : Int) (x5 : Int) (x6 : Int) (x8 : Int) (x11 : Int) (x12 : Int) (x13 : Int) (x14 : Int) (x15 : Int) (x16 : Int) (x17 : Int) (x18 : Int) (barredPoint_0 : Int → Int) (costOf_0 : Int → Int) (bucket_0 : Int → Int) (bucketMany_0 : Int → Int) (wide_0 : Int) (tall_0 : Int) (gx : Int) (gy : Int) (gu : Int) (k1 : 0 ≤ x1 ∧ x1 ≤ 23999) (k2 : 0 ≤ x2 ∧ x2 ≤ 1000000) (k3 : 0 ≤ x3 ∧ x3 ≤ 5999) (k5 : 0 ≤ x5 ∧ x5 ≤ 23999) (k6 : 0 ≤ x6 ∧ x6 ≤ 1000000) (k8 : 0 ≤ x8 ∧ x8 ≤ 3) (k11 : 0 ≤ x11 ∧ x11 ≤ 5999) (k12 : 0 ≤ x12 ∧ x12 ≤ 3) (k13 : 4 ≤ x13 ∧ x13 ≤ 4) (k14 : 4 ≤ x14 ∧ x14 ≤ 4) (k15 : 0 ≤ x15 ∧ x15 ≤ 23996) (k16 : 0 ≤ x16 ∧ x16 ≤ 23999) (k17 : 3 ≤ x17 ∧ x17 ≤ 3) (k18 : 3 ≤ x18 ∧ x18 ≤ 1000003) (d0 : x6 + 3 ≤ x18 ∧ x18 ≤ x6 + 3) (d1 : x2 + (-4294967296) ≤ x18 ∧ x18 ≤ x2 + 3) (d2 : x12 + 0 ≤ x16 ∧ x16 ≤ x12 + 23996) (d3 : x15 + 0 ≤ x16 ∧ x16 ≤ x15 + 3) (d4 : x5 + (-4294967296) ≤ x1 ∧ x1 ≤ x5 + 0) (d5 : x6 + (-4294967296) ≤ x2 ∧ x2 ≤ x6 + 0) (d6 : x1 + (-4294967296) ≤ x5 ∧ x5 ≤ x1 + 0) (d7 : x2 + (-4294967296) ≤ x6 ∧ x6 ≤ x2 + 0) (d8 : x11 + (-4294967296) ≤ x8 ∧ x8 ≤ x11 + 2) (f0 : x18 = x2 + x17) (f1 : x12 ≠ x8) (f2 : x16 = x15 + x12) (f3 : x15 = 4 * x11) (f4 : x12 < x13) (f5 : RTQ (wide_0) (tall_0) (barredPoint_0) (costOf_0) (bucket_0) (bucketMany_0) (x3) (x2)) (f6 : PIV (costOf_0) (x1) (x2)) (f7 : BFP (wide_0) (tall_0) (barredPoint_0) (x1) (x11)) (f8 : x8 = (x1 % 4)) (f9 : (0 ≤ x2) ∧ (x2 ≤ 999999)) (f10 : (0 ≤ x11) ∧ ((x11 + 1) ≤ (wide_0 * tall_0))) (hK_0_140 : ∀ j : Int, 0 ≤ j → j < 24000 → 0 ≤ costOf_0 j ∧ costOf_0 j ≤ 1000000) (hK_0_141 : ∀ j : Int, 0 ≤ j → j < 96040 → 0 ≤ bucket_0 j ∧ bucket_0 j ≤ 23999) (hK_0_142 : ∀ j : Int, 0 ≤ j → j < 4 → 0 ≤ bucketMany_0 j ∧ bucketMany_0 j ≤ 24009) (hK_0_143 : ∀ j : Int, 0 ≤ j → j < 6000 → 0 ≤ barredPoint_0 j ∧ barredPoint_0 j ≤ 1) (kz_0_146 : (-2147483648) ≤ wide_0 ∧ wide_0 ≤ 2147483647) (kz_0_147 : (-2147483648) ≤ tall_0 ∧ tall_0 ≤ 2147483647) (ex2 : gx = x3) (ex3 : 0 ≤ gx ∧ gx ≤ 5999) (ey2 : gy = x2) (ey3 : 0 ≤ gy ∧ gy ≤ 1000008) (eu2 : gu = x1) (eu3 : 0 ≤ gu ∧ gu ≤ 23999) : gu = x1 := by
  first
    | omega
    | (have g := gok_bd (show GRX wide_0 tall_0 from ‹RTQ _ _ _ _ _ _ _ _›.1); omega)
    | (have g0 : GRX wide_0 tall_0 := ‹RTQ _ _ _ _ _ _ _ _›.1
       have g := gok_bd g0
       have e8 : x8 = wide_0 := by assumption
       have e20 : x20 = tall_0 := by assumption
       have c := cell_ix (W := x8) (T := x20) (x := x11) (y := x14) (p := x25) (by omega) (by omega) (by omega) (by omega) (by omega) (by rw [‹x25 = x24 + x11›, ‹x24 = x14 * x8›])
       have g3 := g0.2.2
       rw [e8, e20] at c
       omega)
    | (have h := ‹BFP _ _ _ _ _›.2.2.1; omega)
    | sorry
def o_Mo_backFrom_17 : or_T := (122, 19, [(0, (2, 0, 0, [150])), (1, (0, 0, 23999, [])), (2, (0, 0, 1000000, [])), (3, (0, 0, 5999, [])), (4, (2, 0, 0, [150])), (5, (0, 0, 23999, [])), (6, (0, 0, 1000000, [])), (8, (0, 0, 3, [])), (11, (0, 0, 5999, [])), (12, (0, 0, 3, [])), (13, (0, 4, 4, [])), (14, (0, 4, 4, [])), (15, (0, 0, 23996, [])), (16, (0, 0, 23999, [])), (17, (0, 3, 3, [])), (18, (0, 3, 1000003, []))], [(1, [18, 6, 17], []), (7, [12, 8], [1]), (1, [16, 15, 12], []), (3, [15, 14, 11], []), (7, [12, 13], [2]), (20, [4, 3, 6], [60, 2, 4, 419, 146, 147, 143, 140, 141, 142]), (20, [4, 5, 6], [60, 0, 1, 421, 140]), (20, [4, 5, 11], [60, 2, 1, 424, 146, 147, 143]), (20, [8, 5], [50, 0, 0, 1, 2, 1, 0, 9, 2, 1, 1, 0, 4]), (20, [6], [50, 0, 0, 2, 6, 0, 2, 0, 0, 1, 0, 0, 2, 1, 0, 0, 999999]), (20, [11, 4], [50, 2, 0, 1146, 1147, 2, 6, 0, 2, 0, 0, 1, 0, 0, 6, 4, 2, 1, 0, 0, 1, 6, 3, 2, 1, 146, 2, 1, 147]), (24, [0, 4], []), (24, [1, 5], []), (24, [2, 6], [])], [], [(0, 0, 5999, []), (0, 0, 1000008, []), (0, 0, 23999, [])], [(23, [19, 3], [0, 1, -1]), (23, [19, 3], [0, -1, 1]), (23, [20, 6], [0, 1, -1]), (23, [20, 6], [0, -1, 1]), (23, [21, 5], [0, 1, -1]), (23, [21, 5], [0, -1, 1]), (20, [4, 19, 20], [60, 2, 4, 419, 146, 147, 143, 140, 141, 142]), (20, [4, 19, 20, 16, 18], [60, 2, 2, 422, 146, 147, 143, 140]), (20, [4, 21, 20], [60, 0, 1, 421, 140]), (20, [19, 3], [50, 0, 0, 1, 2, 1, 0, 1, 1]), (20, [20, 6], [50, 0, 0, 1, 2, 1, 0, 1, 1]), (20, [21, 5], [50, 0, 0, 1, 2, 1, 0, 1, 1])], [], [(18, 6, 3, 3), (18, 2, -4294967296, 3), (16, 12, 0, 23996), (16, 15, 0, 3), (1, 5, -4294967296, 0), (2, 6, -4294967296, 0), (5, 1, -4294967296, 0), (6, 2, -4294967296, 0), (8, 11, -4294967296, 2)])
theorem oo_Mo_backFrom_17 {kA : Nat → ClassId} : or_ok PRD kA GG o_Mo_backFrom_17 := by
  intro A ta ws vs hD hth hl hk hds hf
  have hl : vs.length = 19 := hl
  have hk : ∀ q ∈ ([(0, (2, 0, 0, [150])), (1, (0, 0, 23999, [])), (2, (0, 0, 1000000, [])), (3, (0, 0, 5999, [])), (4, (2, 0, 0, [150])), (5, (0, 0, 23999, [])), (6, (0, 0, 1000000, [])), (8, (0, 0, 3, [])), (11, (0, 0, 5999, [])), (12, (0, 0, 3, [])), (13, (0, 4, 4, [])), (14, (0, 4, 4, [])), (15, (0, 0, 23996, [])), (16, (0, 0, 23999, [])), (17, (0, 3, 3, [])), (18, (0, 3, 1000003, []))] : List (Nat × tv_T)), tv_ok ta q.2 (n_v vs q.1) := hk
  obtain ⟨t0, hk⟩ := List.forall_mem_cons.mp hk
  have t0 : tv_ok ta (2, 0, 0, [150]) (n_v vs 0) := t0
  have r0 : ta (v_ad (n_v vs 0)) = some 150 := tv_rg t0
  obtain ⟨t1, hk⟩ := List.forall_mem_cons.mp hk
  have t1 : tv_ok ta (0, 0, 23999, []) (n_v vs 1) := t1
  have k1 : 0 ≤ v_iv (n_v vs 1) ∧ v_iv (n_v vs 1) ≤ 23999 := tv_rng t1
  obtain ⟨t2, hk⟩ := List.forall_mem_cons.mp hk
  have t2 : tv_ok ta (0, 0, 1000000, []) (n_v vs 2) := t2
  have k2 : 0 ≤ v_iv (n_v vs 2) ∧ v_iv (n_v vs 2) ≤ 1000000 := tv_rng t2
  obtain ⟨t3, hk⟩ := List.forall_mem_cons.mp hk
  have t3 : tv_ok ta (0, 0, 5999, []) (n_v vs 3) := t3
  have k3 : 0 ≤ v_iv (n_v vs 3) ∧ v_iv (n_v vs 3) ≤ 5999 := tv_rng t3
  obtain ⟨t4, hk⟩ := List.forall_mem_cons.mp hk
  have t4 : tv_ok ta (2, 0, 0, [150]) (n_v vs 4) := t4
  have r4 : ta (v_ad (n_v vs 4)) = some 150 := tv_rg t4
  obtain ⟨t5, hk⟩ := List.forall_mem_cons.mp hk
  have t5 : tv_ok ta (0, 0, 23999, []) (n_v vs 5) := t5
  have k5 : 0 ≤ v_iv (n_v vs 5) ∧ v_iv (n_v vs 5) ≤ 23999 := tv_rng t5
  obtain ⟨t6, hk⟩ := List.forall_mem_cons.mp hk
  have t6 : tv_ok ta (0, 0, 1000000, []) (n_v vs 6) := t6
  have k6 : 0 ≤ v_iv (n_v vs 6) ∧ v_iv (n_v vs 6) ≤ 1000000 := tv_rng t6
  obtain ⟨t8, hk⟩ := List.forall_mem_cons.mp hk
  have t8 : tv_ok ta (0, 0, 3, []) (n_v vs 8) := t8
  have k8 : 0 ≤ v_iv (n_v vs 8) ∧ v_iv (n_v vs 8) ≤ 3 := tv_rng t8
  obtain ⟨t11, hk⟩ := List.forall_mem_cons.mp hk
  have t11 : tv_ok ta (0, 0, 5999, []) (n_v vs 11) := t11
  have k11 : 0 ≤ v_iv (n_v vs 11) ∧ v_iv (n_v vs 11) ≤ 5999 := tv_rng t11
  obtain ⟨t12, hk⟩ := List.forall_mem_cons.mp hk
  have t12 : tv_ok ta (0, 0, 3, []) (n_v vs 12) := t12
  have k12 : 0 ≤ v_iv (n_v vs 12) ∧ v_iv (n_v vs 12) ≤ 3 := tv_rng t12
  obtain ⟨t13, hk⟩ := List.forall_mem_cons.mp hk
  have t13 : tv_ok ta (0, 4, 4, []) (n_v vs 13) := t13
  have k13 : 4 ≤ v_iv (n_v vs 13) ∧ v_iv (n_v vs 13) ≤ 4 := tv_rng t13
  obtain ⟨t14, hk⟩ := List.forall_mem_cons.mp hk
  have t14 : tv_ok ta (0, 4, 4, []) (n_v vs 14) := t14
  have k14 : 4 ≤ v_iv (n_v vs 14) ∧ v_iv (n_v vs 14) ≤ 4 := tv_rng t14
  obtain ⟨t15, hk⟩ := List.forall_mem_cons.mp hk
  have t15 : tv_ok ta (0, 0, 23996, []) (n_v vs 15) := t15
  have k15 : 0 ≤ v_iv (n_v vs 15) ∧ v_iv (n_v vs 15) ≤ 23996 := tv_rng t15
  obtain ⟨t16, hk⟩ := List.forall_mem_cons.mp hk
  have t16 : tv_ok ta (0, 0, 23999, []) (n_v vs 16) := t16
  have k16 : 0 ≤ v_iv (n_v vs 16) ∧ v_iv (n_v vs 16) ≤ 23999 := tv_rng t16
  obtain ⟨t17, hk⟩ := List.forall_mem_cons.mp hk
  have t17 : tv_ok ta (0, 3, 3, []) (n_v vs 17) := t17
  have k17 : 3 ≤ v_iv (n_v vs 17) ∧ v_iv (n_v vs 17) ≤ 3 := tv_rng t17
  obtain ⟨t18, hk⟩ := List.forall_mem_cons.mp hk
  have t18 : tv_ok ta (0, 3, 1000003, []) (n_v vs 18) := t18
  have k18 : 3 ≤ v_iv (n_v vs 18) ∧ v_iv (n_v vs 18) ≤ 1000003 := tv_rng t18
  have hds : ∀ q ∈ ([(18, 6, 3, 3), (18, 2, -4294967296, 3), (16, 12, 0, 23996), (16, 15, 0, 3), (1, 5, -4294967296, 0), (2, 6, -4294967296, 0), (5, 1, -4294967296, 0), (6, 2, -4294967296, 0), (8, 11, -4294967296, 2)] : List of_T), n_iv vs q.2.1 + q.2.2.1 ≤ n_iv vs q.1 ∧ n_iv vs q.1 ≤ n_iv vs q.2.1 + q.2.2.2 := hds
  obtain ⟨d0, hds⟩ := List.forall_mem_cons.mp hds
  have d0 : v_iv (n_v vs 6) + 3 ≤ v_iv (n_v vs 18) ∧ v_iv (n_v vs 18) ≤ v_iv (n_v vs 6) + 3 := d0
  obtain ⟨d1, hds⟩ := List.forall_mem_cons.mp hds
  have d1 : v_iv (n_v vs 2) + (-4294967296) ≤ v_iv (n_v vs 18) ∧ v_iv (n_v vs 18) ≤ v_iv (n_v vs 2) + 3 := d1
  obtain ⟨d2, hds⟩ := List.forall_mem_cons.mp hds
  have d2 : v_iv (n_v vs 12) + 0 ≤ v_iv (n_v vs 16) ∧ v_iv (n_v vs 16) ≤ v_iv (n_v vs 12) + 23996 := d2
  obtain ⟨d3, hds⟩ := List.forall_mem_cons.mp hds
  have d3 : v_iv (n_v vs 15) + 0 ≤ v_iv (n_v vs 16) ∧ v_iv (n_v vs 16) ≤ v_iv (n_v vs 15) + 3 := d3
  obtain ⟨d4, hds⟩ := List.forall_mem_cons.mp hds
  have d4 : v_iv (n_v vs 5) + (-4294967296) ≤ v_iv (n_v vs 1) ∧ v_iv (n_v vs 1) ≤ v_iv (n_v vs 5) + 0 := d4
  obtain ⟨d5, hds⟩ := List.forall_mem_cons.mp hds
  have d5 : v_iv (n_v vs 6) + (-4294967296) ≤ v_iv (n_v vs 2) ∧ v_iv (n_v vs 2) ≤ v_iv (n_v vs 6) + 0 := d5
  obtain ⟨d6, hds⟩ := List.forall_mem_cons.mp hds
  have d6 : v_iv (n_v vs 1) + (-4294967296) ≤ v_iv (n_v vs 5) ∧ v_iv (n_v vs 5) ≤ v_iv (n_v vs 1) + 0 := d6
  obtain ⟨d7, hds⟩ := List.forall_mem_cons.mp hds
  have d7 : v_iv (n_v vs 2) + (-4294967296) ≤ v_iv (n_v vs 6) ∧ v_iv (n_v vs 6) ≤ v_iv (n_v vs 2) + 0 := d7
  obtain ⟨d8, hds⟩ := List.forall_mem_cons.mp hds
  have d8 : v_iv (n_v vs 11) + (-4294967296) ≤ v_iv (n_v vs 8) ∧ v_iv (n_v vs 8) ≤ v_iv (n_v vs 11) + 2 := d8
  have hf : fc_ok PRD [(1, [18, 6, 17], []), (7, [12, 8], [1]), (1, [16, 15, 12], []), (3, [15, 14, 11], []), (7, [12, 13], [2]), (20, [4, 3, 6], [60, 2, 4, 419, 146, 147, 143, 140, 141, 142]), (20, [4, 5, 6], [60, 0, 1, 421, 140]), (20, [4, 5, 11], [60, 2, 1, 424, 146, 147, 143]), (20, [8, 5], [50, 0, 0, 1, 2, 1, 0, 9, 2, 1, 1, 0, 4]), (20, [6], [50, 0, 0, 2, 6, 0, 2, 0, 0, 1, 0, 0, 2, 1, 0, 0, 999999]), (20, [11, 4], [50, 2, 0, 1146, 1147, 2, 6, 0, 2, 0, 0, 1, 0, 0, 6, 4, 2, 1, 0, 0, 1, 6, 3, 2, 1, 146, 2, 1, 147]), (24, [0, 4], []), (24, [1, 5], []), (24, [2, 6], [])] ta ws vs := hf
  obtain ⟨f0, hf⟩ := fc_un (show (1 : Nat) < 100 from by decide) hf
  have f0 : v_iv (n_v vs 18) = v_iv (n_v vs 6) + v_iv (n_v vs 17) := f0
  obtain ⟨f1, hf⟩ := fc_un (show (7 : Nat) < 100 from by decide) hf
  have f1 : v_iv (n_v vs 12) ≠ v_iv (n_v vs 8) := f1
  obtain ⟨f2, hf⟩ := fc_un (show (1 : Nat) < 100 from by decide) hf
  have f2 : v_iv (n_v vs 16) = v_iv (n_v vs 15) + v_iv (n_v vs 12) := f2
  obtain ⟨f3, hf⟩ := fc_un (show (3 : Nat) < 100 from by decide) hf
  have f3 : v_iv (n_v vs 15) = v_iv (n_v vs 14) * v_iv (n_v vs 11) := f3
  rw [show v_iv (n_v vs 14) = 4 from by omega] at f3
  obtain ⟨f4, hf⟩ := fc_un (show (7 : Nat) < 100 from by decide) hf
  have f4 : v_iv (n_v vs 12) < v_iv (n_v vs 13) := f4
  obtain ⟨f5, hf⟩ := fc_un (show (20 : Nat) < 100 from by decide) hf
  have f5 : RTQ (w_fi ws (n_v vs 4) 146) (w_fi ws (n_v vs 4) 147) (w_ei ws (w_ar ws (n_v vs 4) 143)) (w_ei ws (w_ar ws (n_v vs 4) 140)) (w_ei ws (w_ar ws (n_v vs 4) 141)) (w_ei ws (w_ar ws (n_v vs 4) 142)) (v_iv (n_v vs 3)) (v_iv (n_v vs 6)) := f5
  obtain ⟨f6, hf⟩ := fc_un (show (20 : Nat) < 100 from by decide) hf
  have f6 : PIV (w_ei ws (w_ar ws (n_v vs 4) 140)) (v_iv (n_v vs 5)) (v_iv (n_v vs 6)) := f6
  obtain ⟨f7, hf⟩ := fc_un (show (20 : Nat) < 100 from by decide) hf
  have f7 : BFP (w_fi ws (n_v vs 4) 146) (w_fi ws (n_v vs 4) 147) (w_ei ws (w_ar ws (n_v vs 4) 143)) (v_iv (n_v vs 5)) (v_iv (n_v vs 11)) := f7
  obtain ⟨f8, hf⟩ := fc_un (show (20 : Nat) < 100 from by decide) hf
  have f8 : v_iv (n_v vs 8) = (v_iv (n_v vs 5) % 4) := f8
  obtain ⟨f9, hf⟩ := fc_un (show (20 : Nat) < 100 from by decide) hf
  have f9 : (0 ≤ v_iv (n_v vs 6)) ∧ (v_iv (n_v vs 6) ≤ 999999) := f9
  obtain ⟨f10, hf⟩ := fc_un (show (20 : Nat) < 100 from by decide) hf
  have f10 : (0 ≤ v_iv (n_v vs 11)) ∧ ((v_iv (n_v vs 11) + 1) ≤ (w_fi ws (n_v vs 4) 146 * w_fi ws (n_v vs 4) 147)) := f10
  obtain ⟨f11, hf⟩ := fc_un (show (24 : Nat) < 100 from by decide) hf
  have f11 : n_v vs 0 = n_v vs 4 := f11
  obtain ⟨f12, hf⟩ := fc_un (show (24 : Nat) < 100 from by decide) hf
  have f12 : n_v vs 1 = n_v vs 5 := f12
  obtain ⟨f13, hf⟩ := fc_un (show (24 : Nat) < 100 from by decide) hf
  have f13 : n_v vs 2 = n_v vs 6 := f13
  have q4 : n_v vs 4 = n_v vs 0 := f11.symm
  have q5 : n_v vs 5 = n_v vs 1 := f12.symm
  have q6 : n_v vs 6 = n_v vs 2 := f13.symm
  rw [q6] at f0
  rw [q4] at f5
  rw [q6] at f5
  rw [q4] at f6
  rw [q5] at f6
  rw [q6] at f6
  rw [q4] at f7
  rw [q5] at f7
  rw [q5] at f8
  rw [q6] at f9
  rw [q4] at f10
  have cr_0_140 : ta (w_ar ws (n_v vs 0) 140) = some 251 := tv_rg (th_fd hD hth r0 (g := GG_150) rfl (k := 140) (t := (2, 0, 0, [251])) rfl rfl)
  have cr_0_141 : ta (w_ar ws (n_v vs 0) 141) = some 252 := tv_rg (th_fd hD hth r0 (g := GG_150) rfl (k := 141) (t := (2, 0, 0, [252])) rfl rfl)
  have cr_0_142 : ta (w_ar ws (n_v vs 0) 142) = some 253 := tv_rg (th_fd hD hth r0 (g := GG_150) rfl (k := 142) (t := (2, 0, 0, [253])) rfl rfl)
  have cr_0_143 : ta (w_ar ws (n_v vs 0) 143) = some 254 := tv_rg (th_fd hD hth r0 (g := GG_150) rfl (k := 143) (t := (2, 0, 0, [254])) rfl rfl)
  have hK_0_140 : ∀ j : Int, 0 ≤ j → j < 24000 → 0 ≤ w_ei ws (w_ar ws (n_v vs 0) 140) j ∧ w_ei ws (w_ar ws (n_v vs 0) 140) j ≤ 1000000 := fun j h0 h1 => th_el hD hth cr_0_140 (kd := 0) (n := 24000) (m := 24000) (lo := 0) (hi := 1000000) (rs := []) (L := []) rfl (by decide) (j := j.toNat) (by omega)
  have hK_0_141 : ∀ j : Int, 0 ≤ j → j < 96040 → 0 ≤ w_ei ws (w_ar ws (n_v vs 0) 141) j ∧ w_ei ws (w_ar ws (n_v vs 0) 141) j ≤ 23999 := fun j h0 h1 => th_el hD hth cr_0_141 (kd := 0) (n := 96040) (m := 96040) (lo := 0) (hi := 23999) (rs := []) (L := []) rfl (by decide) (j := j.toNat) (by omega)
  have hK_0_142 : ∀ j : Int, 0 ≤ j → j < 4 → 0 ≤ w_ei ws (w_ar ws (n_v vs 0) 142) j ∧ w_ei ws (w_ar ws (n_v vs 0) 142) j ≤ 24009 := fun j h0 h1 => th_el hD hth cr_0_142 (kd := 0) (n := 4) (m := 4) (lo := 0) (hi := 24009) (rs := []) (L := []) rfl (by decide) (j := j.toNat) (by omega)
  have hK_0_143 : ∀ j : Int, 0 ≤ j → j < 6000 → 0 ≤ w_ei ws (w_ar ws (n_v vs 0) 143) j ∧ w_ei ws (w_ar ws (n_v vs 0) 143) j ≤ 1 := fun j h0 h1 => th_el hD hth cr_0_143 (kd := 2) (n := 6000) (m := 6000) (lo := 0) (hi := 1) (rs := []) (L := []) rfl (by decide) (j := j.toNat) (by omega)
  have kz_0_146 : (-2147483648) ≤ w_fi ws (n_v vs 0) 146 ∧ w_fi ws (n_v vs 0) 146 ≤ 2147483647 := tv_rng (th_fd hD hth r0 (g := GG_150) rfl (k := 146) (t := (0, -2147483648, 2147483647, [])) rfl rfl)
  have kz_0_147 : (-2147483648) ≤ w_fi ws (n_v vs 0) 147 ∧ w_fi ws (n_v vs 0) 147 ≤ 2147483647 := tv_rng (th_fd hD hth r0 (g := GG_150) rfl (k := 147) (t := (0, -2147483648, 2147483647, [])) rfl rfl)
  obtain ⟨x, ex, hx⟩ := iv_ex (ta := ta) (lo := 0) (hi := 5999) (z := v_iv (n_v vs 3)) (by omega) (by omega) (by omega) (by omega)
  have ex2 : v_iv (Value.int x) = v_iv (n_v vs 3) := ex
  have ex3 : 0 ≤ v_iv (Value.int x) ∧ v_iv (Value.int x) ≤ 5999 := tv_rng hx
  obtain ⟨y, ey, hy⟩ := iv_ex (ta := ta) (lo := 0) (hi := 1000008) (z := v_iv (n_v vs 2)) (by omega) (by omega) (by omega) (by omega)
  have ey2 : v_iv (Value.int y) = v_iv (n_v vs 2) := ey
  have ey3 : 0 ≤ v_iv (Value.int y) ∧ v_iv (Value.int y) ≤ 1000008 := tv_rng hy
  obtain ⟨u, eu, hu⟩ := iv_ex (ta := ta) (lo := 0) (hi := 23999) (z := v_iv (n_v vs 1)) (by omega) (by omega) (by omega) (by omega)
  have eu2 : v_iv (Value.int u) = v_iv (n_v vs 1) := eu
  have eu3 : 0 ≤ v_iv (Value.int u) ∧ v_iv (Value.int u) ≤ 23999 := tv_rng hu
  have e_3 : n_v (vs ++ [Value.int x, Value.int y, Value.int u]) 3 = n_v vs 3 := n_v_old (by rw [hl]; decide)
  have e_4 : n_v (vs ++ [Value.int x, Value.int y, Value.int u]) 4 = n_v vs 4 := n_v_old (by rw [hl]; decide)
  have e_5 : n_v (vs ++ [Value.int x, Value.int y, Value.int u]) 5 = n_v vs 5 := n_v_old (by rw [hl]; decide)
  have e_6 : n_v (vs ++ [Value.int x, Value.int y, Value.int u]) 6 = n_v vs 6 := n_v_old (by rw [hl]; decide)
  have e_16 : n_v (vs ++ [Value.int x, Value.int y, Value.int u]) 16 = n_v vs 16 := n_v_old (by rw [hl]; decide)
  have e_18 : n_v (vs ++ [Value.int x, Value.int y, Value.int u]) 18 = n_v vs 18 := n_v_old (by rw [hl]; decide)
  have e_19 : n_v (vs ++ [Value.int x, Value.int y, Value.int u]) 19 = Value.int x := n_v_newk (k := 0) hl rfl
  have e_20 : n_v (vs ++ [Value.int x, Value.int y, Value.int u]) 20 = Value.int y := n_v_newk (k := 1) hl rfl
  have e_21 : n_v (vs ++ [Value.int x, Value.int y, Value.int u]) 21 = Value.int u := n_v_newk (k := 2) hl rfl
  have nf0 : fc_1 PRD (23, [19, 3], [0, 1, -1]) ws (vs ++ [Value.int x, Value.int y, Value.int u]) := by
    refine ⟨fun n hn => ?_, ?_⟩
    · have hn : n ∈ [19, 3] := hn
      rw [List.length_append, hl]
      simp only [List.mem_cons, List.not_mem_nil, or_false] at hn
      show n < 19 + 3; omega
    · show 1 * v_iv (n_v (vs ++ [Value.int x, Value.int y, Value.int u]) 19) + ((-1) * v_iv (n_v (vs ++ [Value.int x, Value.int y, Value.int u]) 3) + 0) ≤ 0
      rw [e_3]
      rw [e_19]
      exact vc_Mo_backFrom_17_0 (v_iv (n_v vs 1)) (v_iv (n_v vs 2)) (v_iv (n_v vs 3)) (v_iv (n_v vs 5)) (v_iv (n_v vs 6)) (v_iv (n_v vs 8)) (v_iv (n_v vs 11)) (v_iv (n_v vs 12)) (v_iv (n_v vs 13)) (v_iv (n_v vs 14)) (v_iv (n_v vs 15)) (v_iv (n_v vs 16)) (v_iv (n_v vs 17)) (v_iv (n_v vs 18)) (w_ei ws (w_ar ws (n_v vs 0) 143)) (w_ei ws (w_ar ws (n_v vs 0) 140)) (w_ei ws (w_ar ws (n_v vs 0) 141)) (w_ei ws (w_ar ws (n_v vs 0) 142)) (w_fi ws (n_v vs 0) 146) (w_fi ws (n_v vs 0) 147) (v_iv (Value.int x)) (v_iv (Value.int y)) (v_iv (Value.int u)) k1 k2 k3 k5 k6 k8 k11 k12 k13 k14 k15 k16 k17 k18 d0 d1 d2 d3 d4 d5 d6 d7 d8 f0 f1 f2 f3 f4 f5 f6 f7 f8 f9 f10 hK_0_140 hK_0_141 hK_0_142 hK_0_143 kz_0_146 kz_0_147 ex2 ex3 ey2 ey3 eu2 eu3
  have nf1 : fc_1 PRD (23, [19, 3], [0, -1, 1]) ws (vs ++ [Value.int x, Value.int y, Value.int u]) := by
    refine ⟨fun n hn => ?_, ?_⟩
    · have hn : n ∈ [19, 3] := hn
      rw [List.length_append, hl]
      simp only [List.mem_cons, List.not_mem_nil, or_false] at hn
      show n < 19 + 3; omega
    · show (-1) * v_iv (n_v (vs ++ [Value.int x, Value.int y, Value.int u]) 19) + (1 * v_iv (n_v (vs ++ [Value.int x, Value.int y, Value.int u]) 3) + 0) ≤ 0
      rw [e_3]
      rw [e_19]
      exact vc_Mo_backFrom_17_1 (v_iv (n_v vs 1)) (v_iv (n_v vs 2)) (v_iv (n_v vs 3)) (v_iv (n_v vs 5)) (v_iv (n_v vs 6)) (v_iv (n_v vs 8)) (v_iv (n_v vs 11)) (v_iv (n_v vs 12)) (v_iv (n_v vs 13)) (v_iv (n_v vs 14)) (v_iv (n_v vs 15)) (v_iv (n_v vs 16)) (v_iv (n_v vs 17)) (v_iv (n_v vs 18)) (w_ei ws (w_ar ws (n_v vs 0) 143)) (w_ei ws (w_ar ws (n_v vs 0) 140)) (w_ei ws (w_ar ws (n_v vs 0) 141)) (w_ei ws (w_ar ws (n_v vs 0) 142)) (w_fi ws (n_v vs 0) 146) (w_fi ws (n_v vs 0) 147) (v_iv (Value.int x)) (v_iv (Value.int y)) (v_iv (Value.int u)) k1 k2 k3 k5 k6 k8 k11 k12 k13 k14 k15 k16 k17 k18 d0 d1 d2 d3 d4 d5 d6 d7 d8 f0 f1 f2 f3 f4 f5 f6 f7 f8 f9 f10 hK_0_140 hK_0_141 hK_0_142 hK_0_143 kz_0_146 kz_0_147 ex2 ex3 ey2 ey3 eu2 eu3
  have nf2 : fc_1 PRD (23, [20, 6], [0, 1, -1]) ws (vs ++ [Value.int x, Value.int y, Value.int u]) := by
    refine ⟨fun n hn => ?_, ?_⟩
    · have hn : n ∈ [20, 6] := hn
      rw [List.length_append, hl]
      simp only [List.mem_cons, List.not_mem_nil, or_false] at hn
      show n < 19 + 3; omega
    · show 1 * v_iv (n_v (vs ++ [Value.int x, Value.int y, Value.int u]) 20) + ((-1) * v_iv (n_v (vs ++ [Value.int x, Value.int y, Value.int u]) 6) + 0) ≤ 0
      rw [e_6]
      rw [e_20]
      rw [q6]
      exact vc_Mo_backFrom_17_2 (v_iv (n_v vs 1)) (v_iv (n_v vs 2)) (v_iv (n_v vs 3)) (v_iv (n_v vs 5)) (v_iv (n_v vs 6)) (v_iv (n_v vs 8)) (v_iv (n_v vs 11)) (v_iv (n_v vs 12)) (v_iv (n_v vs 13)) (v_iv (n_v vs 14)) (v_iv (n_v vs 15)) (v_iv (n_v vs 16)) (v_iv (n_v vs 17)) (v_iv (n_v vs 18)) (w_ei ws (w_ar ws (n_v vs 0) 143)) (w_ei ws (w_ar ws (n_v vs 0) 140)) (w_ei ws (w_ar ws (n_v vs 0) 141)) (w_ei ws (w_ar ws (n_v vs 0) 142)) (w_fi ws (n_v vs 0) 146) (w_fi ws (n_v vs 0) 147) (v_iv (Value.int x)) (v_iv (Value.int y)) (v_iv (Value.int u)) k1 k2 k3 k5 k6 k8 k11 k12 k13 k14 k15 k16 k17 k18 d0 d1 d2 d3 d4 d5 d6 d7 d8 f0 f1 f2 f3 f4 f5 f6 f7 f8 f9 f10 hK_0_140 hK_0_141 hK_0_142 hK_0_143 kz_0_146 kz_0_147 ex2 ex3 ey2 ey3 eu2 eu3
  have nf3 : fc_1 PRD (23, [20, 6], [0, -1, 1]) ws (vs ++ [Value.int x, Value.int y, Value.int u]) := by
    refine ⟨fun n hn => ?_, ?_⟩
    · have hn : n ∈ [20, 6] := hn
      rw [List.length_append, hl]
      simp only [List.mem_cons, List.not_mem_nil, or_false] at hn
      show n < 19 + 3; omega
    · show (-1) * v_iv (n_v (vs ++ [Value.int x, Value.int y, Value.int u]) 20) + (1 * v_iv (n_v (vs ++ [Value.int x, Value.int y, Value.int u]) 6) + 0) ≤ 0
      rw [e_6]
      rw [e_20]
      rw [q6]
      exact vc_Mo_backFrom_17_3 (v_iv (n_v vs 1)) (v_iv (n_v vs 2)) (v_iv (n_v vs 3)) (v_iv (n_v vs 5)) (v_iv (n_v vs 6)) (v_iv (n_v vs 8)) (v_iv (n_v vs 11)) (v_iv (n_v vs 12)) (v_iv (n_v vs 13)) (v_iv (n_v vs 14)) (v_iv (n_v vs 15)) (v_iv (n_v vs 16)) (v_iv (n_v vs 17)) (v_iv (n_v vs 18)) (w_ei ws (w_ar ws (n_v vs 0) 143)) (w_ei ws (w_ar ws (n_v vs 0) 140)) (w_ei ws (w_ar ws (n_v vs 0) 141)) (w_ei ws (w_ar ws (n_v vs 0) 142)) (w_fi ws (n_v vs 0) 146) (w_fi ws (n_v vs 0) 147) (v_iv (Value.int x)) (v_iv (Value.int y)) (v_iv (Value.int u)) k1 k2 k3 k5 k6 k8 k11 k12 k13 k14 k15 k16 k17 k18 d0 d1 d2 d3 d4 d5 d6 d7 d8 f0 f1 f2 f3 f4 f5 f6 f7 f8 f9 f10 hK_0_140 hK_0_141 hK_0_142 hK_0_143 kz_0_146 kz_0_147 ex2 ex3 ey2 ey3 eu2 eu3
  have nf4 : fc_1 PRD (23, [21, 5], [0, 1, -1]) ws (vs ++ [Value.int x, Value.int y, Value.int u]) := by
    refine ⟨fun n hn => ?_, ?_⟩
    · have hn : n ∈ [21, 5] := hn
      rw [List.length_append, hl]
      simp only [List.mem_cons, List.not_mem_nil, or_false] at hn
      show n < 19 + 3; omega
    · show 1 * v_iv (n_v (vs ++ [Value.int x, Value.int y, Value.int u]) 21) + ((-1) * v_iv (n_v (vs ++ [Value.int x, Value.int y, Value.int u]) 5) + 0) ≤ 0
      rw [e_5]
      rw [e_21]
      rw [q5]
      exact vc_Mo_backFrom_17_4 (v_iv (n_v vs 1)) (v_iv (n_v vs 2)) (v_iv (n_v vs 3)) (v_iv (n_v vs 5)) (v_iv (n_v vs 6)) (v_iv (n_v vs 8)) (v_iv (n_v vs 11)) (v_iv (n_v vs 12)) (v_iv (n_v vs 13)) (v_iv (n_v vs 14)) (v_iv (n_v vs 15)) (v_iv (n_v vs 16)) (v_iv (n_v vs 17)) (v_iv (n_v vs 18)) (w_ei ws (w_ar ws (n_v vs 0) 143)) (w_ei ws (w_ar ws (n_v vs 0) 140)) (w_ei ws (w_ar ws (n_v vs 0) 141)) (w_ei ws (w_ar ws (n_v vs 0) 142)) (w_fi ws (n_v vs 0) 146) (w_fi ws (n_v vs 0) 147) (v_iv (Value.int x)) (v_iv (Value.int y)) (v_iv (Value.int u)) k1 k2 k3 k5 k6 k8 k11 k12 k13 k14 k15 k16 k17 k18 d0 d1 d2 d3 d4 d5 d6 d7 d8 f0 f1 f2 f3 f4 f5 f6 f7 f8 f9 f10 hK_0_140 hK_0_141 hK_0_142 hK_0_143 kz_0_146 kz_0_147 ex2 ex3 ey2 ey3 eu2 eu3
  have nf5 : fc_1 PRD (23, [21, 5], [0, -1, 1]) ws (vs ++ [Value.int x, Value.int y, Value.int u]) := by
    refine ⟨fun n hn => ?_, ?_⟩
    · have hn : n ∈ [21, 5] := hn
      rw [List.length_append, hl]
      simp only [List.mem_cons, List.not_mem_nil, or_false] at hn
      show n < 19 + 3; omega
    · show (-1) * v_iv (n_v (vs ++ [Value.int x, Value.int y, Value.int u]) 21) + (1 * v_iv (n_v (vs ++ [Value.int x, Value.int y, Value.int u]) 5) + 0) ≤ 0
      rw [e_5]
      rw [e_21]
      rw [q5]
      exact vc_Mo_backFrom_17_5 (v_iv (n_v vs 1)) (v_iv (n_v vs 2)) (v_iv (n_v vs 3)) (v_iv (n_v vs 5)) (v_iv (n_v vs 6)) (v_iv (n_v vs 8)) (v_iv (n_v vs 11)) (v_iv (n_v vs 12)) (v_iv (n_v vs 13)) (v_iv (n_v vs 14)) (v_iv (n_v vs 15)) (v_iv (n_v vs 16)) (v_iv (n_v vs 17)) (v_iv (n_v vs 18)) (w_ei ws (w_ar ws (n_v vs 0) 143)) (w_ei ws (w_ar ws (n_v vs 0) 140)) (w_ei ws (w_ar ws (n_v vs 0) 141)) (w_ei ws (w_ar ws (n_v vs 0) 142)) (w_fi ws (n_v vs 0) 146) (w_fi ws (n_v vs 0) 147) (v_iv (Value.int x)) (v_iv (Value.int y)) (v_iv (Value.int u)) k1 k2 k3 k5 k6 k8 k11 k12 k13 k14 k15 k16 k17 k18 d0 d1 d2 d3 d4 d5 d6 d7 d8 f0 f1 f2 f3 f4 f5 f6 f7 f8 f9 f10 hK_0_140 hK_0_141 hK_0_142 hK_0_143 kz_0_146 kz_0_147 ex2 ex3 ey2 ey3 eu2 eu3
  have nf6 : fc_1 PRD (20, [4, 19, 20], [60, 2, 4, 419, 146, 147, 143, 140, 141, 142]) ws (vs ++ [Value.int x, Value.int y, Value.int u]) := by
    refine ⟨fun n hn => ?_, ?_⟩
    · have hn : n ∈ [4, 19, 20] := hn
      rw [List.length_append, hl]
      simp only [List.mem_cons, List.not_mem_nil, or_false] at hn
      show n < 19 + 3; omega
    · show RTQ (w_fi ws (n_v (vs ++ [Value.int x, Value.int y, Value.int u]) 4) 146) (w_fi ws (n_v (vs ++ [Value.int x, Value.int y, Value.int u]) 4) 147) (w_ei ws (w_ar ws (n_v (vs ++ [Value.int x, Value.int y, Value.int u]) 4) 143)) (w_ei ws (w_ar ws (n_v (vs ++ [Value.int x, Value.int y, Value.int u]) 4) 140)) (w_ei ws (w_ar ws (n_v (vs ++ [Value.int x, Value.int y, Value.int u]) 4) 141)) (w_ei ws (w_ar ws (n_v (vs ++ [Value.int x, Value.int y, Value.int u]) 4) 142)) (v_iv (n_v (vs ++ [Value.int x, Value.int y, Value.int u]) 19)) (v_iv (n_v (vs ++ [Value.int x, Value.int y, Value.int u]) 20))
      rw [e_4]
      rw [e_19]
      rw [e_20]
      rw [q4]
      exact vc_Mo_backFrom_17_6 (v_iv (n_v vs 1)) (v_iv (n_v vs 2)) (v_iv (n_v vs 3)) (v_iv (n_v vs 5)) (v_iv (n_v vs 6)) (v_iv (n_v vs 8)) (v_iv (n_v vs 11)) (v_iv (n_v vs 12)) (v_iv (n_v vs 13)) (v_iv (n_v vs 14)) (v_iv (n_v vs 15)) (v_iv (n_v vs 16)) (v_iv (n_v vs 17)) (v_iv (n_v vs 18)) (w_ei ws (w_ar ws (n_v vs 0) 143)) (w_ei ws (w_ar ws (n_v vs 0) 140)) (w_ei ws (w_ar ws (n_v vs 0) 141)) (w_ei ws (w_ar ws (n_v vs 0) 142)) (w_fi ws (n_v vs 0) 146) (w_fi ws (n_v vs 0) 147) (v_iv (Value.int x)) (v_iv (Value.int y)) (v_iv (Value.int u)) k1 k2 k3 k5 k6 k8 k11 k12 k13 k14 k15 k16 k17 k18 d0 d1 d2 d3 d4 d5 d6 d7 d8 f0 f1 f2 f3 f4 f5 f6 f7 f8 f9 f10 hK_0_140 hK_0_141 hK_0_142 hK_0_143 kz_0_146 kz_0_147 ex2 ex3 ey2 ey3 eu2 eu3
  have nf7 : fc_1 PRD (20, [4, 19, 20, 16, 18], [60, 2, 2, 422, 146, 147, 143, 140]) ws (vs ++ [Value.int x, Value.int y, Value.int u]) := by
    refine ⟨fun n hn => ?_, ?_⟩
    · have hn : n ∈ [4, 19, 20, 16, 18] := hn
      rw [List.length_append, hl]
      simp only [List.mem_cons, List.not_mem_nil, or_false] at hn
      show n < 19 + 3; omega
    · show RJB (w_fi ws (n_v (vs ++ [Value.int x, Value.int y, Value.int u]) 4) 146) (w_fi ws (n_v (vs ++ [Value.int x, Value.int y, Value.int u]) 4) 147) (w_ei ws (w_ar ws (n_v (vs ++ [Value.int x, Value.int y, Value.int u]) 4) 143)) (w_ei ws (w_ar ws (n_v (vs ++ [Value.int x, Value.int y, Value.int u]) 4) 140)) (v_iv (n_v (vs ++ [Value.int x, Value.int y, Value.int u]) 19)) (v_iv (n_v (vs ++ [Value.int x, Value.int y, Value.int u]) 20)) (v_iv (n_v (vs ++ [Value.int x, Value.int y, Value.int u]) 16)) (v_iv (n_v (vs ++ [Value.int x, Value.int y, Value.int u]) 18))
      rw [e_4]
      rw [e_16]
      rw [e_18]
      rw [e_19]
      rw [e_20]
      rw [q4]
      exact vc_Mo_backFrom_17_7 (v_iv (n_v vs 1)) (v_iv (n_v vs 2)) (v_iv (n_v vs 3)) (v_iv (n_v vs 5)) (v_iv (n_v vs 6)) (v_iv (n_v vs 8)) (v_iv (n_v vs 11)) (v_iv (n_v vs 12)) (v_iv (n_v vs 13)) (v_iv (n_v vs 14)) (v_iv (n_v vs 15)) (v_iv (n_v vs 16)) (v_iv (n_v vs 17)) (v_iv (n_v vs 18)) (w_ei ws (w_ar ws (n_v vs 0) 143)) (w_ei ws (w_ar ws (n_v vs 0) 140)) (w_ei ws (w_ar ws (n_v vs 0) 141)) (w_ei ws (w_ar ws (n_v vs 0) 142)) (w_fi ws (n_v vs 0) 146) (w_fi ws (n_v vs 0) 147) (v_iv (Value.int x)) (v_iv (Value.int y)) (v_iv (Value.int u)) k1 k2 k3 k5 k6 k8 k11 k12 k13 k14 k15 k16 k17 k18 d0 d1 d2 d3 d4 d5 d6 d7 d8 f0 f1 f2 f3 f4 f5 f6 f7 f8 f9 f10 hK_0_140 hK_0_141 hK_0_142 hK_0_143 kz_0_146 kz_0_147 ex2 ex3 ey2 ey3 eu2 eu3
  have nf8 : fc_1 PRD (20, [4, 21, 20], [60, 0, 1, 421, 140]) ws (vs ++ [Value.int x, Value.int y, Value.int u]) := by
    refine ⟨fun n hn => ?_, ?_⟩
    · have hn : n ∈ [4, 21, 20] := hn
      rw [List.length_append, hl]
      simp only [List.mem_cons, List.not_mem_nil, or_false] at hn
      show n < 19 + 3; omega
    · show PIV (w_ei ws (w_ar ws (n_v (vs ++ [Value.int x, Value.int y, Value.int u]) 4) 140)) (v_iv (n_v (vs ++ [Value.int x, Value.int y, Value.int u]) 21)) (v_iv (n_v (vs ++ [Value.int x, Value.int y, Value.int u]) 20))
      rw [e_4]
      rw [e_20]
      rw [e_21]
      rw [q4]
      exact vc_Mo_backFrom_17_8 (v_iv (n_v vs 1)) (v_iv (n_v vs 2)) (v_iv (n_v vs 3)) (v_iv (n_v vs 5)) (v_iv (n_v vs 6)) (v_iv (n_v vs 8)) (v_iv (n_v vs 11)) (v_iv (n_v vs 12)) (v_iv (n_v vs 13)) (v_iv (n_v vs 14)) (v_iv (n_v vs 15)) (v_iv (n_v vs 16)) (v_iv (n_v vs 17)) (v_iv (n_v vs 18)) (w_ei ws (w_ar ws (n_v vs 0) 143)) (w_ei ws (w_ar ws (n_v vs 0) 140)) (w_ei ws (w_ar ws (n_v vs 0) 141)) (w_ei ws (w_ar ws (n_v vs 0) 142)) (w_fi ws (n_v vs 0) 146) (w_fi ws (n_v vs 0) 147) (v_iv (Value.int x)) (v_iv (Value.int y)) (v_iv (Value.int u)) k1 k2 k3 k5 k6 k8 k11 k12 k13 k14 k15 k16 k17 k18 d0 d1 d2 d3 d4 d5 d6 d7 d8 f0 f1 f2 f3 f4 f5 f6 f7 f8 f9 f10 hK_0_140 hK_0_141 hK_0_142 hK_0_143 kz_0_146 kz_0_147 ex2 ex3 ey2 ey3 eu2 eu3
  have nf9 : fc_1 PRD (20, [19, 3], [50, 0, 0, 1, 2, 1, 0, 1, 1]) ws (vs ++ [Value.int x, Value.int y, Value.int u]) := by
    refine ⟨fun n hn => ?_, ?_⟩
    · have hn : n ∈ [19, 3] := hn
      rw [List.length_append, hl]
      simp only [List.mem_cons, List.not_mem_nil, or_false] at hn
      show n < 19 + 3; omega
    · show v_iv (n_v (vs ++ [Value.int x, Value.int y, Value.int u]) 19) = v_iv (n_v (vs ++ [Value.int x, Value.int y, Value.int u]) 3)
      rw [e_3]
      rw [e_19]
      exact vc_Mo_backFrom_17_9 (v_iv (n_v vs 1)) (v_iv (n_v vs 2)) (v_iv (n_v vs 3)) (v_iv (n_v vs 5)) (v_iv (n_v vs 6)) (v_iv (n_v vs 8)) (v_iv (n_v vs 11)) (v_iv (n_v vs 12)) (v_iv (n_v vs 13)) (v_iv (n_v vs 14)) (v_iv (n_v vs 15)) (v_iv (n_v vs 16)) (v_iv (n_v vs 17)) (v_iv (n_v vs 18)) (w_ei ws (w_ar ws (n_v vs 0) 143)) (w_ei ws (w_ar ws (n_v vs 0) 140)) (w_ei ws (w_ar ws (n_v vs 0) 141)) (w_ei ws (w_ar ws (n_v vs 0) 142)) (w_fi ws (n_v vs 0) 146) (w_fi ws (n_v vs 0) 147) (v_iv (Value.int x)) (v_iv (Value.int y)) (v_iv (Value.int u)) k1 k2 k3 k5 k6 k8 k11 k12 k13 k14 k15 k16 k17 k18 d0 d1 d2 d3 d4 d5 d6 d7 d8 f0 f1 f2 f3 f4 f5 f6 f7 f8 f9 f10 hK_0_140 hK_0_141 hK_0_142 hK_0_143 kz_0_146 kz_0_147 ex2 ex3 ey2 ey3 eu2 eu3
  have nf10 : fc_1 PRD (20, [20, 6], [50, 0, 0, 1, 2, 1, 0, 1, 1]) ws (vs ++ [Value.int x, Value.int y, Value.int u]) := by
    refine ⟨fun n hn => ?_, ?_⟩
    · have hn : n ∈ [20, 6] := hn
      rw [List.length_append, hl]
      simp only [List.mem_cons, List.not_mem_nil, or_false] at hn
      show n < 19 + 3; omega
    · show v_iv (n_v (vs ++ [Value.int x, Value.int y, Value.int u]) 20) = v_iv (n_v (vs ++ [Value.int x, Value.int y, Value.int u]) 6)
      rw [e_6]
      rw [e_20]
      rw [q6]
      exact vc_Mo_backFrom_17_10 (v_iv (n_v vs 1)) (v_iv (n_v vs 2)) (v_iv (n_v vs 3)) (v_iv (n_v vs 5)) (v_iv (n_v vs 6)) (v_iv (n_v vs 8)) (v_iv (n_v vs 11)) (v_iv (n_v vs 12)) (v_iv (n_v vs 13)) (v_iv (n_v vs 14)) (v_iv (n_v vs 15)) (v_iv (n_v vs 16)) (v_iv (n_v vs 17)) (v_iv (n_v vs 18)) (w_ei ws (w_ar ws (n_v vs 0) 143)) (w_ei ws (w_ar ws (n_v vs 0) 140)) (w_ei ws (w_ar ws (n_v vs 0) 141)) (w_ei ws (w_ar ws (n_v vs 0) 142)) (w_fi ws (n_v vs 0) 146) (w_fi ws (n_v vs 0) 147) (v_iv (Value.int x)) (v_iv (Value.int y)) (v_iv (Value.int u)) k1 k2 k3 k5 k6 k8 k11 k12 k13 k14 k15 k16 k17 k18 d0 d1 d2 d3 d4 d5 d6 d7 d8 f0 f1 f2 f3 f4 f5 f6 f7 f8 f9 f10 hK_0_140 hK_0_141 hK_0_142 hK_0_143 kz_0_146 kz_0_147 ex2 ex3 ey2 ey3 eu2 eu3
  have nf11 : fc_1 PRD (20, [21, 5], [50, 0, 0, 1, 2, 1, 0, 1, 1]) ws (vs ++ [Value.int x, Value.int y, Value.int u]) := by
    refine ⟨fun n hn => ?_, ?_⟩
    · have hn : n ∈ [21, 5] := hn
      rw [List.length_append, hl]
      simp only [List.mem_cons, List.not_mem_nil, or_false] at hn
      show n < 19 + 3; omega
    · show v_iv (n_v (vs ++ [Value.int x, Value.int y, Value.int u]) 21) = v_iv (n_v (vs ++ [Value.int x, Value.int y, Value.int u]) 5)
      rw [e_5]
      rw [e_21]
      rw [q5]
      exact vc_Mo_backFrom_17_11 (v_iv (n_v vs 1)) (v_iv (n_v vs 2)) (v_iv (n_v vs 3)) (v_iv (n_v vs 5)) (v_iv (n_v vs 6)) (v_iv (n_v vs 8)) (v_iv (n_v vs 11)) (v_iv (n_v vs 12)) (v_iv (n_v vs 13)) (v_iv (n_v vs 14)) (v_iv (n_v vs 15)) (v_iv (n_v vs 16)) (v_iv (n_v vs 17)) (v_iv (n_v vs 18)) (w_ei ws (w_ar ws (n_v vs 0) 143)) (w_ei ws (w_ar ws (n_v vs 0) 140)) (w_ei ws (w_ar ws (n_v vs 0) 141)) (w_ei ws (w_ar ws (n_v vs 0) 142)) (w_fi ws (n_v vs 0) 146) (w_fi ws (n_v vs 0) 147) (v_iv (Value.int x)) (v_iv (Value.int y)) (v_iv (Value.int u)) k1 k2 k3 k5 k6 k8 k11 k12 k13 k14 k15 k16 k17 k18 d0 d1 d2 d3 d4 d5 d6 d7 d8 f0 f1 f2 f3 f4 f5 f6 f7 f8 f9 f10 hK_0_140 hK_0_141 hK_0_142 hK_0_143 kz_0_146 kz_0_147 ex2 ex3 ey2 ey3 eu2 eu3
  exact ⟨(fun _ h => (by cases h)), [Value.int x, Value.int y, Value.int u], ag_three hx hy hu, List.forall_mem_cons.mpr ⟨⟨show (23 : Nat) < 100 from by decide, nf0⟩, List.forall_mem_cons.mpr ⟨⟨show (23 : Nat) < 100 from by decide, nf1⟩, List.forall_mem_cons.mpr ⟨⟨show (23 : Nat) < 100 from by decide, nf2⟩, List.forall_mem_cons.mpr ⟨⟨show (23 : Nat) < 100 from by decide, nf3⟩, List.forall_mem_cons.mpr ⟨⟨show (23 : Nat) < 100 from by decide, nf4⟩, List.forall_mem_cons.mpr ⟨⟨show (23 : Nat) < 100 from by decide, nf5⟩, List.forall_mem_cons.mpr ⟨⟨show (20 : Nat) < 100 from by decide, nf6⟩, List.forall_mem_cons.mpr ⟨⟨show (20 : Nat) < 100 from by decide, nf7⟩, List.forall_mem_cons.mpr ⟨⟨show (20 : Nat) < 100 from by decide, nf8⟩, List.forall_mem_cons.mpr ⟨⟨show (20 : Nat) < 100 from by decide, nf9⟩, List.forall_mem_cons.mpr ⟨⟨show (20 : Nat) < 100 from by decide, nf10⟩, List.forall_mem_cons.mpr ⟨⟨show (20 : Nat) < 100 from by decide, nf11⟩, (fun _ h => (by cases h))⟩⟩⟩⟩⟩⟩⟩⟩⟩⟩⟩⟩, (fun _ h => (by cases h))⟩
set_option maxHeartbeats 4000000 in
theorem vc_Mo_backFrom_18_0 (x1 : Int) (x2 : Int) (x3 : Int) (x5 : Int) (x6 : Int) (x8 : Int) (x11 : Int) (x12 : Int) (x13 : Int) (x14 : Int) (x15 : Int) (x16 : Int) (x17 : Int) (x18 : Int) (x19 : Int) (x20 : Int) (x21 : Int) (x22 : Int) (barredPoint_0 : Int → Int) (wide_0 : Int) (tall_0 : Int) (costOf_0 : Int → Int) (bucket_0 : Int → Int) (bucketMany_0 : Int → Int) (k1 : 0 ≤ x1 ∧ x1 ≤ 23999) (k2 : 0 ≤ x2 ∧ x2 ≤ 1000000) (k3 : 0 ≤ x3 ∧ x3 ≤ 5999) (k5 : 0 ≤ x5 ∧ x5 ≤ 23999) (k6 : 0 ≤ x6 ∧ x6 ≤ 1000000) (k8 : 0 ≤ x8 ∧ x8 ≤ 3) (k11 : 0 ≤ x11 ∧ x11 ≤ 5999) (k12 : 0 ≤ x12 ∧ x12 ≤ 3) (k13 : 4 ≤ x13 ∧ x13 ≤ 4) (k14 : 4 ≤ x14 ∧ x14 ≤ 4) (k15 : 0 ≤ x15 ∧ x15 ≤ 23996) (k16 : 0 ≤ x16 ∧ x16 ≤ 23999) (k17 : 3 ≤ x17 ∧ x17 ≤ 3) (k18 : 3 ≤ x18 ∧ x18 ≤ 1000003) (k19 : 0 ≤ x19 ∧ x19 ≤ 5999) (k20 : 0 ≤ x20 ∧ x20 ≤ 1000008) (k21 : 0 ≤ x21 ∧ x21 ≤ 23999) (k22 : 1 ≤ x22 ∧ x22 ≤ 4) (d0 : x12 + 1 ≤ x22 ∧ x22 ≤ x12 + 1) (d1 : x6 + 3 ≤ x18 ∧ x18 ≤ x6 + 3) (d2 : x2 + (-4294967296) ≤ x18 ∧ x18 ≤ x2 + 3) (d3 : x12 + 0 ≤ x16 ∧ x16 ≤ x12 + 23996) (d4 : x15 + 0 ≤ x16 ∧ x16 ≤ x15 + 3) (d5 : x5 + (-4294967296) ≤ x1 ∧ x1 ≤ x5 + 0) (d6 : x6 + (-4294967296) ≤ x2 ∧ x2 ≤ x6 + 0) (d7 : x1 + (-4294967296) ≤ x5 ∧ x5 ≤ x1 + 0) (d8 : x2 + (-4294967296) ≤ x6 ∧ x6 ≤ x2 + 0) (d9 : x11 + (-4294967296) ≤ x8 ∧ x8 ≤ x11 + 2) (f0 : x22 = x12 + 1) (f1 : 1 * x19 + ((-1) * x3 + 0) ≤ 0) (f2 : (-1) * x19 + (1 * x3 + 0) ≤ 0) (f3 : 1 * x20 + ((-1) * x2 + 0) ≤ 0) (f4 : (-1) * x20 + (1 * x2 + 0) ≤ 0) (f5 : 1 * x21 + ((-1) * x1 + 0) ≤ 0) (f6 : (-1) * x21 + (1 * x1 + 0) ≤ 0) (f7 : x19 = x3) (f8 : x20 = x2) (f9 : x21 = x1) (f10 : BFP (wide_0) (tall_0) (barredPoint_0) (x1) (x11)) (f11 : x8 = (x1 % 4)) (f12 : (0 ≤ x2) ∧ (x2 ≤ 999999)) (f13 : (0 ≤ x11) ∧ ((x11 + 1) ≤ (wide_0 * tall_0))) (f17 : RTQ (wide_0) (tall_0) (barredPoint_0) (costOf_0) (bucket_0) (bucketMany_0) (x19) (x20)) (f18 : PIV (costOf_0) (x21) (x20)) (f20 : 1 * x19 + ((-1) * x3 + 0) ≤ 0) (f21 : (-1) * x19 + (1 * x3 + 0) ≤ 0) (f22 : 1 * x20 + ((-1) * x2 + 0) ≤ 0) (f23 : (-1) * x20 + (1 * x2 + 0) ≤ 0) (f24 : 1 * x21 + ((-1) * x1 + 0) ≤ 0) (f25 : (-1) * x21 + (1 * x1 + 0) ≤ 0) (f26 : x18 = x2 + x17) (f27 : x12 ≠ x8) (f28 : x16 = x15 + x12) (f29 : x15 = 4 * x11) (f30 : x12 < x13) (hK_0_140 : ∀ j : Int, 0 ≤ j → j < 24000 → 0 ≤ costOf_0 j ∧ costOf_0 j ≤ 1000000) (hK_0_141 : ∀ j : Int, 0 ≤ j → j < 96040 → 0 ≤ bucket_0 j ∧ bucket_0 j ≤ 23999) (hK_0_142 : ∀ j : Int, 0 ≤ j → j < 4 → 0 ≤ bucketMany_0 j ∧ bucketMany_0 j ≤ 24009) (hK_0_143 : ∀ j : Int, 0 ≤ j → j < 6000 → 0 ≤ barredPoint_0 j ∧ barredPoint_0 j ≤ 1) (kz_0_146 : (-2147483648) ≤ wide_0 ∧ wide_0 ≤ 2147483647) (kz_0_147 : (-2147483648) ≤ tall_0 ∧ tall_0 ≤ 2147483647) : RTQ (wide_0) (tall_0) (barredPoint_0) (costOf_0) (bucket_0) (bucketMany_0) (x3) (x2) := by
  first
    | assumption
    | (rw [show x3 = x19 by omega, show x2 = x20 by omega]; assumption)
set_option maxHeartbeats 4000000 in
theorem vc_Mo_backFrom_18_1 (x1 : Int) (x2 : Int) (x3 : Int) (x5 : Int) (x6 : Int) (x8 : Int) (x11 : Int) (x12 : Int) (x13 : Int) (x14 : Int) (x15 : Int) (x16 : Int) (x17 : Int) (x18 : Int) (x19 : Int) (x20 : Int) (x21 : Int) (x22 : Int) (barredPoint_0 : Int → Int) (wide_0 : Int) (tall_0 : Int) (costOf_0 : Int → Int) (bucket_0 : Int → Int) (bucketMany_0 : Int → Int) (k1 : 0 ≤ x1 ∧ x1 ≤ 23999) (k2 : 0 ≤ x2 ∧ x2 ≤ 1000000) (k3 : 0 ≤ x3 ∧ x3 ≤ 5999) (k5 : 0 ≤ x5 ∧ x5 ≤ 23999) (k6 : 0 ≤ x6 ∧ x6 ≤ 1000000) (k8 : 0 ≤ x8 ∧ x8 ≤ 3) (k11 : 0 ≤ x11 ∧ x11 ≤ 5999) (k12 : 0 ≤ x12 ∧ x12 ≤ 3) (k13 : 4 ≤ x13 ∧ x13 ≤ 4) (k14 : 4 ≤ x14 ∧ x14 ≤ 4) (k15 : 0 ≤ x15 ∧ x15 ≤ 23996) (k16 : 0 ≤ x16 ∧ x16 ≤ 23999) (k17 : 3 ≤ x17 ∧ x17 ≤ 3) (k18 : 3 ≤ x18 ∧ x18 ≤ 1000003) (k19 : 0 ≤ x19 ∧ x19 ≤ 5999) (k20 : 0 ≤ x20 ∧ x20 ≤ 1000008) (k21 : 0 ≤ x21 ∧ x21 ≤ 23999) (k22 : 1 ≤ x22 ∧ x22 ≤ 4) (d0 : x12 + 1 ≤ x22 ∧ x22 ≤ x12 + 1) (d1 : x6 + 3 ≤ x18 ∧ x18 ≤ x6 + 3) (d2 : x2 + (-4294967296) ≤ x18 ∧ x18 ≤ x2 + 3) (d3 : x12 + 0 ≤ x16 ∧ x16 ≤ x12 + 23996) (d4 : x15 + 0 ≤ x16 ∧ x16 ≤ x15 + 3) (d5 : x5 + (-4294967296) ≤ x1 ∧ x1 ≤ x5 + 0) (d6 : x6 + (-4294967296) ≤ x2 ∧ x2 ≤ x6 + 0) (d7 : x1 + (-4294967296) ≤ x5 ∧ x5 ≤ x1 + 0) (d8 : x2 + (-4294967296) ≤ x6 ∧ x6 ≤ x2 + 0) (d9 : x11 + (-4294967296) ≤ x8 ∧ x8 ≤ x11 + 2) (f0 : x22 = x12 + 1) (f1 : 1 * x19 + ((-1) * x3 + 0) ≤ 0) (f2 : (-1) * x19 + (1 * x3 + 0) ≤ 0) (f3 : 1 * x20 + ((-1) * x2 + 0) ≤ 0) (f4 : (-1) * x20 + (1 * x2 + 0) ≤ 0) (f5 : 1 * x21 + ((-1) * x1 + 0) ≤ 0) (f6 : (-1) * x21 + (1 * x1 + 0) ≤ 0) (f7 : x19 = x3) (f8 : x20 = x2) (f9 : x21 = x1) (f10 : BFP (wide_0) (tall_0) (barredPoint_0) (x1) (x11)) (f11 : x8 = (x1 % 4)) (f12 : (0 ≤ x2) ∧ (x2 ≤ 999999)) (f13 : (0 ≤ x11) ∧ ((x11 + 1) ≤ (wide_0 * tall_0))) (f17 : RTQ (wide_0) (tall_0) (barredPoint_0) (costOf_0) (bucket_0) (bucketMany_0) (x19) (x20)) (f18 : PIV (costOf_0) (x21) (x20)) (f20 : 1 * x19 + ((-1) * x3 + 0) ≤ 0) (f21 : (-1) * x19 + (1 * x3 + 0) ≤ 0) (f22 : 1 * x20 + ((-1) * x2 + 0) ≤ 0) (f23 : (-1) * x20 + (1 * x2 + 0) ≤ 0) (f24 : 1 * x21 + ((-1) * x1 + 0) ≤ 0) (f25 : (-1) * x21 + (1 * x1 + 0) ≤ 0) (f26 : x18 = x2 + x17) (f27 : x12 ≠ x8) (f28 : x16 = x15 + x12) (f29 : x15 = 4 * x11) (f30 : x12 < x13) (hK_0_140 : ∀ j : Int, 0 ≤ j → j < 24000 → 0 ≤ costOf_0 j ∧ costOf_0 j ≤ 1000000) (hK_0_141 : ∀ j : Int, 0 ≤ j → j < 96040 → 0 ≤ bucket_0 j ∧ bucket_0 j ≤ 23999) (hK_0_142 : ∀ j : Int, 0 ≤ j → j < 4 → 0 ≤ bucketMany_0 j ∧ bucketMany_0 j ≤ 24009) (hK_0_143 : ∀ j : Int, 0 ≤ j → j < 6000 → 0 ≤ barredPoint_0 j ∧ barredPoint_0 j ≤ 1) (kz_0_146 : (-2147483648) ≤ wide_0 ∧ wide_0 ≤ 2147483647) (kz_0_147 : (-2147483648) ≤ tall_0 ∧ tall_0 ≤ 2147483647) : PIV (costOf_0) (x1) (x2) := by
  first
    | assumption
    | (rw [show x1 = x21 by omega, show x2 = x20 by omega]; assumption)
def o_Mo_backFrom_18 : or_T := (94, 23, [(0, (2, 0, 0, [150])), (1, (0, 0, 23999, [])), (2, (0, 0, 1000000, [])), (3, (0, 0, 5999, [])), (4, (2, 0, 0, [150])), (5, (0, 0, 23999, [])), (6, (0, 0, 1000000, [])), (8, (0, 0, 3, [])), (11, (0, 0, 5999, [])), (12, (0, 0, 3, [])), (13, (0, 4, 4, [])), (14, (0, 4, 4, [])), (15, (0, 0, 23996, [])), (16, (0, 0, 23999, [])), (17, (0, 3, 3, [])), (18, (0, 3, 1000003, [])), (19, (0, 0, 5999, [])), (20, (0, 0, 1000008, [])), (21, (0, 0, 23999, [])), (22, (0, 1, 4, []))], [(6, [22, 12], [1]), (23, [19, 3], [0, 1, -1]), (23, [19, 3], [0, -1, 1]), (23, [20, 6], [0, 1, -1]), (23, [20, 6], [0, -1, 1]), (23, [21, 5], [0, 1, -1]), (23, [21, 5], [0, -1, 1]), (20, [19, 3], [50, 0, 0, 1, 2, 1, 0, 1, 1]), (20, [20, 6], [50, 0, 0, 1, 2, 1, 0, 1, 1]), (20, [21, 5], [50, 0, 0, 1, 2, 1, 0, 1, 1]), (20, [4, 5, 11], [60, 2, 1, 424, 146, 147, 143]), (20, [8, 5], [50, 0, 0, 1, 2, 1, 0, 9, 2, 1, 1, 0, 4]), (20, [6], [50, 0, 0, 2, 6, 0, 2, 0, 0, 1, 0, 0, 2, 1, 0, 0, 999999]), (20, [11, 4], [50, 2, 0, 1146, 1147, 2, 6, 0, 2, 0, 0, 1, 0, 0, 6, 4, 2, 1, 0, 0, 1, 6, 3, 2, 1, 146, 2, 1, 147]), (24, [0, 4], []), (24, [1, 5], []), (24, [2, 6], []), (20, [4, 19, 20], [60, 2, 4, 419, 146, 147, 143, 140, 141, 142]), (20, [4, 21, 20], [60, 0, 1, 421, 140]), (102, [21], [25329519520662917748906152970650479842902809145608873383631346501730997108736]), (23, [19, 3], [0, 1, -1]), (23, [19, 3], [0, -1, 1]), (23, [20, 6], [0, 1, -1]), (23, [20, 6], [0, -1, 1]), (23, [21, 5], [0, 1, -1]), (23, [21, 5], [0, -1, 1]), (1, [18, 6, 17], []), (7, [12, 8], [1]), (1, [16, 15, 12], []), (3, [15, 14, 11], []), (7, [12, 13], [2])], [], [], [(20, [4, 3, 6], [60, 2, 4, 419, 146, 147, 143, 140, 141, 142]), (20, [4, 5, 6], [60, 0, 1, 421, 140])], [], [(22, 12, 1, 1), (18, 6, 3, 3), (18, 2, -4294967296, 3), (16, 12, 0, 23996), (16, 15, 0, 3), (1, 5, -4294967296, 0), (2, 6, -4294967296, 0), (5, 1, -4294967296, 0), (6, 2, -4294967296, 0), (8, 11, -4294967296, 2)])
theorem oo_Mo_backFrom_18 {kA : Nat → ClassId} : or_ok PRD kA GG o_Mo_backFrom_18 := by
  intro A ta ws vs hD hth hl hk hds hf
  have hl : vs.length = 23 := hl
  have hk : ∀ q ∈ ([(0, (2, 0, 0, [150])), (1, (0, 0, 23999, [])), (2, (0, 0, 1000000, [])), (3, (0, 0, 5999, [])), (4, (2, 0, 0, [150])), (5, (0, 0, 23999, [])), (6, (0, 0, 1000000, [])), (8, (0, 0, 3, [])), (11, (0, 0, 5999, [])), (12, (0, 0, 3, [])), (13, (0, 4, 4, [])), (14, (0, 4, 4, [])), (15, (0, 0, 23996, [])), (16, (0, 0, 23999, [])), (17, (0, 3, 3, [])), (18, (0, 3, 1000003, [])), (19, (0, 0, 5999, [])), (20, (0, 0, 1000008, [])), (21, (0, 0, 23999, [])), (22, (0, 1, 4, []))] : List (Nat × tv_T)), tv_ok ta q.2 (n_v vs q.1) := hk
  obtain ⟨t0, hk⟩ := List.forall_mem_cons.mp hk
  have t0 : tv_ok ta (2, 0, 0, [150]) (n_v vs 0) := t0
  have r0 : ta (v_ad (n_v vs 0)) = some 150 := tv_rg t0
  obtain ⟨t1, hk⟩ := List.forall_mem_cons.mp hk
  have t1 : tv_ok ta (0, 0, 23999, []) (n_v vs 1) := t1
  have k1 : 0 ≤ v_iv (n_v vs 1) ∧ v_iv (n_v vs 1) ≤ 23999 := tv_rng t1
  obtain ⟨t2, hk⟩ := List.forall_mem_cons.mp hk
  have t2 : tv_ok ta (0, 0, 1000000, []) (n_v vs 2) := t2
  have k2 : 0 ≤ v_iv (n_v vs 2) ∧ v_iv (n_v vs 2) ≤ 1000000 := tv_rng t2
  obtain ⟨t3, hk⟩ := List.forall_mem_cons.mp hk
  have t3 : tv_ok ta (0, 0, 5999, []) (n_v vs 3) := t3
  have k3 : 0 ≤ v_iv (n_v vs 3) ∧ v_iv (n_v vs 3) ≤ 5999 := tv_rng t3
  obtain ⟨t4, hk⟩ := List.forall_mem_cons.mp hk
  have t4 : tv_ok ta (2, 0, 0, [150]) (n_v vs 4) := t4
  have r4 : ta (v_ad (n_v vs 4)) = some 150 := tv_rg t4
  obtain ⟨t5, hk⟩ := List.forall_mem_cons.mp hk
  have t5 : tv_ok ta (0, 0, 23999, []) (n_v vs 5) := t5
  have k5 : 0 ≤ v_iv (n_v vs 5) ∧ v_iv (n_v vs 5) ≤ 23999 := tv_rng t5
  obtain ⟨t6, hk⟩ := List.forall_mem_cons.mp hk
  have t6 : tv_ok ta (0, 0, 1000000, []) (n_v vs 6) := t6
  have k6 : 0 ≤ v_iv (n_v vs 6) ∧ v_iv (n_v vs 6) ≤ 1000000 := tv_rng t6
  obtain ⟨t8, hk⟩ := List.forall_mem_cons.mp hk
  have t8 : tv_ok ta (0, 0, 3, []) (n_v vs 8) := t8
  have k8 : 0 ≤ v_iv (n_v vs 8) ∧ v_iv (n_v vs 8) ≤ 3 := tv_rng t8
  obtain ⟨t11, hk⟩ := List.forall_mem_cons.mp hk
  have t11 : tv_ok ta (0, 0, 5999, []) (n_v vs 11) := t11
  have k11 : 0 ≤ v_iv (n_v vs 11) ∧ v_iv (n_v vs 11) ≤ 5999 := tv_rng t11
  obtain ⟨t12, hk⟩ := List.forall_mem_cons.mp hk
  have t12 : tv_ok ta (0, 0, 3, []) (n_v vs 12) := t12
  have k12 : 0 ≤ v_iv (n_v vs 12) ∧ v_iv (n_v vs 12) ≤ 3 := tv_rng t12
  obtain ⟨t13, hk⟩ := List.forall_mem_cons.mp hk
  have t13 : tv_ok ta (0, 4, 4, []) (n_v vs 13) := t13
  have k13 : 4 ≤ v_iv (n_v vs 13) ∧ v_iv (n_v vs 13) ≤ 4 := tv_rng t13
  obtain ⟨t14, hk⟩ := List.forall_mem_cons.mp hk
  have t14 : tv_ok ta (0, 4, 4, []) (n_v vs 14) := t14
  have k14 : 4 ≤ v_iv (n_v vs 14) ∧ v_iv (n_v vs 14) ≤ 4 := tv_rng t14
  obtain ⟨t15, hk⟩ := List.forall_mem_cons.mp hk
  have t15 : tv_ok ta (0, 0, 23996, []) (n_v vs 15) := t15
  have k15 : 0 ≤ v_iv (n_v vs 15) ∧ v_iv (n_v vs 15) ≤ 23996 := tv_rng t15
  obtain ⟨t16, hk⟩ := List.forall_mem_cons.mp hk
  have t16 : tv_ok ta (0, 0, 23999, []) (n_v vs 16) := t16
  have k16 : 0 ≤ v_iv (n_v vs 16) ∧ v_iv (n_v vs 16) ≤ 23999 := tv_rng t16
  obtain ⟨t17, hk⟩ := List.forall_mem_cons.mp hk
  have t17 : tv_ok ta (0, 3, 3, []) (n_v vs 17) := t17
  have k17 : 3 ≤ v_iv (n_v vs 17) ∧ v_iv (n_v vs 17) ≤ 3 := tv_rng t17
  obtain ⟨t18, hk⟩ := List.forall_mem_cons.mp hk
  have t18 : tv_ok ta (0, 3, 1000003, []) (n_v vs 18) := t18
  have k18 : 3 ≤ v_iv (n_v vs 18) ∧ v_iv (n_v vs 18) ≤ 1000003 := tv_rng t18
  obtain ⟨t19, hk⟩ := List.forall_mem_cons.mp hk
  have t19 : tv_ok ta (0, 0, 5999, []) (n_v vs 19) := t19
  have k19 : 0 ≤ v_iv (n_v vs 19) ∧ v_iv (n_v vs 19) ≤ 5999 := tv_rng t19
  obtain ⟨t20, hk⟩ := List.forall_mem_cons.mp hk
  have t20 : tv_ok ta (0, 0, 1000008, []) (n_v vs 20) := t20
  have k20 : 0 ≤ v_iv (n_v vs 20) ∧ v_iv (n_v vs 20) ≤ 1000008 := tv_rng t20
  obtain ⟨t21, hk⟩ := List.forall_mem_cons.mp hk
  have t21 : tv_ok ta (0, 0, 23999, []) (n_v vs 21) := t21
  have k21 : 0 ≤ v_iv (n_v vs 21) ∧ v_iv (n_v vs 21) ≤ 23999 := tv_rng t21
  obtain ⟨t22, hk⟩ := List.forall_mem_cons.mp hk
  have t22 : tv_ok ta (0, 1, 4, []) (n_v vs 22) := t22
  have k22 : 1 ≤ v_iv (n_v vs 22) ∧ v_iv (n_v vs 22) ≤ 4 := tv_rng t22
  have hds : ∀ q ∈ ([(22, 12, 1, 1), (18, 6, 3, 3), (18, 2, -4294967296, 3), (16, 12, 0, 23996), (16, 15, 0, 3), (1, 5, -4294967296, 0), (2, 6, -4294967296, 0), (5, 1, -4294967296, 0), (6, 2, -4294967296, 0), (8, 11, -4294967296, 2)] : List of_T), n_iv vs q.2.1 + q.2.2.1 ≤ n_iv vs q.1 ∧ n_iv vs q.1 ≤ n_iv vs q.2.1 + q.2.2.2 := hds
  obtain ⟨d0, hds⟩ := List.forall_mem_cons.mp hds
  have d0 : v_iv (n_v vs 12) + 1 ≤ v_iv (n_v vs 22) ∧ v_iv (n_v vs 22) ≤ v_iv (n_v vs 12) + 1 := d0
  obtain ⟨d1, hds⟩ := List.forall_mem_cons.mp hds
  have d1 : v_iv (n_v vs 6) + 3 ≤ v_iv (n_v vs 18) ∧ v_iv (n_v vs 18) ≤ v_iv (n_v vs 6) + 3 := d1
  obtain ⟨d2, hds⟩ := List.forall_mem_cons.mp hds
  have d2 : v_iv (n_v vs 2) + (-4294967296) ≤ v_iv (n_v vs 18) ∧ v_iv (n_v vs 18) ≤ v_iv (n_v vs 2) + 3 := d2
  obtain ⟨d3, hds⟩ := List.forall_mem_cons.mp hds
  have d3 : v_iv (n_v vs 12) + 0 ≤ v_iv (n_v vs 16) ∧ v_iv (n_v vs 16) ≤ v_iv (n_v vs 12) + 23996 := d3
  obtain ⟨d4, hds⟩ := List.forall_mem_cons.mp hds
  have d4 : v_iv (n_v vs 15) + 0 ≤ v_iv (n_v vs 16) ∧ v_iv (n_v vs 16) ≤ v_iv (n_v vs 15) + 3 := d4
  obtain ⟨d5, hds⟩ := List.forall_mem_cons.mp hds
  have d5 : v_iv (n_v vs 5) + (-4294967296) ≤ v_iv (n_v vs 1) ∧ v_iv (n_v vs 1) ≤ v_iv (n_v vs 5) + 0 := d5
  obtain ⟨d6, hds⟩ := List.forall_mem_cons.mp hds
  have d6 : v_iv (n_v vs 6) + (-4294967296) ≤ v_iv (n_v vs 2) ∧ v_iv (n_v vs 2) ≤ v_iv (n_v vs 6) + 0 := d6
  obtain ⟨d7, hds⟩ := List.forall_mem_cons.mp hds
  have d7 : v_iv (n_v vs 1) + (-4294967296) ≤ v_iv (n_v vs 5) ∧ v_iv (n_v vs 5) ≤ v_iv (n_v vs 1) + 0 := d7
  obtain ⟨d8, hds⟩ := List.forall_mem_cons.mp hds
  have d8 : v_iv (n_v vs 2) + (-4294967296) ≤ v_iv (n_v vs 6) ∧ v_iv (n_v vs 6) ≤ v_iv (n_v vs 2) + 0 := d8
  obtain ⟨d9, hds⟩ := List.forall_mem_cons.mp hds
  have d9 : v_iv (n_v vs 11) + (-4294967296) ≤ v_iv (n_v vs 8) ∧ v_iv (n_v vs 8) ≤ v_iv (n_v vs 11) + 2 := d9
  have hf : fc_ok PRD [(6, [22, 12], [1]), (23, [19, 3], [0, 1, -1]), (23, [19, 3], [0, -1, 1]), (23, [20, 6], [0, 1, -1]), (23, [20, 6], [0, -1, 1]), (23, [21, 5], [0, 1, -1]), (23, [21, 5], [0, -1, 1]), (20, [19, 3], [50, 0, 0, 1, 2, 1, 0, 1, 1]), (20, [20, 6], [50, 0, 0, 1, 2, 1, 0, 1, 1]), (20, [21, 5], [50, 0, 0, 1, 2, 1, 0, 1, 1]), (20, [4, 5, 11], [60, 2, 1, 424, 146, 147, 143]), (20, [8, 5], [50, 0, 0, 1, 2, 1, 0, 9, 2, 1, 1, 0, 4]), (20, [6], [50, 0, 0, 2, 6, 0, 2, 0, 0, 1, 0, 0, 2, 1, 0, 0, 999999]), (20, [11, 4], [50, 2, 0, 1146, 1147, 2, 6, 0, 2, 0, 0, 1, 0, 0, 6, 4, 2, 1, 0, 0, 1, 6, 3, 2, 1, 146, 2, 1, 147]), (24, [0, 4], []), (24, [1, 5], []), (24, [2, 6], []), (20, [4, 19, 20], [60, 2, 4, 419, 146, 147, 143, 140, 141, 142]), (20, [4, 21, 20], [60, 0, 1, 421, 140]), (102, [21], [25329519520662917748906152970650479842902809145608873383631346501730997108736]), (23, [19, 3], [0, 1, -1]), (23, [19, 3], [0, -1, 1]), (23, [20, 6], [0, 1, -1]), (23, [20, 6], [0, -1, 1]), (23, [21, 5], [0, 1, -1]), (23, [21, 5], [0, -1, 1]), (1, [18, 6, 17], []), (7, [12, 8], [1]), (1, [16, 15, 12], []), (3, [15, 14, 11], []), (7, [12, 13], [2])] ta ws vs := hf
  obtain ⟨f0, hf⟩ := fc_un (show (6 : Nat) < 100 from by decide) hf
  have f0 : v_iv (n_v vs 22) = v_iv (n_v vs 12) + 1 := f0
  obtain ⟨f1, hf⟩ := fc_un (show (23 : Nat) < 100 from by decide) hf
  have f1 : 1 * v_iv (n_v vs 19) + ((-1) * v_iv (n_v vs 3) + 0) ≤ 0 := f1
  obtain ⟨f2, hf⟩ := fc_un (show (23 : Nat) < 100 from by decide) hf
  have f2 : (-1) * v_iv (n_v vs 19) + (1 * v_iv (n_v vs 3) + 0) ≤ 0 := f2
  obtain ⟨f3, hf⟩ := fc_un (show (23 : Nat) < 100 from by decide) hf
  have f3 : 1 * v_iv (n_v vs 20) + ((-1) * v_iv (n_v vs 6) + 0) ≤ 0 := f3
  obtain ⟨f4, hf⟩ := fc_un (show (23 : Nat) < 100 from by decide) hf
  have f4 : (-1) * v_iv (n_v vs 20) + (1 * v_iv (n_v vs 6) + 0) ≤ 0 := f4
  obtain ⟨f5, hf⟩ := fc_un (show (23 : Nat) < 100 from by decide) hf
  have f5 : 1 * v_iv (n_v vs 21) + ((-1) * v_iv (n_v vs 5) + 0) ≤ 0 := f5
  obtain ⟨f6, hf⟩ := fc_un (show (23 : Nat) < 100 from by decide) hf
  have f6 : (-1) * v_iv (n_v vs 21) + (1 * v_iv (n_v vs 5) + 0) ≤ 0 := f6
  obtain ⟨f7, hf⟩ := fc_un (show (20 : Nat) < 100 from by decide) hf
  have f7 : v_iv (n_v vs 19) = v_iv (n_v vs 3) := f7
  obtain ⟨f8, hf⟩ := fc_un (show (20 : Nat) < 100 from by decide) hf
  have f8 : v_iv (n_v vs 20) = v_iv (n_v vs 6) := f8
  obtain ⟨f9, hf⟩ := fc_un (show (20 : Nat) < 100 from by decide) hf
  have f9 : v_iv (n_v vs 21) = v_iv (n_v vs 5) := f9
  obtain ⟨f10, hf⟩ := fc_un (show (20 : Nat) < 100 from by decide) hf
  have f10 : BFP (w_fi ws (n_v vs 4) 146) (w_fi ws (n_v vs 4) 147) (w_ei ws (w_ar ws (n_v vs 4) 143)) (v_iv (n_v vs 5)) (v_iv (n_v vs 11)) := f10
  obtain ⟨f11, hf⟩ := fc_un (show (20 : Nat) < 100 from by decide) hf
  have f11 : v_iv (n_v vs 8) = (v_iv (n_v vs 5) % 4) := f11
  obtain ⟨f12, hf⟩ := fc_un (show (20 : Nat) < 100 from by decide) hf
  have f12 : (0 ≤ v_iv (n_v vs 6)) ∧ (v_iv (n_v vs 6) ≤ 999999) := f12
  obtain ⟨f13, hf⟩ := fc_un (show (20 : Nat) < 100 from by decide) hf
  have f13 : (0 ≤ v_iv (n_v vs 11)) ∧ ((v_iv (n_v vs 11) + 1) ≤ (w_fi ws (n_v vs 4) 146 * w_fi ws (n_v vs 4) 147)) := f13
  obtain ⟨f14, hf⟩ := fc_un (show (24 : Nat) < 100 from by decide) hf
  have f14 : n_v vs 0 = n_v vs 4 := f14
  obtain ⟨f15, hf⟩ := fc_un (show (24 : Nat) < 100 from by decide) hf
  have f15 : n_v vs 1 = n_v vs 5 := f15
  obtain ⟨f16, hf⟩ := fc_un (show (24 : Nat) < 100 from by decide) hf
  have f16 : n_v vs 2 = n_v vs 6 := f16
  obtain ⟨f17, hf⟩ := fc_un (show (20 : Nat) < 100 from by decide) hf
  have f17 : RTQ (w_fi ws (n_v vs 4) 146) (w_fi ws (n_v vs 4) 147) (w_ei ws (w_ar ws (n_v vs 4) 143)) (w_ei ws (w_ar ws (n_v vs 4) 140)) (w_ei ws (w_ar ws (n_v vs 4) 141)) (w_ei ws (w_ar ws (n_v vs 4) 142)) (v_iv (n_v vs 19)) (v_iv (n_v vs 20)) := f17
  obtain ⟨f18, hf⟩ := fc_un (show (20 : Nat) < 100 from by decide) hf
  have f18 : PIV (w_ei ws (w_ar ws (n_v vs 4) 140)) (v_iv (n_v vs 21)) (v_iv (n_v vs 20)) := f18
  obtain ⟨ta1, w1, le1, ⟨_, s1⟩, hf⟩ := fc_us (show ¬ (102 : Nat) < 100 from by decide) hf
  obtain ⟨f20, hf⟩ := fc_un (show (23 : Nat) < 100 from by decide) hf
  have f20 : 1 * v_iv (n_v vs 19) + ((-1) * v_iv (n_v vs 3) + 0) ≤ 0 := f20
  obtain ⟨f21, hf⟩ := fc_un (show (23 : Nat) < 100 from by decide) hf
  have f21 : (-1) * v_iv (n_v vs 19) + (1 * v_iv (n_v vs 3) + 0) ≤ 0 := f21
  obtain ⟨f22, hf⟩ := fc_un (show (23 : Nat) < 100 from by decide) hf
  have f22 : 1 * v_iv (n_v vs 20) + ((-1) * v_iv (n_v vs 6) + 0) ≤ 0 := f22
  obtain ⟨f23, hf⟩ := fc_un (show (23 : Nat) < 100 from by decide) hf
  have f23 : (-1) * v_iv (n_v vs 20) + (1 * v_iv (n_v vs 6) + 0) ≤ 0 := f23
  obtain ⟨f24, hf⟩ := fc_un (show (23 : Nat) < 100 from by decide) hf
  have f24 : 1 * v_iv (n_v vs 21) + ((-1) * v_iv (n_v vs 5) + 0) ≤ 0 := f24
  obtain ⟨f25, hf⟩ := fc_un (show (23 : Nat) < 100 from by decide) hf
  have f25 : (-1) * v_iv (n_v vs 21) + (1 * v_iv (n_v vs 5) + 0) ≤ 0 := f25
  obtain ⟨f26, hf⟩ := fc_un (show (1 : Nat) < 100 from by decide) hf
  have f26 : v_iv (n_v vs 18) = v_iv (n_v vs 6) + v_iv (n_v vs 17) := f26
  obtain ⟨f27, hf⟩ := fc_un (show (7 : Nat) < 100 from by decide) hf
  have f27 : v_iv (n_v vs 12) ≠ v_iv (n_v vs 8) := f27
  obtain ⟨f28, hf⟩ := fc_un (show (1 : Nat) < 100 from by decide) hf
  have f28 : v_iv (n_v vs 16) = v_iv (n_v vs 15) + v_iv (n_v vs 12) := f28
  obtain ⟨f29, hf⟩ := fc_un (show (3 : Nat) < 100 from by decide) hf
  have f29 : v_iv (n_v vs 15) = v_iv (n_v vs 14) * v_iv (n_v vs 11) := f29
  rw [show v_iv (n_v vs 14) = 4 from by omega] at f29
  obtain ⟨f30, hf⟩ := fc_un (show (7 : Nat) < 100 from by decide) hf
  have f30 : v_iv (n_v vs 12) < v_iv (n_v vs 13) := f30
  have q4 : n_v vs 4 = n_v vs 0 := f14.symm
  have q5 : n_v vs 5 = n_v vs 1 := f15.symm
  have q6 : n_v vs 6 = n_v vs 2 := f16.symm
  rw [q6] at f3
  rw [q6] at f4
  rw [q5] at f5
  rw [q5] at f6
  rw [q6] at f8
  rw [q5] at f9
  rw [q4] at f10
  rw [q5] at f10
  rw [q5] at f11
  rw [q6] at f12
  rw [q4] at f13
  rw [q4] at f17
  rw [q4] at f18
  rw [q6] at f22
  rw [q6] at f23
  rw [q5] at f24
  rw [q5] at f25
  rw [q6] at f26
  have cr_0_140 : ta (w_ar ws (n_v vs 0) 140) = some 251 := tv_rg (th_fd hD hth r0 (g := GG_150) rfl (k := 140) (t := (2, 0, 0, [251])) rfl rfl)
  have cr_0_141 : ta (w_ar ws (n_v vs 0) 141) = some 252 := tv_rg (th_fd hD hth r0 (g := GG_150) rfl (k := 141) (t := (2, 0, 0, [252])) rfl rfl)
  have cr_0_142 : ta (w_ar ws (n_v vs 0) 142) = some 253 := tv_rg (th_fd hD hth r0 (g := GG_150) rfl (k := 142) (t := (2, 0, 0, [253])) rfl rfl)
  have cr_0_143 : ta (w_ar ws (n_v vs 0) 143) = some 254 := tv_rg (th_fd hD hth r0 (g := GG_150) rfl (k := 143) (t := (2, 0, 0, [254])) rfl rfl)
  have hK_0_140 : ∀ j : Int, 0 ≤ j → j < 24000 → 0 ≤ w_ei ws (w_ar ws (n_v vs 0) 140) j ∧ w_ei ws (w_ar ws (n_v vs 0) 140) j ≤ 1000000 := fun j h0 h1 => th_el hD hth cr_0_140 (kd := 0) (n := 24000) (m := 24000) (lo := 0) (hi := 1000000) (rs := []) (L := []) rfl (by decide) (j := j.toNat) (by omega)
  have hK_0_141 : ∀ j : Int, 0 ≤ j → j < 96040 → 0 ≤ w_ei ws (w_ar ws (n_v vs 0) 141) j ∧ w_ei ws (w_ar ws (n_v vs 0) 141) j ≤ 23999 := fun j h0 h1 => th_el hD hth cr_0_141 (kd := 0) (n := 96040) (m := 96040) (lo := 0) (hi := 23999) (rs := []) (L := []) rfl (by decide) (j := j.toNat) (by omega)
  have hK_0_142 : ∀ j : Int, 0 ≤ j → j < 4 → 0 ≤ w_ei ws (w_ar ws (n_v vs 0) 142) j ∧ w_ei ws (w_ar ws (n_v vs 0) 142) j ≤ 24009 := fun j h0 h1 => th_el hD hth cr_0_142 (kd := 0) (n := 4) (m := 4) (lo := 0) (hi := 24009) (rs := []) (L := []) rfl (by decide) (j := j.toNat) (by omega)
  have hK_0_143 : ∀ j : Int, 0 ≤ j → j < 6000 → 0 ≤ w_ei ws (w_ar ws (n_v vs 0) 143) j ∧ w_ei ws (w_ar ws (n_v vs 0) 143) j ≤ 1 := fun j h0 h1 => th_el hD hth cr_0_143 (kd := 2) (n := 6000) (m := 6000) (lo := 0) (hi := 1) (rs := []) (L := []) rfl (by decide) (j := j.toNat) (by omega)
  have kz_0_146 : (-2147483648) ≤ w_fi ws (n_v vs 0) 146 ∧ w_fi ws (n_v vs 0) 146 ≤ 2147483647 := tv_rng (th_fd hD hth r0 (g := GG_150) rfl (k := 146) (t := (0, -2147483648, 2147483647, [])) rfl rfl)
  have kz_0_147 : (-2147483648) ≤ w_fi ws (n_v vs 0) 147 ∧ w_fi ws (n_v vs 0) 147 ≤ 2147483647 := tv_rng (th_fd hD hth r0 (g := GG_150) rfl (k := 147) (t := (0, -2147483648, 2147483647, [])) rfl rfl)
  have nf0 : fc_1 PRD (20, [4, 3, 6], [60, 2, 4, 419, 146, 147, 143, 140, 141, 142]) ws (vs) := by
    refine ⟨fun n hn => ?_, ?_⟩
    · have hn : n ∈ [4, 3, 6] := hn
      rw [hl]
      simp only [List.mem_cons, List.not_mem_nil, or_false] at hn
      show n < 23; omega
    · show RTQ (w_fi ws (n_v vs 4) 146) (w_fi ws (n_v vs 4) 147) (w_ei ws (w_ar ws (n_v vs 4) 143)) (w_ei ws (w_ar ws (n_v vs 4) 140)) (w_ei ws (w_ar ws (n_v vs 4) 141)) (w_ei ws (w_ar ws (n_v vs 4) 142)) (v_iv (n_v vs 3)) (v_iv (n_v vs 6))
      rw [q4, q6]
      exact vc_Mo_backFrom_18_0 (v_iv (n_v vs 1)) (v_iv (n_v vs 2)) (v_iv (n_v vs 3)) (v_iv (n_v vs 5)) (v_iv (n_v vs 6)) (v_iv (n_v vs 8)) (v_iv (n_v vs 11)) (v_iv (n_v vs 12)) (v_iv (n_v vs 13)) (v_iv (n_v vs 14)) (v_iv (n_v vs 15)) (v_iv (n_v vs 16)) (v_iv (n_v vs 17)) (v_iv (n_v vs 18)) (v_iv (n_v vs 19)) (v_iv (n_v vs 20)) (v_iv (n_v vs 21)) (v_iv (n_v vs 22)) (w_ei ws (w_ar ws (n_v vs 0) 143)) (w_fi ws (n_v vs 0) 146) (w_fi ws (n_v vs 0) 147) (w_ei ws (w_ar ws (n_v vs 0) 140)) (w_ei ws (w_ar ws (n_v vs 0) 141)) (w_ei ws (w_ar ws (n_v vs 0) 142)) k1 k2 k3 k5 k6 k8 k11 k12 k13 k14 k15 k16 k17 k18 k19 k20 k21 k22 d0 d1 d2 d3 d4 d5 d6 d7 d8 d9 f0 f1 f2 f3 f4 f5 f6 f7 f8 f9 f10 f11 f12 f13 f17 f18 f20 f21 f22 f23 f24 f25 f26 f27 f28 f29 f30 hK_0_140 hK_0_141 hK_0_142 hK_0_143 kz_0_146 kz_0_147
  have nf1 : fc_1 PRD (20, [4, 5, 6], [60, 0, 1, 421, 140]) ws (vs) := by
    refine ⟨fun n hn => ?_, ?_⟩
    · have hn : n ∈ [4, 5, 6] := hn
      rw [hl]
      simp only [List.mem_cons, List.not_mem_nil, or_false] at hn
      show n < 23; omega
    · show PIV (w_ei ws (w_ar ws (n_v vs 4) 140)) (v_iv (n_v vs 5)) (v_iv (n_v vs 6))
      rw [q4, q5, q6]
      exact vc_Mo_backFrom_18_1 (v_iv (n_v vs 1)) (v_iv (n_v vs 2)) (v_iv (n_v vs 3)) (v_iv (n_v vs 5)) (v_iv (n_v vs 6)) (v_iv (n_v vs 8)) (v_iv (n_v vs 11)) (v_iv (n_v vs 12)) (v_iv (n_v vs 13)) (v_iv (n_v vs 14)) (v_iv (n_v vs 15)) (v_iv (n_v vs 16)) (v_iv (n_v vs 17)) (v_iv (n_v vs 18)) (v_iv (n_v vs 19)) (v_iv (n_v vs 20)) (v_iv (n_v vs 21)) (v_iv (n_v vs 22)) (w_ei ws (w_ar ws (n_v vs 0) 143)) (w_fi ws (n_v vs 0) 146) (w_fi ws (n_v vs 0) 147) (w_ei ws (w_ar ws (n_v vs 0) 140)) (w_ei ws (w_ar ws (n_v vs 0) 141)) (w_ei ws (w_ar ws (n_v vs 0) 142)) k1 k2 k3 k5 k6 k8 k11 k12 k13 k14 k15 k16 k17 k18 k19 k20 k21 k22 d0 d1 d2 d3 d4 d5 d6 d7 d8 d9 f0 f1 f2 f3 f4 f5 f6 f7 f8 f9 f10 f11 f12 f13 f17 f18 f20 f21 f22 f23 f24 f25 f26 f27 f28 f29 f30 hK_0_140 hK_0_141 hK_0_142 hK_0_143 kz_0_146 kz_0_147
  refine ⟨(fun _ h => (by cases h)), [], trivial, ?_, (fun _ h => (by cases h))⟩
  rw [List.append_nil]
  exact List.forall_mem_cons.mpr ⟨⟨show (20 : Nat) < 100 from by decide, nf0⟩, List.forall_mem_cons.mpr ⟨⟨show (20 : Nat) < 100 from by decide, nf1⟩, (fun _ h => (by cases h))⟩⟩
set_option maxHeartbeats 4000000 in
theorem vc_Mo_backFrom_19_0 (x1 : Int) (x2 : Int) (x3 : Int) (x5 : Int) (x6 : Int) (x8 : Int) (x11 : Int) (x12 : Int) (x13 : Int) (x14 : Int) (x15 : Int) (x16 : Int) (x17 : Int) (x18 : Int) (barredPoint_0 : Int → Int) (costOf_0 : Int → Int) (bucket_0 : Int → Int) (bucketMany_0 : Int → Int) (wide_0 : Int) (tall_0 : Int) (gx : Int) (gy : Int) (gu : Int) (k1 : 0 ≤ x1 ∧ x1 ≤ 23999) (k2 : 0 ≤ x2 ∧ x2 ≤ 1000000) (k3 : 0 ≤ x3 ∧ x3 ≤ 5999) (k5 : 0 ≤ x5 ∧ x5 ≤ 23999) (k6 : 0 ≤ x6 ∧ x6 ≤ 1000000) (k8 : 0 ≤ x8 ∧ x8 ≤ 3) (k11 : 0 ≤ x11 ∧ x11 ≤ 5999) (k12 : 0 ≤ x12 ∧ x12 ≤ 3) (k13 : 4 ≤ x13 ∧ x13 ≤ 4) (k14 : 4 ≤ x14 ∧ x14 ≤ 4) (k15 : 0 ≤ x15 ∧ x15 ≤ 23996) (k16 : 0 ≤ x16 ∧ x16 ≤ 23999) (k17 : 1 ≤ x17 ∧ x17 ≤ 1) (k18 : 1 ≤ x18 ∧ x18 ≤ 1000001) (d0 : x6 + 1 ≤ x18 ∧ x18 ≤ x6 + 1) (d1 : x2 + (-4294967296) ≤ x18 ∧ x18 ≤ x2 + 1) (d2 : x8 + 0 ≤ x12 ∧ x12 ≤ x8 + 0) (d3 : x12 + 0 ≤ x16 ∧ x16 ≤ x12 + 23996) (d4 : x15 + 0 ≤ x16 ∧ x16 ≤ x15 + 3) (d5 : x5 + (-4294967296) ≤ x1 ∧ x1 ≤ x5 + 0) (d6 : x6 + (-4294967296) ≤ x2 ∧ x2 ≤ x6 + 0) (d7 : x1 + (-4294967296) ≤ x5 ∧ x5 ≤ x1 + 0) (d8 : x2 + (-4294967296) ≤ x6 ∧ x6 ≤ x2 + 0) (d9 : x11 + (-4294967296) ≤ x8 ∧ x8 ≤ x11 + 2) (f0 : x18 = x2 + x17) (f1 : x12 = x8) (f2 : x16 = x15 + x12) (f3 : x15 = 4 * x11) (f4 : x12 < x13) (f5 : RTQ (wide_0) (tall_0) (barredPoint_0) (costOf_0) (bucket_0) (bucketMany_0) (x3) (x2)) (f6 : PIV (costOf_0) (x1) (x2)) (f7 : BFP (wide_0) (tall_0) (barredPoint_0) (x1) (x11)) (f8 : x8 = (x1 % 4)) (f9 : (0 ≤ x2) ∧ (x2 ≤ 999999)) (f10 : (0 ≤ x11) ∧ ((x11 + 1) ≤ (wide_0 * tall_0))) (hK_0_140 : ∀ j : Int, 0 ≤ j → j < 24000 → 0 ≤ costOf_0 j ∧ costOf_0 j ≤ 1000000) (hK_0_141 : ∀ j : Int, 0 ≤ j → j < 96040 → 0 ≤ bucket_0 j ∧ bucket_0 j ≤ 23999) (hK_0_142 : ∀ j : Int, 0 ≤ j → j < 4 → 0 ≤ bucketMany_0 j ∧ bucketMany_0 j ≤ 24009) (hK_0_143 : ∀ j : Int, 0 ≤ j → j < 6000 → 0 ≤ barredPoint_0 j ∧ barredPoint_0 j ≤ 1) (kz_0_146 : (-2147483648) ≤ wide_0 ∧ wide_0 ≤ 2147483647) (kz_0_147 : (-2147483648) ≤ tall_0 ∧ tall_0 ≤ 2147483647) (ex2 : gx = x3) (ex3 : 0 ≤ gx ∧ gx ≤ 5999) (ey2 : gy = x2) (ey3 : 0 ≤ gy ∧ gy ≤ 1000008) (eu2 : gu = x1) (eu3 : 0 ≤ gu ∧ gu ≤ 23999) : 1 * gx + ((-1) * x3 + 0) ≤ 0 := by
  first
    | omega
    | (have g := gok_bd (show GRX wide_0 tall_0 from ‹RTQ _ _ _ _ _ _ _ _›.1); omega)
    | (have g0 : GRX wide_0 tall_0 := ‹RTQ _ _ _ _ _ _ _ _›.1
       have g := gok_bd g0
       have e8 : x8 = wide_0 := by assumption
       have e20 : x20 = tall_0 := by assumption
       have c := cell_ix (W := x8) (T := x20) (x := x11) (y := x14) (p := x25) (by omega) (by omega) (by omega) (by omega) (by omega) (by rw [‹x25 = x24 + x11›, ‹x24 = x14 * x8›])
       have g3 := g0.2.2
       rw [e8, e20] at c
       omega)
    | (have h := ‹BFP _ _ _ _ _›.2.2.1; omega)
    | sorry
set_option maxHeartbeats 4000000 in
theorem vc_Mo_backFrom_19_1 (x1 : Int) (x2 : Int) (x3 : Int) (x5 : Int) (x6 : Int) (x8 : Int) (x11 : Int) (x12 : Int) (x13 : Int) (x14 : Int) (x15 : Int) (x16 : Int) (x17 : Int) (x18 : Int) (barredPoint_0 : Int → Int) (costOf_0 : Int → Int) (bucket_0 : Int → Int) (bucketMany_0 : Int → Int) (wide_0 : Int) (tall_0 : Int) (gx : Int) (gy : Int) (gu : Int) (k1 : 0 ≤ x1 ∧ x1 ≤ 23999) (k2 : 0 ≤ x2 ∧ x2 ≤ 1000000) (k3 : 0 ≤ x3 ∧ x3 ≤ 5999) (k5 : 0 ≤ x5 ∧ x5 ≤ 23999) (k6 : 0 ≤ x6 ∧ x6 ≤ 1000000) (k8 : 0 ≤ x8 ∧ x8 ≤ 3) (k11 : 0 ≤ x11 ∧ x11 ≤ 5999) (k12 : 0 ≤ x12 ∧ x12 ≤ 3) (k13 : 4 ≤ x13 ∧ x13 ≤ 4) (k14 : 4 ≤ x14 ∧ x14 ≤ 4) (k15 : 0 ≤ x15 ∧ x15 ≤ 23996) (k16 : 0 ≤ x16 ∧ x16 ≤ 23999) (k17 : 1 ≤ x17 ∧ x17 ≤ 1) (k18 : 1 ≤ x18 ∧ x18 ≤ 1000001) (d0 : x6 + 1 ≤ x18 ∧ x18 ≤ x6 + 1) (d1 : x2 + (-4294967296) ≤ x18 ∧ x18 ≤ x2 + 1) (d2 : x8 + 0 ≤ x12 ∧ x12 ≤ x8 + 0) (d3 : x12 + 0 ≤ x16 ∧ x16 ≤ x12 + 23996) (d4 : x15 + 0 ≤ x16 ∧ x16 ≤ x15 + 3) (d5 : x5 + (-4294967296) ≤ x1 ∧ x1 ≤ x5 + 0) (d6 : x6 + (-4294967296) ≤ x2 ∧ x2 ≤ x6 + 0) (d7 : x1 + (-4294967296) ≤ x5 ∧ x5 ≤ x1 + 0) (d8 : x2 + (-4294967296) ≤ x6 ∧ x6 ≤ x2 + 0) (d9 : x11 + (-4294967296) ≤ x8 ∧ x8 ≤ x11 + 2) (f0 : x18 = x2 + x17) (f1 : x12 = x8) (f2 : x16 = x15 + x12) (f3 : x15 = 4 * x11) (f4 : x12 < x13) (f5 : RTQ (wide_0) (tall_0) (barredPoint_0) (costOf_0) (bucket_0) (bucketMany_0) (x3) (x2)) (f6 : PIV (costOf_0) (x1) (x2)) (f7 : BFP (wide_0) (tall_0) (barredPoint_0) (x1) (x11)) (f8 : x8 = (x1 % 4)) (f9 : (0 ≤ x2) ∧ (x2 ≤ 999999)) (f10 : (0 ≤ x11) ∧ ((x11 + 1) ≤ (wide_0 * tall_0))) (hK_0_140 : ∀ j : Int, 0 ≤ j → j < 24000 → 0 ≤ costOf_0 j ∧ costOf_0 j ≤ 1000000) (hK_0_141 : ∀ j : Int, 0 ≤ j → j < 96040 → 0 ≤ bucket_0 j ∧ bucket_0 j ≤ 23999) (hK_0_142 : ∀ j : Int, 0 ≤ j → j < 4 → 0 ≤ bucketMany_0 j ∧ bucketMany_0 j ≤ 24009) (hK_0_143 : ∀ j : Int, 0 ≤ j → j < 6000 → 0 ≤ barredPoint_0 j ∧ barredPoint_0 j ≤ 1) (kz_0_146 : (-2147483648) ≤ wide_0 ∧ wide_0 ≤ 2147483647) (kz_0_147 : (-2147483648) ≤ tall_0 ∧ tall_0 ≤ 2147483647) (ex2 : gx = x3) (ex3 : 0 ≤ gx ∧ gx ≤ 5999) (ey2 : gy = x2) (ey3 : 0 ≤ gy ∧ gy ≤ 1000008) (eu2 : gu = x1) (eu3 : 0 ≤ gu ∧ gu ≤ 23999) : (-1) * gx + (1 * x3 + 0) ≤ 0 := by
  first
    | omega
    | (have g := gok_bd (show GRX wide_0 tall_0 from ‹RTQ _ _ _ _ _ _ _ _›.1); omega)
    | (have g0 : GRX wide_0 tall_0 := ‹RTQ _ _ _ _ _ _ _ _›.1
       have g := gok_bd g0
       have e8 : x8 = wide_0 := by assumption
       have e20 : x20 = tall_0 := by assumption
       have c := cell_ix (W := x8) (T := x20) (x := x11) (y := x14) (p := x25) (by omega) (by omega) (by omega) (by omega) (by omega) (by rw [‹x25 = x24 + x11›, ‹x24 = x14 * x8›])
       have g3 := g0.2.2
       rw [e8, e20] at c
       omega)
    | (have h := ‹BFP _ _ _ _ _›.2.2.1; omega)
    | sorry
set_option maxHeartbeats 4000000 in
theorem vc_Mo_backFrom_19_2 (x1 : Int) (x2 : Int) (x3 : Int) (x5 : Int) (x6 : Int) (x8 : Int) (x11 : Int) (x12 : Int) (x13 : Int) (x14 : Int) (x15 : Int) (x16 : Int) (x17 : Int) (x18 : Int) (barredPoint_0 : Int → Int) (costOf_0 : Int → Int) (bucket_0 : Int → Int) (bucketMany_0 : Int → Int) (wide_0 : Int) (tall_0 : Int) (gx : Int) (gy : Int) (gu : Int) (k1 : 0 ≤ x1 ∧ x1 ≤ 23999) (k2 : 0 ≤ x2 ∧ x2 ≤ 1000000) (k3 : 0 ≤ x3 ∧ x3 ≤ 5999) (k5 : 0 ≤ x5 ∧ x5 ≤ 23999) (k6 : 0 ≤ x6 ∧ x6 ≤ 1000000) (k8 : 0 ≤ x8 ∧ x8 ≤ 3) (k11 : 0 ≤ x11 ∧ x11 ≤ 5999) (k12 : 0 ≤ x12 ∧ x12 ≤ 3) (k13 : 4 ≤ x13 ∧ x13 ≤ 4) (k14 : 4 ≤ x14 ∧ x14 ≤ 4) (k15 : 0 ≤ x15 ∧ x15 ≤ 23996) (k16 : 0 ≤ x16 ∧ x16 ≤ 23999) (k17 : 1 ≤ x17 ∧ x17 ≤ 1) (k18 : 1 ≤ x18 ∧ x18 ≤ 1000001) (d0 : x6 + 1 ≤ x18 ∧ x18 ≤ x6 + 1) (d1 : x2 + (-4294967296) ≤ x18 ∧ x18 ≤ x2 + 1) (d2 : x8 + 0 ≤ x12 ∧ x12 ≤ x8 + 0) (d3 : x12 + 0 ≤ x16 ∧ x16 ≤ x12 + 23996) (d4 : x15 + 0 ≤ x16 ∧ x16 ≤ x15 + 3) (d5 : x5 + (-4294967296) ≤ x1 ∧ x1 ≤ x5 + 0) (d6 : x6 + (-4294967296) ≤ x2 ∧ x2 ≤ x6 + 0) (d7 : x1 + (-4294967296) ≤ x5 ∧ x5 ≤ x1 + 0) (d8 : x2 + (-4294967296) ≤ x6 ∧ x6 ≤ x2 + 0) (d9 : x11 + (-4294967296) ≤ x8 ∧ x8 ≤ x11 + 2) (f0 : x18 = x2 + x17) (f1 : x12 = x8) (f2 : x16 = x15 + x12) (f3 : x15 = 4 * x11) (f4 : x12 < x13) (f5 : RTQ (wide_0) (tall_0) (barredPoint_0) (costOf_0) (bucket_0) (bucketMany_0) (x3) (x2)) (f6 : PIV (costOf_0) (x1) (x2)) (f7 : BFP (wide_0) (tall_0) (barredPoint_0) (x1) (x11)) (f8 : x8 = (x1 % 4)) (f9 : (0 ≤ x2) ∧ (x2 ≤ 999999)) (f10 : (0 ≤ x11) ∧ ((x11 + 1) ≤ (wide_0 * tall_0))) (hK_0_140 : ∀ j : Int, 0 ≤ j → j < 24000 → 0 ≤ costOf_0 j ∧ costOf_0 j ≤ 1000000) (hK_0_141 : ∀ j : Int, 0 ≤ j → j < 96040 → 0 ≤ bucket_0 j ∧ bucket_0 j ≤ 23999) (hK_0_142 : ∀ j : Int, 0 ≤ j → j < 4 → 0 ≤ bucketMany_0 j ∧ bucketMany_0 j ≤ 24009) (hK_0_143 : ∀ j : Int, 0 ≤ j → j < 6000 → 0 ≤ barredPoint_0 j ∧ barredPoint_0 j ≤ 1) (kz_0_146 : (-2147483648) ≤ wide_0 ∧ wide_0 ≤ 2147483647) (kz_0_147 : (-2147483648) ≤ tall_0 ∧ tall_0 ≤ 2147483647) (ex2 : gx = x3) (ex3 : 0 ≤ gx ∧ gx ≤ 5999) (ey2 : gy = x2) (ey3 : 0 ≤ gy ∧ gy ≤ 1000008) (eu2 : gu = x1) (eu3 : 0 ≤ gu ∧ gu ≤ 23999) : 1 * gy + ((-1) * x2 + 0) ≤ 0 := by
  first
    | omega
    | (have g := gok_bd (show GRX wide_0 tall_0 from ‹RTQ _ _ _ _ _ _ _ _›.1); omega)
    | (have g0 : GRX wide_0 tall_0 := ‹RTQ _ _ _ _ _ _ _ _›.1
       have g := gok_bd g0
       have e8 : x8 = wide_0 := by assumption
       have e20 : x20 = tall_0 := by assumption
       have c := cell_ix (W := x8) (T := x20) (x := x11) (y := x14) (p := x25) (by omega) (by omega) (by omega) (by omega) (by omega) (by rw [‹x25 = x24 + x11›, ‹x24 = x14 * x8›])
       have g3 := g0.2.2
       rw [e8, e20] at c
       omega)
    | (have h := ‹BFP _ _ _ _ _›.2.2.1; omega)
    | sorry
set_option maxHeartbeats 4000000 in
theorem vc_Mo_backFrom_19_3 (x1 : Int) (x2 : Int) (x3 : Int) (x5 : Int) (x6 : Int) (x8 : Int) (x11 : Int) (x12 : Int) (x13 : Int) (x14 : Int) (x15 : Int) (x16 : Int) (x17 : Int) (x18 : Int) (barredPoint_0 : Int → Int) (costOf_0 : Int → Int) (bucket_0 : Int → Int) (bucketMany_0 : Int → Int) (wide_0 : Int) (tall_0 : Int) (gx : Int) (gy : Int) (gu : Int) (k1 : 0 ≤ x1 ∧ x1 ≤ 23999) (k2 : 0 ≤ x2 ∧ x2 ≤ 1000000) (k3 : 0 ≤ x3 ∧ x3 ≤ 5999) (k5 : 0 ≤ x5 ∧ x5 ≤ 23999) (k6 : 0 ≤ x6 ∧ x6 ≤ 1000000) (k8 : 0 ≤ x8 ∧ x8 ≤ 3) (k11 : 0 ≤ x11 ∧ x11 ≤ 5999) (k12 : 0 ≤ x12 ∧ x12 ≤ 3) (k13 : 4 ≤ x13 ∧ x13 ≤ 4) (k14 : 4 ≤ x14 ∧ x14 ≤ 4) (k15 : 0 ≤ x15 ∧ x15 ≤ 23996) (k16 : 0 ≤ x16 ∧ x16 ≤ 23999) (k17 : 1 ≤ x17 ∧ x17 ≤ 1) (k18 : 1 ≤ x18 ∧ x18 ≤ 1000001) (d0 : x6 + 1 ≤ x18 ∧ x18 ≤ x6 + 1) (d1 : x2 + (-4294967296) ≤ x18 ∧ x18 ≤ x2 + 1) (d2 : x8 + 0 ≤ x12 ∧ x12 ≤ x8 + 0) (d3 : x12 + 0 ≤ x16 ∧ x16 ≤ x12 + 23996) (d4 : x15 + 0 ≤ x16 ∧ x16 ≤ x15 + 3) (d5 : x5 + (-4294967296) ≤ x1 ∧ x1 ≤ x5 + 0) (d6 : x6 + (-4294967296) ≤ x2 ∧ x2 ≤ x6 + 0) (d7 : x1 + (-4294967296) ≤ x5 ∧ x5 ≤ x1 + 0) (d8 : x2 + (-4294967296) ≤ x6 ∧ x6 ≤ x2 + 0) (d9 : x11 + (-4294967296) ≤ x8 ∧ x8 ≤ x11 + 2) (f0 : x18 = x2 + x17) (f1 : x12 = x8) (f2 : x16 = x15 + x12) (f3 : x15 = 4 * x11) (f4 : x12 < x13) (f5 : RTQ (wide_0) (tall_0) (barredPoint_0) (costOf_0) (bucket_0) (bucketMany_0) (x3) (x2)) (f6 : PIV (costOf_0) (x1) (x2)) (f7 : BFP (wide_0) (tall_0) (barredPoint_0) (x1) (x11)) (f8 : x8 = (x1 % 4)) (f9 : (0 ≤ x2) ∧ (x2 ≤ 999999)) (f10 : (0 ≤ x11) ∧ ((x11 + 1) ≤ (wide_0 * tall_0))) (hK_0_140 : ∀ j : Int, 0 ≤ j → j < 24000 → 0 ≤ costOf_0 j ∧ costOf_0 j ≤ 1000000) (hK_0_141 : ∀ j : Int, 0 ≤ j → j < 96040 → 0 ≤ bucket_0 j ∧ bucket_0 j ≤ 23999) (hK_0_142 : ∀ j : Int, 0 ≤ j → j < 4 → 0 ≤ bucketMany_0 j ∧ bucketMany_0 j ≤ 24009) (hK_0_143 : ∀ j : Int, 0 ≤ j → j < 6000 → 0 ≤ barredPoint_0 j ∧ barredPoint_0 j ≤ 1) (kz_0_146 : (-2147483648) ≤ wide_0 ∧ wide_0 ≤ 2147483647) (kz_0_147 : (-2147483648) ≤ tall_0 ∧ tall_0 ≤ 2147483647) (ex2 : gx = x3) (ex3 : 0 ≤ gx ∧ gx ≤ 5999) (ey2 : gy = x2) (ey3 : 0 ≤ gy ∧ gy ≤ 1000008) (eu2 : gu = x1) (eu3 : 0 ≤ gu ∧ gu ≤ 23999) : (-1) * gy + (1 * x2 + 0) ≤ 0 := by
  first
    | omega
    | (have g := gok_bd (show GRX wide_0 tall_0 from ‹RTQ _ _ _ _ _ _ _ _›.1); omega)
    | (have g0 : GRX wide_0 tall_0 := ‹RTQ _ _ _ _ _ _ _ _›.1
       have g := gok_bd g0
       have e8 : x8 = wide_0 := by assumption
       have e20 : x20 = tall_0 := by assumption
       have c := cell_ix (W := x8) (T := x20) (x := x11) (y := x14) (p := x25) (by omega) (by omega) (by omega) (by omega) (by omega) (by rw [‹x25 = x24 + x11›, ‹x24 = x14 * x8›])
       have g3 := g0.2.2
       rw [e8, e20] at c
       omega)
    | (have h := ‹BFP _ _ _ _ _›.2.2.1; omega)
    | sorry
set_option maxHeartbeats 4000000 in
theorem vc_Mo_backFrom_19_4 (x1 : Int) (x2 : Int) (x3 : Int) (x5 : Int) (x6 : Int) (x8 : Int) (x11 : Int) (x12 : Int) (x13 : Int) (x14 : Int) (x15 : Int) (x16 : Int) (x17 : Int) (x18 : Int) (barredPoint_0 : Int → Int) (costOf_0 : Int → Int) (bucket_0 : Int → Int) (bucketMany_0 : Int → Int) (wide_0 : Int) (tall_0 : Int) (gx : Int) (gy : Int) (gu : Int) (k1 : 0 ≤ x1 ∧ x1 ≤ 23999) (k2 : 0 ≤ x2 ∧ x2 ≤ 1000000) (k3 : 0 ≤ x3 ∧ x3 ≤ 5999) (k5 : 0 ≤ x5 ∧ x5 ≤ 23999) (k6 : 0 ≤ x6 ∧ x6 ≤ 1000000) (k8 : 0 ≤ x8 ∧ x8 ≤ 3) (k11 : 0 ≤ x11 ∧ x11 ≤ 5999) (k12 : 0 ≤ x12 ∧ x12 ≤ 3) (k13 : 4 ≤ x13 ∧ x13 ≤ 4) (k14 : 4 ≤ x14 ∧ x14 ≤ 4) (k15 : 0 ≤ x15 ∧ x15 ≤ 23996) (k16 : 0 ≤ x16 ∧ x16 ≤ 23999) (k17 : 1 ≤ x17 ∧ x17 ≤ 1) (k18 : 1 ≤ x18 ∧ x18 ≤ 1000001) (d0 : x6 + 1 ≤ x18 ∧ x18 ≤ x6 + 1) (d1 : x2 + (-4294967296) ≤ x18 ∧ x18 ≤ x2 + 1) (d2 : x8 + 0 ≤ x12 ∧ x12 ≤ x8 + 0) (d3 : x12 + 0 ≤ x16 ∧ x16 ≤ x12 + 23996) (d4 : x15 + 0 ≤ x16 ∧ x16 ≤ x15 + 3) (d5 : x5 + (-4294967296) ≤ x1 ∧ x1 ≤ x5 + 0) (d6 : x6 + (-4294967296) ≤ x2 ∧ x2 ≤ x6 + 0) (d7 : x1 + (-4294967296) ≤ x5 ∧ x5 ≤ x1 + 0) (d8 : x2 + (-4294967296) ≤ x6 ∧ x6 ≤ x2 + 0) (d9 : x11 + (-4294967296) ≤ x8 ∧ x8 ≤ x11 + 2) (f0 : x18 = x2 + x17) (f1 : x12 = x8) (f2 : x16 = x15 + x12) (f3 : x15 = 4 * x11) (f4 : x12 < x13) (f5 : RTQ (wide_0) (tall_0) (barredPoint_0) (costOf_0) (bucket_0) (bucketMany_0) (x3) (x2)) (f6 : PIV (costOf_0) (x1) (x2)) (f7 : BFP (wide_0) (tall_0) (barredPoint_0) (x1) (x11)) (f8 : x8 = (x1 % 4)) (f9 : (0 ≤ x2) ∧ (x2 ≤ 999999)) (f10 : (0 ≤ x11) ∧ ((x11 + 1) ≤ (wide_0 * tall_0))) (hK_0_140 : ∀ j : Int, 0 ≤ j → j < 24000 → 0 ≤ costOf_0 j ∧ costOf_0 j ≤ 1000000) (hK_0_141 : ∀ j : Int, 0 ≤ j → j < 96040 → 0 ≤ bucket_0 j ∧ bucket_0 j ≤ 23999) (hK_0_142 : ∀ j : Int, 0 ≤ j → j < 4 → 0 ≤ bucketMany_0 j ∧ bucketMany_0 j ≤ 24009) (hK_0_143 : ∀ j : Int, 0 ≤ j → j < 6000 → 0 ≤ barredPoint_0 j ∧ barredPoint_0 j ≤ 1) (kz_0_146 : (-2147483648) ≤ wide_0 ∧ wide_0 ≤ 2147483647) (kz_0_147 : (-2147483648) ≤ tall_0 ∧ tall_0 ≤ 2147483647) (ex2 : gx = x3) (ex3 : 0 ≤ gx ∧ gx ≤ 5999) (ey2 : gy = x2) (ey3 : 0 ≤ gy ∧ gy ≤ 1000008) (eu2 : gu = x1) (eu3 : 0 ≤ gu ∧ gu ≤ 23999) : 1 * gu + ((-1) * x1 + 0) ≤ 0 := by
  first
    | omega
    | (have g := gok_bd (show GRX wide_0 tall_0 from ‹RTQ _ _ _ _ _ _ _ _›.1); omega)
    | (have g0 : GRX wide_0 tall_0 := ‹RTQ _ _ _ _ _ _ _ _›.1
       have g := gok_bd g0
       have e8 : x8 = wide_0 := by assumption
       have e20 : x20 = tall_0 := by assumption
       have c := cell_ix (W := x8) (T := x20) (x := x11) (y := x14) (p := x25) (by omega) (by omega) (by omega) (by omega) (by omega) (by rw [‹x25 = x24 + x11›, ‹x24 = x14 * x8›])
       have g3 := g0.2.2
       rw [e8, e20] at c
       omega)
    | (have h := ‹BFP _ _ _ _ _›.2.2.1; omega)
    | sorry
set_option maxHeartbeats 4000000 in
theorem vc_Mo_backFrom_19_5 (x1 : Int) (x2 : Int) (x3 : Int) (x5 : Int) (x6 : Int) (x8 : Int) (x11 : Int) (x12 : Int) (x13 : Int) (x14 : Int) (x15 : Int) (x16 : Int) (x17 : Int) (x18 : Int) (barredPoint_0 : Int → Int) (costOf_0 : Int → Int) (bucket_0 : Int → Int) (bucketMany_0 : Int → Int) (wide_0 : Int) (tall_0 : Int) (gx : Int) (gy : Int) (gu : Int) (k1 : 0 ≤ x1 ∧ x1 ≤ 23999) (k2 : 0 ≤ x2 ∧ x2 ≤ 1000000) (k3 : 0 ≤ x3 ∧ x3 ≤ 5999) (k5 : 0 ≤ x5 ∧ x5 ≤ 23999) (k6 : 0 ≤ x6 ∧ x6 ≤ 1000000) (k8 : 0 ≤ x8 ∧ x8 ≤ 3) (k11 : 0 ≤ x11 ∧ x11 ≤ 5999) (k12 : 0 ≤ x12 ∧ x12 ≤ 3) (k13 : 4 ≤ x13 ∧ x13 ≤ 4) (k14 : 4 ≤ x14 ∧ x14 ≤ 4) (k15 : 0 ≤ x15 ∧ x15 ≤ 23996) (k16 : 0 ≤ x16 ∧ x16 ≤ 23999) (k17 : 1 ≤ x17 ∧ x17 ≤ 1) (k18 : 1 ≤ x18 ∧ x18 ≤ 1000001) (d0 : x6 + 1 ≤ x18 ∧ x18 ≤ x6 + 1) (d1 : x2 + (-4294967296) ≤ x18 ∧ x18 ≤ x2 + 1) (d2 : x8 + 0 ≤ x12 ∧ x12 ≤ x8 + 0) (d3 : x12 + 0 ≤ x16 ∧ x16 ≤ x12 + 23996) (d4 : x15 + 0 ≤ x16 ∧ x16 ≤ x15 + 3) (d5 : x5 + (-4294967296) ≤ x1 ∧ x1 ≤ x5 + 0) (d6 : x6 + (-4294967296) ≤ x2 ∧ x2 ≤ x6 + 0) (d7 : x1 + (-4294967296) ≤ x5 ∧ x5 ≤ x1 + 0) (d8 : x2 + (-4294967296) ≤ x6 ∧ x6 ≤ x2 + 0) (d9 : x11 + (-4294967296) ≤ x8 ∧ x8 ≤ x11 + 2) (f0 : x18 = x2 + x17) (f1 : x12 = x8) (f2 : x16 = x15 + x12) (f3 : x15 = 4 * x11) (f4 : x12 < x13) (f5 : RTQ (wide_0) (tall_0) (barredPoint_0) (costOf_0) (bucket_0) (bucketMany_0) (x3) (x2)) (f6 : PIV (costOf_0) (x1) (x2)) (f7 : BFP (wide_0) (tall_0) (barredPoint_0) (x1) (x11)) (f8 : x8 = (x1 % 4)) (f9 : (0 ≤ x2) ∧ (x2 ≤ 999999)) (f10 : (0 ≤ x11) ∧ ((x11 + 1) ≤ (wide_0 * tall_0))) (hK_0_140 : ∀ j : Int, 0 ≤ j → j < 24000 → 0 ≤ costOf_0 j ∧ costOf_0 j ≤ 1000000) (hK_0_141 : ∀ j : Int, 0 ≤ j → j < 96040 → 0 ≤ bucket_0 j ∧ bucket_0 j ≤ 23999) (hK_0_142 : ∀ j : Int, 0 ≤ j → j < 4 → 0 ≤ bucketMany_0 j ∧ bucketMany_0 j ≤ 24009) (hK_0_143 : ∀ j : Int, 0 ≤ j → j < 6000 → 0 ≤ barredPoint_0 j ∧ barredPoint_0 j ≤ 1) (kz_0_146 : (-2147483648) ≤ wide_0 ∧ wide_0 ≤ 2147483647) (kz_0_147 : (-2147483648) ≤ tall_0 ∧ tall_0 ≤ 2147483647) (ex2 : gx = x3) (ex3 : 0 ≤ gx ∧ gx ≤ 5999) (ey2 : gy = x2) (ey3 : 0 ≤ gy ∧ gy ≤ 1000008) (eu2 : gu = x1) (eu3 : 0 ≤ gu ∧ gu ≤ 23999) : (-1) * gu + (1 * x1 + 0) ≤ 0 := by
  first
    | omega
    | (have g := gok_bd (show GRX wide_0 tall_0 from ‹RTQ _ _ _ _ _ _ _ _›.1); omega)
    | (have g0 : GRX wide_0 tall_0 := ‹RTQ _ _ _ _ _ _ _ _›.1
       have g := gok_bd g0
       have e8 : x8 = wide_0 := by assumption
       have e20 : x20 = tall_0 := by assumption
       have c := cell_ix (W := x8) (T := x20) (x := x11) (y := x14) (p := x25) (by omega) (by omega) (by omega) (by omega) (by omega) (by rw [‹x25 = x24 + x11›, ‹x24 = x14 * x8›])
       have g3 := g0.2.2
       rw [e8, e20] at c
       omega)
    | (have h := ‹BFP _ _ _ _ _›.2.2.1; omega)
    | sorry
set_option maxHeartbeats 4000000 in
theorem vc_Mo_backFrom_19_6 (x1 : Int) (x2 : Int) (x3 : Int) (x5 : Int) (x6 : Int) (x8 : Int) (x11 : Int) (x12 : Int) (x13 : Int) (x14 : Int) (x15 : Int) (x16 : Int) (x17 : Int) (x18 : Int) (barredPoint_0 : Int → Int) (costOf_0 : Int → Int) (bucket_0 : Int → Int) (bucketMany_0 : Int → Int) (wide_0 : Int) (tall_0 : Int) (gx : Int) (gy : Int) (gu : Int) (k1 : 0 ≤ x1 ∧ x1 ≤ 23999) (k2 : 0 ≤ x2 ∧ x2 ≤ 1000000) (k3 : 0 ≤ x3 ∧ x3 ≤ 5999) (k5 : 0 ≤ x5 ∧ x5 ≤ 23999) (k6 : 0 ≤ x6 ∧ x6 ≤ 1000000) (k8 : 0 ≤ x8 ∧ x8 ≤ 3) (k11 : 0 ≤ x11 ∧ x11 ≤ 5999) (k12 : 0 ≤ x12 ∧ x12 ≤ 3) (k13 : 4 ≤ x13 ∧ x13 ≤ 4) (k14 : 4 ≤ x14 ∧ x14 ≤ 4) (k15 : 0 ≤ x15 ∧ x15 ≤ 23996) (k16 : 0 ≤ x16 ∧ x16 ≤ 23999) (k17 : 1 ≤ x17 ∧ x17 ≤ 1) (k18 : 1 ≤ x18 ∧ x18 ≤ 1000001) (d0 : x6 + 1 ≤ x18 ∧ x18 ≤ x6 + 1) (d1 : x2 + (-4294967296) ≤ x18 ∧ x18 ≤ x2 + 1) (d2 : x8 + 0 ≤ x12 ∧ x12 ≤ x8 + 0) (d3 : x12 + 0 ≤ x16 ∧ x16 ≤ x12 + 23996) (d4 : x15 + 0 ≤ x16 ∧ x16 ≤ x15 + 3) (d5 : x5 + (-4294967296) ≤ x1 ∧ x1 ≤ x5 + 0) (d6 : x6 + (-4294967296) ≤ x2 ∧ x2 ≤ x6 + 0) (d7 : x1 + (-4294967296) ≤ x5 ∧ x5 ≤ x1 + 0) (d8 : x2 + (-4294967296) ≤ x6 ∧ x6 ≤ x2 + 0) (d9 : x11 + (-4294967296) ≤ x8 ∧ x8 ≤ x11 + 2) (f0 : x18 = x2 + x17) (f1 : x12 = x8) (f2 : x16 = x15 + x12) (f3 : x15 = 4 * x11) (f4 : x12 < x13) (f5 : RTQ (wide_0) (tall_0) (barredPoint_0) (costOf_0) (bucket_0) (bucketMany_0) (x3) (x2)) (f6 : PIV (costOf_0) (x1) (x2)) (f7 : BFP (wide_0) (tall_0) (barredPoint_0) (x1) (x11)) (f8 : x8 = (x1 % 4)) (f9 : (0 ≤ x2) ∧ (x2 ≤ 999999)) (f10 : (0 ≤ x11) ∧ ((x11 + 1) ≤ (wide_0 * tall_0))) (hK_0_140 : ∀ j : Int, 0 ≤ j → j < 24000 → 0 ≤ costOf_0 j ∧ costOf_0 j ≤ 1000000) (hK_0_141 : ∀ j : Int, 0 ≤ j → j < 96040 → 0 ≤ bucket_0 j ∧ bucket_0 j ≤ 23999) (hK_0_142 : ∀ j : Int, 0 ≤ j → j < 4 → 0 ≤ bucketMany_0 j ∧ bucketMany_0 j ≤ 24009) (hK_0_143 : ∀ j : Int, 0 ≤ j → j < 6000 → 0 ≤ barredPoint_0 j ∧ barredPoint_0 j ≤ 1) (kz_0_146 : (-2147483648) ≤ wide_0 ∧ wide_0 ≤ 2147483647) (kz_0_147 : (-2147483648) ≤ tall_0 ∧ tall_0 ≤ 2147483647) (ex2 : gx = x3) (ex3 : 0 ≤ gx ∧ gx ≤ 5999) (ey2 : gy = x2) (ey3 : 0 ≤ gy ∧ gy ≤ 1000008) (eu2 : gu = x1) (eu3 : 0 ≤ gu ∧ gu ≤ 23999) : RTQ (wide_0) (tall_0) (barredPoint_0) (costOf_0) (bucket_0) (bucketMany_0) (gx) (gy) := by
  first
    | assumption
    | (rw [ex2, ey2]; assumption)
set_option maxHeartbeats 4000000 in
theorem vc_Mo_backFrom_19_7 (x1 : Int) (x2 : Int) (x3 : Int) (x5 : Int) (x6 : Int) (x8 : Int) (x11 : Int) (x12 : Int) (x13 : Int) (x14 : Int) (x15 : Int) (x16 : Int) (x17 : Int) (x18 : Int) (barredPoint_0 : Int → Int) (costOf_0 : Int → Int) (bucket_0 : Int → Int) (bucketMany_0 : Int → Int) (wide_0 : Int) (tall_0 : Int) (gx : Int) (gy : Int) (gu : Int) (k1 : 0 ≤ x1 ∧ x1 ≤ 23999) (k2 : 0 ≤ x2 ∧ x2 ≤ 1000000) (k3 : 0 ≤ x3 ∧ x3 ≤ 5999) (k5 : 0 ≤ x5 ∧ x5 ≤ 23999) (k6 : 0 ≤ x6 ∧ x6 ≤ 1000000) (k8 : 0 ≤ x8 ∧ x8 ≤ 3) (k11 : 0 ≤ x11 ∧ x11 ≤ 5999) (k12 : 0 ≤ x12 ∧ x12 ≤ 3) (k13 : 4 ≤ x13 ∧ x13 ≤ 4) (k14 : 4 ≤ x14 ∧ x14 ≤ 4) (k15 : 0 ≤ x15 ∧ x15 ≤ 23996) (k16 : 0 ≤ x16 ∧ x16 ≤ 23999) (k17 : 1 ≤ x17 ∧ x17 ≤ 1) (k18 : 1 ≤ x18 ∧ x18 ≤ 1000001) (d0 : x6 + 1 ≤ x18 ∧ x18 ≤ x6 + 1) (d1 : x2 + (-4294967296) ≤ x18 ∧ x18 ≤ x2 + 1) (d2 : x8 + 0 ≤ x12 ∧ x12 ≤ x8 + 0) (d3 : x12 + 0 ≤ x16 ∧ x16 ≤ x12 + 23996) (d4 : x15 + 0 ≤ x16 ∧ x16 ≤ x15 + 3) (d5 : x5 + (-4294967296) ≤ x1 ∧ x1 ≤ x5 + 0) (d6 : x6 + (-4294967296) ≤ x2 ∧ x2 ≤ x6 + 0) (d7 : x1 + (-4294967296) ≤ x5 ∧ x5 ≤ x1 + 0) (d8 : x2 + (-4294967296) ≤ x6 ∧ x6 ≤ x2 + 0) (d9 : x11 + (-4294967296) ≤ x8 ∧ x8 ≤ x11 + 2) (f0 : x18 = x2 + x17) (f1 : x12 = x8) (f2 : x16 = x15 + x12) (f3 : x15 = 4 * x11) (f4 : x12 < x13) (f5 : RTQ (wide_0) (tall_0) (barredPoint_0) (costOf_0) (bucket_0) (bucketMany_0) (x3) (x2)) (f6 : PIV (costOf_0) (x1) (x2)) (f7 : BFP (wide_0) (tall_0) (barredPoint_0) (x1) (x11)) (f8 : x8 = (x1 % 4)) (f9 : (0 ≤ x2) ∧ (x2 ≤ 999999)) (f10 : (0 ≤ x11) ∧ ((x11 + 1) ≤ (wide_0 * tall_0))) (hK_0_140 : ∀ j : Int, 0 ≤ j → j < 24000 → 0 ≤ costOf_0 j ∧ costOf_0 j ≤ 1000000) (hK_0_141 : ∀ j : Int, 0 ≤ j → j < 96040 → 0 ≤ bucket_0 j ∧ bucket_0 j ≤ 23999) (hK_0_142 : ∀ j : Int, 0 ≤ j → j < 4 → 0 ≤ bucketMany_0 j ∧ bucketMany_0 j ≤ 24009) (hK_0_143 : ∀ j : Int, 0 ≤ j → j < 6000 → 0 ≤ barredPoint_0 j ∧ barredPoint_0 j ≤ 1) (kz_0_146 : (-2147483648) ≤ wide_0 ∧ wide_0 ≤ 2147483647) (kz_0_147 : (-2147483648) ≤ tall_0 ∧ tall_0 ≤ 2147483647) (ex2 : gx = x3) (ex3 : 0 ≤ gx ∧ gx ≤ 5999) (ey2 : gy = x2) (ey3 : 0 ≤ gy ∧ gy ≤ 1000008) (eu2 : gu = x1) (eu3 : 0 ≤ gu ∧ gu ≤ 23999) : RJB (wide_0) (tall_0) (barredPoint_0) (costOf_0) (gx) (gy) (x16) (x18) := by
  rw [ex2, ey2]
  exact rjb_b (p := x11) (f := x12) (d := x8) ‹BFP _ _ _ _ _› ‹PIV _ _ _› (by omega) (by omega) (by omega) (by omega) (by omega) (by omega)
set_option maxHeartbeats 4000000 in
theorem vc_Mo_backFrom_19_8 (x1 : Int) (x2 : Int) (x3 : Int) (x5 : Int) (x6 : Int) (x8 : Int) (x11 : Int) (x12 : Int) (x13 : Int) (x14 : Int) (x15 : Int) (x16 : Int) (x17 : Int) (x18 : Int) (barredPoint_0 : Int → Int) (costOf_0 : Int → Int) (bucket_0 : Int → Int) (bucketMany_0 : Int → Int) (wide_0 : Int) (tall_0 : Int) (gx : Int) (gy : Int) (gu : Int) (k1 : 0 ≤ x1 ∧ x1 ≤ 23999) (k2 : 0 ≤ x2 ∧ x2 ≤ 1000000) (k3 : 0 ≤ x3 ∧ x3 ≤ 5999) (k5 : 0 ≤ x5 ∧ x5 ≤ 23999) (k6 : 0 ≤ x6 ∧ x6 ≤ 1000000) (k8 : 0 ≤ x8 ∧ x8 ≤ 3) (k11 : 0 ≤ x11 ∧ x11 ≤ 5999) (k12 : 0 ≤ x12 ∧ x12 ≤ 3) (k13 : 4 ≤ x13 ∧ x13 ≤ 4) (k14 : 4 ≤ x14 ∧ x14 ≤ 4) (k15 : 0 ≤ x15 ∧ x15 ≤ 23996) (k16 : 0 ≤ x16 ∧ x16 ≤ 23999) (k17 : 1 ≤ x17 ∧ x17 ≤ 1) (k18 : 1 ≤ x18 ∧ x18 ≤ 1000001) (d0 : x6 + 1 ≤ x18 ∧ x18 ≤ x6 + 1) (d1 : x2 + (-4294967296) ≤ x18 ∧ x18 ≤ x2 + 1) (d2 : x8 + 0 ≤ x12 ∧ x12 ≤ x8 + 0) (d3 : x12 + 0 ≤ x16 ∧ x16 ≤ x12 + 23996) (d4 : x15 + 0 ≤ x16 ∧ x16 ≤ x15 + 3) (d5 : x5 + (-4294967296) ≤ x1 ∧ x1 ≤ x5 + 0) (d6 : x6 + (-4294967296) ≤ x2 ∧ x2 ≤ x6 + 0) (d7 : x1 + (-4294967296) ≤ x5 ∧ x5 ≤ x1 + 0) (d8 : x2 + (-4294967296) ≤ x6 ∧ x6 ≤ x2 + 0) (d9 : x11 + (-4294967296) ≤ x8 ∧ x8 ≤ x11 + 2) (f0 : x18 = x2 + x17) (f1 : x12 = x8) (f2 : x16 = x15 + x12) (f3 : x15 = 4 * x11) (f4 : x12 < x13) (f5 : RTQ (wide_0) (tall_0) (barredPoint_0) (costOf_0) (bucket_0) (bucketMany_0) (x3) (x2)) (f6 : PIV (costOf_0) (x1) (x2)) (f7 : BFP (wide_0) (tall_0) (barredPoint_0) (x1) (x11)) (f8 : x8 = (x1 % 4)) (f9 : (0 ≤ x2) ∧ (x2 ≤ 999999)) (f10 : (0 ≤ x11) ∧ ((x11 + 1) ≤ (wide_0 * tall_0))) (hK_0_140 : ∀ j : Int, 0 ≤ j → j < 24000 → 0 ≤ costOf_0 j ∧ costOf_0 j ≤ 1000000) (hK_0_141 : ∀ j : Int, 0 ≤ j → j < 96040 → 0 ≤ bucket_0 j ∧ bucket_0 j ≤ 23999) (hK_0_142 : ∀ j : Int, 0 ≤ j → j < 4 → 0 ≤ bucketMany_0 j ∧ bucketMany_0 j ≤ 24009) (hK_0_143 : ∀ j : Int, 0 ≤ j → j < 6000 → 0 ≤ barredPoint_0 j ∧ barredPoint_0 j ≤ 1) (kz_0_146 : (-2147483648) ≤ wide_0 ∧ wide_0 ≤ 2147483647) (kz_0_147 : (-2147483648) ≤ tall_0 ∧ tall_0 ≤ 2147483647) (ex2 : gx = x3) (ex3 : 0 ≤ gx ∧ gx ≤ 5999) (ey2 : gy = x2) (ey3 : 0 ≤ gy ∧ gy ≤ 1000008) (eu2 : gu = x1) (eu3 : 0 ≤ gu ∧ gu ≤ 23999) : PIV (costOf_0) (gu) (gy) := by
  first
    | assumption
    | (rw [eu2, ey2]; assumption)
    | (rw [ey2, eu2]; assumption)
set_option maxHeartbeats 4000000 in
theorem vc_Mo_backFrom_19_9 (x1 : Int) (x2 : Int) (x3 : Int) (x5 : Int) (x6 : Int) (x8 : Int) (x11 : Int) (x12 : Int) (x13 : Int) (x14 : Int) (x15 : Int) (x16 : Int) (x17 : Int) (x18 : Int) (barredPoint_0 : Int → Int) (costOf_0 : Int → Int) (bucket_0 : Int → Int) (bucketMany_0 : Int → Int) (wide_0 : Int) (tall_0 : Int) (gx : Int) (gy : Int) (gu : Int) (k1 : 0 ≤ x1 ∧ x1 ≤ 23999) (k2 : 0 ≤ x2 ∧ x2 ≤ 1000000) (k3 : 0 ≤ x3 ∧ x3 ≤ 5999) (k5 : 0 ≤ x5 ∧ x5 ≤ 23999) (k6 : 0 ≤ x6 ∧ x6 ≤ 1000000) (k8 : 0 ≤ x8 ∧ x8 ≤ 3) (k11 : 0 ≤ x11 ∧ x11 ≤ 5999) (k12 : 0 ≤ x12 ∧ x12 ≤ 3) (k13 : 4 ≤ x13 ∧ x13 ≤ 4) (k14 : 4 ≤ x14 ∧ x14 ≤ 4) (k15 : 0 ≤ x15 ∧ x15 ≤ 23996) (k16 : 0 ≤ x16 ∧ x16 ≤ 23999) (k17 : 1 ≤ x17 ∧ x17 ≤ 1) (k18 : 1 ≤ x18 ∧ x18 ≤ 1000001) (d0 : x6 + 1 ≤ x18 ∧ x18 ≤ x6 + 1) (d1 : x2 + (-4294967296) ≤ x18 ∧ x18 ≤ x2 + 1) (d2 : x8 + 0 ≤ x12 ∧ x12 ≤ x8 + 0) (d3 : x12 + 0 ≤ x16 ∧ x16 ≤ x12 + 23996) (d4 : x15 + 0 ≤ x16 ∧ x16 ≤ x15 + 3) (d5 : x5 + (-4294967296) ≤ x1 ∧ x1 ≤ x5 + 0) (d6 : x6 + (-4294967296) ≤ x2 ∧ x2 ≤ x6 + 0) (d7 : x1 + (-4294967296) ≤ x5 ∧ x5 ≤ x1 + 0) (d8 : x2 + (-4294967296) ≤ x6 ∧ x6 ≤ x2 + 0) (d9 : x11 + (-4294967296) ≤ x8 ∧ x8 ≤ x11 + 2) (f0 : x18 = x2 + x17) (f1 : x12 = x8) (f2 : x16 = x15 + x12) (f3 : x15 = 4 * x11) (f4 : x12 < x13) (f5 : RTQ (wide_0) (tall_0) (barredPoint_0) (costOf_0) (bucket_0) (bucketMany_0) (x3) (x2)) (f6 : PIV (costOf_0) (x1) (x2)) (f7 : BFP (wide_0) (tall_0) (barredPoint_0) (x1) (x11)) (f8 : x8 = (x1 % 4)) (f9 : (0 ≤ x2) ∧ (x2 ≤ 999999)) (f10 : (0 ≤ x11) ∧ ((x11 + 1) ≤ (wide_0 * tall_0))) (hK_0_140 : ∀ j : Int, 0 ≤ j → j < 24000 → 0 ≤ costOf_0 j ∧ costOf_0 j ≤ 1000000) (hK_0_141 : ∀ j : Int, 0 ≤ j → j < 96040 → 0 ≤ bucket_0 j ∧ bucket_0 j ≤ 23999) (hK_0_142 : ∀ j : Int, 0 ≤ j → j < 4 → 0 ≤ bucketMany_0 j ∧ bucketMany_0 j ≤ 24009) (hK_0_143 : ∀ j : Int, 0 ≤ j → j < 6000 → 0 ≤ barredPoint_0 j ∧ barredPoint_0 j ≤ 1) (kz_0_146 : (-2147483648) ≤ wide_0 ∧ wide_0 ≤ 2147483647) (kz_0_147 : (-2147483648) ≤ tall_0 ∧ tall_0 ≤ 2147483647) (ex2 : gx = x3) (ex3 : 0 ≤ gx ∧ gx ≤ 5999) (ey2 : gy = x2) (ey3 : 0 ≤ gy ∧ gy ≤ 1000008) (eu2 : gu = x1) (eu3 : 0 ≤ gu ∧ gu ≤ 23999) : gx = x3 := by
  first
    | omega
    | (have g := gok_bd (show GRX wide_0 tall_0 from ‹RTQ _ _ _ _ _ _ _ _›.1); omega)
    | (have g0 : GRX wide_0 tall_0 := ‹RTQ _ _ _ _ _ _ _ _›.1
       have g := gok_bd g0
       have e8 : x8 = wide_0 := by assumption
       have e20 : x20 = tall_0 := by assumption
       have c := cell_ix (W := x8) (T := x20) (x := x11) (y := x14) (p := x25) (by omega) (by omega) (by omega) (by omega) (by omega) (by rw [‹x25 = x24 + x11›, ‹x24 = x14 * x8›])
       have g3 := g0.2.2
       rw [e8, e20] at c
       omega)
    | (have h := ‹BFP _ _ _ _ _›.2.2.1; omega)
    | sorry
set_option maxHeartbeats 4000000 in
theorem vc_Mo_backFrom_19_10 (x1 : Int) (x2 : Int) (x3 : Int) (x5 : Int) (x6 : Int) (x8 : Int) (x11 : Int) (x12 : Int) (x13 : Int) (x14 : Int) (x15 : Int) (x16 : Int) (x17 : Int) (x18 : Int) (barredPoint_0 : Int → Int) (costOf_0 : Int → Int) (bucket_0 : Int → Int) (bucketMany_0 : Int → Int) (wide_0 : Int) (tall_0 : Int) (gx : Int) (gy : Int) (gu : Int) (k1 : 0 ≤ x1 ∧ x1 ≤ 23999) (k2 : 0 ≤ x2 ∧ x2 ≤ 1000000) (k3 : 0 ≤ x3 ∧ x3 ≤ 5999) (k5 : 0 ≤ x5 ∧ x5 ≤ 23999) (k6 : 0 ≤ x6 ∧ x6 ≤ 1000000) (k8 : 0 ≤ x8 ∧ x8 ≤ 3) (k11 : 0 ≤ x11 ∧ x11 ≤ 5999) (k12 : 0 ≤ x12 ∧ x12 ≤ 3) (k13 : 4 ≤ x13 ∧ x13 ≤ 4) (k14 : 4 ≤ x14 ∧ x14 ≤ 4) (k15 : 0 ≤ x15 ∧ x15 ≤ 23996) (k16 : 0 ≤ x16 ∧ x16 ≤ 23999) (k17 : 1 ≤ x17 ∧ x17 ≤ 1) (k18 : 1 ≤ x18 ∧ x18 ≤ 1000001) (d0 : x6 + 1 ≤ x18 ∧ x18 ≤ x6 + 1) (d1 : x2 + (-4294967296) ≤ x18 ∧ x18 ≤ x2 + 1) (d2 : x8 + 0 ≤ x12 ∧ x12 ≤ x8 + 0) (d3 : x12 + 0 ≤ x16 ∧ x16 ≤ x12 + 23996) (d4 : x15 + 0 ≤ x16 ∧ x16 ≤ x15 + 3) (d5 : x5 + (-4294967296) ≤ x1 ∧ x1 ≤ x5 + 0) (d6 : x6 + (-4294967296) ≤ x2 ∧ x2 ≤ x6 + 0) (d7 : x1 + (-4294967296) ≤ x5 ∧ x5 ≤ x1 + 0) (d8 : x2 + (-4294967296) ≤ x6 ∧ x6 ≤ x2 + 0) (d9 : x11 + (-4294967296) ≤ x8 ∧ x8 ≤ x11 + 2) (f0 : x18 = x2 + x17) (f1 : x12 = x8) (f2 : x16 = x15 + x12) (f3 : x15 = 4 * x11) (f4 : x12 < x13) (f5 : RTQ (wide_0) (tall_0) (barredPoint_0) (costOf_0) (bucket_0) (bucketMany_0) (x3) (x2)) (f6 : PIV (costOf_0) (x1) (x2)) (f7 : BFP (wide_0) (tall_0) (barredPoint_0) (x1) (x11)) (f8 : x8 = (x1 % 4)) (f9 : (0 ≤ x2) ∧ (x2 ≤ 999999)) (f10 : (0 ≤ x11) ∧ ((x11 + 1) ≤ (wide_0 * tall_0))) (hK_0_140 : ∀ j : Int, 0 ≤ j → j < 24000 → 0 ≤ costOf_0 j ∧ costOf_0 j ≤ 1000000) (hK_0_141 : ∀ j : Int, 0 ≤ j → j < 96040 → 0 ≤ bucket_0 j ∧ bucket_0 j ≤ 23999) (hK_0_142 : ∀ j : Int, 0 ≤ j → j < 4 → 0 ≤ bucketMany_0 j ∧ bucketMany_0 j ≤ 24009) (hK_0_143 : ∀ j : Int, 0 ≤ j → j < 6000 → 0 ≤ barredPoint_0 j ∧ barredPoint_0 j ≤ 1) (kz_0_146 : (-2147483648) ≤ wide_0 ∧ wide_0 ≤ 2147483647) (kz_0_147 : (-2147483648) ≤ tall_0 ∧ tall_0 ≤ 2147483647) (ex2 : gx = x3) (ex3 : 0 ≤ gx ∧ gx ≤ 5999) (ey2 : gy = x2) (ey3 : 0 ≤ gy ∧ gy ≤ 1000008) (eu2 : gu = x1) (eu3 : 0 ≤ gu ∧ gu ≤ 23999) : gy = x2 := by
  first
    | omega
    | (have g := gok_bd (show GRX wide_0 tall_0 from ‹RTQ _ _ _ _ _ _ _ _›.1); omega)
    | (have g0 : GRX wide_0 tall_0 := ‹RTQ _ _ _ _ _ _ _ _›.1
       have g := gok_bd g0
       have e8 : x8 = wide_0 := by assumption
       have e20 : x20 = tall_0 := by assumption
       have c := cell_ix (W := x8) (T := x20) (x := x11) (y := x14) (p := x25) (by omega) (by omega) (by omega) (by omega) (by omega) (by rw [‹x25 = x24 + x11›, ‹x24 = x14 * x8›])
       have g3 := g0.2.2
       rw [e8, e20] at c
       omega)
    | (have h := ‹BFP _ _ _ _ _›.2.2.1; omega)
    | sorry
set_option maxHeartbeats 4000000 in
theorem vc_Mo_backFrom_19_11 (x1 : Int) (x2 : Int) (x3 : Int) (x5 : Int) (x6 : Int) (x8 : Int) (x11 : Int) (x12 : Int) (x13 : Int) (x14 : Int) (x15 : Int) (x16 : Int) (x17 : Int) (x18 : Int) (barredPoint_0 : Int → Int) (costOf_0 : Int → Int) (bucket_0 : Int → Int) (bucketMany_0 : Int → Int) (wide_0 : Int) (tall_0 : Int) (gx : Int) (gy : Int) (gu : Int) (k1 : 0 ≤ x1 ∧ x1 ≤ 23999) (k2 : 0 ≤ x2 ∧ x2 ≤ 1000000) (k3 : 0 ≤ x3 ∧ x3 ≤ 5999) (k5 : 0 ≤ x5 ∧ x5 ≤ 23999) (k6 : 0 ≤ x6 ∧ x6 ≤ 1000000) (k8 : 0 ≤ x8 ∧ x8 ≤ 3) (k11 : 0 ≤ x11 ∧ x11 ≤ 5999) (k12 : 0 ≤ x12 ∧ x12 ≤ 3) (k13 : 4 ≤ x13 ∧ x13 ≤ 4) (k14 : 4 ≤ x14 ∧ x14 ≤ 4) (k15 : 0 ≤ x15 ∧ x15 ≤ 23996) (k16 : 0 ≤ x16 ∧ x16 ≤ 23999) (k17 : 1 ≤ x17 ∧ x17 ≤ 1) (k18 : 1 ≤ x18 ∧ x18 ≤ 1000001) (d0 : x6 + 1 ≤ x18 ∧ x18 ≤ x6 + 1) (d1 : x2 + (-4294967296) ≤ x18 ∧ x18 ≤ x2 + 1) (d2 : x8 + 0 ≤ x12 ∧ x12 ≤ x8 + 0) (d3 : x12 + 0 ≤ x16 ∧ x16 ≤ x12 + 23996) (d4 : x15 + 0 ≤ x16 ∧ x16 ≤ x15 + 3) (d5 : x5 + (-4294967296) ≤ x1 ∧ x1 ≤ x5 + 0) (d6 : x6 + (-4294967296) ≤ x2 ∧ x2 ≤ x6 + 0) (d7 : x1 + (-4294967296) ≤ x5 ∧ x5 ≤ x1 + 0) (d8 : x2 + (-4294967296) ≤ x6 ∧ x6 ≤ x2 + 0) (d9 : x11 + (-4294967296) ≤ x8 ∧ x8 ≤ x11 + 2) (f0 : x18 = x2 + x17) (f1 : x12 = x8) (f2 : x16 = x15 + x12) (f3 : x15 = 4 * x11) (f4 : x12 < x13) (f5 : RTQ (wide_0) (tall_0) (barredPoint_0) (costOf_0) (bucket_0) (bucketMany_0) (x3) (x2)) (f6 : PIV (costOf_0) (x1) (x2)) (f7 : BFP (wide_0) (tall_0) (barredPoint_0) (x1) (x11)) (f8 : x8 = (x1 % 4)) (f9 : (0 ≤ x2) ∧ (x2 ≤ 999999)) (f10 : (0 ≤ x11) ∧ ((x11 + 1) ≤ (wide_0 * tall_0))) (hK_0_140 : ∀ j : Int, 0 ≤ j → j < 24000 → 0 ≤ costOf_0 j ∧ costOf_0 j ≤ 1000000) (hK_0_141 : ∀ j : Int, 0 ≤ j → j < 96040 → 0 ≤ bucket_0 j ∧ bucket_0 j ≤ 23999) (hK_0_142 : ∀ j : Int, 0 ≤ j → j < 4 → 0 ≤ bucketMany_0 j ∧ bucketMany_0 j ≤ 24009) (hK_0_143 : ∀ j : Int, 0 ≤ j → j < 6000 → 0 ≤ barredPoint_0 j ∧ barredPoint_0 j ≤ 1) (kz_0_146 : (-2147483648) ≤ wide_0 ∧ wide_0 ≤ 2147483647) (kz_0_147 : (-2147483648) ≤ tall_0 ∧ tall_0 ≤ 2147483647) (ex2 : gx = x3) (ex3 : 0 ≤ gx ∧ gx ≤ 5999) (ey2 : gy = x2) (ey3 : 0 ≤ gy ∧ gy ≤ 1000008) (eu2 : gu = x1) (eu3 : 0 ≤ gu ∧ gu ≤ 23999) : gu = x1 := by
  first
    | omega
    | (have g := gok_bd (show GRX wide_0 tall_0 from ‹RTQ _ _ _ _ _ _ _ _›.1); omega)
    | (have g0 : GRX wide_0 tall_0 := ‹RTQ _ _ _ _ _ _ _ _›.1
       have g := gok_bd g0
       have e8 : x8 = wide_0 := by assumption
       have e20 : x20 = tall_0 := by assumption
       have c := cell_ix (W := x8) (T := x20) (x := x11) (y := x14) (p := x25) (by omega) (by omega) (by omega) (by omega) (by omega) (by rw [‹x25 = x24 + x11›, ‹x24 = x14 * x8›])
       have g3 := g0.2.2
       rw [e8, e20] at c
       omega)
    | (have h := ‹BFP _ _ _ _ _›.2.2.1; omega)
    | sorry
def o_Mo_backFrom_19 : or_T := (122, 19, [(0, (2, 0, 0, [150])), (1, (0, 0, 23999, [])), (2, (0, 0, 1000000, [])), (3, (0, 0, 5999, [])), (4, (2, 0, 0, [150])), (5, (0, 0, 23999, [])), (6, (0, 0, 1000000, [])), (8, (0, 0, 3, [])), (11, (0, 0, 5999, [])), (12, (0, 0, 3, [])), (13, (0, 4, 4, [])), (14, (0, 4, 4, [])), (15, (0, 0, 23996, [])), (16, (0, 0, 23999, [])), (17, (0, 1, 1, [])), (18, (0, 1, 1000001, []))], [(1, [18, 6, 17], []), (7, [12, 8], [0]), (1, [16, 15, 12], []), (3, [15, 14, 11], []), (7, [12, 13], [2]), (20, [4, 3, 6], [60, 2, 4, 419, 146, 147, 143, 140, 141, 142]), (20, [4, 5, 6], [60, 0, 1, 421, 140]), (20, [4, 5, 11], [60, 2, 1, 424, 146, 147, 143]), (20, [8, 5], [50, 0, 0, 1, 2, 1, 0, 9, 2, 1, 1, 0, 4]), (20, [6], [50, 0, 0, 2, 6, 0, 2, 0, 0, 1, 0, 0, 2, 1, 0, 0, 999999]), (20, [11, 4], [50, 2, 0, 1146, 1147, 2, 6, 0, 2, 0, 0, 1, 0, 0, 6, 4, 2, 1, 0, 0, 1, 6, 3, 2, 1, 146, 2, 1, 147]), (24, [0, 4], []), (24, [1, 5], []), (24, [2, 6], [])], [], [(0, 0, 5999, []), (0, 0, 1000008, []), (0, 0, 23999, [])], [(23, [19, 3], [0, 1, -1]), (23, [19, 3], [0, -1, 1]), (23, [20, 6], [0, 1, -1]), (23, [20, 6], [0, -1, 1]), (23, [21, 5], [0, 1, -1]), (23, [21, 5], [0, -1, 1]), (20, [4, 19, 20], [60, 2, 4, 419, 146, 147, 143, 140, 141, 142]), (20, [4, 19, 20, 16, 18], [60, 2, 2, 422, 146, 147, 143, 140]), (20, [4, 21, 20], [60, 0, 1, 421, 140]), (20, [19, 3], [50, 0, 0, 1, 2, 1, 0, 1, 1]), (20, [20, 6], [50, 0, 0, 1, 2, 1, 0, 1, 1]), (20, [21, 5], [50, 0, 0, 1, 2, 1, 0, 1, 1])], [], [(18, 6, 1, 1), (18, 2, -4294967296, 1), (12, 8, 0, 0), (16, 12, 0, 23996), (16, 15, 0, 3), (1, 5, -4294967296, 0), (2, 6, -4294967296, 0), (5, 1, -4294967296, 0), (6, 2, -4294967296, 0), (8, 11, -4294967296, 2)])
theorem oo_Mo_backFrom_19 {kA : Nat → ClassId} : or_ok PRD kA GG o_Mo_backFrom_19 := by
  intro A ta ws vs hD hth hl hk hds hf
  have hl : vs.length = 19 := hl
  have hk : ∀ q ∈ ([(0, (2, 0, 0, [150])), (1, (0, 0, 23999, [])), (2, (0, 0, 1000000, [])), (3, (0, 0, 5999, [])), (4, (2, 0, 0, [150])), (5, (0, 0, 23999, [])), (6, (0, 0, 1000000, [])), (8, (0, 0, 3, [])), (11, (0, 0, 5999, [])), (12, (0, 0, 3, [])), (13, (0, 4, 4, [])), (14, (0, 4, 4, [])), (15, (0, 0, 23996, [])), (16, (0, 0, 23999, [])), (17, (0, 1, 1, [])), (18, (0, 1, 1000001, []))] : List (Nat × tv_T)), tv_ok ta q.2 (n_v vs q.1) := hk
  obtain ⟨t0, hk⟩ := List.forall_mem_cons.mp hk
  have t0 : tv_ok ta (2, 0, 0, [150]) (n_v vs 0) := t0
  have r0 : ta (v_ad (n_v vs 0)) = some 150 := tv_rg t0
  obtain ⟨t1, hk⟩ := List.forall_mem_cons.mp hk
  have t1 : tv_ok ta (0, 0, 23999, []) (n_v vs 1) := t1
  have k1 : 0 ≤ v_iv (n_v vs 1) ∧ v_iv (n_v vs 1) ≤ 23999 := tv_rng t1
  obtain ⟨t2, hk⟩ := List.forall_mem_cons.mp hk
  have t2 : tv_ok ta (0, 0, 1000000, []) (n_v vs 2) := t2
  have k2 : 0 ≤ v_iv (n_v vs 2) ∧ v_iv (n_v vs 2) ≤ 1000000 := tv_rng t2
  obtain ⟨t3, hk⟩ := List.forall_mem_cons.mp hk
  have t3 : tv_ok ta (0, 0, 5999, []) (n_v vs 3) := t3
  have k3 : 0 ≤ v_iv (n_v vs 3) ∧ v_iv (n_v vs 3) ≤ 5999 := tv_rng t3
  obtain ⟨t4, hk⟩ := List.forall_mem_cons.mp hk
  have t4 : tv_ok ta (2, 0, 0, [150]) (n_v vs 4) := t4
  have r4 : ta (v_ad (n_v vs 4)) = some 150 := tv_rg t4
  obtain ⟨t5, hk⟩ := List.forall_mem_cons.mp hk
  have t5 : tv_ok ta (0, 0, 23999, []) (n_v vs 5) := t5
  have k5 : 0 ≤ v_iv (n_v vs 5) ∧ v_iv (n_v vs 5) ≤ 23999 := tv_rng t5
  obtain ⟨t6, hk⟩ := List.forall_mem_cons.mp hk
  have t6 : tv_ok ta (0, 0, 1000000, []) (n_v vs 6) := t6
  have k6 : 0 ≤ v_iv (n_v vs 6) ∧ v_iv (n_v vs 6) ≤ 1000000 := tv_rng t6
  obtain ⟨t8, hk⟩ := List.forall_mem_cons.mp hk
  have t8 : tv_ok ta (0, 0, 3, []) (n_v vs 8) := t8
  have k8 : 0 ≤ v_iv (n_v vs 8) ∧ v_iv (n_v vs 8) ≤ 3 := tv_rng t8
  obtain ⟨t11, hk⟩ := List.forall_mem_cons.mp hk
  have t11 : tv_ok ta (0, 0, 5999, []) (n_v vs 11) := t11
  have k11 : 0 ≤ v_iv (n_v vs 11) ∧ v_iv (n_v vs 11) ≤ 5999 := tv_rng t11
  obtain ⟨t12, hk⟩ := List.forall_mem_cons.mp hk
  have t12 : tv_ok ta (0, 0, 3, []) (n_v vs 12) := t12
  have k12 : 0 ≤ v_iv (n_v vs 12) ∧ v_iv (n_v vs 12) ≤ 3 := tv_rng t12
  obtain ⟨t13, hk⟩ := List.forall_mem_cons.mp hk
  have t13 : tv_ok ta (0, 4, 4, []) (n_v vs 13) := t13
  have k13 : 4 ≤ v_iv (n_v vs 13) ∧ v_iv (n_v vs 13) ≤ 4 := tv_rng t13
  obtain ⟨t14, hk⟩ := List.forall_mem_cons.mp hk
  have t14 : tv_ok ta (0, 4, 4, []) (n_v vs 14) := t14
  have k14 : 4 ≤ v_iv (n_v vs 14) ∧ v_iv (n_v vs 14) ≤ 4 := tv_rng t14
  obtain ⟨t15, hk⟩ := List.forall_mem_cons.mp hk
  have t15 : tv_ok ta (0, 0, 23996, []) (n_v vs 15) := t15
  have k15 : 0 ≤ v_iv (n_v vs 15) ∧ v_iv (n_v vs 15) ≤ 23996 := tv_rng t15
  obtain ⟨t16, hk⟩ := List.forall_mem_cons.mp hk
  have t16 : tv_ok ta (0, 0, 23999, []) (n_v vs 16) := t16
  have k16 : 0 ≤ v_iv (n_v vs 16) ∧ v_iv (n_v vs 16) ≤ 23999 := tv_rng t16
  obtain ⟨t17, hk⟩ := List.forall_mem_cons.mp hk
  have t17 : tv_ok ta (0, 1, 1, []) (n_v vs 17) := t17
  have k17 : 1 ≤ v_iv (n_v vs 17) ∧ v_iv (n_v vs 17) ≤ 1 := tv_rng t17
  obtain ⟨t18, hk⟩ := List.forall_mem_cons.mp hk
  have t18 : tv_ok ta (0, 1, 1000001, []) (n_v vs 18) := t18
  have k18 : 1 ≤ v_iv (n_v vs 18) ∧ v_iv (n_v vs 18) ≤ 1000001 := tv_rng t18
  have hds : ∀ q ∈ ([(18, 6, 1, 1), (18, 2, -4294967296, 1), (12, 8, 0, 0), (16, 12, 0, 23996), (16, 15, 0, 3), (1, 5, -4294967296, 0), (2, 6, -4294967296, 0), (5, 1, -4294967296, 0), (6, 2, -4294967296, 0), (8, 11, -4294967296, 2)] : List of_T), n_iv vs q.2.1 + q.2.2.1 ≤ n_iv vs q.1 ∧ n_iv vs q.1 ≤ n_iv vs q.2.1 + q.2.2.2 := hds
  obtain ⟨d0, hds⟩ := List.forall_mem_cons.mp hds
  have d0 : v_iv (n_v vs 6) + 1 ≤ v_iv (n_v vs 18) ∧ v_iv (n_v vs 18) ≤ v_iv (n_v vs 6) + 1 := d0
  obtain ⟨d1, hds⟩ := List.forall_mem_cons.mp hds
  have d1 : v_iv (n_v vs 2) + (-4294967296) ≤ v_iv (n_v vs 18) ∧ v_iv (n_v vs 18) ≤ v_iv (n_v vs 2) + 1 := d1
  obtain ⟨d2, hds⟩ := List.forall_mem_cons.mp hds
  have d2 : v_iv (n_v vs 8) + 0 ≤ v_iv (n_v vs 12) ∧ v_iv (n_v vs 12) ≤ v_iv (n_v vs 8) + 0 := d2
  obtain ⟨d3, hds⟩ := List.forall_mem_cons.mp hds
  have d3 : v_iv (n_v vs 12) + 0 ≤ v_iv (n_v vs 16) ∧ v_iv (n_v vs 16) ≤ v_iv (n_v vs 12) + 23996 := d3
  obtain ⟨d4, hds⟩ := List.forall_mem_cons.mp hds
  have d4 : v_iv (n_v vs 15) + 0 ≤ v_iv (n_v vs 16) ∧ v_iv (n_v vs 16) ≤ v_iv (n_v vs 15) + 3 := d4
  obtain ⟨d5, hds⟩ := List.forall_mem_cons.mp hds
  have d5 : v_iv (n_v vs 5) + (-4294967296) ≤ v_iv (n_v vs 1) ∧ v_iv (n_v vs 1) ≤ v_iv (n_v vs 5) + 0 := d5
  obtain ⟨d6, hds⟩ := List.forall_mem_cons.mp hds
  have d6 : v_iv (n_v vs 6) + (-4294967296) ≤ v_iv (n_v vs 2) ∧ v_iv (n_v vs 2) ≤ v_iv (n_v vs 6) + 0 := d6
  obtain ⟨d7, hds⟩ := List.forall_mem_cons.mp hds
  have d7 : v_iv (n_v vs 1) + (-4294967296) ≤ v_iv (n_v vs 5) ∧ v_iv (n_v vs 5) ≤ v_iv (n_v vs 1) + 0 := d7
  obtain ⟨d8, hds⟩ := List.forall_mem_cons.mp hds
  have d8 : v_iv (n_v vs 2) + (-4294967296) ≤ v_iv (n_v vs 6) ∧ v_iv (n_v vs 6) ≤ v_iv (n_v vs 2) + 0 := d8
  obtain ⟨d9, hds⟩ := List.forall_mem_cons.mp hds
  have d9 : v_iv (n_v vs 11) + (-4294967296) ≤ v_iv (n_v vs 8) ∧ v_iv (n_v vs 8) ≤ v_iv (n_v vs 11) + 2 := d9
  have hf : fc_ok PRD [(1, [18, 6, 17], []), (7, [12, 8], [0]), (1, [16, 15, 12], []), (3, [15, 14, 11], []), (7, [12, 13], [2]), (20, [4, 3, 6], [60, 2, 4, 419, 146, 147, 143, 140, 141, 142]), (20, [4, 5, 6], [60, 0, 1, 421, 140]), (20, [4, 5, 11], [60, 2, 1, 424, 146, 147, 143]), (20, [8, 5], [50, 0, 0, 1, 2, 1, 0, 9, 2, 1, 1, 0, 4]), (20, [6], [50, 0, 0, 2, 6, 0, 2, 0, 0, 1, 0, 0, 2, 1, 0, 0, 999999]), (20, [11, 4], [50, 2, 0, 1146, 1147, 2, 6, 0, 2, 0, 0, 1, 0, 0, 6, 4, 2, 1, 0, 0, 1, 6, 3, 2, 1, 146, 2, 1, 147]), (24, [0, 4], []), (24, [1, 5], []), (24, [2, 6], [])] ta ws vs := hf
  obtain ⟨f0, hf⟩ := fc_un (show (1 : Nat) < 100 from by decide) hf
  have f0 : v_iv (n_v vs 18) = v_iv (n_v vs 6) + v_iv (n_v vs 17) := f0
  obtain ⟨f1, hf⟩ := fc_un (show (7 : Nat) < 100 from by decide) hf
  have f1 : v_iv (n_v vs 12) = v_iv (n_v vs 8) := f1
  obtain ⟨f2, hf⟩ := fc_un (show (1 : Nat) < 100 from by decide) hf
  have f2 : v_iv (n_v vs 16) = v_iv (n_v vs 15) + v_iv (n_v vs 12) := f2
  obtain ⟨f3, hf⟩ := fc_un (show (3 : Nat) < 100 from by decide) hf
  have f3 : v_iv (n_v vs 15) = v_iv (n_v vs 14) * v_iv (n_v vs 11) := f3
  rw [show v_iv (n_v vs 14) = 4 from by omega] at f3
  obtain ⟨f4, hf⟩ := fc_un (show (7 : Nat) < 100 from by decide) hf
  have f4 : v_iv (n_v vs 12) < v_iv (n_v vs 13) := f4
  obtain ⟨f5, hf⟩ := fc_un (show (20 : Nat) < 100 from by decide) hf
  have f5 : RTQ (w_fi ws (n_v vs 4) 146) (w_fi ws (n_v vs 4) 147) (w_ei ws (w_ar ws (n_v vs 4) 143)) (w_ei ws (w_ar ws (n_v vs 4) 140)) (w_ei ws (w_ar ws (n_v vs 4) 141)) (w_ei ws (w_ar ws (n_v vs 4) 142)) (v_iv (n_v vs 3)) (v_iv (n_v vs 6)) := f5
  obtain ⟨f6, hf⟩ := fc_un (show (20 : Nat) < 100 from by decide) hf
  have f6 : PIV (w_ei ws (w_ar ws (n_v vs 4) 140)) (v_iv (n_v vs 5)) (v_iv (n_v vs 6)) := f6
  obtain ⟨f7, hf⟩ := fc_un (show (20 : Nat) < 100 from by decide) hf
  have f7 : BFP (w_fi ws (n_v vs 4) 146) (w_fi ws (n_v vs 4) 147) (w_ei ws (w_ar ws (n_v vs 4) 143)) (v_iv (n_v vs 5)) (v_iv (n_v vs 11)) := f7
  obtain ⟨f8, hf⟩ := fc_un (show (20 : Nat) < 100 from by decide) hf
  have f8 : v_iv (n_v vs 8) = (v_iv (n_v vs 5) % 4) := f8
  obtain ⟨f9, hf⟩ := fc_un (show (20 : Nat) < 100 from by decide) hf
  have f9 : (0 ≤ v_iv (n_v vs 6)) ∧ (v_iv (n_v vs 6) ≤ 999999) := f9
  obtain ⟨f10, hf⟩ := fc_un (show (20 : Nat) < 100 from by decide) hf
  have f10 : (0 ≤ v_iv (n_v vs 11)) ∧ ((v_iv (n_v vs 11) + 1) ≤ (w_fi ws (n_v vs 4) 146 * w_fi ws (n_v vs 4) 147)) := f10
  obtain ⟨f11, hf⟩ := fc_un (show (24 : Nat) < 100 from by decide) hf
  have f11 : n_v vs 0 = n_v vs 4 := f11
  obtain ⟨f12, hf⟩ := fc_un (show (24 : Nat) < 100 from by decide) hf
  have f12 : n_v vs 1 = n_v vs 5 := f12
  obtain ⟨f13, hf⟩ := fc_un (show (24 : Nat) < 100 from by decide) hf
  have f13 : n_v vs 2 = n_v vs 6 := f13
  have q4 : n_v vs 4 = n_v vs 0 := f11.symm
  have q5 : n_v vs 5 = n_v vs 1 := f12.symm
  have q6 : n_v vs 6 = n_v vs 2 := f13.symm
  rw [q6] at f0
  rw [q4] at f5
  rw [q6] at f5
  rw [q4] at f6
  rw [q5] at f6
  rw [q6] at f6
  rw [q4] at f7
  rw [q5] at f7
  rw [q5] at f8
  rw [q6] at f9
  rw [q4] at f10
  have cr_0_140 : ta (w_ar ws (n_v vs 0) 140) = some 251 := tv_rg (th_fd hD hth r0 (g := GG_150) rfl (k := 140) (t := (2, 0, 0, [251])) rfl rfl)
  have cr_0_141 : ta (w_ar ws (n_v vs 0) 141) = some 252 := tv_rg (th_fd hD hth r0 (g := GG_150) rfl (k := 141) (t := (2, 0, 0, [252])) rfl rfl)
  have cr_0_142 : ta (w_ar ws (n_v vs 0) 142) = some 253 := tv_rg (th_fd hD hth r0 (g := GG_150) rfl (k := 142) (t := (2, 0, 0, [253])) rfl rfl)
  have cr_0_143 : ta (w_ar ws (n_v vs 0) 143) = some 254 := tv_rg (th_fd hD hth r0 (g := GG_150) rfl (k := 143) (t := (2, 0, 0, [254])) rfl rfl)
  have hK_0_140 : ∀ j : Int, 0 ≤ j → j < 24000 → 0 ≤ w_ei ws (w_ar ws (n_v vs 0) 140) j ∧ w_ei ws (w_ar ws (n_v vs 0) 140) j ≤ 1000000 := fun j h0 h1 => th_el hD hth cr_0_140 (kd := 0) (n := 24000) (m := 24000) (lo := 0) (hi := 1000000) (rs := []) (L := []) rfl (by decide) (j := j.toNat) (by omega)
  have hK_0_141 : ∀ j : Int, 0 ≤ j → j < 96040 → 0 ≤ w_ei ws (w_ar ws (n_v vs 0) 141) j ∧ w_ei ws (w_ar ws (n_v vs 0) 141) j ≤ 23999 := fun j h0 h1 => th_el hD hth cr_0_141 (kd := 0) (n := 96040) (m := 96040) (lo := 0) (hi := 23999) (rs := []) (L := []) rfl (by decide) (j := j.toNat) (by omega)
  have hK_0_142 : ∀ j : Int, 0 ≤ j → j < 4 → 0 ≤ w_ei ws (w_ar ws (n_v vs 0) 142) j ∧ w_ei ws (w_ar ws (n_v vs 0) 142) j ≤ 24009 := fun j h0 h1 => th_el hD hth cr_0_142 (kd := 0) (n := 4) (m := 4) (lo := 0) (hi := 24009) (rs := []) (L := []) rfl (by decide) (j := j.toNat) (by omega)
  have hK_0_143 : ∀ j : Int, 0 ≤ j → j < 6000 → 0 ≤ w_ei ws (w_ar ws (n_v vs 0) 143) j ∧ w_ei ws (w_ar ws (n_v vs 0) 143) j ≤ 1 := fun j h0 h1 => th_el hD hth cr_0_143 (kd := 2) (n := 6000) (m := 6000) (lo := 0) (hi := 1) (rs := []) (L := []) rfl (by decide) (j := j.toNat) (by omega)
  have kz_0_146 : (-2147483648) ≤ w_fi ws (n_v vs 0) 146 ∧ w_fi ws (n_v vs 0) 146 ≤ 2147483647 := tv_rng (th_fd hD hth r0 (g := GG_150) rfl (k := 146) (t := (0, -2147483648, 2147483647, [])) rfl rfl)
  have kz_0_147 : (-2147483648) ≤ w_fi ws (n_v vs 0) 147 ∧ w_fi ws (n_v vs 0) 147 ≤ 2147483647 := tv_rng (th_fd hD hth r0 (g := GG_150) rfl (k := 147) (t := (0, -2147483648, 2147483647, [])) rfl rfl)
  obtain ⟨x, ex, hx⟩ := iv_ex (ta := ta) (lo := 0) (hi := 5999) (z := v_iv (n_v vs 3)) (by omega) (by omega) (by omega) (by omega)
  have ex2 : v_iv (Value.int x) = v_iv (n_v vs 3) := ex
  have ex3 : 0 ≤ v_iv (Value.int x) ∧ v_iv (Value.int x) ≤ 5999 := tv_rng hx
  obtain ⟨y, ey, hy⟩ := iv_ex (ta := ta) (lo := 0) (hi := 1000008) (z := v_iv (n_v vs 2)) (by omega) (by omega) (by omega) (by omega)
  have ey2 : v_iv (Value.int y) = v_iv (n_v vs 2) := ey
  have ey3 : 0 ≤ v_iv (Value.int y) ∧ v_iv (Value.int y) ≤ 1000008 := tv_rng hy
  obtain ⟨u, eu, hu⟩ := iv_ex (ta := ta) (lo := 0) (hi := 23999) (z := v_iv (n_v vs 1)) (by omega) (by omega) (by omega) (by omega)
  have eu2 : v_iv (Value.int u) = v_iv (n_v vs 1) := eu
  have eu3 : 0 ≤ v_iv (Value.int u) ∧ v_iv (Value.int u) ≤ 23999 := tv_rng hu
  have e_3 : n_v (vs ++ [Value.int x, Value.int y, Value.int u]) 3 = n_v vs 3 := n_v_old (by rw [hl]; decide)
  have e_4 : n_v (vs ++ [Value.int x, Value.int y, Value.int u]) 4 = n_v vs 4 := n_v_old (by rw [hl]; decide)
  have e_5 : n_v (vs ++ [Value.int x, Value.int y, Value.int u]) 5 = n_v vs 5 := n_v_old (by rw [hl]; decide)
  have e_6 : n_v (vs ++ [Value.int x, Value.int y, Value.int u]) 6 = n_v vs 6 := n_v_old (by rw [hl]; decide)
  have e_16 : n_v (vs ++ [Value.int x, Value.int y, Value.int u]) 16 = n_v vs 16 := n_v_old (by rw [hl]; decide)
  have e_18 : n_v (vs ++ [Value.int x, Value.int y, Value.int u]) 18 = n_v vs 18 := n_v_old (by rw [hl]; decide)
  have e_19 : n_v (vs ++ [Value.int x, Value.int y, Value.int u]) 19 = Value.int x := n_v_newk (k := 0) hl rfl
  have e_20 : n_v (vs ++ [Value.int x, Value.int y, Value.int u]) 20 = Value.int y := n_v_newk (k := 1) hl rfl
  have e_21 : n_v (vs ++ [Value.int x, Value.int y, Value.int u]) 21 = Value.int u := n_v_newk (k := 2) hl rfl
  have nf0 : fc_1 PRD (23, [19, 3], [0, 1, -1]) ws (vs ++ [Value.int x, Value.int y, Value.int u]) := by
    refine ⟨fun n hn => ?_, ?_⟩
    · have hn : n ∈ [19, 3] := hn
      rw [List.length_append, hl]
      simp only [List.mem_cons, List.not_mem_nil, or_false] at hn
      show n < 19 + 3; omega
    · show 1 * v_iv (n_v (vs ++ [Value.int x, Value.int y, Value.int u]) 19) + ((-1) * v_iv (n_v (vs ++ [Value.int x, Value.int y, Value.int u]) 3) + 0) ≤ 0
      rw [e_3]
      rw [e_19]
      exact vc_Mo_backFrom_19_0 (v_iv (n_v vs 1)) (v_iv (n_v vs 2)) (v_iv (n_v vs 3)) (v_iv (n_v vs 5)) (v_iv (n_v vs 6)) (v_iv (n_v vs 8)) (v_iv (n_v vs 11)) (v_iv (n_v vs 12)) (v_iv (n_v vs 13)) (v_iv (n_v vs 14)) (v_iv (n_v vs 15)) (v_iv (n_v vs 16)) (v_iv (n_v vs 17)) (v_iv (n_v vs 18)) (w_ei ws (w_ar ws (n_v vs 0) 143)) (w_ei ws (w_ar ws (n_v vs 0) 140)) (w_ei ws (w_ar ws (n_v vs 0) 141)) (w_ei ws (w_ar ws (n_v vs 0) 142)) (w_fi ws (n_v vs 0) 146) (w_fi ws (n_v vs 0) 147) (v_iv (Value.int x)) (v_iv (Value.int y)) (v_iv (Value.int u)) k1 k2 k3 k5 k6 k8 k11 k12 k13 k14 k15 k16 k17 k18 d0 d1 d2 d3 d4 d5 d6 d7 d8 d9 f0 f1 f2 f3 f4 f5 f6 f7 f8 f9 f10 hK_0_140 hK_0_141 hK_0_142 hK_0_143 kz_0_146 kz_0_147 ex2 ex3 ey2 ey3 eu2 eu3
  have nf1 : fc_1 PRD (23, [19, 3], [0, -1, 1]) ws (vs ++ [Value.int x, Value.int y, Value.int u]) := by
    refine ⟨fun n hn => ?_, ?_⟩
    · have hn : n ∈ [19, 3] := hn
      rw [List.length_append, hl]
      simp only [List.mem_cons, List.not_mem_nil, or_false] at hn
      show n < 19 + 3; omega
    · show (-1) * v_iv (n_v (vs ++ [Value.int x, Value.int y, Value.int u]) 19) + (1 * v_iv (n_v (vs ++ [Value.int x, Value.int y, Value.int u]) 3) + 0) ≤ 0
      rw [e_3]
      rw [e_19]
      exact vc_Mo_backFrom_19_1 (v_iv (n_v vs 1)) (v_iv (n_v vs 2)) (v_iv (n_v vs 3)) (v_iv (n_v vs 5)) (v_iv (n_v vs 6)) (v_iv (n_v vs 8)) (v_iv (n_v vs 11)) (v_iv (n_v vs 12)) (v_iv (n_v vs 13)) (v_iv (n_v vs 14)) (v_iv (n_v vs 15)) (v_iv (n_v vs 16)) (v_iv (n_v vs 17)) (v_iv (n_v vs 18)) (w_ei ws (w_ar ws (n_v vs 0) 143)) (w_ei ws (w_ar ws (n_v vs 0) 140)) (w_ei ws (w_ar ws (n_v vs 0) 141)) (w_ei ws (w_ar ws (n_v vs 0) 142)) (w_fi ws (n_v vs 0) 146) (w_fi ws (n_v vs 0) 147) (v_iv (Value.int x)) (v_iv (Value.int y)) (v_iv (Value.int u)) k1 k2 k3 k5 k6 k8 k11 k12 k13 k14 k15 k16 k17 k18 d0 d1 d2 d3 d4 d5 d6 d7 d8 d9 f0 f1 f2 f3 f4 f5 f6 f7 f8 f9 f10 hK_0_140 hK_0_141 hK_0_142 hK_0_143 kz_0_146 kz_0_147 ex2 ex3 ey2 ey3 eu2 eu3
  have nf2 : fc_1 PRD (23, [20, 6], [0, 1, -1]) ws (vs ++ [Value.int x, Value.int y, Value.int u]) := by
    refine ⟨fun n hn => ?_, ?_⟩
    · have hn : n ∈ [20, 6] := hn
      rw [List.length_append, hl]
      simp only [List.mem_cons, List.not_mem_nil, or_false] at hn
      show n < 19 + 3; omega
    · show 1 * v_iv (n_v (vs ++ [Value.int x, Value.int y, Value.int u]) 20) + ((-1) * v_iv (n_v (vs ++ [Value.int x, Value.int y, Value.int u]) 6) + 0) ≤ 0
      rw [e_6]
      rw [e_20]
      rw [q6]
      exact vc_Mo_backFrom_19_2 (v_iv (n_v vs 1)) (v_iv (n_v vs 2)) (v_iv (n_v vs 3)) (v_iv (n_v vs 5)) (v_iv (n_v vs 6)) (v_iv (n_v vs 8)) (v_iv (n_v vs 11)) (v_iv (n_v vs 12)) (v_iv (n_v vs 13)) (v_iv (n_v vs 14)) (v_iv (n_v vs 15)) (v_iv (n_v vs 16)) (v_iv (n_v vs 17)) (v_iv (n_v vs 18)) (w_ei ws (w_ar ws (n_v vs 0) 143)) (w_ei ws (w_ar ws (n_v vs 0) 140)) (w_ei ws (w_ar ws (n_v vs 0) 141)) (w_ei ws (w_ar ws (n_v vs 0) 142)) (w_fi ws (n_v vs 0) 146) (w_fi ws (n_v vs 0) 147) (v_iv (Value.int x)) (v_iv (Value.int y)) (v_iv (Value.int u)) k1 k2 k3 k5 k6 k8 k11 k12 k13 k14 k15 k16 k17 k18 d0 d1 d2 d3 d4 d5 d6 d7 d8 d9 f0 f1 f2 f3 f4 f5 f6 f7 f8 f9 f10 hK_0_140 hK_0_141 hK_0_142 hK_0_143 kz_0_146 kz_0_147 ex2 ex3 ey2 ey3 eu2 eu3
  have nf3 : fc_1 PRD (23, [20, 6], [0, -1, 1]) ws (vs ++ [Value.int x, Value.int y, Value.int u]) := by
    refine ⟨fun n hn => ?_, ?_⟩
    · have hn : n ∈ [20, 6] := hn
      rw [List.length_append, hl]
      simp only [List.mem_cons, List.not_mem_nil, or_false] at hn
      show n < 19 + 3; omega
    · show (-1) * v_iv (n_v (vs ++ [Value.int x, Value.int y, Value.int u]) 20) + (1 * v_iv (n_v (vs ++ [Value.int x, Value.int y, Value.int u]) 6) + 0) ≤ 0
      rw [e_6]
      rw [e_20]
      rw [q6]
      exact vc_Mo_backFrom_19_3 (v_iv (n_v vs 1)) (v_iv (n_v vs 2)) (v_iv (n_v vs 3)) (v_iv (n_v vs 5)) (v_iv (n_v vs 6)) (v_iv (n_v vs 8)) (v_iv (n_v vs 11)) (v_iv (n_v vs 12)) (v_iv (n_v vs 13)) (v_iv (n_v vs 14)) (v_iv (n_v vs 15)) (v_iv (n_v vs 16)) (v_iv (n_v vs 17)) (v_iv (n_v vs 18)) (w_ei ws (w_ar ws (n_v vs 0) 143)) (w_ei ws (w_ar ws (n_v vs 0) 140)) (w_ei ws (w_ar ws (n_v vs 0) 141)) (w_ei ws (w_ar ws (n_v vs 0) 142)) (w_fi ws (n_v vs 0) 146) (w_fi ws (n_v vs 0) 147) (v_iv (Value.int x)) (v_iv (Value.int y)) (v_iv (Value.int u)) k1 k2 k3 k5 k6 k8 k11 k12 k13 k14 k15 k16 k17 k18 d0 d1 d2 d3 d4 d5 d6 d7 d8 d9 f0 f1 f2 f3 f4 f5 f6 f7 f8 f9 f10 hK_0_140 hK_0_141 hK_0_142 hK_0_143 kz_0_146 kz_0_147 ex2 ex3 ey2 ey3 eu2 eu3
  have nf4 : fc_1 PRD (23, [21, 5], [0, 1, -1]) ws (vs ++ [Value.int x, Value.int y, Value.int u]) := by
    refine ⟨fun n hn => ?_, ?_⟩
    · have hn : n ∈ [21, 5] := hn
      rw [List.length_append, hl]
      simp only [List.mem_cons, List.not_mem_nil, or_false] at hn
      show n < 19 + 3; omega
    · show 1 * v_iv (n_v (vs ++ [Value.int x, Value.int y, Value.int u]) 21) + ((-1) * v_iv (n_v (vs ++ [Value.int x, Value.int y, Value.int u]) 5) + 0) ≤ 0
      rw [e_5]
      rw [e_21]
      rw [q5]
      exact vc_Mo_backFrom_19_4 (v_iv (n_v vs 1)) (v_iv (n_v vs 2)) (v_iv (n_v vs 3)) (v_iv (n_v vs 5)) (v_iv (n_v vs 6)) (v_iv (n_v vs 8)) (v_iv (n_v vs 11)) (v_iv (n_v vs 12)) (v_iv (n_v vs 13)) (v_iv (n_v vs 14)) (v_iv (n_v vs 15)) (v_iv (n_v vs 16)) (v_iv (n_v vs 17)) (v_iv (n_v vs 18)) (w_ei ws (w_ar ws (n_v vs 0) 143)) (w_ei ws (w_ar ws (n_v vs 0) 140)) (w_ei ws (w_ar ws (n_v vs 0) 141)) (w_ei ws (w_ar ws (n_v vs 0) 142)) (w_fi ws (n_v vs 0) 146) (w_fi ws (n_v vs 0) 147) (v_iv (Value.int x)) (v_iv (Value.int y)) (v_iv (Value.int u)) k1 k2 k3 k5 k6 k8 k11 k12 k13 k14 k15 k16 k17 k18 d0 d1 d2 d3 d4 d5 d6 d7 d8 d9 f0 f1 f2 f3 f4 f5 f6 f7 f8 f9 f10 hK_0_140 hK_0_141 hK_0_142 hK_0_143 kz_0_146 kz_0_147 ex2 ex3 ey2 ey3 eu2 eu3
  have nf5 : fc_1 PRD (23, [21, 5], [0, -1, 1]) ws (vs ++ [Value.int x, Value.int y, Value.int u]) := by
    refine ⟨fun n hn => ?_, ?_⟩
    · have hn : n ∈ [21, 5] := hn
      rw [List.length_append, hl]
      simp only [List.mem_cons, List.not_mem_nil, or_false] at hn
      show n < 19 + 3; omega
    · show (-1) * v_iv (n_v (vs ++ [Value.int x, Value.int y, Value.int u]) 21) + (1 * v_iv (n_v (vs ++ [Value.int x, Value.int y, Value.int u]) 5) + 0) ≤ 0
      rw [e_5]
      rw [e_21]
      rw [q5]
      exact vc_Mo_backFrom_19_5 (v_iv (n_v vs 1)) (v_iv (n_v vs 2)) (v_iv (n_v vs 3)) (v_iv (n_v vs 5)) (v_iv (n_v vs 6)) (v_iv (n_v vs 8)) (v_iv (n_v vs 11)) (v_iv (n_v vs 12)) (v_iv (n_v vs 13)) (v_iv (n_v vs 14)) (v_iv (n_v vs 15)) (v_iv (n_v vs 16)) (v_iv (n_v vs 17)) (v_iv (n_v vs 18)) (w_ei ws (w_ar ws (n_v vs 0) 143)) (w_ei ws (w_ar ws (n_v vs 0) 140)) (w_ei ws (w_ar ws (n_v vs 0) 141)) (w_ei ws (w_ar ws (n_v vs 0) 142)) (w_fi ws (n_v vs 0) 146) (w_fi ws (n_v vs 0) 147) (v_iv (Value.int x)) (v_iv (Value.int y)) (v_iv (Value.int u)) k1 k2 k3 k5 k6 k8 k11 k12 k13 k14 k15 k16 k17 k18 d0 d1 d2 d3 d4 d5 d6 d7 d8 d9 f0 f1 f2 f3 f4 f5 f6 f7 f8 f9 f10 hK_0_140 hK_0_141 hK_0_142 hK_0_143 kz_0_146 kz_0_147 ex2 ex3 ey2 ey3 eu2 eu3
  have nf6 : fc_1 PRD (20, [4, 19, 20], [60, 2, 4, 419, 146, 147, 143, 140, 141, 142]) ws (vs ++ [Value.int x, Value.int y, Value.int u]) := by
    refine ⟨fun n hn => ?_, ?_⟩
    · have hn : n ∈ [4, 19, 20] := hn
      rw [List.length_append, hl]
      simp only [List.mem_cons, List.not_mem_nil, or_false] at hn
      show n < 19 + 3; omega
    · show RTQ (w_fi ws (n_v (vs ++ [Value.int x, Value.int y, Value.int u]) 4) 146) (w_fi ws (n_v (vs ++ [Value.int x, Value.int y, Value.int u]) 4) 147) (w_ei ws (w_ar ws (n_v (vs ++ [Value.int x, Value.int y, Value.int u]) 4) 143)) (w_ei ws (w_ar ws (n_v (vs ++ [Value.int x, Value.int y, Value.int u]) 4) 140)) (w_ei ws (w_ar ws (n_v (vs ++ [Value.int x, Value.int y, Value.int u]) 4) 141)) (w_ei ws (w_ar ws (n_v (vs ++ [Value.int x, Value.int y, Value.int u]) 4) 142)) (v_iv (n_v (vs ++ [Value.int x, Value.int y, Value.int u]) 19)) (v_iv (n_v (vs ++ [Value.int x, Value.int y, Value.int u]) 20))
      rw [e_4]
      rw [e_19]
      rw [e_20]
      rw [q4]
      exact vc_Mo_backFrom_19_6 (v_iv (n_v vs 1)) (v_iv (n_v vs 2)) (v_iv (n_v vs 3)) (v_iv (n_v vs 5)) (v_iv (n_v vs 6)) (v_iv (n_v vs 8)) (v_iv (n_v vs 11)) (v_iv (n_v vs 12)) (v_iv (n_v vs 13)) (v_iv (n_v vs 14)) (v_iv (n_v vs 15)) (v_iv (n_v vs 16)) (v_iv (n_v vs 17)) (v_iv (n_v vs 18)) (w_ei ws (w_ar ws (n_v vs 0) 143)) (w_ei ws (w_ar ws (n_v vs 0) 140)) (w_ei ws (w_ar ws (n_v vs 0) 141)) (w_ei ws (w_ar ws (n_v vs 0) 142)) (w_fi ws (n_v vs 0) 146) (w_fi ws (n_v vs 0) 147) (v_iv (Value.int x)) (v_iv (Value.int y)) (v_iv (Value.int u)) k1 k2 k3 k5 k6 k8 k11 k12 k13 k14 k15 k16 k17 k18 d0 d1 d2 d3 d4 d5 d6 d7 d8 d9 f0 f1 f2 f3 f4 f5 f6 f7 f8 f9 f10 hK_0_140 hK_0_141 hK_0_142 hK_0_143 kz_0_146 kz_0_147 ex2 ex3 ey2 ey3 eu2 eu3
  have nf7 : fc_1 PRD (20, [4, 19, 20, 16, 18], [60, 2, 2, 422, 146, 147, 143, 140]) ws (vs ++ [Value.int x, Value.int y, Value.int u]) := by
    refine ⟨fun n hn => ?_, ?_⟩
    · have hn : n ∈ [4, 19, 20, 16, 18] := hn
      rw [List.length_append, hl]
      simp only [List.mem_cons, List.not_mem_nil, or_false] at hn
      show n < 19 + 3; omega
    · show RJB (w_fi ws (n_v (vs ++ [Value.int x, Value.int y, Value.int u]) 4) 146) (w_fi ws (n_v (vs ++ [Value.int x, Value.int y, Value.int u]) 4) 147) (w_ei ws (w_ar ws (n_v (vs ++ [Value.int x, Value.int y, Value.int u]) 4) 143)) (w_ei ws (w_ar ws (n_v (vs ++ [Value.int x, Value.int y, Value.int u]) 4) 140)) (v_iv (n_v (vs ++ [Value.int x, Value.int y, Value.int u]) 19)) (v_iv (n_v (vs ++ [Value.int x, Value.int y, Value.int u]) 20)) (v_iv (n_v (vs ++ [Value.int x, Value.int y, Value.int u]) 16)) (v_iv (n_v (vs ++ [Value.int x, Value.int y, Value.int u]) 18))
      rw [e_4]
      rw [e_16]
      rw [e_18]
      rw [e_19]
      rw [e_20]
      rw [q4]
      exact vc_Mo_backFrom_19_7 (v_iv (n_v vs 1)) (v_iv (n_v vs 2)) (v_iv (n_v vs 3)) (v_iv (n_v vs 5)) (v_iv (n_v vs 6)) (v_iv (n_v vs 8)) (v_iv (n_v vs 11)) (v_iv (n_v vs 12)) (v_iv (n_v vs 13)) (v_iv (n_v vs 14)) (v_iv (n_v vs 15)) (v_iv (n_v vs 16)) (v_iv (n_v vs 17)) (v_iv (n_v vs 18)) (w_ei ws (w_ar ws (n_v vs 0) 143)) (w_ei ws (w_ar ws (n_v vs 0) 140)) (w_ei ws (w_ar ws (n_v vs 0) 141)) (w_ei ws (w_ar ws (n_v vs 0) 142)) (w_fi ws (n_v vs 0) 146) (w_fi ws (n_v vs 0) 147) (v_iv (Value.int x)) (v_iv (Value.int y)) (v_iv (Value.int u)) k1 k2 k3 k5 k6 k8 k11 k12 k13 k14 k15 k16 k17 k18 d0 d1 d2 d3 d4 d5 d6 d7 d8 d9 f0 f1 f2 f3 f4 f5 f6 f7 f8 f9 f10 hK_0_140 hK_0_141 hK_0_142 hK_0_143 kz_0_146 kz_0_147 ex2 ex3 ey2 ey3 eu2 eu3
  have nf8 : fc_1 PRD (20, [4, 21, 20], [60, 0, 1, 421, 140]) ws (vs ++ [Value.int x, Value.int y, Value.int u]) := by
    refine ⟨fun n hn => ?_, ?_⟩
    · have hn : n ∈ [4, 21, 20] := hn
      rw [List.length_append, hl]
      simp only [List.mem_cons, List.not_mem_nil, or_false] at hn
      show n < 19 + 3; omega
    · show PIV (w_ei ws (w_ar ws (n_v (vs ++ [Value.int x, Value.int y, Value.int u]) 4) 140)) (v_iv (n_v (vs ++ [Value.int x, Value.int y, Value.int u]) 21)) (v_iv (n_v (vs ++ [Value.int x, Value.int y, Value.int u]) 20))
      rw [e_4]
      rw [e_20]
      rw [e_21]
      rw [q4]
      exact vc_Mo_backFrom_19_8 (v_iv (n_v vs 1)) (v_iv (n_v vs 2)) (v_iv (n_v vs 3)) (v_iv (n_v vs 5)) (v_iv (n_v vs 6)) (v_iv (n_v vs 8)) (v_iv (n_v vs 11)) (v_iv (n_v vs 12)) (v_iv (n_v vs 13)) (v_iv (n_v vs 14)) (v_iv (n_v vs 15)) (v_iv (n_v vs 16)) (v_iv (n_v vs 17)) (v_iv (n_v vs 18)) (w_ei ws (w_ar ws (n_v vs 0) 143)) (w_ei ws (w_ar ws (n_v vs 0) 140)) (w_ei ws (w_ar ws (n_v vs 0) 141)) (w_ei ws (w_ar ws (n_v vs 0) 142)) (w_fi ws (n_v vs 0) 146) (w_fi ws (n_v vs 0) 147) (v_iv (Value.int x)) (v_iv (Value.int y)) (v_iv (Value.int u)) k1 k2 k3 k5 k6 k8 k11 k12 k13 k14 k15 k16 k17 k18 d0 d1 d2 d3 d4 d5 d6 d7 d8 d9 f0 f1 f2 f3 f4 f5 f6 f7 f8 f9 f10 hK_0_140 hK_0_141 hK_0_142 hK_0_143 kz_0_146 kz_0_147 ex2 ex3 ey2 ey3 eu2 eu3
  have nf9 : fc_1 PRD (20, [19, 3], [50, 0, 0, 1, 2, 1, 0, 1, 1]) ws (vs ++ [Value.int x, Value.int y, Value.int u]) := by
    refine ⟨fun n hn => ?_, ?_⟩
    · have hn : n ∈ [19, 3] := hn
      rw [List.length_append, hl]
      simp only [List.mem_cons, List.not_mem_nil, or_false] at hn
      show n < 19 + 3; omega
    · show v_iv (n_v (vs ++ [Value.int x, Value.int y, Value.int u]) 19) = v_iv (n_v (vs ++ [Value.int x, Value.int y, Value.int u]) 3)
      rw [e_3]
      rw [e_19]
      exact vc_Mo_backFrom_19_9 (v_iv (n_v vs 1)) (v_iv (n_v vs 2)) (v_iv (n_v vs 3)) (v_iv (n_v vs 5)) (v_iv (n_v vs 6)) (v_iv (n_v vs 8)) (v_iv (n_v vs 11)) (v_iv (n_v vs 12)) (v_iv (n_v vs 13)) (v_iv (n_v vs 14)) (v_iv (n_v vs 15)) (v_iv (n_v vs 16)) (v_iv (n_v vs 17)) (v_iv (n_v vs 18)) (w_ei ws (w_ar ws (n_v vs 0) 143)) (w_ei ws (w_ar ws (n_v vs 0) 140)) (w_ei ws (w_ar ws (n_v vs 0) 141)) (w_ei ws (w_ar ws (n_v vs 0) 142)) (w_fi ws (n_v vs 0) 146) (w_fi ws (n_v vs 0) 147) (v_iv (Value.int x)) (v_iv (Value.int y)) (v_iv (Value.int u)) k1 k2 k3 k5 k6 k8 k11 k12 k13 k14 k15 k16 k17 k18 d0 d1 d2 d3 d4 d5 d6 d7 d8 d9 f0 f1 f2 f3 f4 f5 f6 f7 f8 f9 f10 hK_0_140 hK_0_141 hK_0_142 hK_0_143 kz_0_146 kz_0_147 ex2 ex3 ey2 ey3 eu2 eu3
  have nf10 : fc_1 PRD (20, [20, 6], [50, 0, 0, 1, 2, 1, 0, 1, 1]) ws (vs ++ [Value.int x, Value.int y, Value.int u]) := by
    refine ⟨fun n hn => ?_, ?_⟩
    · have hn : n ∈ [20, 6] := hn
      rw [List.length_append, hl]
      simp only [List.mem_cons, List.not_mem_nil, or_false] at hn
      show n < 19 + 3; omega
    · show v_iv (n_v (vs ++ [Value.int x, Value.int y, Value.int u]) 20) = v_iv (n_v (vs ++ [Value.int x, Value.int y, Value.int u]) 6)
      rw [e_6]
      rw [e_20]
      rw [q6]
      exact vc_Mo_backFrom_19_10 (v_iv (n_v vs 1)) (v_iv (n_v vs 2)) (v_iv (n_v vs 3)) (v_iv (n_v vs 5)) (v_iv (n_v vs 6)) (v_iv (n_v vs 8)) (v_iv (n_v vs 11)) (v_iv (n_v vs 12)) (v_iv (n_v vs 13)) (v_iv (n_v vs 14)) (v_iv (n_v vs 15)) (v_iv (n_v vs 16)) (v_iv (n_v vs 17)) (v_iv (n_v vs 18)) (w_ei ws (w_ar ws (n_v vs 0) 143)) (w_ei ws (w_ar ws (n_v vs 0) 140)) (w_ei ws (w_ar ws (n_v vs 0) 141)) (w_ei ws (w_ar ws (n_v vs 0) 142)) (w_fi ws (n_v vs 0) 146) (w_fi ws (n_v vs 0) 147) (v_iv (Value.int x)) (v_iv (Value.int y)) (v_iv (Value.int u)) k1 k2 k3 k5 k6 k8 k11 k12 k13 k14 k15 k16 k17 k18 d0 d1 d2 d3 d4 d5 d6 d7 d8 d9 f0 f1 f2 f3 f4 f5 f6 f7 f8 f9 f10 hK_0_140 hK_0_141 hK_0_142 hK_0_143 kz_0_146 kz_0_147 ex2 ex3 ey2 ey3 eu2 eu3
  have nf11 : fc_1 PRD (20, [21, 5], [50, 0, 0, 1, 2, 1, 0, 1, 1]) ws (vs ++ [Value.int x, Value.int y, Value.int u]) := by
    refine ⟨fun n hn => ?_, ?_⟩
    · have hn : n ∈ [21, 5] := hn
      rw [List.length_append, hl]
      simp only [List.mem_cons, List.not_mem_nil, or_false] at hn
      show n < 19 + 3; omega
    · show v_iv (n_v (vs ++ [Value.int x, Value.int y, Value.int u]) 21) = v_iv (n_v (vs ++ [Value.int x, Value.int y, Value.int u]) 5)
      rw [e_5]
      rw [e_21]
      rw [q5]
      exact vc_Mo_backFrom_19_11 (v_iv (n_v vs 1)) (v_iv (n_v vs 2)) (v_iv (n_v vs 3)) (v_iv (n_v vs 5)) (v_iv (n_v vs 6)) (v_iv (n_v vs 8)) (v_iv (n_v vs 11)) (v_iv (n_v vs 12)) (v_iv (n_v vs 13)) (v_iv (n_v vs 14)) (v_iv (n_v vs 15)) (v_iv (n_v vs 16)) (v_iv (n_v vs 17)) (v_iv (n_v vs 18)) (w_ei ws (w_ar ws (n_v vs 0) 143)) (w_ei ws (w_ar ws (n_v vs 0) 140)) (w_ei ws (w_ar ws (n_v vs 0) 141)) (w_ei ws (w_ar ws (n_v vs 0) 142)) (w_fi ws (n_v vs 0) 146) (w_fi ws (n_v vs 0) 147) (v_iv (Value.int x)) (v_iv (Value.int y)) (v_iv (Value.int u)) k1 k2 k3 k5 k6 k8 k11 k12 k13 k14 k15 k16 k17 k18 d0 d1 d2 d3 d4 d5 d6 d7 d8 d9 f0 f1 f2 f3 f4 f5 f6 f7 f8 f9 f10 hK_0_140 hK_0_141 hK_0_142 hK_0_143 kz_0_146 kz_0_147 ex2 ex3 ey2 ey3 eu2 eu3
  exact ⟨(fun _ h => (by cases h)), [Value.int x, Value.int y, Value.int u], ag_three hx hy hu, List.forall_mem_cons.mpr ⟨⟨show (23 : Nat) < 100 from by decide, nf0⟩, List.forall_mem_cons.mpr ⟨⟨show (23 : Nat) < 100 from by decide, nf1⟩, List.forall_mem_cons.mpr ⟨⟨show (23 : Nat) < 100 from by decide, nf2⟩, List.forall_mem_cons.mpr ⟨⟨show (23 : Nat) < 100 from by decide, nf3⟩, List.forall_mem_cons.mpr ⟨⟨show (23 : Nat) < 100 from by decide, nf4⟩, List.forall_mem_cons.mpr ⟨⟨show (23 : Nat) < 100 from by decide, nf5⟩, List.forall_mem_cons.mpr ⟨⟨show (20 : Nat) < 100 from by decide, nf6⟩, List.forall_mem_cons.mpr ⟨⟨show (20 : Nat) < 100 from by decide, nf7⟩, List.forall_mem_cons.mpr ⟨⟨show (20 : Nat) < 100 from by decide, nf8⟩, List.forall_mem_cons.mpr ⟨⟨show (20 : Nat) < 100 from by decide, nf9⟩, List.forall_mem_cons.mpr ⟨⟨show (20 : Nat) < 100 from by decide, nf10⟩, List.forall_mem_cons.mpr ⟨⟨show (20 : Nat) < 100 from by decide, nf11⟩, (fun _ h => (by cases h))⟩⟩⟩⟩⟩⟩⟩⟩⟩⟩⟩⟩, (fun _ h => (by cases h))⟩
set_option maxHeartbeats 4000000 in
theorem vc_Mo_backFrom_20_0 (x1 : Int) (x2 : Int) (x3 : Int) (x5 : Int) (x6 : Int) (x8 : Int) (x11 : Int) (x12 : Int) (x13 : Int) (x14 : Int) (x15 : Int) (x16 : Int) (x17 : Int) (x18 : Int) (x19 : Int) (x20 : Int) (x21 : Int) (x22 : Int) (barredPoint_0 : Int → Int) (wide_0 : Int) (tall_0 : Int) (costOf_0 : Int → Int) (bucket_0 : Int → Int) (bucketMany_0 : Int → Int) (k1 : 0 ≤ x1 ∧ x1 ≤ 23999) (k2 : 0 ≤ x2 ∧ x2 ≤ 1000000) (k3 : 0 ≤ x3 ∧ x3 ≤ 5999) (k5 : 0 ≤ x5 ∧ x5 ≤ 23999) (k6 : 0 ≤ x6 ∧ x6 ≤ 1000000) (k8 : 0 ≤ x8 ∧ x8 ≤ 3) (k11 : 0 ≤ x11 ∧ x11 ≤ 5999) (k12 : 0 ≤ x12 ∧ x12 ≤ 3) (k13 : 4 ≤ x13 ∧ x13 ≤ 4) (k14 : 4 ≤ x14 ∧ x14 ≤ 4) (k15 : 0 ≤ x15 ∧ x15 ≤ 23996) (k16 : 0 ≤ x16 ∧ x16 ≤ 23999) (k17 : 1 ≤ x17 ∧ x17 ≤ 1) (k18 : 1 ≤ x18 ∧ x18 ≤ 1000001) (k19 : 0 ≤ x19 ∧ x19 ≤ 5999) (k20 : 0 ≤ x20 ∧ x20 ≤ 1000008) (k21 : 0 ≤ x21 ∧ x21 ≤ 23999) (k22 : 1 ≤ x22 ∧ x22 ≤ 4) (d0 : x12 + 1 ≤ x22 ∧ x22 ≤ x12 + 1) (d1 : x8 + 1 ≤ x22 ∧ x22 ≤ x8 + 1) (d2 : x6 + 1 ≤ x18 ∧ x18 ≤ x6 + 1) (d3 : x2 + (-4294967296) ≤ x18 ∧ x18 ≤ x2 + 1) (d4 : x8 + 0 ≤ x12 ∧ x12 ≤ x8 + 0) (d5 : x12 + 0 ≤ x16 ∧ x16 ≤ x12 + 23996) (d6 : x15 + 0 ≤ x16 ∧ x16 ≤ x15 + 3) (d7 : x5 + (-4294967296) ≤ x1 ∧ x1 ≤ x5 + 0) (d8 : x6 + (-4294967296) ≤ x2 ∧ x2 ≤ x6 + 0) (d9 : x1 + (-4294967296) ≤ x5 ∧ x5 ≤ x1 + 0) (d10 : x2 + (-4294967296) ≤ x6 ∧ x6 ≤ x2 + 0) (d11 : x11 + (-4294967296) ≤ x8 ∧ x8 ≤ x11 + 2) (f0 : x22 = x12 + 1) (f1 : 1 * x19 + ((-1) * x3 + 0) ≤ 0) (f2 : (-1) * x19 + (1 * x3 + 0) ≤ 0) (f3 : 1 * x20 + ((-1) * x2 + 0) ≤ 0) (f4 : (-1) * x20 + (1 * x2 + 0) ≤ 0) (f5 : 1 * x21 + ((-1) * x1 + 0) ≤ 0) (f6 : (-1) * x21 + (1 * x1 + 0) ≤ 0) (f7 : x19 = x3) (f8 : x20 = x2) (f9 : x21 = x1) (f10 : BFP (wide_0) (tall_0) (barredPoint_0) (x1) (x11)) (f11 : x8 = (x1 % 4)) (f12 : (0 ≤ x2) ∧ (x2 ≤ 999999)) (f13 : (0 ≤ x11) ∧ ((x11 + 1) ≤ (wide_0 * tall_0))) (f17 : RTQ (wide_0) (tall_0) (barredPoint_0) (costOf_0) (bucket_0) (bucketMany_0) (x19) (x20)) (f18 : PIV (costOf_0) (x21) (x20)) (f20 : 1 * x19 + ((-1) * x3 + 0) ≤ 0) (f21 : (-1) * x19 + (1 * x3 + 0) ≤ 0) (f22 : 1 * x20 + ((-1) * x2 + 0) ≤ 0) (f23 : (-1) * x20 + (1 * x2 + 0) ≤ 0) (f24 : 1 * x21 + ((-1) * x1 + 0) ≤ 0) (f25 : (-1) * x21 + (1 * x1 + 0) ≤ 0) (f26 : x18 = x2 + x17) (f27 : x12 = x8) (f28 : x16 = x15 + x12) (f29 : x15 = 4 * x11) (f30 : x12 < x13) (hK_0_140 : ∀ j : Int, 0 ≤ j → j < 24000 → 0 ≤ costOf_0 j ∧ costOf_0 j ≤ 1000000) (hK_0_141 : ∀ j : Int, 0 ≤ j → j < 96040 → 0 ≤ bucket_0 j ∧ bucket_0 j ≤ 23999) (hK_0_142 : ∀ j : Int, 0 ≤ j → j < 4 → 0 ≤ bucketMany_0 j ∧ bucketMany_0 j ≤ 24009) (hK_0_143 : ∀ j : Int, 0 ≤ j → j < 6000 → 0 ≤ barredPoint_0 j ∧ barredPoint_0 j ≤ 1) (kz_0_146 : (-2147483648) ≤ wide_0 ∧ wide_0 ≤ 2147483647) (kz_0_147 : (-2147483648) ≤ tall_0 ∧ tall_0 ≤ 2147483647) : RTQ (wide_0) (tall_0) (barredPoint_0) (costOf_0) (bucket_0) (bucketMany_0) (x3) (x2) := by
  first
    | assumption
    | (rw [show x3 = x19 by omega, show x2 = x20 by omega]; assumption)
set_option maxHeartbeats 4000000 in
theorem vc_Mo_backFrom_20_1 (x1 : Int) (x2 : Int) (x3 : Int) (x5 : Int) (x6 : Int) (x8 : Int) (x11 : Int) (x12 : Int) (x13 : Int) (x14 : Int) (x15 : Int) (x16 : Int) (x17 : Int) (x18 : Int) (x19 : Int) (x20 : Int) (x21 : Int) (x22 : Int) (barredPoint_0 : Int → Int) (wide_0 : Int) (tall_0 : Int) (costOf_0 : Int → Int) (bucket_0 : Int → Int) (bucketMany_0 : Int → Int) (k1 : 0 ≤ x1 ∧ x1 ≤ 23999) (k2 : 0 ≤ x2 ∧ x2 ≤ 1000000) (k3 : 0 ≤ x3 ∧ x3 ≤ 5999) (k5 : 0 ≤ x5 ∧ x5 ≤ 23999) (k6 : 0 ≤ x6 ∧ x6 ≤ 1000000) (k8 : 0 ≤ x8 ∧ x8 ≤ 3) (k11 : 0 ≤ x11 ∧ x11 ≤ 5999) (k12 : 0 ≤ x12 ∧ x12 ≤ 3) (k13 : 4 ≤ x13 ∧ x13 ≤ 4) (k14 : 4 ≤ x14 ∧ x14 ≤ 4) (k15 : 0 ≤ x15 ∧ x15 ≤ 23996) (k16 : 0 ≤ x16 ∧ x16 ≤ 23999) (k17 : 1 ≤ x17 ∧ x17 ≤ 1) (k18 : 1 ≤ x18 ∧ x18 ≤ 1000001) (k19 : 0 ≤ x19 ∧ x19 ≤ 5999) (k20 : 0 ≤ x20 ∧ x20 ≤ 1000008) (k21 : 0 ≤ x21 ∧ x21 ≤ 23999) (k22 : 1 ≤ x22 ∧ x22 ≤ 4) (d0 : x12 + 1 ≤ x22 ∧ x22 ≤ x12 + 1) (d1 : x8 + 1 ≤ x22 ∧ x22 ≤ x8 + 1) (d2 : x6 + 1 ≤ x18 ∧ x18 ≤ x6 + 1) (d3 : x2 + (-4294967296) ≤ x18 ∧ x18 ≤ x2 + 1) (d4 : x8 + 0 ≤ x12 ∧ x12 ≤ x8 + 0) (d5 : x12 + 0 ≤ x16 ∧ x16 ≤ x12 + 23996) (d6 : x15 + 0 ≤ x16 ∧ x16 ≤ x15 + 3) (d7 : x5 + (-4294967296) ≤ x1 ∧ x1 ≤ x5 + 0) (d8 : x6 + (-4294967296) ≤ x2 ∧ x2 ≤ x6 + 0) (d9 : x1 + (-4294967296) ≤ x5 ∧ x5 ≤ x1 + 0) (d10 : x2 + (-4294967296) ≤ x6 ∧ x6 ≤ x2 + 0) (d11 : x11 + (-4294967296) ≤ x8 ∧ x8 ≤ x11 + 2) (f0 : x22 = x12 + 1) (f1 : 1 * x19 + ((-1) * x3 + 0) ≤ 0) (f2 : (-1) * x19 + (1 * x3 + 0) ≤ 0) (f3 : 1 * x20 + ((-1) * x2 + 0) ≤ 0) (f4 : (-1) * x20 + (1 * x2 + 0) ≤ 0) (f5 : 1 * x21 + ((-1) * x1 + 0) ≤ 0) (f6 : (-1) * x21 + (1 * x1 + 0) ≤ 0) (f7 : x19 = x3) (f8 : x20 = x2) (f9 : x21 = x1) (f10 : BFP (wide_0) (tall_0) (barredPoint_0) (x1) (x11)) (f11 : x8 = (x1 % 4)) (f12 : (0 ≤ x2) ∧ (x2 ≤ 999999)) (f13 : (0 ≤ x11) ∧ ((x11 + 1) ≤ (wide_0 * tall_0))) (f17 : RTQ (wide_0) (tall_0) (barredPoint_0) (costOf_0) (bucket_0) (bucketMany_0) (x19) (x20)) (f18 : PIV (costOf_0) (x21) (x20)) (f20 : 1 * x19 + ((-1) * x3 + 0) ≤ 0) (f21 : (-1) * x19 + (1 * x3 + 0) ≤ 0) (f22 : 1 * x20 + ((-1) * x2 + 0) ≤ 0) (f23 : (-1) * x20 + (1 * x2 + 0) ≤ 0) (f24 : 1 * x21 + ((-1) * x1 + 0) ≤ 0) (f25 : (-1) * x21 + (1 * x1 + 0) ≤ 0) (f26 : x18 = x2 + x17) (f27 : x12 = x8) (f28 : x16 = x15 + x12) (f29 : x15 = 4 * x11) (f30 : x12 < x13) (hK_0_140 : ∀ j : Int, 0 ≤ j → j < 24000 → 0 ≤ costOf_0 j ∧ costOf_0 j ≤ 1000000) (hK_0_141 : ∀ j : Int, 0 ≤ j → j < 96040 → 0 ≤ bucket_0 j ∧ bucket_0 j ≤ 23999) (hK_0_142 : ∀ j : Int, 0 ≤ j → j < 4 → 0 ≤ bucketMany_0 j ∧ bucketMany_0 j ≤ 24009) (hK_0_143 : ∀ j : Int, 0 ≤ j → j < 6000 → 0 ≤ barredPoint_0 j ∧ barredPoint_0 j ≤ 1) (kz_0_146 : (-2147483648) ≤ wide_0 ∧ wide_0 ≤ 2147483647) (kz_0_147 : (-2147483648) ≤ tall_0 ∧ tall_0 ≤ 2147483647) : PIV (costOf_0) (x1) (x2) := by
  first
    | assumption
    | (rw [show x1 = x21 by omega, show x2 = x20 by omega]; assumption)
def o_Mo_backFrom_20 : or_T := (94, 23, [(0, (2, 0, 0, [150])), (1, (0, 0, 23999, [])), (2, (0, 0, 1000000, [])), (3, (0, 0, 5999, [])), (4, (2, 0, 0, [150])), (5, (0, 0, 23999, [])), (6, (0, 0, 1000000, [])), (8, (0, 0, 3, [])), (11, (0, 0, 5999, [])), (12, (0, 0, 3, [])), (13, (0, 4, 4, [])), (14, (0, 4, 4, [])), (15, (0, 0, 23996, [])), (16, (0, 0, 23999, [])), (17, (0, 1, 1, [])), (18, (0, 1, 1000001, [])), (19, (0, 0, 5999, [])), (20, (0, 0, 1000008, [])), (21, (0, 0, 23999, [])), (22, (0, 1, 4, []))], [(6, [22, 12], [1]), (23, [19, 3], [0, 1, -1]), (23, [19, 3], [0, -1, 1]), (23, [20, 6], [0, 1, -1]), (23, [20, 6], [0, -1, 1]), (23, [21, 5], [0, 1, -1]), (23, [21, 5], [0, -1, 1]), (20, [19, 3], [50, 0, 0, 1, 2, 1, 0, 1, 1]), (20, [20, 6], [50, 0, 0, 1, 2, 1, 0, 1, 1]), (20, [21, 5], [50, 0, 0, 1, 2, 1, 0, 1, 1]), (20, [4, 5, 11], [60, 2, 1, 424, 146, 147, 143]), (20, [8, 5], [50, 0, 0, 1, 2, 1, 0, 9, 2, 1, 1, 0, 4]), (20, [6], [50, 0, 0, 2, 6, 0, 2, 0, 0, 1, 0, 0, 2, 1, 0, 0, 999999]), (20, [11, 4], [50, 2, 0, 1146, 1147, 2, 6, 0, 2, 0, 0, 1, 0, 0, 6, 4, 2, 1, 0, 0, 1, 6, 3, 2, 1, 146, 2, 1, 147]), (24, [0, 4], []), (24, [1, 5], []), (24, [2, 6], []), (20, [4, 19, 20], [60, 2, 4, 419, 146, 147, 143, 140, 141, 142]), (20, [4, 21, 20], [60, 0, 1, 421, 140]), (102, [21], [25329519520662917748906152970650479842902809145608873383631346501730997108736]), (23, [19, 3], [0, 1, -1]), (23, [19, 3], [0, -1, 1]), (23, [20, 6], [0, 1, -1]), (23, [20, 6], [0, -1, 1]), (23, [21, 5], [0, 1, -1]), (23, [21, 5], [0, -1, 1]), (1, [18, 6, 17], []), (7, [12, 8], [0]), (1, [16, 15, 12], []), (3, [15, 14, 11], []), (7, [12, 13], [2])], [], [], [(20, [4, 3, 6], [60, 2, 4, 419, 146, 147, 143, 140, 141, 142]), (20, [4, 5, 6], [60, 0, 1, 421, 140])], [], [(22, 12, 1, 1), (22, 8, 1, 1), (18, 6, 1, 1), (18, 2, -4294967296, 1), (12, 8, 0, 0), (16, 12, 0, 23996), (16, 15, 0, 3), (1, 5, -4294967296, 0), (2, 6, -4294967296, 0), (5, 1, -4294967296, 0), (6, 2, -4294967296, 0), (8, 11, -4294967296, 2)])
theorem oo_Mo_backFrom_20 {kA : Nat → ClassId} : or_ok PRD kA GG o_Mo_backFrom_20 := by
  intro A ta ws vs hD hth hl hk hds hf
  have hl : vs.length = 23 := hl
  have hk : ∀ q ∈ ([(0, (2, 0, 0, [150])), (1, (0, 0, 23999, [])), (2, (0, 0, 1000000, [])), (3, (0, 0, 5999, [])), (4, (2, 0, 0, [150])), (5, (0, 0, 23999, [])), (6, (0, 0, 1000000, [])), (8, (0, 0, 3, [])), (11, (0, 0, 5999, [])), (12, (0, 0, 3, [])), (13, (0, 4, 4, [])), (14, (0, 4, 4, [])), (15, (0, 0, 23996, [])), (16, (0, 0, 23999, [])), (17, (0, 1, 1, [])), (18, (0, 1, 1000001, [])), (19, (0, 0, 5999, [])), (20, (0, 0, 1000008, [])), (21, (0, 0, 23999, [])), (22, (0, 1, 4, []))] : List (Nat × tv_T)), tv_ok ta q.2 (n_v vs q.1) := hk
  obtain ⟨t0, hk⟩ := List.forall_mem_cons.mp hk
  have t0 : tv_ok ta (2, 0, 0, [150]) (n_v vs 0) := t0
  have r0 : ta (v_ad (n_v vs 0)) = some 150 := tv_rg t0
  obtain ⟨t1, hk⟩ := List.forall_mem_cons.mp hk
  have t1 : tv_ok ta (0, 0, 23999, []) (n_v vs 1) := t1
  have k1 : 0 ≤ v_iv (n_v vs 1) ∧ v_iv (n_v vs 1) ≤ 23999 := tv_rng t1
  obtain ⟨t2, hk⟩ := List.forall_mem_cons.mp hk
  have t2 : tv_ok ta (0, 0, 1000000, []) (n_v vs 2) := t2
  have k2 : 0 ≤ v_iv (n_v vs 2) ∧ v_iv (n_v vs 2) ≤ 1000000 := tv_rng t2
  obtain ⟨t3, hk⟩ := List.forall_mem_cons.mp hk
  have t3 : tv_ok ta (0, 0, 5999, []) (n_v vs 3) := t3
  have k3 : 0 ≤ v_iv (n_v vs 3) ∧ v_iv (n_v vs 3) ≤ 5999 := tv_rng t3
  obtain ⟨t4, hk⟩ := List.forall_mem_cons.mp hk
  have t4 : tv_ok ta (2, 0, 0, [150]) (n_v vs 4) := t4
  have r4 : ta (v_ad (n_v vs 4)) = some 150 := tv_rg t4
  obtain ⟨t5, hk⟩ := List.forall_mem_cons.mp hk
  have t5 : tv_ok ta (0, 0, 23999, []) (n_v vs 5) := t5
  have k5 : 0 ≤ v_iv (n_v vs 5) ∧ v_iv (n_v vs 5) ≤ 23999 := tv_rng t5
  obtain ⟨t6, hk⟩ := List.forall_mem_cons.mp hk
  have t6 : tv_ok ta (0, 0, 1000000, []) (n_v vs 6) := t6
  have k6 : 0 ≤ v_iv (n_v vs 6) ∧ v_iv (n_v vs 6) ≤ 1000000 := tv_rng t6
  obtain ⟨t8, hk⟩ := List.forall_mem_cons.mp hk
  have t8 : tv_ok ta (0, 0, 3, []) (n_v vs 8) := t8
  have k8 : 0 ≤ v_iv (n_v vs 8) ∧ v_iv (n_v vs 8) ≤ 3 := tv_rng t8
  obtain ⟨t11, hk⟩ := List.forall_mem_cons.mp hk
  have t11 : tv_ok ta (0, 0, 5999, []) (n_v vs 11) := t11
  have k11 : 0 ≤ v_iv (n_v vs 11) ∧ v_iv (n_v vs 11) ≤ 5999 := tv_rng t11
  obtain ⟨t12, hk⟩ := List.forall_mem_cons.mp hk
  have t12 : tv_ok ta (0, 0, 3, []) (n_v vs 12) := t12
  have k12 : 0 ≤ v_iv (n_v vs 12) ∧ v_iv (n_v vs 12) ≤ 3 := tv_rng t12
  obtain ⟨t13, hk⟩ := List.forall_mem_cons.mp hk
  have t13 : tv_ok ta (0, 4, 4, []) (n_v vs 13) := t13
  have k13 : 4 ≤ v_iv (n_v vs 13) ∧ v_iv (n_v vs 13) ≤ 4 := tv_rng t13
  obtain ⟨t14, hk⟩ := List.forall_mem_cons.mp hk
  have t14 : tv_ok ta (0, 4, 4, []) (n_v vs 14) := t14
  have k14 : 4 ≤ v_iv (n_v vs 14) ∧ v_iv (n_v vs 14) ≤ 4 := tv_rng t14
  obtain ⟨t15, hk⟩ := List.forall_mem_cons.mp hk
  have t15 : tv_ok ta (0, 0, 23996, []) (n_v vs 15) := t15
  have k15 : 0 ≤ v_iv (n_v vs 15) ∧ v_iv (n_v vs 15) ≤ 23996 := tv_rng t15
  obtain ⟨t16, hk⟩ := List.forall_mem_cons.mp hk
  have t16 : tv_ok ta (0, 0, 23999, []) (n_v vs 16) := t16
  have k16 : 0 ≤ v_iv (n_v vs 16) ∧ v_iv (n_v vs 16) ≤ 23999 := tv_rng t16
  obtain ⟨t17, hk⟩ := List.forall_mem_cons.mp hk
  have t17 : tv_ok ta (0, 1, 1, []) (n_v vs 17) := t17
  have k17 : 1 ≤ v_iv (n_v vs 17) ∧ v_iv (n_v vs 17) ≤ 1 := tv_rng t17
  obtain ⟨t18, hk⟩ := List.forall_mem_cons.mp hk
  have t18 : tv_ok ta (0, 1, 1000001, []) (n_v vs 18) := t18
  have k18 : 1 ≤ v_iv (n_v vs 18) ∧ v_iv (n_v vs 18) ≤ 1000001 := tv_rng t18
  obtain ⟨t19, hk⟩ := List.forall_mem_cons.mp hk
  have t19 : tv_ok ta (0, 0, 5999, []) (n_v vs 19) := t19
  have k19 : 0 ≤ v_iv (n_v vs 19) ∧ v_iv (n_v vs 19) ≤ 5999 := tv_rng t19
  obtain ⟨t20, hk⟩ := List.forall_mem_cons.mp hk
  have t20 : tv_ok ta (0, 0, 1000008, []) (n_v vs 20) := t20
  have k20 : 0 ≤ v_iv (n_v vs 20) ∧ v_iv (n_v vs 20) ≤ 1000008 := tv_rng t20
  obtain ⟨t21, hk⟩ := List.forall_mem_cons.mp hk
  have t21 : tv_ok ta (0, 0, 23999, []) (n_v vs 21) := t21
  have k21 : 0 ≤ v_iv (n_v vs 21) ∧ v_iv (n_v vs 21) ≤ 23999 := tv_rng t21
  obtain ⟨t22, hk⟩ := List.forall_mem_cons.mp hk
  have t22 : tv_ok ta (0, 1, 4, []) (n_v vs 22) := t22
  have k22 : 1 ≤ v_iv (n_v vs 22) ∧ v_iv (n_v vs 22) ≤ 4 := tv_rng t22
  have hds : ∀ q ∈ ([(22, 12, 1, 1), (22, 8, 1, 1), (18, 6, 1, 1), (18, 2, -4294967296, 1), (12, 8, 0, 0), (16, 12, 0, 23996), (16, 15, 0, 3), (1, 5, -4294967296, 0), (2, 6, -4294967296, 0), (5, 1, -4294967296, 0), (6, 2, -4294967296, 0), (8, 11, -4294967296, 2)] : List of_T), n_iv vs q.2.1 + q.2.2.1 ≤ n_iv vs q.1 ∧ n_iv vs q.1 ≤ n_iv vs q.2.1 + q.2.2.2 := hds
  obtain ⟨d0, hds⟩ := List.forall_mem_cons.mp hds
  have d0 : v_iv (n_v vs 12) + 1 ≤ v_iv (n_v vs 22) ∧ v_iv (n_v vs 22) ≤ v_iv (n_v vs 12) + 1 := d0
  obtain ⟨d1, hds⟩ := List.forall_mem_cons.mp hds
  have d1 : v_iv (n_v vs 8) + 1 ≤ v_iv (n_v vs 22) ∧ v_iv (n_v vs 22) ≤ v_iv (n_v vs 8) + 1 := d1
  obtain ⟨d2, hds⟩ := List.forall_mem_cons.mp hds
  have d2 : v_iv (n_v vs 6) + 1 ≤ v_iv (n_v vs 18) ∧ v_iv (n_v vs 18) ≤ v_iv (n_v vs 6) + 1 := d2
  obtain ⟨d3, hds⟩ := List.forall_mem_cons.mp hds
  have d3 : v_iv (n_v vs 2) + (-4294967296) ≤ v_iv (n_v vs 18) ∧ v_iv (n_v vs 18) ≤ v_iv (n_v vs 2) + 1 := d3
  obtain ⟨d4, hds⟩ := List.forall_mem_cons.mp hds
  have d4 : v_iv (n_v vs 8) + 0 ≤ v_iv (n_v vs 12) ∧ v_iv (n_v vs 12) ≤ v_iv (n_v vs 8) + 0 := d4
  obtain ⟨d5, hds⟩ := List.forall_mem_cons.mp hds
  have d5 : v_iv (n_v vs 12) + 0 ≤ v_iv (n_v vs 16) ∧ v_iv (n_v vs 16) ≤ v_iv (n_v vs 12) + 23996 := d5
  obtain ⟨d6, hds⟩ := List.forall_mem_cons.mp hds
  have d6 : v_iv (n_v vs 15) + 0 ≤ v_iv (n_v vs 16) ∧ v_iv (n_v vs 16) ≤ v_iv (n_v vs 15) + 3 := d6
  obtain ⟨d7, hds⟩ := List.forall_mem_cons.mp hds
  have d7 : v_iv (n_v vs 5) + (-4294967296) ≤ v_iv (n_v vs 1) ∧ v_iv (n_v vs 1) ≤ v_iv (n_v vs 5) + 0 := d7
  obtain ⟨d8, hds⟩ := List.forall_mem_cons.mp hds
  have d8 : v_iv (n_v vs 6) + (-4294967296) ≤ v_iv (n_v vs 2) ∧ v_iv (n_v vs 2) ≤ v_iv (n_v vs 6) + 0 := d8
  obtain ⟨d9, hds⟩ := List.forall_mem_cons.mp hds
  have d9 : v_iv (n_v vs 1) + (-4294967296) ≤ v_iv (n_v vs 5) ∧ v_iv (n_v vs 5) ≤ v_iv (n_v vs 1) + 0 := d9
  obtain ⟨d10, hds⟩ := List.forall_mem_cons.mp hds
  have d10 : v_iv (n_v vs 2) + (-4294967296) ≤ v_iv (n_v vs 6) ∧ v_iv (n_v vs 6) ≤ v_iv (n_v vs 2) + 0 := d10
  obtain ⟨d11, hds⟩ := List.forall_mem_cons.mp hds
  have d11 : v_iv (n_v vs 11) + (-4294967296) ≤ v_iv (n_v vs 8) ∧ v_iv (n_v vs 8) ≤ v_iv (n_v vs 11) + 2 := d11
  have hf : fc_ok PRD [(6, [22, 12], [1]), (23, [19, 3], [0, 1, -1]), (23, [19, 3], [0, -1, 1]), (23, [20, 6], [0, 1, -1]), (23, [20, 6], [0, -1, 1]), (23, [21, 5], [0, 1, -1]), (23, [21, 5], [0, -1, 1]), (20, [19, 3], [50, 0, 0, 1, 2, 1, 0, 1, 1]), (20, [20, 6], [50, 0, 0, 1, 2, 1, 0, 1, 1]), (20, [21, 5], [50, 0, 0, 1, 2, 1, 0, 1, 1]), (20, [4, 5, 11], [60, 2, 1, 424, 146, 147, 143]), (20, [8, 5], [50, 0, 0, 1, 2, 1, 0, 9, 2, 1, 1, 0, 4]), (20, [6], [50, 0, 0, 2, 6, 0, 2, 0, 0, 1, 0, 0, 2, 1, 0, 0, 999999]), (20, [11, 4], [50, 2, 0, 1146, 1147, 2, 6, 0, 2, 0, 0, 1, 0, 0, 6, 4, 2, 1, 0, 0, 1, 6, 3, 2, 1, 146, 2, 1, 147]), (24, [0, 4], []), (24, [1, 5], []), (24, [2, 6], []), (20, [4, 19, 20], [60, 2, 4, 419, 146, 147, 143, 140, 141, 142]), (20, [4, 21, 20], [60, 0, 1, 421, 140]), (102, [21], [25329519520662917748906152970650479842902809145608873383631346501730997108736]), (23, [19, 3], [0, 1, -1]), (23, [19, 3], [0, -1, 1]), (23, [20, 6], [0, 1, -1]), (23, [20, 6], [0, -1, 1]), (23, [21, 5], [0, 1, -1]), (23, [21, 5], [0, -1, 1]), (1, [18, 6, 17], []), (7, [12, 8], [0]), (1, [16, 15, 12], []), (3, [15, 14, 11], []), (7, [12, 13], [2])] ta ws vs := hf
  obtain ⟨f0, hf⟩ := fc_un (show (6 : Nat) < 100 from by decide) hf
  have f0 : v_iv (n_v vs 22) = v_iv (n_v vs 12) + 1 := f0
  obtain ⟨f1, hf⟩ := fc_un (show (23 : Nat) < 100 from by decide) hf
  have f1 : 1 * v_iv (n_v vs 19) + ((-1) * v_iv (n_v vs 3) + 0) ≤ 0 := f1
  obtain ⟨f2, hf⟩ := fc_un (show (23 : Nat) < 100 from by decide) hf
  have f2 : (-1) * v_iv (n_v vs 19) + (1 * v_iv (n_v vs 3) + 0) ≤ 0 := f2
  obtain ⟨f3, hf⟩ := fc_un (show (23 : Nat) < 100 from by decide) hf
  have f3 : 1 * v_iv (n_v vs 20) + ((-1) * v_iv (n_v vs 6) + 0) ≤ 0 := f3
  obtain ⟨f4, hf⟩ := fc_un (show (23 : Nat) < 100 from by decide) hf
  have f4 : (-1) * v_iv (n_v vs 20) + (1 * v_iv (n_v vs 6) + 0) ≤ 0 := f4
  obtain ⟨f5, hf⟩ := fc_un (show (23 : Nat) < 100 from by decide) hf
  have f5 : 1 * v_iv (n_v vs 21) + ((-1) * v_iv (n_v vs 5) + 0) ≤ 0 := f5
  obtain ⟨f6, hf⟩ := fc_un (show (23 : Nat) < 100 from by decide) hf
  have f6 : (-1) * v_iv (n_v vs 21) + (1 * v_iv (n_v vs 5) + 0) ≤ 0 := f6
  obtain ⟨f7, hf⟩ := fc_un (show (20 : Nat) < 100 from by decide) hf
  have f7 : v_iv (n_v vs 19) = v_iv (n_v vs 3) := f7
  obtain ⟨f8, hf⟩ := fc_un (show (20 : Nat) < 100 from by decide) hf
  have f8 : v_iv (n_v vs 20) = v_iv (n_v vs 6) := f8
  obtain ⟨f9, hf⟩ := fc_un (show (20 : Nat) < 100 from by decide) hf
  have f9 : v_iv (n_v vs 21) = v_iv (n_v vs 5) := f9
  obtain ⟨f10, hf⟩ := fc_un (show (20 : Nat) < 100 from by decide) hf
  have f10 : BFP (w_fi ws (n_v vs 4) 146) (w_fi ws (n_v vs 4) 147) (w_ei ws (w_ar ws (n_v vs 4) 143)) (v_iv (n_v vs 5)) (v_iv (n_v vs 11)) := f10
  obtain ⟨f11, hf⟩ := fc_un (show (20 : Nat) < 100 from by decide) hf
  have f11 : v_iv (n_v vs 8) = (v_iv (n_v vs 5) % 4) := f11
  obtain ⟨f12, hf⟩ := fc_un (show (20 : Nat) < 100 from by decide) hf
  have f12 : (0 ≤ v_iv (n_v vs 6)) ∧ (v_iv (n_v vs 6) ≤ 999999) := f12
  obtain ⟨f13, hf⟩ := fc_un (show (20 : Nat) < 100 from by decide) hf
  have f13 : (0 ≤ v_iv (n_v vs 11)) ∧ ((v_iv (n_v vs 11) + 1) ≤ (w_fi ws (n_v vs 4) 146 * w_fi ws (n_v vs 4) 147)) := f13
  obtain ⟨f14, hf⟩ := fc_un (show (24 : Nat) < 100 from by decide) hf
  have f14 : n_v vs 0 = n_v vs 4 := f14
  obtain ⟨f15, hf⟩ := fc_un (show (24 : Nat) < 100 from by decide) hf
  have f15 : n_v vs 1 = n_v vs 5 := f15
  obtain ⟨f16, hf⟩ := fc_un (show (24 : Nat) < 100 from by decide) hf
  have f16 : n_v vs 2 = n_v vs 6 := f16
  obtain ⟨f17, hf⟩ := fc_un (show (20 : Nat) < 100 from by decide) hf
  have f17 : RTQ (w_fi ws (n_v vs 4) 146) (w_fi ws (n_v vs 4) 147) (w_ei ws (w_ar ws (n_v vs 4) 143)) (w_ei ws (w_ar ws (n_v vs 4) 140)) (w_ei ws (w_ar ws (n_v vs 4) 141)) (w_ei ws (w_ar ws (n_v vs 4) 142)) (v_iv (n_v vs 19)) (v_iv (n_v vs 20)) := f17
  obtain ⟨f18, hf⟩ := fc_un (show (20 : Nat) < 100 from by decide) hf
  have f18 : PIV (w_ei ws (w_ar ws (n_v vs 4) 140)) (v_iv (n_v vs 21)) (v_iv (n_v vs 20)) := f18
  obtain ⟨ta1, w1, le1, ⟨_, s1⟩, hf⟩ := fc_us (show ¬ (102 : Nat) < 100 from by decide) hf
  obtain ⟨f20, hf⟩ := fc_un (show (23 : Nat) < 100 from by decide) hf
  have f20 : 1 * v_iv (n_v vs 19) + ((-1) * v_iv (n_v vs 3) + 0) ≤ 0 := f20
  obtain ⟨f21, hf⟩ := fc_un (show (23 : Nat) < 100 from by decide) hf
  have f21 : (-1) * v_iv (n_v vs 19) + (1 * v_iv (n_v vs 3) + 0) ≤ 0 := f21
  obtain ⟨f22, hf⟩ := fc_un (show (23 : Nat) < 100 from by decide) hf
  have f22 : 1 * v_iv (n_v vs 20) + ((-1) * v_iv (n_v vs 6) + 0) ≤ 0 := f22
  obtain ⟨f23, hf⟩ := fc_un (show (23 : Nat) < 100 from by decide) hf
  have f23 : (-1) * v_iv (n_v vs 20) + (1 * v_iv (n_v vs 6) + 0) ≤ 0 := f23
  obtain ⟨f24, hf⟩ := fc_un (show (23 : Nat) < 100 from by decide) hf
  have f24 : 1 * v_iv (n_v vs 21) + ((-1) * v_iv (n_v vs 5) + 0) ≤ 0 := f24
  obtain ⟨f25, hf⟩ := fc_un (show (23 : Nat) < 100 from by decide) hf
  have f25 : (-1) * v_iv (n_v vs 21) + (1 * v_iv (n_v vs 5) + 0) ≤ 0 := f25
  obtain ⟨f26, hf⟩ := fc_un (show (1 : Nat) < 100 from by decide) hf
  have f26 : v_iv (n_v vs 18) = v_iv (n_v vs 6) + v_iv (n_v vs 17) := f26
  obtain ⟨f27, hf⟩ := fc_un (show (7 : Nat) < 100 from by decide) hf
  have f27 : v_iv (n_v vs 12) = v_iv (n_v vs 8) := f27
  obtain ⟨f28, hf⟩ := fc_un (show (1 : Nat) < 100 from by decide) hf
  have f28 : v_iv (n_v vs 16) = v_iv (n_v vs 15) + v_iv (n_v vs 12) := f28
  obtain ⟨f29, hf⟩ := fc_un (show (3 : Nat) < 100 from by decide) hf
  have f29 : v_iv (n_v vs 15) = v_iv (n_v vs 14) * v_iv (n_v vs 11) := f29
  rw [show v_iv (n_v vs 14) = 4 from by omega] at f29
  obtain ⟨f30, hf⟩ := fc_un (show (7 : Nat) < 100 from by decide) hf
  have f30 : v_iv (n_v vs 12) < v_iv (n_v vs 13) := f30
  have q4 : n_v vs 4 = n_v vs 0 := f14.symm
  have q5 : n_v vs 5 = n_v vs 1 := f15.symm
  have q6 : n_v vs 6 = n_v vs 2 := f16.symm
  rw [q6] at f3
  rw [q6] at f4
  rw [q5] at f5
  rw [q5] at f6
  rw [q6] at f8
  rw [q5] at f9
  rw [q4] at f10
  rw [q5] at f10
  rw [q5] at f11
  rw [q6] at f12
  rw [q4] at f13
  rw [q4] at f17
  rw [q4] at f18
  rw [q6] at f22
  rw [q6] at f23
  rw [q5] at f24
  rw [q5] at f25
  rw [q6] at f26
  have cr_0_140 : ta (w_ar ws (n_v vs 0) 140) = some 251 := tv_rg (th_fd hD hth r0 (g := GG_150) rfl (k := 140) (t := (2, 0, 0, [251])) rfl rfl)
  have cr_0_141 : ta (w_ar ws (n_v vs 0) 141) = some 252 := tv_rg (th_fd hD hth r0 (g := GG_150) rfl (k := 141) (t := (2, 0, 0, [252])) rfl rfl)
  have cr_0_142 : ta (w_ar ws (n_v vs 0) 142) = some 253 := tv_rg (th_fd hD hth r0 (g := GG_150) rfl (k := 142) (t := (2, 0, 0, [253])) rfl rfl)
  have cr_0_143 : ta (w_ar ws (n_v vs 0) 143) = some 254 := tv_rg (th_fd hD hth r0 (g := GG_150) rfl (k := 143) (t := (2, 0, 0, [254])) rfl rfl)
  have hK_0_140 : ∀ j : Int, 0 ≤ j → j < 24000 → 0 ≤ w_ei ws (w_ar ws (n_v vs 0) 140) j ∧ w_ei ws (w_ar ws (n_v vs 0) 140) j ≤ 1000000 := fun j h0 h1 => th_el hD hth cr_0_140 (kd := 0) (n := 24000) (m := 24000) (lo := 0) (hi := 1000000) (rs := []) (L := []) rfl (by decide) (j := j.toNat) (by omega)
  have hK_0_141 : ∀ j : Int, 0 ≤ j → j < 96040 → 0 ≤ w_ei ws (w_ar ws (n_v vs 0) 141) j ∧ w_ei ws (w_ar ws (n_v vs 0) 141) j ≤ 23999 := fun j h0 h1 => th_el hD hth cr_0_141 (kd := 0) (n := 96040) (m := 96040) (lo := 0) (hi := 23999) (rs := []) (L := []) rfl (by decide) (j := j.toNat) (by omega)
  have hK_0_142 : ∀ j : Int, 0 ≤ j → j < 4 → 0 ≤ w_ei ws (w_ar ws (n_v vs 0) 142) j ∧ w_ei ws (w_ar ws (n_v vs 0) 142) j ≤ 24009 := fun j h0 h1 => th_el hD hth cr_0_142 (kd := 0) (n := 4) (m := 4) (lo := 0) (hi := 24009) (rs := []) (L := []) rfl (by decide) (j := j.toNat) (by omega)
  have hK_0_143 : ∀ j : Int, 0 ≤ j → j < 6000 → 0 ≤ w_ei ws (w_ar ws (n_v vs 0) 143) j ∧ w_ei ws (w_ar ws (n_v vs 0) 143) j ≤ 1 := fun j h0 h1 => th_el hD hth cr_0_143 (kd := 2) (n := 6000) (m := 6000) (lo := 0) (hi := 1) (rs := []) (L := []) rfl (by decide) (j := j.toNat) (by omega)
  have kz_0_146 : (-2147483648) ≤ w_fi ws (n_v vs 0) 146 ∧ w_fi ws (n_v vs 0) 146 ≤ 2147483647 := tv_rng (th_fd hD hth r0 (g := GG_150) rfl (k := 146) (t := (0, -2147483648, 2147483647, [])) rfl rfl)
  have kz_0_147 : (-2147483648) ≤ w_fi ws (n_v vs 0) 147 ∧ w_fi ws (n_v vs 0) 147 ≤ 2147483647 := tv_rng (th_fd hD hth r0 (g := GG_150) rfl (k := 147) (t := (0, -2147483648, 2147483647, [])) rfl rfl)
  have nf0 : fc_1 PRD (20, [4, 3, 6], [60, 2, 4, 419, 146, 147, 143, 140, 141, 142]) ws (vs) := by
    refine ⟨fun n hn => ?_, ?_⟩
    · have hn : n ∈ [4, 3, 6] := hn
      rw [hl]
      simp only [List.mem_cons, List.not_mem_nil, or_false] at hn
      show n < 23; omega
    · show RTQ (w_fi ws (n_v vs 4) 146) (w_fi ws (n_v vs 4) 147) (w_ei ws (w_ar ws (n_v vs 4) 143)) (w_ei ws (w_ar ws (n_v vs 4) 140)) (w_ei ws (w_ar ws (n_v vs 4) 141)) (w_ei ws (w_ar ws (n_v vs 4) 142)) (v_iv (n_v vs 3)) (v_iv (n_v vs 6))
      rw [q4, q6]
      exact vc_Mo_backFrom_20_0 (v_iv (n_v vs 1)) (v_iv (n_v vs 2)) (v_iv (n_v vs 3)) (v_iv (n_v vs 5)) (v_iv (n_v vs 6)) (v_iv (n_v vs 8)) (v_iv (n_v vs 11)) (v_iv (n_v vs 12)) (v_iv (n_v vs 13)) (v_iv (n_v vs 14)) (v_iv (n_v vs 15)) (v_iv (n_v vs 16)) (v_iv (n_v vs 17)) (v_iv (n_v vs 18)) (v_iv (n_v vs 19)) (v_iv (n_v vs 20)) (v_iv (n_v vs 21)) (v_iv (n_v vs 22)) (w_ei ws (w_ar ws (n_v vs 0) 143)) (w_fi ws (n_v vs 0) 146) (w_fi ws (n_v vs 0) 147) (w_ei ws (w_ar ws (n_v vs 0) 140)) (w_ei ws (w_ar ws (n_v vs 0) 141)) (w_ei ws (w_ar ws (n_v vs 0) 142)) k1 k2 k3 k5 k6 k8 k11 k12 k13 k14 k15 k16 k17 k18 k19 k20 k21 k22 d0 d1 d2 d3 d4 d5 d6 d7 d8 d9 d10 d11 f0 f1 f2 f3 f4 f5 f6 f7 f8 f9 f10 f11 f12 f13 f17 f18 f20 f21 f22 f23 f24 f25 f26 f27 f28 f29 f30 hK_0_140 hK_0_141 hK_0_142 hK_0_143 kz_0_146 kz_0_147
  have nf1 : fc_1 PRD (20, [4, 5, 6], [60, 0, 1, 421, 140]) ws (vs) := by
    refine ⟨fun n hn => ?_, ?_⟩
    · have hn : n ∈ [4, 5, 6] := hn
      rw [hl]
      simp only [List.mem_cons, List.not_mem_nil, or_false] at hn
      show n < 23; omega
    · show PIV (w_ei ws (w_ar ws (n_v vs 4) 140)) (v_iv (n_v vs 5)) (v_iv (n_v vs 6))
      rw [q4, q5, q6]
      exact vc_Mo_backFrom_20_1 (v_iv (n_v vs 1)) (v_iv (n_v vs 2)) (v_iv (n_v vs 3)) (v_iv (n_v vs 5)) (v_iv (n_v vs 6)) (v_iv (n_v vs 8)) (v_iv (n_v vs 11)) (v_iv (n_v vs 12)) (v_iv (n_v vs 13)) (v_iv (n_v vs 14)) (v_iv (n_v vs 15)) (v_iv (n_v vs 16)) (v_iv (n_v vs 17)) (v_iv (n_v vs 18)) (v_iv (n_v vs 19)) (v_iv (n_v vs 20)) (v_iv (n_v vs 21)) (v_iv (n_v vs 22)) (w_ei ws (w_ar ws (n_v vs 0) 143)) (w_fi ws (n_v vs 0) 146) (w_fi ws (n_v vs 0) 147) (w_ei ws (w_ar ws (n_v vs 0) 140)) (w_ei ws (w_ar ws (n_v vs 0) 141)) (w_ei ws (w_ar ws (n_v vs 0) 142)) k1 k2 k3 k5 k6 k8 k11 k12 k13 k14 k15 k16 k17 k18 k19 k20 k21 k22 d0 d1 d2 d3 d4 d5 d6 d7 d8 d9 d10 d11 f0 f1 f2 f3 f4 f5 f6 f7 f8 f9 f10 f11 f12 f13 f17 f18 f20 f21 f22 f23 f24 f25 f26 f27 f28 f29 f30 hK_0_140 hK_0_141 hK_0_142 hK_0_143 kz_0_146 kz_0_147
  refine ⟨(fun _ h => (by cases h)), [], trivial, ?_, (fun _ h => (by cases h))⟩
  rw [List.append_nil]
  exact List.forall_mem_cons.mpr ⟨⟨show (20 : Nat) < 100 from by decide, nf0⟩, List.forall_mem_cons.mpr ⟨⟨show (20 : Nat) < 100 from by decide, nf1⟩, (fun _ h => (by cases h))⟩⟩
